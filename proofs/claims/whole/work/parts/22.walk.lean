/-! walks: X10_tenths X10_round X10_bring X10_right X10_about X10_said X10_play X10_often X10_mark X10_back X10_allWays X10_first X10_behind X10_ways X10_endOf X10_whole X10_gone. Written by wip/programs/parts.py. -/
theorem dX10_tenths_0 : decode cX10_tenths 0 = .ok (.aload_n 0, 1) := by decide +kernel
theorem dX10_tenths_1 : decode cX10_tenths 1 = .ok (.invokevirtual 156, 3) := by decide +kernel
theorem dX10_tenths_4 : decode cX10_tenths 4 = .ok (.aload_n 0, 1) := by decide +kernel
theorem dX10_tenths_5 : decode cX10_tenths 5 = .ok (.getfield 165, 3) := by decide +kernel
theorem dX10_tenths_8 : decode cX10_tenths 8 = .ok (.ifCond .ne 9, 3) := by decide +kernel
theorem dX10_tenths_11 : decode cX10_tenths 11 = .ok (.aload_n 0, 1) := by decide +kernel
theorem dX10_tenths_12 : decode cX10_tenths 12 = .ok (.iconst 1, 1) := by decide +kernel
theorem dX10_tenths_13 : decode cX10_tenths 13 = .ok (.invokevirtual 159, 3) := by decide +kernel
theorem dX10_tenths_16 : decode cX10_tenths 16 = .ok (.ireturn, 1) := by decide +kernel
theorem dX10_tenths_17 : decode cX10_tenths 17 = .ok (.iload_n 1, 1) := by decide +kernel
theorem dX10_tenths_18 : decode cX10_tenths 18 = .ok (.iconst 1, 1) := by decide +kernel
theorem dX10_tenths_19 : decode cX10_tenths 19 = .ok (.bipush 100, 2) := by decide +kernel
theorem dX10_tenths_21 : decode cX10_tenths 21 = .ok (.invokestatic 144, 3) := by decide +kernel
theorem dX10_tenths_24 : decode cX10_tenths 24 = .ok (.ifCond .ne 9, 3) := by decide +kernel
theorem dX10_tenths_27 : decode cX10_tenths 27 = .ok (.aload_n 0, 1) := by decide +kernel
theorem dX10_tenths_28 : decode cX10_tenths 28 = .ok (.iconst 2, 1) := by decide +kernel
theorem dX10_tenths_29 : decode cX10_tenths 29 = .ok (.invokevirtual 159, 3) := by decide +kernel
theorem dX10_tenths_32 : decode cX10_tenths 32 = .ok (.ireturn, 1) := by decide +kernel
theorem dX10_tenths_33 : decode cX10_tenths 33 = .ok (.aload_n 0, 1) := by decide +kernel
theorem dX10_tenths_34 : decode cX10_tenths 34 = .ok (.getfield 26, 3) := by decide +kernel
theorem dX10_tenths_37 : decode cX10_tenths 37 = .ok (.bipush 8, 2) := by decide +kernel
theorem dX10_tenths_39 : decode cX10_tenths 39 = .ok (.iaload, 1) := by decide +kernel
theorem dX10_tenths_40 : decode cX10_tenths 40 = .ok (.iconst 1, 1) := by decide +kernel
theorem dX10_tenths_41 : decode cX10_tenths 41 = .ok (.if_icmp .ne 10, 3) := by decide +kernel
theorem dX10_tenths_44 : decode cX10_tenths 44 = .ok (.aload_n 0, 1) := by decide +kernel
theorem dX10_tenths_45 : decode cX10_tenths 45 = .ok (.bipush 6, 2) := by decide +kernel
theorem dX10_tenths_47 : decode cX10_tenths 47 = .ok (.invokevirtual 159, 3) := by decide +kernel
theorem dX10_tenths_50 : decode cX10_tenths 50 = .ok (.ireturn, 1) := by decide +kernel
theorem dX10_tenths_51 : decode cX10_tenths 51 = .ok (.aload_n 0, 1) := by decide +kernel
theorem dX10_tenths_52 : decode cX10_tenths 52 = .ok (.getfield 26, 3) := by decide +kernel
theorem dX10_tenths_55 : decode cX10_tenths 55 = .ok (.iconst 4, 1) := by decide +kernel
theorem dX10_tenths_56 : decode cX10_tenths 56 = .ok (.iaload, 1) := by decide +kernel
theorem dX10_tenths_57 : decode cX10_tenths 57 = .ok (.istore_n 2, 1) := by decide +kernel
theorem dX10_tenths_58 : decode cX10_tenths 58 = .ok (.iconst 1, 1) := by decide +kernel
theorem dX10_tenths_59 : decode cX10_tenths 59 = .ok (.istore_n 3, 1) := by decide +kernel
theorem dX10_tenths_60 : decode cX10_tenths 60 = .ok (.aload_n 0, 1) := by decide +kernel
theorem dX10_tenths_61 : decode cX10_tenths 61 = .ok (.getfield 26, 3) := by decide +kernel
theorem dX10_tenths_64 : decode cX10_tenths 64 = .ok (.iconst 4, 1) := by decide +kernel
theorem dX10_tenths_65 : decode cX10_tenths 65 = .ok (.iaload, 1) := by decide +kernel
theorem dX10_tenths_66 : decode cX10_tenths 66 = .ok (.iload_n 2, 1) := by decide +kernel
theorem dX10_tenths_67 : decode cX10_tenths 67 = .ok (.isub, 1) := by decide +kernel
theorem dX10_tenths_68 : decode cX10_tenths 68 = .ok (.iload_n 1, 1) := by decide +kernel
theorem dX10_tenths_69 : decode cX10_tenths 69 = .ok (.if_icmp .ge 33, 3) := by decide +kernel
theorem dX10_tenths_72 : decode cX10_tenths 72 = .ok (.iload_n 3, 1) := by decide +kernel
theorem dX10_tenths_73 : decode cX10_tenths 73 = .ok (.ifCond .eq 29, 3) := by decide +kernel
theorem dX10_tenths_76 : decode cX10_tenths 76 = .ok (.aload_n 0, 1) := by decide +kernel
theorem dX10_tenths_77 : decode cX10_tenths 77 = .ok (.invokevirtual 275, 3) := by decide +kernel
theorem dX10_tenths_80 : decode cX10_tenths 80 = .ok (.ifCond .ne 13, 3) := by decide +kernel
theorem dX10_tenths_83 : decode cX10_tenths 83 = .ok (.aload_n 0, 1) := by decide +kernel
theorem dX10_tenths_84 : decode cX10_tenths 84 = .ok (.getfield 26, 3) := by decide +kernel
theorem dX10_tenths_87 : decode cX10_tenths 87 = .ok (.bipush 8, 2) := by decide +kernel
theorem dX10_tenths_89 : decode cX10_tenths 89 = .ok (.iaload, 1) := by decide +kernel
theorem dX10_tenths_90 : decode cX10_tenths 90 = .ok (.ifCond .ne 7, 3) := by decide +kernel
theorem dX10_tenths_93 : decode cX10_tenths 93 = .ok (.iconst 1, 1) := by decide +kernel
theorem dX10_tenths_94 : decode cX10_tenths 94 = .ok (.goto 4, 3) := by decide +kernel
theorem dX10_tenths_97 : decode cX10_tenths 97 = .ok (.iconst 0, 1) := by decide +kernel
theorem dX10_tenths_98 : decode cX10_tenths 98 = .ok (.istore_n 3, 1) := by decide +kernel
theorem dX10_tenths_99 : decode cX10_tenths 99 = .ok (.goto (-39), 3) := by decide +kernel
theorem dX10_tenths_102 : decode cX10_tenths 102 = .ok (.aload_n 0, 1) := by decide +kernel
theorem dX10_tenths_103 : decode cX10_tenths 103 = .ok (.getfield 26, 3) := by decide +kernel
theorem dX10_tenths_106 : decode cX10_tenths 106 = .ok (.iconst 4, 1) := by decide +kernel
theorem dX10_tenths_107 : decode cX10_tenths 107 = .ok (.iaload, 1) := by decide +kernel
theorem dX10_tenths_108 : decode cX10_tenths 108 = .ok (.iload_n 2, 1) := by decide +kernel
theorem dX10_tenths_109 : decode cX10_tenths 109 = .ok (.isub, 1) := by decide +kernel
theorem dX10_tenths_110 : decode cX10_tenths 110 = .ok (.ireturn, 1) := by decide +kernel
def lp_X10_tenths_60 (y1 : Int32) (y2 : Int32) (k102 : Mm → Option (Int32 × Mm)) : Nat → Int32 → Mm → Option (Int32 × Mm)
  | 0, _, _ => none
  | n + 1, y3, M =>
    if y1 ≤ ((M 86 4) - y2) then (k102  M) else (if y3 = 0 then (k102  M) else (bd (f_X10_tenth  M) fun v77_6 M77_5 => jn (fun (s7 : Int32) (M8 : Mm) => lp_X10_tenths_60 y1 y2 k102 n s7 M8) fun j9 => jn (fun (M10 : Mm) => j9 (nI 1) M10) fun j11 => if v77_6 = 0 then (if (M77_5 86 8) = 0 then (j11  M77_5) else (j9 (nI 0) M77_5)) else (j11  M77_5)))
def f_X10_tenths (x1 : Int32) (M : Mm) : Option (Int32 × Mm) :=
  bv (f_X10_good  M) fun M1_1 => if (M1_1 81 14) = 0 then (bd (f_X10_no (nI 1) M1_1) fun v13_24 M13_23 => some (v13_24, M13_23)) else (bd (f_X10_within x1 (nI 1) (nI 100) M1_1) fun v21_4 M21_3 => if v21_4 = 0 then (bd (f_X10_no (nI 2) M21_3) fun v29_21 M29_20 => some (v29_21, M29_20)) else (if (M21_3 86 8) = (nI 1) then (bd (f_X10_no (nI 6) M21_3) fun v47_18 M47_17 => some (v47_18, M47_17)) else (lp_X10_tenths_60 x1 (M21_3 86 4) (fun  (M16 : Mm) => some (((M16 86 4) - (M21_3 86 4)), M16)) N0 (nI 1) M21_3)))
set_option maxHeartbeats 4000000 in
set_option maxRecDepth 100000 in
theorem sl_X10_tenths_60 {l : Launch} {B : BT} (hA : bA B = false) {d : Nat} {r : Int32} {M' : Mm} {y1 : Int32} {y2 : Int32}  {k102 : Mm → Option (Int32 × Mm)} (hk102 : ∀  (M9 : Mm), k102  M9 = some (r, M') → GG l B LY (d + 4) yX10_tenths cX10_tenths 4 (some .int) 0 0 (PI r M') 97 0 0 102 [(0, .ref 81), (2, .int y2)] [] M9) :
    ∀ (n : Nat) (y3 : Int32) (M : Mm), lp_X10_tenths_60 y1 y2 k102 n y3 M = some (r, M') → GG l B LY (d + 4) yX10_tenths cX10_tenths 4 (some .int) 0 0 (PI r M') 97 0 0 60 [(0, .ref 81), (1, .int y1), (2, .int y2), (3, .int y3)] [] M := by
  intro n
  induction n with
  | zero => intro y3 M h; cases h
  | succ n ih =>
    intro y3 M h
    rw [lp_X10_tenths_60] at h
    refine g_aload_n dX10_tenths_60 rfl 0 rfl ?_
    refine m_getr (k := 17) okX10 rfl rfl (by decide) w_1286 rfl dX10_tenths_61 ?_
    refine g_iconst (v := (nI 4)) dX10_tenths_64 (by decide) ?_
    refine m_ialdL (k := 4) rfl rfl (by decide) dX10_tenths_65 ?_
    refine g_iload_n dX10_tenths_66 rfl 2 rfl ?_
    refine g_isub dX10_tenths_67 ?_
    refine g_iload_n dX10_tenths_68 rfl 1 rfl ?_
    refine g_icmp_ge (tgt := 102) dX10_tenths_69 (by decide) (fun c15 => ?_) (fun c15 => ?_)
    · replace h := ite_p c15 h
      refine g_sub [0, 2] (lv' := [(0, .ref 81), (2, .int y2)]) rfl ?_
      exact hk102  _ h
    · replace h := ite_n c15 h
      refine g_iload_n dX10_tenths_72 rfl 3 rfl ?_
      refine g_if_eq (tgt := 102) dX10_tenths_73 (by decide) (fun c14 => ?_) (fun c14 => ?_)
      · replace h := ite_p c14 h
        refine g_sub [0, 2] (lv' := [(0, .ref 81), (2, .int y2)]) rfl ?_
        exact hk102  _ h
      · replace h := ite_n c14 h
        refine g_aload_n dX10_tenths_76 rfl 0 rfl ?_
        obtain ⟨v77_6, M77_5, eM77_5, h⟩ := bd_e h
        refine m_callVi (As := []) (st := []) (s_X10_tenth (d := d + 0) hA  eM77_5) rfl okX10 ck_X10_tenth w_1516 rfl (Nat.le_of_ble_eq_true rfl) dX10_tenths_77 ?_
        obtain ⟨j9, ej9, h⟩ := jn_e h
        have hj9 : ∀ (s7 : Int32) (M8 : Mm), j9 s7 M8 = some (r, M') → GG l B LY (d + 4) yX10_tenths cX10_tenths 4 (some .int) 0 0 (PI r M') 97 0 0 98 [(0, .ref 81), (1, .int y1), (2, .int y2)] [.int s7] M8 := by
          intro s7 M8 h
          rw [ej9] at h
          refine g_istore_n (lv' := [(3, .int s7), (0, .ref 81), (1, .int y1), (2, .int y2)]) dX10_tenths_98 rfl (by decide) rfl ?_
          refine g_goto (tgt := 60) dX10_tenths_99 (by decide) ?_
          refine g_sub [1, 2, 3, 0] (lv' := [(0, .ref 81), (1, .int y1), (2, .int y2), (3, .int s7)]) rfl ?_
          exact ih _  _ h
        obtain ⟨j11, ej11, h⟩ := jn_e h
        have hj11 : ∀ (M10 : Mm), j11 M10 = some (r, M') → GG l B LY (d + 4) yX10_tenths cX10_tenths 4 (some .int) 0 0 (PI r M') 97 0 0 93 [(0, .ref 81), (1, .int y1), (2, .int y2)] [] M10 := by
          intro M10 h
          rw [ej11] at h
          refine g_iconst (v := (nI 1)) dX10_tenths_93 (by decide) ?_
          refine g_goto (tgt := 98) dX10_tenths_94 (by decide) ?_
          refine g_sub [0, 1, 2] (lv' := [(0, .ref 81), (1, .int y1), (2, .int y2)]) rfl ?_
          exact hj9 _ _ h
        refine g_if_ne (tgt := 93) dX10_tenths_80 (by decide) (fun c13 => ?_) (fun c13 => ?_)
        · replace h := ite_n c13 h
          refine g_sub [0, 1, 2] (lv' := [(0, .ref 81), (1, .int y1), (2, .int y2)]) rfl ?_
          exact hj11  _ h
        · replace h := ite_p c13 h
          refine g_aload_n dX10_tenths_83 rfl 0 rfl ?_
          refine m_getr (k := 17) okX10 rfl rfl (by decide) w_1286 rfl dX10_tenths_84 ?_
          refine g_bipush (v := (nI 8)) dX10_tenths_87 (by decide) ?_
          refine m_ialdL (k := 8) rfl rfl (by decide) dX10_tenths_89 ?_
          refine g_if_ne (tgt := 97) dX10_tenths_90 (by decide) (fun c12 => ?_) (fun c12 => ?_)
          · replace h := ite_n c12 h
            refine g_iconst (v := (nI 0)) dX10_tenths_97 (by decide) ?_
            refine g_sub [0, 1, 2] (lv' := [(0, .ref 81), (1, .int y1), (2, .int y2)]) rfl ?_
            exact hj9 _ _ h
          · replace h := ite_p c12 h
            refine g_sub [0, 1, 2] (lv' := [(0, .ref 81), (1, .int y1), (2, .int y2)]) rfl ?_
            exact hj11  _ h
set_option maxHeartbeats 4000000 in
set_option maxRecDepth 100000 in
theorem s_X10_tenths {l : Launch} {B : BT} (hA : bA B = false) {d : Nat} {r : Int32} {M' : Mm} {x1 : Int32} {M : Mm}  (h : f_X10_tenths x1 M = some (r, M')) : Con l B LY (d + 4) yX10_tenths cX10_tenths 4 (some .int) 0 0 [.ref 81, .int x1] 97 M (PI r M') := by
  refine con_of (by decide) (Nat.le_of_ble_eq_true rfl) ?_
  show GG l B LY (d + 4) yX10_tenths cX10_tenths 4 (some .int) 0 0 (PI r M') 97 0 0 0 [(0, .ref 81), (1, .int x1)] [] M
  rw [f_X10_tenths] at h
  refine g_aload_n dX10_tenths_0 rfl 0 rfl ?_
  obtain ⟨M1_1, eM1_1, h⟩ := bv_e h
  refine m_callVv (As := []) (st := []) (s_X10_good (d := d + 3) hA  eM1_1) rfl okX10 ck_X10_good w_1381 rfl (Nat.le_of_ble_eq_true rfl) dX10_tenths_1 ?_
  refine g_aload_n dX10_tenths_4 rfl 0 rfl ?_
  refine m_geti (k := 14) okX10 rfl rfl (by decide) w_1283 rfl dX10_tenths_5 ?_
  refine g_if_ne (tgt := 17) dX10_tenths_8 (by decide) (fun c25 => ?_) (fun c25 => ?_)
  · replace h := ite_n c25 h
    refine g_iload_n dX10_tenths_17 rfl 1 rfl ?_
    refine g_iconst (v := (nI 1)) dX10_tenths_18 (by decide) ?_
    refine g_bipush (v := (nI 100)) dX10_tenths_19 (by decide) ?_
    obtain ⟨v21_4, M21_3, eM21_3, h⟩ := bd_e h
    refine m_callSi (As := [.int x1, .int (nI 1), .int (nI 100)]) (st := []) (s_X10_within (d := d + 3) hA  eM21_3) ck_X10_within w_1385 rfl (Nat.le_of_ble_eq_true rfl) dX10_tenths_21 ?_
    refine g_if_ne (tgt := 33) dX10_tenths_24 (by decide) (fun c22 => ?_) (fun c22 => ?_)
    · replace h := ite_n c22 h
      refine g_aload_n dX10_tenths_33 rfl 0 rfl ?_
      refine m_getr (k := 17) okX10 rfl rfl (by decide) w_1286 rfl dX10_tenths_34 ?_
      refine g_bipush (v := (nI 8)) dX10_tenths_37 (by decide) ?_
      refine m_ialdL (k := 8) rfl rfl (by decide) dX10_tenths_39 ?_
      refine g_iconst (v := (nI 1)) dX10_tenths_40 (by decide) ?_
      refine g_icmp_ne (tgt := 51) dX10_tenths_41 (by decide) (fun c19 => ?_) (fun c19 => ?_)
      · replace h := ite_n c19 h
        refine g_aload_n dX10_tenths_51 rfl 0 rfl ?_
        refine m_getr (k := 17) okX10 rfl rfl (by decide) w_1286 rfl dX10_tenths_52 ?_
        refine g_iconst (v := (nI 4)) dX10_tenths_55 (by decide) ?_
        refine m_ialdL (k := 4) rfl rfl (by decide) dX10_tenths_56 ?_
        refine g_istore_n (lv' := [(2, .int (M21_3 86 4)), (0, .ref 81), (1, .int x1)]) dX10_tenths_57 rfl (by decide) rfl ?_
        refine g_iconst (v := (nI 1)) dX10_tenths_58 (by decide) ?_
        refine g_istore_n (lv' := [(3, .int (nI 1)), (2, .int (M21_3 86 4)), (0, .ref 81), (1, .int x1)]) dX10_tenths_59 rfl (by decide) rfl ?_
        refine g_sub [2, 3, 1, 0] (lv' := [(0, .ref 81), (1, .int x1), (2, .int (M21_3 86 4)), (3, .int (nI 1))]) rfl ?_
        refine sl_X10_tenths_60 hA  ?_ _ _ _ h
        · intro  M16 h
          refine g_aload_n dX10_tenths_102 rfl 0 rfl ?_
          refine m_getr (k := 17) okX10 rfl rfl (by decide) w_1286 rfl dX10_tenths_103 ?_
          refine g_iconst (v := (nI 4)) dX10_tenths_106 (by decide) ?_
          refine m_ialdL (k := 4) rfl rfl (by decide) dX10_tenths_107 ?_
          refine g_iload_n dX10_tenths_108 rfl 1 rfl ?_
          refine g_isub dX10_tenths_109 ?_
          exact g_zret rfl rfl (pi_of h) dX10_tenths_110
      · replace h := ite_p c19 h
        refine g_aload_n dX10_tenths_44 rfl 0 rfl ?_
        refine g_bipush (v := (nI 6)) dX10_tenths_45 (by decide) ?_
        obtain ⟨v47_18, M47_17, eM47_17, h⟩ := bd_e h
        refine m_callVi (As := [.int (nI 6)]) (st := []) (s_X10_no (d := d + 3) hA  eM47_17) rfl okX10 ck_X10_no w_1388 rfl (Nat.le_of_ble_eq_true rfl) dX10_tenths_47 ?_
        exact g_zret rfl rfl (pi_of h) dX10_tenths_50
    · replace h := ite_p c22 h
      refine g_aload_n dX10_tenths_27 rfl 0 rfl ?_
      refine g_iconst (v := (nI 2)) dX10_tenths_28 (by decide) ?_
      obtain ⟨v29_21, M29_20, eM29_20, h⟩ := bd_e h
      refine m_callVi (As := [.int (nI 2)]) (st := []) (s_X10_no (d := d + 3) hA  eM29_20) rfl okX10 ck_X10_no w_1388 rfl (Nat.le_of_ble_eq_true rfl) dX10_tenths_29 ?_
      exact g_zret rfl rfl (pi_of h) dX10_tenths_32
  · replace h := ite_p c25 h
    refine g_aload_n dX10_tenths_11 rfl 0 rfl ?_
    refine g_iconst (v := (nI 1)) dX10_tenths_12 (by decide) ?_
    obtain ⟨v13_24, M13_23, eM13_23, h⟩ := bd_e h
    refine m_callVi (As := [.int (nI 1)]) (st := []) (s_X10_no (d := d + 3) hA  eM13_23) rfl okX10 ck_X10_no w_1388 rfl (Nat.le_of_ble_eq_true rfl) dX10_tenths_13 ?_
    exact g_zret rfl rfl (pi_of h) dX10_tenths_16
theorem ck_X10_tenths : CKV yX10_tenths cX10_tenths 4 (some .int) 1 := ⟨⟨by decide, by decide, by decide +kernel⟩, w_1515, w_81, ⟨w_1513, w_1514⟩, by decide⟩
theorem dX10_round_0 : decode cX10_round 0 = .ok (.aload_n 0, 1) := by decide +kernel
theorem dX10_round_1 : decode cX10_round 1 = .ok (.invokevirtual 156, 3) := by decide +kernel
theorem dX10_round_4 : decode cX10_round 4 = .ok (.aload_n 0, 1) := by decide +kernel
theorem dX10_round_5 : decode cX10_round 5 = .ok (.getfield 165, 3) := by decide +kernel
theorem dX10_round_8 : decode cX10_round 8 = .ok (.ifCond .ne 9, 3) := by decide +kernel
theorem dX10_round_11 : decode cX10_round 11 = .ok (.aload_n 0, 1) := by decide +kernel
theorem dX10_round_12 : decode cX10_round 12 = .ok (.iconst 1, 1) := by decide +kernel
theorem dX10_round_13 : decode cX10_round 13 = .ok (.invokevirtual 159, 3) := by decide +kernel
theorem dX10_round_16 : decode cX10_round 16 = .ok (.ireturn, 1) := by decide +kernel
theorem dX10_round_17 : decode cX10_round 17 = .ok (.aload_n 0, 1) := by decide +kernel
theorem dX10_round_18 : decode cX10_round 18 = .ok (.getfield 26, 3) := by decide +kernel
theorem dX10_round_21 : decode cX10_round 21 = .ok (.bipush 8, 2) := by decide +kernel
theorem dX10_round_23 : decode cX10_round 23 = .ok (.iaload, 1) := by decide +kernel
theorem dX10_round_24 : decode cX10_round 24 = .ok (.iconst 1, 1) := by decide +kernel
theorem dX10_round_25 : decode cX10_round 25 = .ok (.if_icmp .ne 10, 3) := by decide +kernel
theorem dX10_round_28 : decode cX10_round 28 = .ok (.aload_n 0, 1) := by decide +kernel
theorem dX10_round_29 : decode cX10_round 29 = .ok (.bipush 6, 2) := by decide +kernel
theorem dX10_round_31 : decode cX10_round 31 = .ok (.invokevirtual 159, 3) := by decide +kernel
theorem dX10_round_34 : decode cX10_round 34 = .ok (.ireturn, 1) := by decide +kernel
theorem dX10_round_35 : decode cX10_round 35 = .ok (.iconst 0, 1) := by decide +kernel
theorem dX10_round_36 : decode cX10_round 36 = .ok (.istore_n 1, 1) := by decide +kernel
theorem dX10_round_37 : decode cX10_round 37 = .ok (.iload_n 1, 1) := by decide +kernel
theorem dX10_round_38 : decode cX10_round 38 = .ok (.ifCond .ne 21, 3) := by decide +kernel
theorem dX10_round_41 : decode cX10_round 41 = .ok (.aload_n 0, 1) := by decide +kernel
theorem dX10_round_42 : decode cX10_round 42 = .ok (.getfield 26, 3) := by decide +kernel
theorem dX10_round_45 : decode cX10_round 45 = .ok (.bipush 8, 2) := by decide +kernel
theorem dX10_round_47 : decode cX10_round 47 = .ok (.iaload, 1) := by decide +kernel
theorem dX10_round_48 : decode cX10_round 48 = .ok (.ifCond .ne 11, 3) := by decide +kernel
theorem dX10_round_51 : decode cX10_round 51 = .ok (.aload_n 0, 1) := by decide +kernel
theorem dX10_round_52 : decode cX10_round 52 = .ok (.invokevirtual 275, 3) := by decide +kernel
theorem dX10_round_55 : decode cX10_round 55 = .ok (.istore_n 1, 1) := by decide +kernel
theorem dX10_round_56 : decode cX10_round 56 = .ok (.goto (-19), 3) := by decide +kernel
theorem dX10_round_59 : decode cX10_round 59 = .ok (.iload_n 1, 1) := by decide +kernel
theorem dX10_round_60 : decode cX10_round 60 = .ok (.ifCond .eq 7, 3) := by decide +kernel
theorem dX10_round_63 : decode cX10_round 63 = .ok (.iconst 1, 1) := by decide +kernel
theorem dX10_round_64 : decode cX10_round 64 = .ok (.goto 4, 3) := by decide +kernel
theorem dX10_round_67 : decode cX10_round 67 = .ok (.iconst 2, 1) := by decide +kernel
theorem dX10_round_68 : decode cX10_round 68 = .ok (.ireturn, 1) := by decide +kernel
def lp_X10_round_37  (k59 : Int32 → Mm → Option (Int32 × Mm)) : Nat → Int32 → Mm → Option (Int32 × Mm)
  | 0, _, _ => none
  | n + 1, y1, M =>
    if y1 = 0 then (if (M 86 8) = 0 then (bd (f_X10_tenth  M) fun v52_4 M52_3 => lp_X10_round_37 k59 n v52_4 M52_3) else (k59 y1 M)) else (k59 y1 M)
def f_X10_round  (M : Mm) : Option (Int32 × Mm) :=
  bv (f_X10_good  M) fun M1_1 => if (M1_1 81 14) = 0 then (bd (f_X10_no (nI 1) M1_1) fun v13_14 M13_13 => some (v13_14, M13_13)) else (if (M1_1 86 8) = (nI 1) then (bd (f_X10_no (nI 6) M1_1) fun v31_11 M31_10 => some (v31_11, M31_10)) else (lp_X10_round_37  (fun (u7 : Int32) (M8 : Mm) => if u7 = 0 then (some ((nI 2), M8)) else (some ((nI 1), M8))) N0 (nI 0) M1_1))
set_option maxHeartbeats 4000000 in
set_option maxRecDepth 100000 in
theorem sl_X10_round_37 {l : Launch} {B : BT} (hA : bA B = false) {d : Nat} {r : Int32} {M' : Mm}   {k59 : Int32 → Mm → Option (Int32 × Mm)} (hk59 : ∀ (z1 : Int32) (M9 : Mm), k59 z1 M9 = some (r, M') → GG l B LY (d + 4) yX10_round cX10_round 2 (some .int) 0 0 (PI r M') 97 0 0 59 [(1, .int z1)] [] M9) :
    ∀ (n : Nat) (y1 : Int32) (M : Mm), lp_X10_round_37 k59 n y1 M = some (r, M') → GG l B LY (d + 4) yX10_round cX10_round 2 (some .int) 0 0 (PI r M') 97 0 0 37 [(0, .ref 81), (1, .int y1)] [] M := by
  intro n
  induction n with
  | zero => intro y1 M h; cases h
  | succ n ih =>
    intro y1 M h
    rw [lp_X10_round_37] at h
    refine g_iload_n dX10_round_37 rfl 1 rfl ?_
    refine g_if_ne (tgt := 59) dX10_round_38 (by decide) (fun c6 => ?_) (fun c6 => ?_)
    · replace h := ite_n c6 h
      refine g_sub [1] (lv' := [(1, .int y1)]) rfl ?_
      exact hk59 _ _ h
    · replace h := ite_p c6 h
      refine g_aload_n dX10_round_41 rfl 0 rfl ?_
      refine m_getr (k := 17) okX10 rfl rfl (by decide) w_1286 rfl dX10_round_42 ?_
      refine g_bipush (v := (nI 8)) dX10_round_45 (by decide) ?_
      refine m_ialdL (k := 8) rfl rfl (by decide) dX10_round_47 ?_
      refine g_if_ne (tgt := 59) dX10_round_48 (by decide) (fun c5 => ?_) (fun c5 => ?_)
      · replace h := ite_n c5 h
        refine g_sub [1] (lv' := [(1, .int y1)]) rfl ?_
        exact hk59 _ _ h
      · replace h := ite_p c5 h
        refine g_aload_n dX10_round_51 rfl 0 rfl ?_
        obtain ⟨v52_4, M52_3, eM52_3, h⟩ := bd_e h
        refine m_callVi (As := []) (st := []) (s_X10_tenth (d := d + 0) hA  eM52_3) rfl okX10 ck_X10_tenth w_1516 rfl (Nat.le_of_ble_eq_true rfl) dX10_round_52 ?_
        refine g_istore_n (lv' := [(1, .int v52_4), (0, .ref 81)]) dX10_round_55 rfl (by decide) rfl ?_
        refine g_goto (tgt := 37) dX10_round_56 (by decide) ?_
        refine g_sub [1, 0] (lv' := [(0, .ref 81), (1, .int v52_4)]) rfl ?_
        exact ih _  _ h
set_option maxHeartbeats 4000000 in
set_option maxRecDepth 100000 in
theorem s_X10_round {l : Launch} {B : BT} (hA : bA B = false) {d : Nat} {r : Int32} {M' : Mm}  {M : Mm}  (h : f_X10_round  M = some (r, M')) : Con l B LY (d + 4) yX10_round cX10_round 2 (some .int) 0 0 [.ref 81] 97 M (PI r M') := by
  refine con_of (by decide) (Nat.le_of_ble_eq_true rfl) ?_
  show GG l B LY (d + 4) yX10_round cX10_round 2 (some .int) 0 0 (PI r M') 97 0 0 0 [(0, .ref 81)] [] M
  rw [f_X10_round] at h
  refine g_aload_n dX10_round_0 rfl 0 rfl ?_
  obtain ⟨M1_1, eM1_1, h⟩ := bv_e h
  refine m_callVv (As := []) (st := []) (s_X10_good (d := d + 3) hA  eM1_1) rfl okX10 ck_X10_good w_1381 rfl (Nat.le_of_ble_eq_true rfl) dX10_round_1 ?_
  refine g_aload_n dX10_round_4 rfl 0 rfl ?_
  refine m_geti (k := 14) okX10 rfl rfl (by decide) w_1283 rfl dX10_round_5 ?_
  refine g_if_ne (tgt := 17) dX10_round_8 (by decide) (fun c15 => ?_) (fun c15 => ?_)
  · replace h := ite_n c15 h
    refine g_aload_n dX10_round_17 rfl 0 rfl ?_
    refine m_getr (k := 17) okX10 rfl rfl (by decide) w_1286 rfl dX10_round_18 ?_
    refine g_bipush (v := (nI 8)) dX10_round_21 (by decide) ?_
    refine m_ialdL (k := 8) rfl rfl (by decide) dX10_round_23 ?_
    refine g_iconst (v := (nI 1)) dX10_round_24 (by decide) ?_
    refine g_icmp_ne (tgt := 35) dX10_round_25 (by decide) (fun c12 => ?_) (fun c12 => ?_)
    · replace h := ite_n c12 h
      refine g_iconst (v := (nI 0)) dX10_round_35 (by decide) ?_
      refine g_istore_n (lv' := [(1, .int (nI 0)), (0, .ref 81)]) dX10_round_36 rfl (by decide) rfl ?_
      refine g_sub [1, 0] (lv' := [(0, .ref 81), (1, .int (nI 0))]) rfl ?_
      refine sl_X10_round_37 hA  ?_ _ _ _ h
      · intro u7 M8 h
        refine g_iload_n dX10_round_59 rfl 0 rfl ?_
        refine g_if_eq (tgt := 67) dX10_round_60 (by decide) (fun c9 => ?_) (fun c9 => ?_)
        · replace h := ite_p c9 h
          refine g_iconst (v := (nI 2)) dX10_round_67 (by decide) ?_
          exact g_zret rfl rfl (pi_of h) dX10_round_68
        · replace h := ite_n c9 h
          refine g_iconst (v := (nI 1)) dX10_round_63 (by decide) ?_
          refine g_goto (tgt := 68) dX10_round_64 (by decide) ?_
          exact g_zret rfl rfl (pi_of h) dX10_round_68
    · replace h := ite_p c12 h
      refine g_aload_n dX10_round_28 rfl 0 rfl ?_
      refine g_bipush (v := (nI 6)) dX10_round_29 (by decide) ?_
      obtain ⟨v31_11, M31_10, eM31_10, h⟩ := bd_e h
      refine m_callVi (As := [.int (nI 6)]) (st := []) (s_X10_no (d := d + 3) hA  eM31_10) rfl okX10 ck_X10_no w_1388 rfl (Nat.le_of_ble_eq_true rfl) dX10_round_31 ?_
      exact g_zret rfl rfl (pi_of h) dX10_round_34
  · replace h := ite_p c15 h
    refine g_aload_n dX10_round_11 rfl 0 rfl ?_
    refine g_iconst (v := (nI 1)) dX10_round_12 (by decide) ?_
    obtain ⟨v13_14, M13_13, eM13_13, h⟩ := bd_e h
    refine m_callVi (As := [.int (nI 1)]) (st := []) (s_X10_no (d := d + 3) hA  eM13_13) rfl okX10 ck_X10_no w_1388 rfl (Nat.le_of_ble_eq_true rfl) dX10_round_13 ?_
    exact g_zret rfl rfl (pi_of h) dX10_round_16
theorem ck_X10_round : CKV yX10_round cX10_round 2 (some .int) 0 := ⟨⟨by decide, by decide, by decide +kernel⟩, w_1567, w_81, ⟨w_1565, w_1566⟩, by decide⟩
theorem dX10_bring_0 : decode cX10_bring 0 = .ok (.aload_n 0, 1) := by decide +kernel
theorem dX10_bring_1 : decode cX10_bring 1 = .ok (.invokevirtual 156, 3) := by decide +kernel
theorem dX10_bring_4 : decode cX10_bring 4 = .ok (.aload_n 0, 1) := by decide +kernel
theorem dX10_bring_5 : decode cX10_bring 5 = .ok (.iload_n 1, 1) := by decide +kernel
theorem dX10_bring_6 : decode cX10_bring 6 = .ok (.invokevirtual 278, 3) := by decide +kernel
theorem dX10_bring_9 : decode cX10_bring 9 = .ok (.ifCond .ne 9, 3) := by decide +kernel
theorem dX10_bring_12 : decode cX10_bring 12 = .ok (.aload_n 0, 1) := by decide +kernel
theorem dX10_bring_13 : decode cX10_bring 13 = .ok (.iconst 1, 1) := by decide +kernel
theorem dX10_bring_14 : decode cX10_bring 14 = .ok (.invokevirtual 271, 3) := by decide +kernel
theorem dX10_bring_17 : decode cX10_bring 17 = .ok (.ireturn, 1) := by decide +kernel
theorem dX10_bring_18 : decode cX10_bring 18 = .ok (.iload_n 2, 1) := by decide +kernel
theorem dX10_bring_19 : decode cX10_bring 19 = .ok (.iconst 0, 1) := by decide +kernel
theorem dX10_bring_20 : decode cX10_bring 20 = .ok (.aload_n 0, 1) := by decide +kernel
theorem dX10_bring_21 : decode cX10_bring 21 = .ok (.getfield 20, 3) := by decide +kernel
theorem dX10_bring_24 : decode cX10_bring 24 = .ok (.iconst 0, 1) := by decide +kernel
theorem dX10_bring_25 : decode cX10_bring 25 = .ok (.iaload, 1) := by decide +kernel
theorem dX10_bring_26 : decode cX10_bring 26 = .ok (.iconst 1, 1) := by decide +kernel
theorem dX10_bring_27 : decode cX10_bring 27 = .ok (.isub, 1) := by decide +kernel
theorem dX10_bring_28 : decode cX10_bring 28 = .ok (.invokestatic 144, 3) := by decide +kernel
theorem dX10_bring_31 : decode cX10_bring 31 = .ok (.ifCond .ne 9, 3) := by decide +kernel
theorem dX10_bring_34 : decode cX10_bring 34 = .ok (.aload_n 0, 1) := by decide +kernel
theorem dX10_bring_35 : decode cX10_bring 35 = .ok (.iconst 2, 1) := by decide +kernel
theorem dX10_bring_36 : decode cX10_bring 36 = .ok (.invokevirtual 271, 3) := by decide +kernel
theorem dX10_bring_39 : decode cX10_bring 39 = .ok (.ireturn, 1) := by decide +kernel
theorem dX10_bring_40 : decode cX10_bring 40 = .ok (.aload_n 0, 1) := by decide +kernel
theorem dX10_bring_41 : decode cX10_bring 41 = .ok (.getfield 26, 3) := by decide +kernel
theorem dX10_bring_44 : decode cX10_bring 44 = .ok (.bipush 8, 2) := by decide +kernel
theorem dX10_bring_46 : decode cX10_bring 46 = .ok (.iaload, 1) := by decide +kernel
theorem dX10_bring_47 : decode cX10_bring 47 = .ok (.iconst 1, 1) := by decide +kernel
theorem dX10_bring_48 : decode cX10_bring 48 = .ok (.if_icmp .ne 10, 3) := by decide +kernel
theorem dX10_bring_51 : decode cX10_bring 51 = .ok (.aload_n 0, 1) := by decide +kernel
theorem dX10_bring_52 : decode cX10_bring 52 = .ok (.bipush 6, 2) := by decide +kernel
theorem dX10_bring_54 : decode cX10_bring 54 = .ok (.invokevirtual 271, 3) := by decide +kernel
theorem dX10_bring_57 : decode cX10_bring 57 = .ok (.ireturn, 1) := by decide +kernel
theorem dX10_bring_58 : decode cX10_bring 58 = .ok (.aload_n 0, 1) := by decide +kernel
theorem dX10_bring_59 : decode cX10_bring 59 = .ok (.getfield 26, 3) := by decide +kernel
theorem dX10_bring_62 : decode cX10_bring 62 = .ok (.bipush 9, 2) := by decide +kernel
theorem dX10_bring_64 : decode cX10_bring 64 = .ok (.iload_n 1, 1) := by decide +kernel
theorem dX10_bring_65 : decode cX10_bring 65 = .ok (.iadd, 1) := by decide +kernel
theorem dX10_bring_66 : decode cX10_bring 66 = .ok (.iload_n 2, 1) := by decide +kernel
theorem dX10_bring_67 : decode cX10_bring 67 = .ok (.iastore, 1) := by decide +kernel
theorem dX10_bring_68 : decode cX10_bring 68 = .ok (.aload_n 0, 1) := by decide +kernel
theorem dX10_bring_69 : decode cX10_bring 69 = .ok (.getfield 26, 3) := by decide +kernel
theorem dX10_bring_72 : decode cX10_bring 72 = .ok (.bipush 14, 2) := by decide +kernel
theorem dX10_bring_74 : decode cX10_bring 74 = .ok (.iload_n 1, 1) := by decide +kernel
theorem dX10_bring_75 : decode cX10_bring 75 = .ok (.iadd, 1) := by decide +kernel
theorem dX10_bring_76 : decode cX10_bring 76 = .ok (.iconst 0, 1) := by decide +kernel
theorem dX10_bring_77 : decode cX10_bring 77 = .ok (.iastore, 1) := by decide +kernel
theorem dX10_bring_78 : decode cX10_bring 78 = .ok (.iconst 1, 1) := by decide +kernel
theorem dX10_bring_79 : decode cX10_bring 79 = .ok (.ireturn, 1) := by decide +kernel
def f_X10_bring (x1 : Int32) (x2 : Int32) (M : Mm) : Option (Int32 × Mm) :=
  bv (f_X10_good  M) fun M1_1 => bd (f_X10_isCreeper x1 M1_1) fun v6_4 M6_3 => if v6_4 = 0 then (bd (f_X10_isNot (nI 1) M6_3) fun v14_14 M14_13 => gd (zo v14_14) <| some (v14_14, M14_13)) else (bd (f_X10_within x2 (nI 0) ((M6_3 84 0) - (nI 1)) M6_3) fun v28_6 M28_5 => if v28_6 = 0 then (bd (f_X10_isNot (nI 2) M28_5) fun v36_11 M36_10 => gd (zo v36_11) <| some (v36_11, M36_10)) else (if (M28_5 86 8) = (nI 1) then (bd (f_X10_isNot (nI 6) M28_5) fun v54_8 M54_7 => gd (zo v54_8) <| some (v54_8, M54_7)) else (gd (inb ((nI 9) + x1) 44) <| gd (inb ((nI 14) + x1) 44) <| some ((nI 1), (mset (mset M28_5 86 ((nI 9) + x1).toNatClampNeg x2) 86 ((nI 14) + x1).toNatClampNeg (nI 0))))))
set_option maxHeartbeats 4000000 in
set_option maxRecDepth 100000 in
theorem s_X10_bring {l : Launch} {B : BT} (hA : bA B = false) {d : Nat} {r : Int32} {M' : Mm} {x1 : Int32} {x2 : Int32} {M : Mm}  (h : f_X10_bring x1 x2 M = some (r, M')) : Con l B LY (d + 2) yX10_bring cX10_bring 3 (some .boolean) 0 0 [.ref 81, .int x1, .int x2] 97 M (PI r M') := by
  refine con_of (by decide) (Nat.le_of_ble_eq_true rfl) ?_
  show GG l B LY (d + 2) yX10_bring cX10_bring 3 (some .boolean) 0 0 (PI r M') 97 0 0 0 [(0, .ref 81), (1, .int x1), (2, .int x2)] [] M
  rw [f_X10_bring] at h
  refine g_aload_n dX10_bring_0 rfl 0 rfl ?_
  obtain ⟨M1_1, eM1_1, h⟩ := bv_e h
  refine m_callVv (As := []) (st := []) (s_X10_good (d := d + 1) hA  eM1_1) rfl okX10 ck_X10_good w_1381 rfl (Nat.le_of_ble_eq_true rfl) dX10_bring_1 ?_
  refine g_aload_n dX10_bring_4 rfl 0 rfl ?_
  refine g_iload_n dX10_bring_5 rfl 1 rfl ?_
  obtain ⟨v6_4, M6_3, eM6_3, h⟩ := bd_e h
  refine m_callVi (As := [.int x1]) (st := []) (s_X10_isCreeper (d := d + 0) hA  eM6_3) rfl okX10 ck_X10_isCreeper w_1572 rfl (Nat.le_of_ble_eq_true rfl) dX10_bring_6 ?_
  refine g_if_ne (tgt := 18) dX10_bring_9 (by decide) (fun c15 => ?_) (fun c15 => ?_)
  · replace h := ite_n c15 h
    refine g_iload_n dX10_bring_18 rfl 2 rfl ?_
    refine g_iconst (v := (nI 0)) dX10_bring_19 (by decide) ?_
    refine g_aload_n dX10_bring_20 rfl 0 rfl ?_
    refine m_getr (k := 15) okX10 rfl rfl (by decide) w_1284 rfl dX10_bring_21 ?_
    refine g_iconst (v := (nI 0)) dX10_bring_24 (by decide) ?_
    refine m_ialdL (k := 0) rfl rfl (by decide) dX10_bring_25 ?_
    refine g_iconst (v := (nI 1)) dX10_bring_26 (by decide) ?_
    refine g_isub dX10_bring_27 ?_
    obtain ⟨v28_6, M28_5, eM28_5, h⟩ := bd_e h
    refine m_callSi (As := [.int x2, .int (nI 0), .int ((M6_3 84 0) - (nI 1))]) (st := []) (s_X10_within (d := d + 1) hA  eM28_5) ck_X10_within w_1385 rfl (Nat.le_of_ble_eq_true rfl) dX10_bring_28 ?_
    refine g_if_ne (tgt := 40) dX10_bring_31 (by decide) (fun c12 => ?_) (fun c12 => ?_)
    · replace h := ite_n c12 h
      refine g_aload_n dX10_bring_40 rfl 0 rfl ?_
      refine m_getr (k := 17) okX10 rfl rfl (by decide) w_1286 rfl dX10_bring_41 ?_
      refine g_bipush (v := (nI 8)) dX10_bring_44 (by decide) ?_
      refine m_ialdL (k := 8) rfl rfl (by decide) dX10_bring_46 ?_
      refine g_iconst (v := (nI 1)) dX10_bring_47 (by decide) ?_
      refine g_icmp_ne (tgt := 58) dX10_bring_48 (by decide) (fun c9 => ?_) (fun c9 => ?_)
      · replace h := ite_n c9 h
        refine g_aload_n dX10_bring_58 rfl 0 rfl ?_
        refine m_getr (k := 17) okX10 rfl rfl (by decide) w_1286 rfl dX10_bring_59 ?_
        refine g_bipush (v := (nI 9)) dX10_bring_62 (by decide) ?_
        refine g_iload_n dX10_bring_64 rfl 1 rfl ?_
        refine g_iadd dX10_bring_65 ?_
        refine g_iload_n dX10_bring_66 rfl 2 rfl ?_
        obtain ⟨hz, h⟩ := gd_s h
        refine m_iast hA rfl hz dX10_bring_67 ?_
        refine g_aload_n dX10_bring_68 rfl 0 rfl ?_
        refine m_getr (k := 17) okX10 rfl rfl (by decide) w_1286 rfl dX10_bring_69 ?_
        refine g_bipush (v := (nI 14)) dX10_bring_72 (by decide) ?_
        refine g_iload_n dX10_bring_74 rfl 1 rfl ?_
        refine g_iadd dX10_bring_75 ?_
        refine g_iconst (v := (nI 0)) dX10_bring_76 (by decide) ?_
        obtain ⟨hz, h⟩ := gd_s h
        refine m_iast hA rfl hz dX10_bring_77 ?_
        refine g_iconst (v := (nI 1)) dX10_bring_78 (by decide) ?_
        exact g_zret rfl rfl (pi_of h) dX10_bring_79
      · replace h := ite_p c9 h
        refine g_aload_n dX10_bring_51 rfl 0 rfl ?_
        refine g_bipush (v := (nI 6)) dX10_bring_52 (by decide) ?_
        obtain ⟨v54_8, M54_7, eM54_7, h⟩ := bd_e h
        refine m_callVi (As := [.int (nI 6)]) (st := []) (s_X10_isNot (d := d + 1) hA  eM54_7) rfl okX10 ck_X10_isNot w_1507 rfl (Nat.le_of_ble_eq_true rfl) dX10_bring_54 ?_
        obtain ⟨hz, h⟩ := gd_s h
        exact g_zret rfl (nar_zo hz) (pi_of h) dX10_bring_57
    · replace h := ite_p c12 h
      refine g_aload_n dX10_bring_34 rfl 0 rfl ?_
      refine g_iconst (v := (nI 2)) dX10_bring_35 (by decide) ?_
      obtain ⟨v36_11, M36_10, eM36_10, h⟩ := bd_e h
      refine m_callVi (As := [.int (nI 2)]) (st := []) (s_X10_isNot (d := d + 1) hA  eM36_10) rfl okX10 ck_X10_isNot w_1507 rfl (Nat.le_of_ble_eq_true rfl) dX10_bring_36 ?_
      obtain ⟨hz, h⟩ := gd_s h
      exact g_zret rfl (nar_zo hz) (pi_of h) dX10_bring_39
  · replace h := ite_p c15 h
    refine g_aload_n dX10_bring_12 rfl 0 rfl ?_
    refine g_iconst (v := (nI 1)) dX10_bring_13 (by decide) ?_
    obtain ⟨v14_14, M14_13, eM14_13, h⟩ := bd_e h
    refine m_callVi (As := [.int (nI 1)]) (st := []) (s_X10_isNot (d := d + 1) hA  eM14_13) rfl okX10 ck_X10_isNot w_1507 rfl (Nat.le_of_ble_eq_true rfl) dX10_bring_14 ?_
    obtain ⟨hz, h⟩ := gd_s h
    exact g_zret rfl (nar_zo hz) (pi_of h) dX10_bring_17
theorem ck_X10_bring : CKV yX10_bring cX10_bring 3 (some .boolean) 2 := ⟨⟨by decide, by decide, by decide +kernel⟩, w_1571, w_81, ⟨w_1569, w_1570⟩, by decide⟩
theorem dX10_right_0 : decode cX10_right 0 = .ok (.aload_n 0, 1) := by decide +kernel
theorem dX10_right_1 : decode cX10_right 1 = .ok (.invokevirtual 156, 3) := by decide +kernel
theorem dX10_right_4 : decode cX10_right 4 = .ok (.aload_n 0, 1) := by decide +kernel
theorem dX10_right_5 : decode cX10_right 5 = .ok (.iload_n 1, 1) := by decide +kernel
theorem dX10_right_6 : decode cX10_right 6 = .ok (.invokevirtual 278, 3) := by decide +kernel
theorem dX10_right_9 : decode cX10_right 9 = .ok (.ifCond .ne 9, 3) := by decide +kernel
theorem dX10_right_12 : decode cX10_right 12 = .ok (.aload_n 0, 1) := by decide +kernel
theorem dX10_right_13 : decode cX10_right 13 = .ok (.iconst 1, 1) := by decide +kernel
theorem dX10_right_14 : decode cX10_right 14 = .ok (.invokevirtual 271, 3) := by decide +kernel
theorem dX10_right_17 : decode cX10_right 17 = .ok (.ireturn, 1) := by decide +kernel
theorem dX10_right_18 : decode cX10_right 18 = .ok (.aload_n 0, 1) := by decide +kernel
theorem dX10_right_19 : decode cX10_right 19 = .ok (.getfield 26, 3) := by decide +kernel
theorem dX10_right_22 : decode cX10_right 22 = .ok (.bipush 8, 2) := by decide +kernel
theorem dX10_right_24 : decode cX10_right 24 = .ok (.iaload, 1) := by decide +kernel
theorem dX10_right_25 : decode cX10_right 25 = .ok (.iconst 1, 1) := by decide +kernel
theorem dX10_right_26 : decode cX10_right 26 = .ok (.if_icmp .ne 10, 3) := by decide +kernel
theorem dX10_right_29 : decode cX10_right 29 = .ok (.aload_n 0, 1) := by decide +kernel
theorem dX10_right_30 : decode cX10_right 30 = .ok (.bipush 6, 2) := by decide +kernel
theorem dX10_right_32 : decode cX10_right 32 = .ok (.invokevirtual 271, 3) := by decide +kernel
theorem dX10_right_35 : decode cX10_right 35 = .ok (.ireturn, 1) := by decide +kernel
theorem dX10_right_36 : decode cX10_right 36 = .ok (.aload_n 0, 1) := by decide +kernel
theorem dX10_right_37 : decode cX10_right 37 = .ok (.getfield 26, 3) := by decide +kernel
theorem dX10_right_40 : decode cX10_right 40 = .ok (.bipush 19, 2) := by decide +kernel
theorem dX10_right_42 : decode cX10_right 42 = .ok (.iload_n 1, 1) := by decide +kernel
theorem dX10_right_43 : decode cX10_right 43 = .ok (.iadd, 1) := by decide +kernel
theorem dX10_right_44 : decode cX10_right 44 = .ok (.iaload, 1) := by decide +kernel
theorem dX10_right_45 : decode cX10_right 45 = .ok (.iconst 5, 1) := by decide +kernel
theorem dX10_right_46 : decode cX10_right 46 = .ok (.if_icmp .eq 9, 3) := by decide +kernel
theorem dX10_right_49 : decode cX10_right 49 = .ok (.aload_n 0, 1) := by decide +kernel
theorem dX10_right_50 : decode cX10_right 50 = .ok (.iconst 5, 1) := by decide +kernel
theorem dX10_right_51 : decode cX10_right 51 = .ok (.invokevirtual 271, 3) := by decide +kernel
theorem dX10_right_54 : decode cX10_right 54 = .ok (.ireturn, 1) := by decide +kernel
theorem dX10_right_55 : decode cX10_right 55 = .ok (.aload_n 0, 1) := by decide +kernel
theorem dX10_right_56 : decode cX10_right 56 = .ok (.getfield 26, 3) := by decide +kernel
theorem dX10_right_59 : decode cX10_right 59 = .ok (.bipush 19, 2) := by decide +kernel
theorem dX10_right_61 : decode cX10_right 61 = .ok (.iload_n 1, 1) := by decide +kernel
theorem dX10_right_62 : decode cX10_right 62 = .ok (.iadd, 1) := by decide +kernel
theorem dX10_right_63 : decode cX10_right 63 = .ok (.iconst 0, 1) := by decide +kernel
theorem dX10_right_64 : decode cX10_right 64 = .ok (.iastore, 1) := by decide +kernel
theorem dX10_right_65 : decode cX10_right 65 = .ok (.aload_n 0, 1) := by decide +kernel
theorem dX10_right_66 : decode cX10_right 66 = .ok (.getfield 26, 3) := by decide +kernel
theorem dX10_right_69 : decode cX10_right 69 = .ok (.bipush 29, 2) := by decide +kernel
theorem dX10_right_71 : decode cX10_right 71 = .ok (.iload_n 1, 1) := by decide +kernel
theorem dX10_right_72 : decode cX10_right 72 = .ok (.iadd, 1) := by decide +kernel
theorem dX10_right_73 : decode cX10_right 73 = .ok (.dup2, 1) := by decide +kernel
theorem dX10_right_74 : decode cX10_right 74 = .ok (.iaload, 1) := by decide +kernel
theorem dX10_right_75 : decode cX10_right 75 = .ok (.iconst 1, 1) := by decide +kernel
theorem dX10_right_76 : decode cX10_right 76 = .ok (.isub, 1) := by decide +kernel
theorem dX10_right_77 : decode cX10_right 77 = .ok (.iastore, 1) := by decide +kernel
theorem dX10_right_78 : decode cX10_right 78 = .ok (.aload_n 0, 1) := by decide +kernel
theorem dX10_right_79 : decode cX10_right 79 = .ok (.getfield 26, 3) := by decide +kernel
theorem dX10_right_82 : decode cX10_right 82 = .ok (.bipush 9, 2) := by decide +kernel
theorem dX10_right_84 : decode cX10_right 84 = .ok (.iload_n 1, 1) := by decide +kernel
theorem dX10_right_85 : decode cX10_right 85 = .ok (.iadd, 1) := by decide +kernel
theorem dX10_right_86 : decode cX10_right 86 = .ok (.aload_n 0, 1) := by decide +kernel
theorem dX10_right_87 : decode cX10_right 87 = .ok (.getfield 26, 3) := by decide +kernel
theorem dX10_right_90 : decode cX10_right 90 = .ok (.bipush 34, 2) := by decide +kernel
theorem dX10_right_92 : decode cX10_right 92 = .ok (.iload_n 1, 1) := by decide +kernel
theorem dX10_right_93 : decode cX10_right 93 = .ok (.iadd, 1) := by decide +kernel
theorem dX10_right_94 : decode cX10_right 94 = .ok (.iaload, 1) := by decide +kernel
theorem dX10_right_95 : decode cX10_right 95 = .ok (.iastore, 1) := by decide +kernel
theorem dX10_right_96 : decode cX10_right 96 = .ok (.aload_n 0, 1) := by decide +kernel
theorem dX10_right_97 : decode cX10_right 97 = .ok (.getfield 26, 3) := by decide +kernel
theorem dX10_right_100 : decode cX10_right 100 = .ok (.bipush 14, 2) := by decide +kernel
theorem dX10_right_102 : decode cX10_right 102 = .ok (.iload_n 1, 1) := by decide +kernel
theorem dX10_right_103 : decode cX10_right 103 = .ok (.iadd, 1) := by decide +kernel
theorem dX10_right_104 : decode cX10_right 104 = .ok (.iconst 0, 1) := by decide +kernel
theorem dX10_right_105 : decode cX10_right 105 = .ok (.iastore, 1) := by decide +kernel
theorem dX10_right_106 : decode cX10_right 106 = .ok (.iconst 1, 1) := by decide +kernel
theorem dX10_right_107 : decode cX10_right 107 = .ok (.ireturn, 1) := by decide +kernel
def f_X10_right (x1 : Int32) (M : Mm) : Option (Int32 × Mm) :=
  bv (f_X10_good  M) fun M1_1 => bd (f_X10_isCreeper x1 M1_1) fun v6_4 M6_3 => if v6_4 = 0 then (bd (f_X10_isNot (nI 1) M6_3) fun v14_12 M14_11 => gd (zo v14_12) <| some (v14_12, M14_11)) else (if (M6_3 86 8) = (nI 1) then (bd (f_X10_isNot (nI 6) M6_3) fun v32_9 M32_8 => gd (zo v32_9) <| some (v32_9, M32_8)) else (gd (inb ((nI 19) + x1) 44) <| if (M6_3 86 ((nI 19) + x1).toNatClampNeg) = (nI 5) then (gd (inb ((nI 19) + x1) 44) <| gd (inb ((nI 29) + x1) 44) <| gd (inb ((nI 29) + x1) 44) <| gd (inb ((nI 34) + x1) 44) <| gd (inb ((nI 9) + x1) 44) <| gd (inb ((nI 14) + x1) 44) <| some ((nI 1), (mset (mset (mset (mset M6_3 86 ((nI 19) + x1).toNatClampNeg (nI 0)) 86 ((nI 29) + x1).toNatClampNeg (((mset M6_3 86 ((nI 19) + x1).toNatClampNeg (nI 0)) 86 ((nI 29) + x1).toNatClampNeg) - (nI 1))) 86 ((nI 9) + x1).toNatClampNeg ((mset (mset M6_3 86 ((nI 19) + x1).toNatClampNeg (nI 0)) 86 ((nI 29) + x1).toNatClampNeg (((mset M6_3 86 ((nI 19) + x1).toNatClampNeg (nI 0)) 86 ((nI 29) + x1).toNatClampNeg) - (nI 1))) 86 ((nI 34) + x1).toNatClampNeg)) 86 ((nI 14) + x1).toNatClampNeg (nI 0)))) else (bd (f_X10_isNot (nI 5) M6_3) fun v51_6 M51_5 => gd (zo v51_6) <| some (v51_6, M51_5))))
set_option maxHeartbeats 4000000 in
set_option maxRecDepth 100000 in
theorem s_X10_right {l : Launch} {B : BT} (hA : bA B = false) {d : Nat} {r : Int32} {M' : Mm} {x1 : Int32} {M : Mm}  (h : f_X10_right x1 M = some (r, M')) : Con l B LY (d + 2) yX10_right cX10_right 2 (some .boolean) 0 0 [.ref 81, .int x1] 97 M (PI r M') := by
  refine con_of (by decide) (Nat.le_of_ble_eq_true rfl) ?_
  show GG l B LY (d + 2) yX10_right cX10_right 2 (some .boolean) 0 0 (PI r M') 97 0 0 0 [(0, .ref 81), (1, .int x1)] [] M
  rw [f_X10_right] at h
  refine g_aload_n dX10_right_0 rfl 0 rfl ?_
  obtain ⟨M1_1, eM1_1, h⟩ := bv_e h
  refine m_callVv (As := []) (st := []) (s_X10_good (d := d + 1) hA  eM1_1) rfl okX10 ck_X10_good w_1381 rfl (Nat.le_of_ble_eq_true rfl) dX10_right_1 ?_
  refine g_aload_n dX10_right_4 rfl 0 rfl ?_
  refine g_iload_n dX10_right_5 rfl 1 rfl ?_
  obtain ⟨v6_4, M6_3, eM6_3, h⟩ := bd_e h
  refine m_callVi (As := [.int x1]) (st := []) (s_X10_isCreeper (d := d + 0) hA  eM6_3) rfl okX10 ck_X10_isCreeper w_1572 rfl (Nat.le_of_ble_eq_true rfl) dX10_right_6 ?_
  refine g_if_ne (tgt := 18) dX10_right_9 (by decide) (fun c13 => ?_) (fun c13 => ?_)
  · replace h := ite_n c13 h
    refine g_aload_n dX10_right_18 rfl 0 rfl ?_
    refine m_getr (k := 17) okX10 rfl rfl (by decide) w_1286 rfl dX10_right_19 ?_
    refine g_bipush (v := (nI 8)) dX10_right_22 (by decide) ?_
    refine m_ialdL (k := 8) rfl rfl (by decide) dX10_right_24 ?_
    refine g_iconst (v := (nI 1)) dX10_right_25 (by decide) ?_
    refine g_icmp_ne (tgt := 36) dX10_right_26 (by decide) (fun c10 => ?_) (fun c10 => ?_)
    · replace h := ite_n c10 h
      refine g_aload_n dX10_right_36 rfl 0 rfl ?_
      refine m_getr (k := 17) okX10 rfl rfl (by decide) w_1286 rfl dX10_right_37 ?_
      refine g_bipush (v := (nI 19)) dX10_right_40 (by decide) ?_
      refine g_iload_n dX10_right_42 rfl 1 rfl ?_
      refine g_iadd dX10_right_43 ?_
      obtain ⟨hz, h⟩ := gd_s h
      refine m_iald rfl hz dX10_right_44 ?_
      refine g_iconst (v := (nI 5)) dX10_right_45 (by decide) ?_
      refine g_icmp_eq (tgt := 55) dX10_right_46 (by decide) (fun c7 => ?_) (fun c7 => ?_)
      · replace h := ite_p c7 h
        refine g_aload_n dX10_right_55 rfl 0 rfl ?_
        refine m_getr (k := 17) okX10 rfl rfl (by decide) w_1286 rfl dX10_right_56 ?_
        refine g_bipush (v := (nI 19)) dX10_right_59 (by decide) ?_
        refine g_iload_n dX10_right_61 rfl 1 rfl ?_
        refine g_iadd dX10_right_62 ?_
        refine g_iconst (v := (nI 0)) dX10_right_63 (by decide) ?_
        obtain ⟨hz, h⟩ := gd_s h
        refine m_iast hA rfl hz dX10_right_64 ?_
        refine g_aload_n dX10_right_65 rfl 0 rfl ?_
        refine m_getr (k := 17) okX10 rfl rfl (by decide) w_1286 rfl dX10_right_66 ?_
        refine g_bipush (v := (nI 29)) dX10_right_69 (by decide) ?_
        refine g_iload_n dX10_right_71 rfl 1 rfl ?_
        refine g_iadd dX10_right_72 ?_
        refine g_dup2 dX10_right_73 rfl rfl ?_
        obtain ⟨hz, h⟩ := gd_s h
        refine m_iald rfl hz dX10_right_74 ?_
        refine g_iconst (v := (nI 1)) dX10_right_75 (by decide) ?_
        refine g_isub dX10_right_76 ?_
        obtain ⟨hz, h⟩ := gd_s h
        refine m_iast hA rfl hz dX10_right_77 ?_
        refine g_aload_n dX10_right_78 rfl 0 rfl ?_
        refine m_getr (k := 17) okX10 rfl rfl (by decide) w_1286 rfl dX10_right_79 ?_
        refine g_bipush (v := (nI 9)) dX10_right_82 (by decide) ?_
        refine g_iload_n dX10_right_84 rfl 1 rfl ?_
        refine g_iadd dX10_right_85 ?_
        refine g_aload_n dX10_right_86 rfl 0 rfl ?_
        refine m_getr (k := 17) okX10 rfl rfl (by decide) w_1286 rfl dX10_right_87 ?_
        refine g_bipush (v := (nI 34)) dX10_right_90 (by decide) ?_
        refine g_iload_n dX10_right_92 rfl 1 rfl ?_
        refine g_iadd dX10_right_93 ?_
        obtain ⟨hz, h⟩ := gd_s h
        refine m_iald rfl hz dX10_right_94 ?_
        obtain ⟨hz, h⟩ := gd_s h
        refine m_iast hA rfl hz dX10_right_95 ?_
        refine g_aload_n dX10_right_96 rfl 0 rfl ?_
        refine m_getr (k := 17) okX10 rfl rfl (by decide) w_1286 rfl dX10_right_97 ?_
        refine g_bipush (v := (nI 14)) dX10_right_100 (by decide) ?_
        refine g_iload_n dX10_right_102 rfl 1 rfl ?_
        refine g_iadd dX10_right_103 ?_
        refine g_iconst (v := (nI 0)) dX10_right_104 (by decide) ?_
        obtain ⟨hz, h⟩ := gd_s h
        refine m_iast hA rfl hz dX10_right_105 ?_
        refine g_iconst (v := (nI 1)) dX10_right_106 (by decide) ?_
        exact g_zret rfl rfl (pi_of h) dX10_right_107
      · replace h := ite_n c7 h
        refine g_aload_n dX10_right_49 rfl 0 rfl ?_
        refine g_iconst (v := (nI 5)) dX10_right_50 (by decide) ?_
        obtain ⟨v51_6, M51_5, eM51_5, h⟩ := bd_e h
        refine m_callVi (As := [.int (nI 5)]) (st := []) (s_X10_isNot (d := d + 1) hA  eM51_5) rfl okX10 ck_X10_isNot w_1507 rfl (Nat.le_of_ble_eq_true rfl) dX10_right_51 ?_
        obtain ⟨hz, h⟩ := gd_s h
        exact g_zret rfl (nar_zo hz) (pi_of h) dX10_right_54
    · replace h := ite_p c10 h
      refine g_aload_n dX10_right_29 rfl 0 rfl ?_
      refine g_bipush (v := (nI 6)) dX10_right_30 (by decide) ?_
      obtain ⟨v32_9, M32_8, eM32_8, h⟩ := bd_e h
      refine m_callVi (As := [.int (nI 6)]) (st := []) (s_X10_isNot (d := d + 1) hA  eM32_8) rfl okX10 ck_X10_isNot w_1507 rfl (Nat.le_of_ble_eq_true rfl) dX10_right_32 ?_
      obtain ⟨hz, h⟩ := gd_s h
      exact g_zret rfl (nar_zo hz) (pi_of h) dX10_right_35
  · replace h := ite_p c13 h
    refine g_aload_n dX10_right_12 rfl 0 rfl ?_
    refine g_iconst (v := (nI 1)) dX10_right_13 (by decide) ?_
    obtain ⟨v14_12, M14_11, eM14_11, h⟩ := bd_e h
    refine m_callVi (As := [.int (nI 1)]) (st := []) (s_X10_isNot (d := d + 1) hA  eM14_11) rfl okX10 ck_X10_isNot w_1507 rfl (Nat.le_of_ble_eq_true rfl) dX10_right_14 ?_
    obtain ⟨hz, h⟩ := gd_s h
    exact g_zret rfl (nar_zo hz) (pi_of h) dX10_right_17
theorem ck_X10_right : CKV yX10_right cX10_right 2 (some .boolean) 1 := ⟨⟨by decide, by decide, by decide +kernel⟩, w_1579, w_81, ⟨w_1577, w_1578⟩, by decide⟩
theorem dX10_about_0 : decode cX10_about 0 = .ok (.aload_n 0, 1) := by decide +kernel
theorem dX10_about_1 : decode cX10_about 1 = .ok (.invokevirtual 156, 3) := by decide +kernel
theorem dX10_about_4 : decode cX10_about 4 = .ok (.aload_n 0, 1) := by decide +kernel
theorem dX10_about_5 : decode cX10_about 5 = .ok (.iload_n 1, 1) := by decide +kernel
theorem dX10_about_6 : decode cX10_about 6 = .ok (.invokevirtual 278, 3) := by decide +kernel
theorem dX10_about_9 : decode cX10_about 9 = .ok (.ifCond .eq 12, 3) := by decide +kernel
theorem dX10_about_12 : decode cX10_about 12 = .ok (.iload_n 2, 1) := by decide +kernel
theorem dX10_about_13 : decode cX10_about 13 = .ok (.iconst 0, 1) := by decide +kernel
theorem dX10_about_14 : decode cX10_about 14 = .ok (.iconst 5, 1) := by decide +kernel
theorem dX10_about_15 : decode cX10_about 15 = .ok (.invokestatic 144, 3) := by decide +kernel
theorem dX10_about_18 : decode cX10_about 18 = .ok (.ifCond .ne 9, 3) := by decide +kernel
theorem dX10_about_21 : decode cX10_about 21 = .ok (.aload_n 0, 1) := by decide +kernel
theorem dX10_about_22 : decode cX10_about 22 = .ok (.iconst 1, 1) := by decide +kernel
theorem dX10_about_23 : decode cX10_about 23 = .ok (.invokevirtual 159, 3) := by decide +kernel
theorem dX10_about_26 : decode cX10_about 26 = .ok (.ireturn, 1) := by decide +kernel
theorem dX10_about_27 : decode cX10_about 27 = .ok (.iload_n 2, 1) := by decide +kernel
theorem dX10_about_28 : decode cX10_about 28 = .ok (.tableswitch 86 0 4 #[36, 46, 56, 66, 76], 36) := by decide +kernel
theorem dX10_about_64 : decode cX10_about 64 = .ok (.aload_n 0, 1) := by decide +kernel
theorem dX10_about_65 : decode cX10_about 65 = .ok (.getfield 26, 3) := by decide +kernel
theorem dX10_about_68 : decode cX10_about 68 = .ok (.bipush 9, 2) := by decide +kernel
theorem dX10_about_70 : decode cX10_about 70 = .ok (.iload_n 1, 1) := by decide +kernel
theorem dX10_about_71 : decode cX10_about 71 = .ok (.iadd, 1) := by decide +kernel
theorem dX10_about_72 : decode cX10_about 72 = .ok (.iaload, 1) := by decide +kernel
theorem dX10_about_73 : decode cX10_about 73 = .ok (.ireturn, 1) := by decide +kernel
theorem dX10_about_74 : decode cX10_about 74 = .ok (.aload_n 0, 1) := by decide +kernel
theorem dX10_about_75 : decode cX10_about 75 = .ok (.getfield 26, 3) := by decide +kernel
theorem dX10_about_78 : decode cX10_about 78 = .ok (.bipush 14, 2) := by decide +kernel
theorem dX10_about_80 : decode cX10_about 80 = .ok (.iload_n 1, 1) := by decide +kernel
theorem dX10_about_81 : decode cX10_about 81 = .ok (.iadd, 1) := by decide +kernel
theorem dX10_about_82 : decode cX10_about 82 = .ok (.iaload, 1) := by decide +kernel
theorem dX10_about_83 : decode cX10_about 83 = .ok (.ireturn, 1) := by decide +kernel
theorem dX10_about_84 : decode cX10_about 84 = .ok (.aload_n 0, 1) := by decide +kernel
theorem dX10_about_85 : decode cX10_about 85 = .ok (.getfield 26, 3) := by decide +kernel
theorem dX10_about_88 : decode cX10_about 88 = .ok (.bipush 19, 2) := by decide +kernel
theorem dX10_about_90 : decode cX10_about 90 = .ok (.iload_n 1, 1) := by decide +kernel
theorem dX10_about_91 : decode cX10_about 91 = .ok (.iadd, 1) := by decide +kernel
theorem dX10_about_92 : decode cX10_about 92 = .ok (.iaload, 1) := by decide +kernel
theorem dX10_about_93 : decode cX10_about 93 = .ok (.ireturn, 1) := by decide +kernel
theorem dX10_about_94 : decode cX10_about 94 = .ok (.aload_n 0, 1) := by decide +kernel
theorem dX10_about_95 : decode cX10_about 95 = .ok (.getfield 26, 3) := by decide +kernel
theorem dX10_about_98 : decode cX10_about 98 = .ok (.bipush 24, 2) := by decide +kernel
theorem dX10_about_100 : decode cX10_about 100 = .ok (.iload_n 1, 1) := by decide +kernel
theorem dX10_about_101 : decode cX10_about 101 = .ok (.iadd, 1) := by decide +kernel
theorem dX10_about_102 : decode cX10_about 102 = .ok (.iaload, 1) := by decide +kernel
theorem dX10_about_103 : decode cX10_about 103 = .ok (.ireturn, 1) := by decide +kernel
theorem dX10_about_104 : decode cX10_about 104 = .ok (.aload_n 0, 1) := by decide +kernel
theorem dX10_about_105 : decode cX10_about 105 = .ok (.getfield 26, 3) := by decide +kernel
theorem dX10_about_108 : decode cX10_about 108 = .ok (.bipush 29, 2) := by decide +kernel
theorem dX10_about_110 : decode cX10_about 110 = .ok (.iload_n 1, 1) := by decide +kernel
theorem dX10_about_111 : decode cX10_about 111 = .ok (.iadd, 1) := by decide +kernel
theorem dX10_about_112 : decode cX10_about 112 = .ok (.iaload, 1) := by decide +kernel
theorem dX10_about_113 : decode cX10_about 113 = .ok (.ireturn, 1) := by decide +kernel
theorem dX10_about_114 : decode cX10_about 114 = .ok (.aload_n 0, 1) := by decide +kernel
theorem dX10_about_115 : decode cX10_about 115 = .ok (.getfield 26, 3) := by decide +kernel
theorem dX10_about_118 : decode cX10_about 118 = .ok (.bipush 8, 2) := by decide +kernel
theorem dX10_about_120 : decode cX10_about 120 = .ok (.iaload, 1) := by decide +kernel
theorem dX10_about_121 : decode cX10_about 121 = .ok (.ifCond .ne 15, 3) := by decide +kernel
theorem dX10_about_124 : decode cX10_about 124 = .ok (.aload_n 0, 1) := by decide +kernel
theorem dX10_about_125 : decode cX10_about 125 = .ok (.iload_n 1, 1) := by decide +kernel
theorem dX10_about_126 : decode cX10_about 126 = .ok (.invokevirtual 240, 3) := by decide +kernel
theorem dX10_about_129 : decode cX10_about 129 = .ok (.ifCond .eq 7, 3) := by decide +kernel
theorem dX10_about_132 : decode cX10_about 132 = .ok (.iconst 1, 1) := by decide +kernel
theorem dX10_about_133 : decode cX10_about 133 = .ok (.goto 4, 3) := by decide +kernel
theorem dX10_about_136 : decode cX10_about 136 = .ok (.iconst 0, 1) := by decide +kernel
theorem dX10_about_137 : decode cX10_about 137 = .ok (.ireturn, 1) := by decide +kernel
def f_X10_about (x1 : Int32) (x2 : Int32) (M : Mm) : Option (Int32 × Mm) :=
  bv (f_X10_good  M) fun M1_1 => bd (f_X10_isCreeper x1 M1_1) fun v6_4 M6_3 => jn (fun (M5 : Mm) => bd (f_X10_no (nI 1) M5) fun v23_8 M23_7 => some (v23_8, M23_7)) fun j6 => if v6_4 = 0 then (j6  M6_3) else (bd (f_X10_within x2 (nI 0) (nI 5) M6_3) fun v15_10 M15_9 => if v15_10 = 0 then (j6  M15_9) else (if x2 = (nI 0) then (gd (inb ((nI 9) + x1) 44) <| some ((M15_9 86 ((nI 9) + x1).toNatClampNeg), M15_9)) else (if x2 = (nI 1) then (gd (inb ((nI 14) + x1) 44) <| some ((M15_9 86 ((nI 14) + x1).toNatClampNeg), M15_9)) else (if x2 = (nI 2) then (gd (inb ((nI 19) + x1) 44) <| some ((M15_9 86 ((nI 19) + x1).toNatClampNeg), M15_9)) else (if x2 = (nI 3) then (gd (inb ((nI 24) + x1) 44) <| some ((M15_9 86 ((nI 24) + x1).toNatClampNeg), M15_9)) else (if x2 = (nI 4) then (gd (inb ((nI 29) + x1) 44) <| some ((M15_9 86 ((nI 29) + x1).toNatClampNeg), M15_9)) else (jn (fun (M16 : Mm) => some ((nI 0), M16)) fun j17 => if (M15_9 86 8) = 0 then (bd (f_X10_goesNow x1 M15_9) fun v126_19 M126_18 => if v126_19 = 0 then (j17  M126_18) else (some ((nI 1), M126_18))) else (j17  M15_9))))))))
set_option maxHeartbeats 4000000 in
set_option maxRecDepth 100000 in
theorem s_X10_about {l : Launch} {B : BT} (hA : bA B = false) {d : Nat} {r : Int32} {M' : Mm} {x1 : Int32} {x2 : Int32} {M : Mm}  (h : f_X10_about x1 x2 M = some (r, M')) : Con l B LY (d + 2) yX10_about cX10_about 3 (some .int) 0 0 [.ref 81, .int x1, .int x2] 97 M (PI r M') := by
  refine con_of (by decide) (Nat.le_of_ble_eq_true rfl) ?_
  show GG l B LY (d + 2) yX10_about cX10_about 3 (some .int) 0 0 (PI r M') 97 0 0 0 [(0, .ref 81), (1, .int x1), (2, .int x2)] [] M
  rw [f_X10_about] at h
  refine g_aload_n dX10_about_0 rfl 0 rfl ?_
  obtain ⟨M1_1, eM1_1, h⟩ := bv_e h
  refine m_callVv (As := []) (st := []) (s_X10_good (d := d + 1) hA  eM1_1) rfl okX10 ck_X10_good w_1381 rfl (Nat.le_of_ble_eq_true rfl) dX10_about_1 ?_
  refine g_aload_n dX10_about_4 rfl 0 rfl ?_
  refine g_iload_n dX10_about_5 rfl 1 rfl ?_
  obtain ⟨v6_4, M6_3, eM6_3, h⟩ := bd_e h
  refine m_callVi (As := [.int x1]) (st := []) (s_X10_isCreeper (d := d + 0) hA  eM6_3) rfl okX10 ck_X10_isCreeper w_1572 rfl (Nat.le_of_ble_eq_true rfl) dX10_about_6 ?_
  obtain ⟨j6, ej6, h⟩ := jn_e h
  have hj6 : ∀ (M5 : Mm), j6 M5 = some (r, M') → GG l B LY (d + 2) yX10_about cX10_about 3 (some .int) 0 0 (PI r M') 97 0 0 21 [(0, .ref 81)] [] M5 := by
    intro M5 h
    rw [ej6] at h
    refine g_aload_n dX10_about_21 rfl 0 rfl ?_
    refine g_iconst (v := (nI 1)) dX10_about_22 (by decide) ?_
    obtain ⟨v23_8, M23_7, eM23_7, h⟩ := bd_e h
    refine m_callVi (As := [.int (nI 1)]) (st := []) (s_X10_no (d := d + 1) hA  eM23_7) rfl okX10 ck_X10_no w_1388 rfl (Nat.le_of_ble_eq_true rfl) dX10_about_23 ?_
    exact g_zret rfl rfl (pi_of h) dX10_about_26
  refine g_if_eq (tgt := 21) dX10_about_9 (by decide) (fun c23 => ?_) (fun c23 => ?_)
  · replace h := ite_p c23 h
    refine g_sub [0] (lv' := [(0, .ref 81)]) rfl ?_
    exact hj6  _ h
  · replace h := ite_n c23 h
    refine g_iload_n dX10_about_12 rfl 2 rfl ?_
    refine g_iconst (v := (nI 0)) dX10_about_13 (by decide) ?_
    refine g_iconst (v := (nI 5)) dX10_about_14 (by decide) ?_
    obtain ⟨v15_10, M15_9, eM15_9, h⟩ := bd_e h
    refine m_callSi (As := [.int x2, .int (nI 0), .int (nI 5)]) (st := []) (s_X10_within (d := d + 1) hA  eM15_9) ck_X10_within w_1385 rfl (Nat.le_of_ble_eq_true rfl) dX10_about_15 ?_
    refine g_if_ne (tgt := 27) dX10_about_18 (by decide) (fun c22 => ?_) (fun c22 => ?_)
    · replace h := ite_n c22 h
      refine g_iload_n dX10_about_27 rfl 2 rfl ?_
      by_cases c11 : x2 = (nI 0)
      · replace h := ite_p c11 h
        refine g_tabIn (tgt := 64) dX10_about_28 (by rw [c11]; decide) (by rw [c11]; decide) (off := 36) (by rw [c11]; rfl) (by decide) ?_
        refine g_aload_n dX10_about_64 rfl 0 rfl ?_
        refine m_getr (k := 17) okX10 rfl rfl (by decide) w_1286 rfl dX10_about_65 ?_
        refine g_bipush (v := (nI 9)) dX10_about_68 (by decide) ?_
        refine g_iload_n dX10_about_70 rfl 1 rfl ?_
        refine g_iadd dX10_about_71 ?_
        obtain ⟨hz, h⟩ := gd_s h
        refine m_iald rfl hz dX10_about_72 ?_
        exact g_zret rfl rfl (pi_of h) dX10_about_73
      replace h := ite_n c11 h
      by_cases c12 : x2 = (nI 1)
      · replace h := ite_p c12 h
        refine g_tabIn (tgt := 74) dX10_about_28 (by rw [c12]; decide) (by rw [c12]; decide) (off := 46) (by rw [c12]; rfl) (by decide) ?_
        refine g_aload_n dX10_about_74 rfl 0 rfl ?_
        refine m_getr (k := 17) okX10 rfl rfl (by decide) w_1286 rfl dX10_about_75 ?_
        refine g_bipush (v := (nI 14)) dX10_about_78 (by decide) ?_
        refine g_iload_n dX10_about_80 rfl 1 rfl ?_
        refine g_iadd dX10_about_81 ?_
        obtain ⟨hz, h⟩ := gd_s h
        refine m_iald rfl hz dX10_about_82 ?_
        exact g_zret rfl rfl (pi_of h) dX10_about_83
      replace h := ite_n c12 h
      by_cases c13 : x2 = (nI 2)
      · replace h := ite_p c13 h
        refine g_tabIn (tgt := 84) dX10_about_28 (by rw [c13]; decide) (by rw [c13]; decide) (off := 56) (by rw [c13]; rfl) (by decide) ?_
        refine g_aload_n dX10_about_84 rfl 0 rfl ?_
        refine m_getr (k := 17) okX10 rfl rfl (by decide) w_1286 rfl dX10_about_85 ?_
        refine g_bipush (v := (nI 19)) dX10_about_88 (by decide) ?_
        refine g_iload_n dX10_about_90 rfl 1 rfl ?_
        refine g_iadd dX10_about_91 ?_
        obtain ⟨hz, h⟩ := gd_s h
        refine m_iald rfl hz dX10_about_92 ?_
        exact g_zret rfl rfl (pi_of h) dX10_about_93
      replace h := ite_n c13 h
      by_cases c14 : x2 = (nI 3)
      · replace h := ite_p c14 h
        refine g_tabIn (tgt := 94) dX10_about_28 (by rw [c14]; decide) (by rw [c14]; decide) (off := 66) (by rw [c14]; rfl) (by decide) ?_
        refine g_aload_n dX10_about_94 rfl 0 rfl ?_
        refine m_getr (k := 17) okX10 rfl rfl (by decide) w_1286 rfl dX10_about_95 ?_
        refine g_bipush (v := (nI 24)) dX10_about_98 (by decide) ?_
        refine g_iload_n dX10_about_100 rfl 1 rfl ?_
        refine g_iadd dX10_about_101 ?_
        obtain ⟨hz, h⟩ := gd_s h
        refine m_iald rfl hz dX10_about_102 ?_
        exact g_zret rfl rfl (pi_of h) dX10_about_103
      replace h := ite_n c14 h
      by_cases c15 : x2 = (nI 4)
      · replace h := ite_p c15 h
        refine g_tabIn (tgt := 104) dX10_about_28 (by rw [c15]; decide) (by rw [c15]; decide) (off := 76) (by rw [c15]; rfl) (by decide) ?_
        refine g_aload_n dX10_about_104 rfl 0 rfl ?_
        refine m_getr (k := 17) okX10 rfl rfl (by decide) w_1286 rfl dX10_about_105 ?_
        refine g_bipush (v := (nI 29)) dX10_about_108 (by decide) ?_
        refine g_iload_n dX10_about_110 rfl 1 rfl ?_
        refine g_iadd dX10_about_111 ?_
        obtain ⟨hz, h⟩ := gd_s h
        refine m_iald rfl hz dX10_about_112 ?_
        exact g_zret rfl rfl (pi_of h) dX10_about_113
      replace h := ite_n c15 h
      have tc11 : x2.toInt ≠ 0 := fun e => c11 (Int32.toInt_inj.mp (e.trans (by decide)))
      have tc12 : x2.toInt ≠ 1 := fun e => c12 (Int32.toInt_inj.mp (e.trans (by decide)))
      have tc13 : x2.toInt ≠ 2 := fun e => c13 (Int32.toInt_inj.mp (e.trans (by decide)))
      have tc14 : x2.toInt ≠ 3 := fun e => c14 (Int32.toInt_inj.mp (e.trans (by decide)))
      have tc15 : x2.toInt ≠ 4 := fun e => c15 (Int32.toInt_inj.mp (e.trans (by decide)))
      refine g_tabOut (tgt := 114) dX10_about_28 (by omega) (by decide) ?_
      refine g_aload_n dX10_about_114 rfl 0 rfl ?_
      refine m_getr (k := 17) okX10 rfl rfl (by decide) w_1286 rfl dX10_about_115 ?_
      refine g_bipush (v := (nI 8)) dX10_about_118 (by decide) ?_
      refine m_ialdL (k := 8) rfl rfl (by decide) dX10_about_120 ?_
      obtain ⟨j17, ej17, h⟩ := jn_e h
      have hj17 : ∀ (M16 : Mm), j17 M16 = some (r, M') → GG l B LY (d + 2) yX10_about cX10_about 3 (some .int) 0 0 (PI r M') 97 0 0 136 [] [] M16 := by
        intro M16 h
        rw [ej17] at h
        refine g_iconst (v := (nI 0)) dX10_about_136 (by decide) ?_
        exact g_zret rfl rfl (pi_of h) dX10_about_137
      refine g_if_ne (tgt := 136) dX10_about_121 (by decide) (fun c21 => ?_) (fun c21 => ?_)
      · replace h := ite_n c21 h
        refine g_sub [] (lv' := []) rfl ?_
        exact hj17  _ h
      · replace h := ite_p c21 h
        refine g_aload_n dX10_about_124 rfl 0 rfl ?_
        refine g_iload_n dX10_about_125 rfl 1 rfl ?_
        obtain ⟨v126_19, M126_18, eM126_18, h⟩ := bd_e h
        refine m_callVi (As := [.int x1]) (st := []) (s_X10_goesNow (d := d + 0) hA  eM126_18) rfl okX10 ck_X10_goesNow w_1520 rfl (Nat.le_of_ble_eq_true rfl) dX10_about_126 ?_
        refine g_if_eq (tgt := 136) dX10_about_129 (by decide) (fun c20 => ?_) (fun c20 => ?_)
        · replace h := ite_p c20 h
          refine g_sub [] (lv' := []) rfl ?_
          exact hj17  _ h
        · replace h := ite_n c20 h
          refine g_iconst (v := (nI 1)) dX10_about_132 (by decide) ?_
          refine g_goto (tgt := 137) dX10_about_133 (by decide) ?_
          exact g_zret rfl rfl (pi_of h) dX10_about_137
    · replace h := ite_p c22 h
      refine g_sub [0] (lv' := [(0, .ref 81)]) rfl ?_
      exact hj6  _ h
theorem ck_X10_about : CKV yX10_about cX10_about 3 (some .int) 2 := ⟨⟨by decide, by decide, by decide +kernel⟩, w_1583, w_81, ⟨w_1581, w_1582⟩, by decide⟩
theorem dX10_said_0 : decode cX10_said 0 = .ok (.aload_n 0, 1) := by decide +kernel
theorem dX10_said_1 : decode cX10_said 1 = .ok (.getfield 26, 3) := by decide +kernel
theorem dX10_said_4 : decode cX10_said 4 = .ok (.iconst 0, 1) := by decide +kernel
theorem dX10_said_5 : decode cX10_said 5 = .ok (.iaload, 1) := by decide +kernel
theorem dX10_said_6 : decode cX10_said 6 = .ok (.istore_n 2, 1) := by decide +kernel
theorem dX10_said_7 : decode cX10_said 7 = .ok (.aload_n 0, 1) := by decide +kernel
theorem dX10_said_8 : decode cX10_said 8 = .ok (.getfield 26, 3) := by decide +kernel
theorem dX10_said_11 : decode cX10_said 11 = .ok (.iconst 1, 1) := by decide +kernel
theorem dX10_said_12 : decode cX10_said 12 = .ok (.iaload, 1) := by decide +kernel
theorem dX10_said_13 : decode cX10_said 13 = .ok (.istore_n 3, 1) := by decide +kernel
theorem dX10_said_14 : decode cX10_said 14 = .ok (.iconst 0, 1) := by decide +kernel
theorem dX10_said_15 : decode cX10_said 15 = .ok (.istore 4, 2) := by decide +kernel
theorem dX10_said_17 : decode cX10_said 17 = .ok (.iload_n 3, 1) := by decide +kernel
theorem dX10_said_18 : decode cX10_said 18 = .ok (.aload_n 0, 1) := by decide +kernel
theorem dX10_said_19 : decode cX10_said 19 = .ok (.getfield 20, 3) := by decide +kernel
theorem dX10_said_22 : decode cX10_said 22 = .ok (.bipush 16, 2) := by decide +kernel
theorem dX10_said_24 : decode cX10_said 24 = .ok (.iconst 4, 1) := by decide +kernel
theorem dX10_said_25 : decode cX10_said 25 = .ok (.iload_n 2, 1) := by decide +kernel
theorem dX10_said_26 : decode cX10_said 26 = .ok (.imul, 1) := by decide +kernel
theorem dX10_said_27 : decode cX10_said 27 = .ok (.iadd, 1) := by decide +kernel
theorem dX10_said_28 : decode cX10_said 28 = .ok (.iload 4, 2) := by decide +kernel
theorem dX10_said_30 : decode cX10_said 30 = .ok (.iadd, 1) := by decide +kernel
theorem dX10_said_31 : decode cX10_said 31 = .ok (.iaload, 1) := by decide +kernel
theorem dX10_said_32 : decode cX10_said 32 = .ok (.if_icmp .lt 42, 3) := by decide +kernel
theorem dX10_said_35 : decode cX10_said 35 = .ok (.iload 4, 2) := by decide +kernel
theorem dX10_said_37 : decode cX10_said 37 = .ok (.iconst 1, 1) := by decide +kernel
theorem dX10_said_38 : decode cX10_said 38 = .ok (.iadd, 1) := by decide +kernel
theorem dX10_said_39 : decode cX10_said 39 = .ok (.aload_n 0, 1) := by decide +kernel
theorem dX10_said_40 : decode cX10_said 40 = .ok (.getfield 20, 3) := by decide +kernel
theorem dX10_said_43 : decode cX10_said 43 = .ok (.bipush 11, 2) := by decide +kernel
theorem dX10_said_45 : decode cX10_said 45 = .ok (.iload_n 2, 1) := by decide +kernel
theorem dX10_said_46 : decode cX10_said 46 = .ok (.iadd, 1) := by decide +kernel
theorem dX10_said_47 : decode cX10_said 47 = .ok (.iaload, 1) := by decide +kernel
theorem dX10_said_48 : decode cX10_said 48 = .ok (.if_icmp .ge 26, 3) := by decide +kernel
theorem dX10_said_51 : decode cX10_said 51 = .ok (.iload_n 3, 1) := by decide +kernel
theorem dX10_said_52 : decode cX10_said 52 = .ok (.aload_n 0, 1) := by decide +kernel
theorem dX10_said_53 : decode cX10_said 53 = .ok (.getfield 20, 3) := by decide +kernel
theorem dX10_said_56 : decode cX10_said 56 = .ok (.bipush 16, 2) := by decide +kernel
theorem dX10_said_58 : decode cX10_said 58 = .ok (.iconst 4, 1) := by decide +kernel
theorem dX10_said_59 : decode cX10_said 59 = .ok (.iload_n 2, 1) := by decide +kernel
theorem dX10_said_60 : decode cX10_said 60 = .ok (.imul, 1) := by decide +kernel
theorem dX10_said_61 : decode cX10_said 61 = .ok (.iadd, 1) := by decide +kernel
theorem dX10_said_62 : decode cX10_said 62 = .ok (.iload 4, 2) := by decide +kernel
theorem dX10_said_64 : decode cX10_said 64 = .ok (.iadd, 1) := by decide +kernel
theorem dX10_said_65 : decode cX10_said 65 = .ok (.iaload, 1) := by decide +kernel
theorem dX10_said_66 : decode cX10_said 66 = .ok (.isub, 1) := by decide +kernel
theorem dX10_said_67 : decode cX10_said 67 = .ok (.istore_n 3, 1) := by decide +kernel
theorem dX10_said_68 : decode cX10_said 68 = .ok (.iinc 4 1, 3) := by decide +kernel
theorem dX10_said_71 : decode cX10_said 71 = .ok (.goto (-54), 3) := by decide +kernel
theorem dX10_said_74 : decode cX10_said 74 = .ok (.iload_n 1, 1) := by decide +kernel
theorem dX10_said_75 : decode cX10_said 75 = .ok (.iconst 1, 1) := by decide +kernel
theorem dX10_said_76 : decode cX10_said 76 = .ok (.if_icmp .ne 8, 3) := by decide +kernel
theorem dX10_said_79 : decode cX10_said 79 = .ok (.iload 4, 2) := by decide +kernel
theorem dX10_said_81 : decode cX10_said 81 = .ok (.goto 4, 3) := by decide +kernel
theorem dX10_said_84 : decode cX10_said 84 = .ok (.iload_n 3, 1) := by decide +kernel
theorem dX10_said_85 : decode cX10_said 85 = .ok (.ireturn, 1) := by decide +kernel
def lp_X10_said_17 (y1 : Int32) (y2 : Int32) (k74 : Int32 → Int32 → Mm → Option (Int32 × Mm)) : Nat → Int32 → Int32 → Mm → Option (Int32 × Mm)
  | 0, _, _, _ => none
  | n + 1, y3, y4, M =>
    gd (inb (((nI 16) + ((nI 4) * y2)) + y4) 141) <| if y3 < (M 84 (((nI 16) + ((nI 4) * y2)) + y4).toNatClampNeg) then (k74 y3 y4 M) else (gd (inb ((nI 11) + y2) 141) <| if (M 84 ((nI 11) + y2).toNatClampNeg) ≤ (y4 + (nI 1)) then (k74 y3 y4 M) else (gd (inb (((nI 16) + ((nI 4) * y2)) + y4) 141) <| lt ((y3 - (M 84 (((nI 16) + ((nI 4) * y2)) + y4).toNatClampNeg))) fun t1 => lp_X10_said_17 y1 y2 k74 n t1 (y4 + (nI 1)) M))
def f_X10_said (x1 : Int32) (M : Mm) : Option (Int32 × Mm) :=
  lp_X10_said_17 x1 (M 86 0) (fun (u4 : Int32) (u5 : Int32) (M6 : Mm) => if x1 = (nI 1) then (some (u5, M6)) else (some (u4, M6))) N0 (M 86 1) (nI 0) M
set_option maxHeartbeats 4000000 in
set_option maxRecDepth 100000 in
theorem sl_X10_said_17 {l : Launch} {B : BT} (hA : bA B = false) {d : Nat} {r : Int32} {M' : Mm} {y1 : Int32} {y2 : Int32}  {k74 : Int32 → Int32 → Mm → Option (Int32 × Mm)} (hk74 : ∀ (z3 : Int32) (z4 : Int32) (M9 : Mm), k74 z3 z4 M9 = some (r, M') → GG l B LY (d + 0) yX10_said cX10_said 5 (some .int) 0 0 (PI r M') 97 0 0 74 [(1, .int y1), (3, .int z3), (4, .int z4)] [] M9) :
    ∀ (n : Nat) (y3 : Int32) (y4 : Int32) (M : Mm), lp_X10_said_17 y1 y2 k74 n y3 y4 M = some (r, M') → GG l B LY (d + 0) yX10_said cX10_said 5 (some .int) 0 0 (PI r M') 97 0 0 17 [(0, .ref 81), (1, .int y1), (2, .int y2), (3, .int y3), (4, .int y4)] [] M := by
  intro n
  induction n with
  | zero => intro y3 y4 M h; cases h
  | succ n ih =>
    intro y3 y4 M h
    rw [lp_X10_said_17] at h
    refine g_iload_n dX10_said_17 rfl 3 rfl ?_
    refine g_aload_n dX10_said_18 rfl 0 rfl ?_
    refine m_getr (k := 15) okX10 rfl rfl (by decide) w_1284 rfl dX10_said_19 ?_
    refine g_bipush (v := (nI 16)) dX10_said_22 (by decide) ?_
    refine g_iconst (v := (nI 4)) dX10_said_24 (by decide) ?_
    refine g_iload_n dX10_said_25 rfl 2 rfl ?_
    refine g_imul dX10_said_26 ?_
    refine g_iadd dX10_said_27 ?_
    refine g_iload dX10_said_28 4 rfl ?_
    refine g_iadd dX10_said_30 ?_
    obtain ⟨hz, h⟩ := gd_s h
    refine m_iald rfl hz dX10_said_31 ?_
    refine g_icmp_lt (tgt := 74) dX10_said_32 (by decide) (fun c3 => ?_) (fun c3 => ?_)
    · replace h := ite_p c3 h
      refine g_sub [1, 3, 4] (lv' := [(1, .int y1), (3, .int y3), (4, .int y4)]) rfl ?_
      exact hk74 _ _ _ h
    · replace h := ite_n c3 h
      refine g_iload dX10_said_35 4 rfl ?_
      refine g_iconst (v := (nI 1)) dX10_said_37 (by decide) ?_
      refine g_iadd dX10_said_38 ?_
      refine g_aload_n dX10_said_39 rfl 0 rfl ?_
      refine m_getr (k := 15) okX10 rfl rfl (by decide) w_1284 rfl dX10_said_40 ?_
      refine g_bipush (v := (nI 11)) dX10_said_43 (by decide) ?_
      refine g_iload_n dX10_said_45 rfl 2 rfl ?_
      refine g_iadd dX10_said_46 ?_
      obtain ⟨hz, h⟩ := gd_s h
      refine m_iald rfl hz dX10_said_47 ?_
      refine g_icmp_ge (tgt := 74) dX10_said_48 (by decide) (fun c2 => ?_) (fun c2 => ?_)
      · replace h := ite_p c2 h
        refine g_sub [1, 3, 4] (lv' := [(1, .int y1), (3, .int y3), (4, .int y4)]) rfl ?_
        exact hk74 _ _ _ h
      · replace h := ite_n c2 h
        refine g_iload_n dX10_said_51 rfl 3 rfl ?_
        refine g_aload_n dX10_said_52 rfl 0 rfl ?_
        refine m_getr (k := 15) okX10 rfl rfl (by decide) w_1284 rfl dX10_said_53 ?_
        refine g_bipush (v := (nI 16)) dX10_said_56 (by decide) ?_
        refine g_iconst (v := (nI 4)) dX10_said_58 (by decide) ?_
        refine g_iload_n dX10_said_59 rfl 2 rfl ?_
        refine g_imul dX10_said_60 ?_
        refine g_iadd dX10_said_61 ?_
        refine g_iload dX10_said_62 4 rfl ?_
        refine g_iadd dX10_said_64 ?_
        obtain ⟨hz, h⟩ := gd_s h
        refine m_iald rfl hz dX10_said_65 ?_
        refine g_isub dX10_said_66 ?_
        obtain ⟨t1, et1, h⟩ := lt_e h
        refine g_cuti et1 ?_
        refine g_istore_n (lv' := [(3, .int t1), (0, .ref 81), (1, .int y1), (2, .int y2), (4, .int y4)]) dX10_said_67 rfl (by decide) rfl ?_
        refine g_iinc (v := (y4 + (nI 1))) (lv' := [(4, .int (y4 + (nI 1))), (3, .int t1), (0, .ref 81), (1, .int y1), (2, .int y2)]) dX10_said_68 4 rfl rfl (by decide) rfl ?_
        refine g_goto (tgt := 17) dX10_said_71 (by decide) ?_
        refine g_sub [2, 3, 4, 1, 0] (lv' := [(0, .ref 81), (1, .int y1), (2, .int y2), (3, .int t1), (4, .int (y4 + (nI 1)))]) rfl ?_
        exact ih _ _  _ h
set_option maxHeartbeats 4000000 in
set_option maxRecDepth 100000 in
theorem s_X10_said {l : Launch} {B : BT} (hA : bA B = false) {d : Nat} {r : Int32} {M' : Mm} {x1 : Int32} {M : Mm}  (h : f_X10_said x1 M = some (r, M')) : Con l B LY (d + 0) yX10_said cX10_said 5 (some .int) 0 0 [.ref 81, .int x1] 97 M (PI r M') := by
  refine con_of (by decide) (Nat.le_of_ble_eq_true rfl) ?_
  show GG l B LY (d + 0) yX10_said cX10_said 5 (some .int) 0 0 (PI r M') 97 0 0 0 [(0, .ref 81), (1, .int x1)] [] M
  rw [f_X10_said] at h
  refine g_aload_n dX10_said_0 rfl 0 rfl ?_
  refine m_getr (k := 17) okX10 rfl rfl (by decide) w_1286 rfl dX10_said_1 ?_
  refine g_iconst (v := (nI 0)) dX10_said_4 (by decide) ?_
  refine m_ialdL (k := 0) rfl rfl (by decide) dX10_said_5 ?_
  refine g_istore_n (lv' := [(2, .int (M 86 0)), (0, .ref 81), (1, .int x1)]) dX10_said_6 rfl (by decide) rfl ?_
  refine g_aload_n dX10_said_7 rfl 1 rfl ?_
  refine m_getr (k := 17) okX10 rfl rfl (by decide) w_1286 rfl dX10_said_8 ?_
  refine g_iconst (v := (nI 1)) dX10_said_11 (by decide) ?_
  refine m_ialdL (k := 1) rfl rfl (by decide) dX10_said_12 ?_
  refine g_istore_n (lv' := [(3, .int (M 86 1)), (2, .int (M 86 0)), (0, .ref 81), (1, .int x1)]) dX10_said_13 rfl (by decide) rfl ?_
  refine g_iconst (v := (nI 0)) dX10_said_14 (by decide) ?_
  refine g_istore (lv' := [(4, .int (nI 0)), (3, .int (M 86 1)), (2, .int (M 86 0)), (0, .ref 81), (1, .int x1)]) dX10_said_15 (by decide) rfl ?_
  refine g_sub [3, 4, 2, 1, 0] (lv' := [(0, .ref 81), (1, .int x1), (2, .int (M 86 0)), (3, .int (M 86 1)), (4, .int (nI 0))]) rfl ?_
  refine sl_X10_said_17 hA  ?_ _ _ _ _ h
  · intro u4 u5 M6 h
    refine g_iload_n dX10_said_74 rfl 0 rfl ?_
    refine g_iconst (v := (nI 1)) dX10_said_75 (by decide) ?_
    refine g_icmp_ne (tgt := 84) dX10_said_76 (by decide) (fun c7 => ?_) (fun c7 => ?_)
    · replace h := ite_n c7 h
      refine g_iload_n dX10_said_84 rfl 1 rfl ?_
      exact g_zret rfl rfl (pi_of h) dX10_said_85
    · replace h := ite_p c7 h
      refine g_iload dX10_said_79 2 rfl ?_
      refine g_goto (tgt := 85) dX10_said_81 (by decide) ?_
      exact g_zret rfl rfl (pi_of h) dX10_said_85
theorem ck_X10_said : CKV yX10_said cX10_said 5 (some .int) 1 := ⟨⟨by decide, by decide, by decide +kernel⟩, w_1591, w_81, ⟨w_1590, w_43⟩, by decide⟩
theorem dX10_play_0 : decode cX10_play 0 = .ok (.aload_n 0, 1) := by decide +kernel
theorem dX10_play_1 : decode cX10_play 1 = .ok (.invokevirtual 156, 3) := by decide +kernel
theorem dX10_play_4 : decode cX10_play 4 = .ok (.aload_n 0, 1) := by decide +kernel
theorem dX10_play_5 : decode cX10_play 5 = .ok (.getfield 165, 3) := by decide +kernel
theorem dX10_play_8 : decode cX10_play 8 = .ok (.ifCond .eq 13, 3) := by decide +kernel
theorem dX10_play_11 : decode cX10_play 11 = .ok (.iload_n 1, 1) := by decide +kernel
theorem dX10_play_12 : decode cX10_play 12 = .ok (.iconst 0, 1) := by decide +kernel
theorem dX10_play_13 : decode cX10_play 13 = .ok (.bipush 7, 2) := by decide +kernel
theorem dX10_play_15 : decode cX10_play 15 = .ok (.invokestatic 144, 3) := by decide +kernel
theorem dX10_play_18 : decode cX10_play 18 = .ok (.ifCond .ne 9, 3) := by decide +kernel
theorem dX10_play_21 : decode cX10_play 21 = .ok (.aload_n 0, 1) := by decide +kernel
theorem dX10_play_22 : decode cX10_play 22 = .ok (.iconst 1, 1) := by decide +kernel
theorem dX10_play_23 : decode cX10_play 23 = .ok (.invokevirtual 159, 3) := by decide +kernel
theorem dX10_play_26 : decode cX10_play 26 = .ok (.ireturn, 1) := by decide +kernel
theorem dX10_play_27 : decode cX10_play 27 = .ok (.iload_n 1, 1) := by decide +kernel
theorem dX10_play_28 : decode cX10_play 28 = .ok (.tableswitch 85 0 6 #[44, 51, 51, 57, 64, 71, 78], 44) := by decide +kernel
theorem dX10_play_72 : decode cX10_play 72 = .ok (.aload_n 0, 1) := by decide +kernel
theorem dX10_play_73 : decode cX10_play 73 = .ok (.getfield 26, 3) := by decide +kernel
theorem dX10_play_76 : decode cX10_play 76 = .ok (.iconst 0, 1) := by decide +kernel
theorem dX10_play_77 : decode cX10_play 77 = .ok (.iaload, 1) := by decide +kernel
theorem dX10_play_78 : decode cX10_play 78 = .ok (.ireturn, 1) := by decide +kernel
theorem dX10_play_79 : decode cX10_play 79 = .ok (.aload_n 0, 1) := by decide +kernel
theorem dX10_play_80 : decode cX10_play 80 = .ok (.iload_n 1, 1) := by decide +kernel
theorem dX10_play_81 : decode cX10_play 81 = .ok (.invokevirtual 281, 3) := by decide +kernel
theorem dX10_play_84 : decode cX10_play 84 = .ok (.ireturn, 1) := by decide +kernel
theorem dX10_play_85 : decode cX10_play 85 = .ok (.aload_n 0, 1) := by decide +kernel
theorem dX10_play_86 : decode cX10_play 86 = .ok (.getfield 26, 3) := by decide +kernel
theorem dX10_play_89 : decode cX10_play 89 = .ok (.iconst 2, 1) := by decide +kernel
theorem dX10_play_90 : decode cX10_play 90 = .ok (.iaload, 1) := by decide +kernel
theorem dX10_play_91 : decode cX10_play 91 = .ok (.ireturn, 1) := by decide +kernel
theorem dX10_play_92 : decode cX10_play 92 = .ok (.aload_n 0, 1) := by decide +kernel
theorem dX10_play_93 : decode cX10_play 93 = .ok (.getfield 26, 3) := by decide +kernel
theorem dX10_play_96 : decode cX10_play 96 = .ok (.iconst 3, 1) := by decide +kernel
theorem dX10_play_97 : decode cX10_play 97 = .ok (.iaload, 1) := by decide +kernel
theorem dX10_play_98 : decode cX10_play 98 = .ok (.ireturn, 1) := by decide +kernel
theorem dX10_play_99 : decode cX10_play 99 = .ok (.aload_n 0, 1) := by decide +kernel
theorem dX10_play_100 : decode cX10_play 100 = .ok (.getfield 26, 3) := by decide +kernel
theorem dX10_play_103 : decode cX10_play 103 = .ok (.iconst 4, 1) := by decide +kernel
theorem dX10_play_104 : decode cX10_play 104 = .ok (.iaload, 1) := by decide +kernel
theorem dX10_play_105 : decode cX10_play 105 = .ok (.ireturn, 1) := by decide +kernel
theorem dX10_play_106 : decode cX10_play 106 = .ok (.aload_n 0, 1) := by decide +kernel
theorem dX10_play_107 : decode cX10_play 107 = .ok (.getfield 26, 3) := by decide +kernel
theorem dX10_play_110 : decode cX10_play 110 = .ok (.iconst 5, 1) := by decide +kernel
theorem dX10_play_111 : decode cX10_play 111 = .ok (.iaload, 1) := by decide +kernel
theorem dX10_play_112 : decode cX10_play 112 = .ok (.ireturn, 1) := by decide +kernel
theorem dX10_play_113 : decode cX10_play 113 = .ok (.aload_n 0, 1) := by decide +kernel
theorem dX10_play_114 : decode cX10_play 114 = .ok (.getfield 26, 3) := by decide +kernel
theorem dX10_play_117 : decode cX10_play 117 = .ok (.bipush 7, 2) := by decide +kernel
theorem dX10_play_119 : decode cX10_play 119 = .ok (.iaload, 1) := by decide +kernel
theorem dX10_play_120 : decode cX10_play 120 = .ok (.ireturn, 1) := by decide +kernel
def f_X10_play (x1 : Int32) (M : Mm) : Option (Int32 × Mm) :=
  bv (f_X10_good  M) fun M1_1 => jn (fun (M3 : Mm) => bd (f_X10_no (nI 1) M3) fun v23_6 M23_5 => some (v23_6, M23_5)) fun j4 => if (M1_1 81 14) = 0 then (j4  M1_1) else (bd (f_X10_within x1 (nI 0) (nI 7) M1_1) fun v15_8 M15_7 => if v15_8 = 0 then (j4  M15_7) else (jn (fun (M9 : Mm) => bd (f_X10_said x1 M9) fun v81_12 M81_11 => some (v81_12, M81_11)) fun j10 => if x1 = (nI 0) then (some ((M15_7 86 0), M15_7)) else (if x1 = (nI 1) then (j10  M15_7) else (if x1 = (nI 2) then (j10  M15_7) else (if x1 = (nI 3) then (some ((M15_7 86 2), M15_7)) else (if x1 = (nI 4) then (some ((M15_7 86 3), M15_7)) else (if x1 = (nI 5) then (some ((M15_7 86 4), M15_7)) else (if x1 = (nI 6) then (some ((M15_7 86 5), M15_7)) else (some ((M15_7 86 7), M15_7))))))))))
set_option maxHeartbeats 4000000 in
set_option maxRecDepth 100000 in
theorem s_X10_play {l : Launch} {B : BT} (hA : bA B = false) {d : Nat} {r : Int32} {M' : Mm} {x1 : Int32} {M : Mm}  (h : f_X10_play x1 M = some (r, M')) : Con l B LY (d + 1) yX10_play cX10_play 2 (some .int) 0 0 [.ref 81, .int x1] 97 M (PI r M') := by
  refine con_of (by decide) (Nat.le_of_ble_eq_true rfl) ?_
  show GG l B LY (d + 1) yX10_play cX10_play 2 (some .int) 0 0 (PI r M') 97 0 0 0 [(0, .ref 81), (1, .int x1)] [] M
  rw [f_X10_play] at h
  refine g_aload_n dX10_play_0 rfl 0 rfl ?_
  obtain ⟨M1_1, eM1_1, h⟩ := bv_e h
  refine m_callVv (As := []) (st := []) (s_X10_good (d := d + 0) hA  eM1_1) rfl okX10 ck_X10_good w_1381 rfl (Nat.le_of_ble_eq_true rfl) dX10_play_1 ?_
  refine g_aload_n dX10_play_4 rfl 0 rfl ?_
  refine m_geti (k := 14) okX10 rfl rfl (by decide) w_1283 rfl dX10_play_5 ?_
  obtain ⟨j4, ej4, h⟩ := jn_e h
  have hj4 : ∀ (M3 : Mm), j4 M3 = some (r, M') → GG l B LY (d + 1) yX10_play cX10_play 2 (some .int) 0 0 (PI r M') 97 0 0 21 [(0, .ref 81)] [] M3 := by
    intro M3 h
    rw [ej4] at h
    refine g_aload_n dX10_play_21 rfl 0 rfl ?_
    refine g_iconst (v := (nI 1)) dX10_play_22 (by decide) ?_
    obtain ⟨v23_6, M23_5, eM23_5, h⟩ := bd_e h
    refine m_callVi (As := [.int (nI 1)]) (st := []) (s_X10_no (d := d + 0) hA  eM23_5) rfl okX10 ck_X10_no w_1388 rfl (Nat.le_of_ble_eq_true rfl) dX10_play_23 ?_
    exact g_zret rfl rfl (pi_of h) dX10_play_26
  refine g_if_eq (tgt := 21) dX10_play_8 (by decide) (fun c21 => ?_) (fun c21 => ?_)
  · replace h := ite_p c21 h
    refine g_sub [0] (lv' := [(0, .ref 81)]) rfl ?_
    exact hj4  _ h
  · replace h := ite_n c21 h
    refine g_iload_n dX10_play_11 rfl 1 rfl ?_
    refine g_iconst (v := (nI 0)) dX10_play_12 (by decide) ?_
    refine g_bipush (v := (nI 7)) dX10_play_13 (by decide) ?_
    obtain ⟨v15_8, M15_7, eM15_7, h⟩ := bd_e h
    refine m_callSi (As := [.int x1, .int (nI 0), .int (nI 7)]) (st := []) (s_X10_within (d := d + 0) hA  eM15_7) ck_X10_within w_1385 rfl (Nat.le_of_ble_eq_true rfl) dX10_play_15 ?_
    refine g_if_ne (tgt := 27) dX10_play_18 (by decide) (fun c20 => ?_) (fun c20 => ?_)
    · replace h := ite_n c20 h
      refine g_iload_n dX10_play_27 rfl 1 rfl ?_
      obtain ⟨j10, ej10, h⟩ := jn_e h
      have hj10 : ∀ (M9 : Mm), j10 M9 = some (r, M') → GG l B LY (d + 1) yX10_play cX10_play 2 (some .int) 0 0 (PI r M') 97 0 0 79 [(0, .ref 81), (1, .int x1)] [] M9 := by
        intro M9 h
        rw [ej10] at h
        refine g_aload_n dX10_play_79 rfl 0 rfl ?_
        refine g_iload_n dX10_play_80 rfl 1 rfl ?_
        obtain ⟨v81_12, M81_11, eM81_11, h⟩ := bd_e h
        refine m_callVi (As := [.int x1]) (st := []) (s_X10_said (d := d + 0) hA  eM81_11) rfl okX10 ck_X10_said w_1588 rfl (Nat.le_of_ble_eq_true rfl) dX10_play_81 ?_
        exact g_zret rfl rfl (pi_of h) dX10_play_84
      by_cases c13 : x1 = (nI 0)
      · replace h := ite_p c13 h
        refine g_tabIn (tgt := 72) dX10_play_28 (by rw [c13]; decide) (by rw [c13]; decide) (off := 44) (by rw [c13]; rfl) (by decide) ?_
        refine g_aload_n dX10_play_72 rfl 0 rfl ?_
        refine m_getr (k := 17) okX10 rfl rfl (by decide) w_1286 rfl dX10_play_73 ?_
        refine g_iconst (v := (nI 0)) dX10_play_76 (by decide) ?_
        refine m_ialdL (k := 0) rfl rfl (by decide) dX10_play_77 ?_
        exact g_zret rfl rfl (pi_of h) dX10_play_78
      replace h := ite_n c13 h
      by_cases c14 : x1 = (nI 1)
      · replace h := ite_p c14 h
        refine g_tabIn (tgt := 79) dX10_play_28 (by rw [c14]; decide) (by rw [c14]; decide) (off := 51) (by rw [c14]; rfl) (by decide) ?_
        refine g_sub [0, 1] (lv' := [(0, .ref 81), (1, .int x1)]) rfl ?_
        exact hj10  _ h
      replace h := ite_n c14 h
      by_cases c15 : x1 = (nI 2)
      · replace h := ite_p c15 h
        refine g_tabIn (tgt := 79) dX10_play_28 (by rw [c15]; decide) (by rw [c15]; decide) (off := 51) (by rw [c15]; rfl) (by decide) ?_
        refine g_sub [0, 1] (lv' := [(0, .ref 81), (1, .int x1)]) rfl ?_
        exact hj10  _ h
      replace h := ite_n c15 h
      by_cases c16 : x1 = (nI 3)
      · replace h := ite_p c16 h
        refine g_tabIn (tgt := 85) dX10_play_28 (by rw [c16]; decide) (by rw [c16]; decide) (off := 57) (by rw [c16]; rfl) (by decide) ?_
        refine g_aload_n dX10_play_85 rfl 0 rfl ?_
        refine m_getr (k := 17) okX10 rfl rfl (by decide) w_1286 rfl dX10_play_86 ?_
        refine g_iconst (v := (nI 2)) dX10_play_89 (by decide) ?_
        refine m_ialdL (k := 2) rfl rfl (by decide) dX10_play_90 ?_
        exact g_zret rfl rfl (pi_of h) dX10_play_91
      replace h := ite_n c16 h
      by_cases c17 : x1 = (nI 4)
      · replace h := ite_p c17 h
        refine g_tabIn (tgt := 92) dX10_play_28 (by rw [c17]; decide) (by rw [c17]; decide) (off := 64) (by rw [c17]; rfl) (by decide) ?_
        refine g_aload_n dX10_play_92 rfl 0 rfl ?_
        refine m_getr (k := 17) okX10 rfl rfl (by decide) w_1286 rfl dX10_play_93 ?_
        refine g_iconst (v := (nI 3)) dX10_play_96 (by decide) ?_
        refine m_ialdL (k := 3) rfl rfl (by decide) dX10_play_97 ?_
        exact g_zret rfl rfl (pi_of h) dX10_play_98
      replace h := ite_n c17 h
      by_cases c18 : x1 = (nI 5)
      · replace h := ite_p c18 h
        refine g_tabIn (tgt := 99) dX10_play_28 (by rw [c18]; decide) (by rw [c18]; decide) (off := 71) (by rw [c18]; rfl) (by decide) ?_
        refine g_aload_n dX10_play_99 rfl 0 rfl ?_
        refine m_getr (k := 17) okX10 rfl rfl (by decide) w_1286 rfl dX10_play_100 ?_
        refine g_iconst (v := (nI 4)) dX10_play_103 (by decide) ?_
        refine m_ialdL (k := 4) rfl rfl (by decide) dX10_play_104 ?_
        exact g_zret rfl rfl (pi_of h) dX10_play_105
      replace h := ite_n c18 h
      by_cases c19 : x1 = (nI 6)
      · replace h := ite_p c19 h
        refine g_tabIn (tgt := 106) dX10_play_28 (by rw [c19]; decide) (by rw [c19]; decide) (off := 78) (by rw [c19]; rfl) (by decide) ?_
        refine g_aload_n dX10_play_106 rfl 0 rfl ?_
        refine m_getr (k := 17) okX10 rfl rfl (by decide) w_1286 rfl dX10_play_107 ?_
        refine g_iconst (v := (nI 5)) dX10_play_110 (by decide) ?_
        refine m_ialdL (k := 5) rfl rfl (by decide) dX10_play_111 ?_
        exact g_zret rfl rfl (pi_of h) dX10_play_112
      replace h := ite_n c19 h
      have tc13 : x1.toInt ≠ 0 := fun e => c13 (Int32.toInt_inj.mp (e.trans (by decide)))
      have tc14 : x1.toInt ≠ 1 := fun e => c14 (Int32.toInt_inj.mp (e.trans (by decide)))
      have tc15 : x1.toInt ≠ 2 := fun e => c15 (Int32.toInt_inj.mp (e.trans (by decide)))
      have tc16 : x1.toInt ≠ 3 := fun e => c16 (Int32.toInt_inj.mp (e.trans (by decide)))
      have tc17 : x1.toInt ≠ 4 := fun e => c17 (Int32.toInt_inj.mp (e.trans (by decide)))
      have tc18 : x1.toInt ≠ 5 := fun e => c18 (Int32.toInt_inj.mp (e.trans (by decide)))
      have tc19 : x1.toInt ≠ 6 := fun e => c19 (Int32.toInt_inj.mp (e.trans (by decide)))
      refine g_tabOut (tgt := 113) dX10_play_28 (by omega) (by decide) ?_
      refine g_aload_n dX10_play_113 rfl 0 rfl ?_
      refine m_getr (k := 17) okX10 rfl rfl (by decide) w_1286 rfl dX10_play_114 ?_
      refine g_bipush (v := (nI 7)) dX10_play_117 (by decide) ?_
      refine m_ialdL (k := 7) rfl rfl (by decide) dX10_play_119 ?_
      exact g_zret rfl rfl (pi_of h) dX10_play_120
    · replace h := ite_p c20 h
      refine g_sub [0] (lv' := [(0, .ref 81)]) rfl ?_
      exact hj4  _ h
theorem ck_X10_play : CKV yX10_play cX10_play 2 (some .int) 1 := ⟨⟨by decide, by decide, by decide +kernel⟩, w_1587, w_81, ⟨w_1585, w_1586⟩, by decide⟩
theorem dX10_often_0 : decode cX10_often 0 = .ok (.aload_n 0, 1) := by decide +kernel
theorem dX10_often_1 : decode cX10_often 1 = .ok (.invokevirtual 156, 3) := by decide +kernel
theorem dX10_often_4 : decode cX10_often 4 = .ok (.aload_n 0, 1) := by decide +kernel
theorem dX10_often_5 : decode cX10_often 5 = .ok (.iload_n 1, 1) := by decide +kernel
theorem dX10_often_6 : decode cX10_often 6 = .ok (.invokevirtual 278, 3) := by decide +kernel
theorem dX10_often_9 : decode cX10_often 9 = .ok (.ifCond .ne 9, 3) := by decide +kernel
theorem dX10_often_12 : decode cX10_often 12 = .ok (.aload_n 0, 1) := by decide +kernel
theorem dX10_often_13 : decode cX10_often 13 = .ok (.iconst 1, 1) := by decide +kernel
theorem dX10_often_14 : decode cX10_often 14 = .ok (.invokevirtual 159, 3) := by decide +kernel
theorem dX10_often_17 : decode cX10_often 17 = .ok (.ireturn, 1) := by decide +kernel
theorem dX10_often_18 : decode cX10_often 18 = .ok (.aload_n 0, 1) := by decide +kernel
theorem dX10_often_19 : decode cX10_often 19 = .ok (.getfield 26, 3) := by decide +kernel
theorem dX10_often_22 : decode cX10_often 22 = .ok (.bipush 24, 2) := by decide +kernel
theorem dX10_often_24 : decode cX10_often 24 = .ok (.iload_n 1, 1) := by decide +kernel
theorem dX10_often_25 : decode cX10_often 25 = .ok (.iadd, 1) := by decide +kernel
theorem dX10_often_26 : decode cX10_often 26 = .ok (.iaload, 1) := by decide +kernel
theorem dX10_often_27 : decode cX10_often 27 = .ok (.aload_n 0, 1) := by decide +kernel
theorem dX10_often_28 : decode cX10_often 28 = .ok (.getfield 26, 3) := by decide +kernel
theorem dX10_often_31 : decode cX10_often 31 = .ok (.bipush 29, 2) := by decide +kernel
theorem dX10_often_33 : decode cX10_often 33 = .ok (.iload_n 1, 1) := by decide +kernel
theorem dX10_often_34 : decode cX10_often 34 = .ok (.iadd, 1) := by decide +kernel
theorem dX10_often_35 : decode cX10_often 35 = .ok (.iaload, 1) := by decide +kernel
theorem dX10_often_36 : decode cX10_often 36 = .ok (.iadd, 1) := by decide +kernel
theorem dX10_often_37 : decode cX10_often 37 = .ok (.istore_n 2, 1) := by decide +kernel
theorem dX10_often_38 : decode cX10_often 38 = .ok (.iload_n 2, 1) := by decide +kernel
theorem dX10_often_39 : decode cX10_often 39 = .ok (.ifCond .ne 12, 3) := by decide +kernel
theorem dX10_often_42 : decode cX10_often 42 = .ok (.aload_n 0, 1) := by decide +kernel
theorem dX10_often_43 : decode cX10_often 43 = .ok (.bipush 6, 2) := by decide +kernel
theorem dX10_often_45 : decode cX10_often 45 = .ok (.invokevirtual 159, 3) := by decide +kernel
theorem dX10_often_48 : decode cX10_often 48 = .ok (.goto 17, 3) := by decide +kernel
theorem dX10_often_51 : decode cX10_often 51 = .ok (.bipush 100, 2) := by decide +kernel
theorem dX10_often_53 : decode cX10_often 53 = .ok (.aload_n 0, 1) := by decide +kernel
theorem dX10_often_54 : decode cX10_often 54 = .ok (.getfield 26, 3) := by decide +kernel
theorem dX10_often_57 : decode cX10_often 57 = .ok (.bipush 29, 2) := by decide +kernel
theorem dX10_often_59 : decode cX10_often 59 = .ok (.iload_n 1, 1) := by decide +kernel
theorem dX10_often_60 : decode cX10_often 60 = .ok (.iadd, 1) := by decide +kernel
theorem dX10_often_61 : decode cX10_often 61 = .ok (.iaload, 1) := by decide +kernel
theorem dX10_often_62 : decode cX10_often 62 = .ok (.imul, 1) := by decide +kernel
theorem dX10_often_63 : decode cX10_often 63 = .ok (.iload_n 2, 1) := by decide +kernel
theorem dX10_often_64 : decode cX10_often 64 = .ok (.idiv, 1) := by decide +kernel
theorem dX10_often_65 : decode cX10_often 65 = .ok (.ireturn, 1) := by decide +kernel
def f_X10_often (x1 : Int32) (M : Mm) : Option (Int32 × Mm) :=
  bv (f_X10_good  M) fun M1_1 => bd (f_X10_isCreeper x1 M1_1) fun v6_4 M6_3 => if v6_4 = 0 then (bd (f_X10_no (nI 1) M6_3) fun v14_10 M14_9 => some (v14_10, M14_9)) else (gd (inb ((nI 24) + x1) 44) <| gd (inb ((nI 29) + x1) 44) <| lt (((M6_3 86 ((nI 24) + x1).toNatClampNeg) + (M6_3 86 ((nI 29) + x1).toNatClampNeg))) fun t5 => if t5 = 0 then (bd (f_X10_no (nI 6) M6_3) fun v45_7 M45_6 => some (v45_7, M45_6)) else (gd (inb ((nI 29) + x1) 44) <| gd (nzi t5) <| some ((((nI 100) * (M6_3 86 ((nI 29) + x1).toNatClampNeg)) / t5), M6_3)))
set_option maxHeartbeats 4000000 in
set_option maxRecDepth 100000 in
theorem s_X10_often {l : Launch} {B : BT} (hA : bA B = false) {d : Nat} {r : Int32} {M' : Mm} {x1 : Int32} {M : Mm}  (h : f_X10_often x1 M = some (r, M')) : Con l B LY (d + 2) yX10_often cX10_often 3 (some .int) 0 0 [.ref 81, .int x1] 97 M (PI r M') := by
  refine con_of (by decide) (Nat.le_of_ble_eq_true rfl) ?_
  show GG l B LY (d + 2) yX10_often cX10_often 3 (some .int) 0 0 (PI r M') 97 0 0 0 [(0, .ref 81), (1, .int x1)] [] M
  rw [f_X10_often] at h
  refine g_aload_n dX10_often_0 rfl 0 rfl ?_
  obtain ⟨M1_1, eM1_1, h⟩ := bv_e h
  refine m_callVv (As := []) (st := []) (s_X10_good (d := d + 1) hA  eM1_1) rfl okX10 ck_X10_good w_1381 rfl (Nat.le_of_ble_eq_true rfl) dX10_often_1 ?_
  refine g_aload_n dX10_often_4 rfl 0 rfl ?_
  refine g_iload_n dX10_often_5 rfl 1 rfl ?_
  obtain ⟨v6_4, M6_3, eM6_3, h⟩ := bd_e h
  refine m_callVi (As := [.int x1]) (st := []) (s_X10_isCreeper (d := d + 0) hA  eM6_3) rfl okX10 ck_X10_isCreeper w_1572 rfl (Nat.le_of_ble_eq_true rfl) dX10_often_6 ?_
  refine g_if_ne (tgt := 18) dX10_often_9 (by decide) (fun c11 => ?_) (fun c11 => ?_)
  · replace h := ite_n c11 h
    refine g_aload_n dX10_often_18 rfl 0 rfl ?_
    refine m_getr (k := 17) okX10 rfl rfl (by decide) w_1286 rfl dX10_often_19 ?_
    refine g_bipush (v := (nI 24)) dX10_often_22 (by decide) ?_
    refine g_iload_n dX10_often_24 rfl 1 rfl ?_
    refine g_iadd dX10_often_25 ?_
    obtain ⟨hz, h⟩ := gd_s h
    refine m_iald rfl hz dX10_often_26 ?_
    refine g_aload_n dX10_often_27 rfl 0 rfl ?_
    refine m_getr (k := 17) okX10 rfl rfl (by decide) w_1286 rfl dX10_often_28 ?_
    refine g_bipush (v := (nI 29)) dX10_often_31 (by decide) ?_
    refine g_iload_n dX10_often_33 rfl 1 rfl ?_
    refine g_iadd dX10_often_34 ?_
    obtain ⟨hz, h⟩ := gd_s h
    refine m_iald rfl hz dX10_often_35 ?_
    refine g_iadd dX10_often_36 ?_
    obtain ⟨t5, et5, h⟩ := lt_e h
    refine g_cuti et5 ?_
    refine g_istore_n (lv' := [(2, .int t5), (0, .ref 81), (1, .int x1)]) dX10_often_37 rfl (by decide) rfl ?_
    refine g_iload_n dX10_often_38 rfl 0 rfl ?_
    refine g_if_ne (tgt := 51) dX10_often_39 (by decide) (fun c8 => ?_) (fun c8 => ?_)
    · replace h := ite_n c8 h
      refine g_bipush (v := (nI 100)) dX10_often_51 (by decide) ?_
      refine g_aload_n dX10_often_53 rfl 1 rfl ?_
      refine m_getr (k := 17) okX10 rfl rfl (by decide) w_1286 rfl dX10_often_54 ?_
      refine g_bipush (v := (nI 29)) dX10_often_57 (by decide) ?_
      refine g_iload_n dX10_often_59 rfl 2 rfl ?_
      refine g_iadd dX10_often_60 ?_
      obtain ⟨hz, h⟩ := gd_s h
      refine m_iald rfl hz dX10_often_61 ?_
      refine g_imul dX10_often_62 ?_
      refine g_iload_n dX10_often_63 rfl 0 rfl ?_
      obtain ⟨hz, h⟩ := gd_s h
      refine g_idiv dX10_often_64 (nzi_s hz) ?_
      exact g_zret rfl rfl (pi_of h) dX10_often_65
    · replace h := ite_p c8 h
      refine g_aload_n dX10_often_42 rfl 1 rfl ?_
      refine g_bipush (v := (nI 6)) dX10_often_43 (by decide) ?_
      obtain ⟨v45_7, M45_6, eM45_6, h⟩ := bd_e h
      refine m_callVi (As := [.int (nI 6)]) (st := []) (s_X10_no (d := d + 1) hA  eM45_6) rfl okX10 ck_X10_no w_1388 rfl (Nat.le_of_ble_eq_true rfl) dX10_often_45 ?_
      refine g_goto (tgt := 65) dX10_often_48 (by decide) ?_
      exact g_zret rfl rfl (pi_of h) dX10_often_65
  · replace h := ite_p c11 h
    refine g_aload_n dX10_often_12 rfl 0 rfl ?_
    refine g_iconst (v := (nI 1)) dX10_often_13 (by decide) ?_
    obtain ⟨v14_10, M14_9, eM14_9, h⟩ := bd_e h
    refine m_callVi (As := [.int (nI 1)]) (st := []) (s_X10_no (d := d + 1) hA  eM14_9) rfl okX10 ck_X10_no w_1388 rfl (Nat.le_of_ble_eq_true rfl) dX10_often_14 ?_
    exact g_zret rfl rfl (pi_of h) dX10_often_17
theorem ck_X10_often : CKV yX10_often cX10_often 3 (some .int) 1 := ⟨⟨by decide, by decide, by decide +kernel⟩, w_1595, w_81, ⟨w_1593, w_1594⟩, by decide⟩
theorem dX10_mark_0 : decode cX10_mark 0 = .ok (.aload_n 0, 1) := by decide +kernel
theorem dX10_mark_1 : decode cX10_mark 1 = .ok (.invokevirtual 156, 3) := by decide +kernel
theorem dX10_mark_4 : decode cX10_mark 4 = .ok (.aload_n 0, 1) := by decide +kernel
theorem dX10_mark_5 : decode cX10_mark 5 = .ok (.getfield 165, 3) := by decide +kernel
theorem dX10_mark_8 : decode cX10_mark 8 = .ok (.ifCond .ne 9, 3) := by decide +kernel
theorem dX10_mark_11 : decode cX10_mark 11 = .ok (.aload_n 0, 1) := by decide +kernel
theorem dX10_mark_12 : decode cX10_mark 12 = .ok (.iconst 1, 1) := by decide +kernel
theorem dX10_mark_13 : decode cX10_mark 13 = .ok (.invokevirtual 159, 3) := by decide +kernel
theorem dX10_mark_16 : decode cX10_mark 16 = .ok (.ireturn, 1) := by decide +kernel
theorem dX10_mark_17 : decode cX10_mark 17 = .ok (.aload_n 0, 1) := by decide +kernel
theorem dX10_mark_18 : decode cX10_mark 18 = .ok (.getfield 172, 3) := by decide +kernel
theorem dX10_mark_21 : decode cX10_mark 21 = .ok (.iconst 3, 1) := by decide +kernel
theorem dX10_mark_22 : decode cX10_mark 22 = .ok (.if_icmp .ne 9, 3) := by decide +kernel
theorem dX10_mark_25 : decode cX10_mark 25 = .ok (.aload_n 0, 1) := by decide +kernel
theorem dX10_mark_26 : decode cX10_mark 26 = .ok (.iconst 3, 1) := by decide +kernel
theorem dX10_mark_27 : decode cX10_mark 27 = .ok (.invokevirtual 159, 3) := by decide +kernel
theorem dX10_mark_30 : decode cX10_mark 30 = .ok (.ireturn, 1) := by decide +kernel
theorem dX10_mark_31 : decode cX10_mark 31 = .ok (.aload_n 0, 1) := by decide +kernel
theorem dX10_mark_32 : decode cX10_mark 32 = .ok (.aload_n 0, 1) := by decide +kernel
theorem dX10_mark_33 : decode cX10_mark 33 = .ok (.getfield 172, 3) := by decide +kernel
theorem dX10_mark_36 : decode cX10_mark 36 = .ok (.invokevirtual 284, 3) := by decide +kernel
theorem dX10_mark_39 : decode cX10_mark 39 = .ok (.aload_n 0, 1) := by decide +kernel
theorem dX10_mark_40 : decode cX10_mark 40 = .ok (.dup, 1) := by decide +kernel
theorem dX10_mark_41 : decode cX10_mark 41 = .ok (.getfield 172, 3) := by decide +kernel
theorem dX10_mark_44 : decode cX10_mark 44 = .ok (.iconst 1, 1) := by decide +kernel
theorem dX10_mark_45 : decode cX10_mark 45 = .ok (.iadd, 1) := by decide +kernel
theorem dX10_mark_46 : decode cX10_mark 46 = .ok (.putfield 172, 3) := by decide +kernel
theorem dX10_mark_49 : decode cX10_mark 49 = .ok (.aload_n 0, 1) := by decide +kernel
theorem dX10_mark_50 : decode cX10_mark 50 = .ok (.getfield 172, 3) := by decide +kernel
theorem dX10_mark_53 : decode cX10_mark 53 = .ok (.iconst 1, 1) := by decide +kernel
theorem dX10_mark_54 : decode cX10_mark 54 = .ok (.isub, 1) := by decide +kernel
theorem dX10_mark_55 : decode cX10_mark 55 = .ok (.ireturn, 1) := by decide +kernel
def f_X10_mark  (M : Mm) : Option (Int32 × Mm) :=
  bv (f_X10_good  M) fun M1_1 => if (M1_1 81 14) = 0 then (bd (f_X10_no (nI 1) M1_1) fun v13_9 M13_8 => some (v13_9, M13_8)) else (if (M1_1 81 19) = (nI 3) then (bd (f_X10_no (nI 3) M1_1) fun v27_6 M27_5 => some (v27_6, M27_5)) else (bv (f_X10_keep (M1_1 81 19) M1_1) fun M36_3 => some ((((mset M36_3 81 19 ((M36_3 81 19) + (nI 1))) 81 19) - (nI 1)), (mset M36_3 81 19 ((M36_3 81 19) + (nI 1))))))
set_option maxHeartbeats 4000000 in
set_option maxRecDepth 100000 in
theorem s_X10_mark {l : Launch} {B : BT} (hA : bA B = false) {d : Nat} {r : Int32} {M' : Mm}  {M : Mm}  (h : f_X10_mark  M = some (r, M')) : Con l B LY (d + 1) yX10_mark cX10_mark 1 (some .int) 0 0 [.ref 81] 97 M (PI r M') := by
  refine con_of (by decide) (Nat.le_of_ble_eq_true rfl) ?_
  show GG l B LY (d + 1) yX10_mark cX10_mark 1 (some .int) 0 0 (PI r M') 97 0 0 0 [(0, .ref 81)] [] M
  rw [f_X10_mark] at h
  refine g_aload_n dX10_mark_0 rfl 0 rfl ?_
  obtain ⟨M1_1, eM1_1, h⟩ := bv_e h
  refine m_callVv (As := []) (st := []) (s_X10_good (d := d + 0) hA  eM1_1) rfl okX10 ck_X10_good w_1381 rfl (Nat.le_of_ble_eq_true rfl) dX10_mark_1 ?_
  refine g_aload_n dX10_mark_4 rfl 0 rfl ?_
  refine m_geti (k := 14) okX10 rfl rfl (by decide) w_1283 rfl dX10_mark_5 ?_
  refine g_if_ne (tgt := 17) dX10_mark_8 (by decide) (fun c10 => ?_) (fun c10 => ?_)
  · replace h := ite_n c10 h
    refine g_aload_n dX10_mark_17 rfl 0 rfl ?_
    refine m_geti (k := 19) okX10 rfl rfl (by decide) w_1288 rfl dX10_mark_18 ?_
    refine g_iconst (v := (nI 3)) dX10_mark_21 (by decide) ?_
    refine g_icmp_ne (tgt := 31) dX10_mark_22 (by decide) (fun c7 => ?_) (fun c7 => ?_)
    · replace h := ite_n c7 h
      refine g_aload_n dX10_mark_31 rfl 0 rfl ?_
      refine g_aload_n dX10_mark_32 rfl 0 rfl ?_
      refine m_geti (k := 19) okX10 rfl rfl (by decide) w_1288 rfl dX10_mark_33 ?_
      obtain ⟨M36_3, eM36_3, h⟩ := bv_e h
      refine m_callVv (As := [.int (M1_1 81 19)]) (st := []) (s_X10_keep (d := d + 0) hA  eM36_3) rfl okX10 ck_X10_keep w_1600 rfl (Nat.le_of_ble_eq_true rfl) dX10_mark_36 ?_
      refine g_aload_n dX10_mark_39 rfl 0 rfl ?_
      refine g_dup dX10_mark_40 rfl ?_
      refine m_geti (k := 19) okX10 rfl rfl (by decide) w_1288 rfl dX10_mark_41 ?_
      refine g_iconst (v := (nI 1)) dX10_mark_44 (by decide) ?_
      refine g_iadd dX10_mark_45 ?_
      refine m_puti (k := 19) okX10 rfl rfl (by decide) w_1288 rfl rfl rfl dX10_mark_46 ?_
      refine g_aload_n dX10_mark_49 rfl 0 rfl ?_
      refine m_geti (k := 19) okX10 rfl rfl (by decide) w_1288 rfl dX10_mark_50 ?_
      refine g_iconst (v := (nI 1)) dX10_mark_53 (by decide) ?_
      refine g_isub dX10_mark_54 ?_
      exact g_zret rfl rfl (pi_of h) dX10_mark_55
    · replace h := ite_p c7 h
      refine g_aload_n dX10_mark_25 rfl 0 rfl ?_
      refine g_iconst (v := (nI 3)) dX10_mark_26 (by decide) ?_
      obtain ⟨v27_6, M27_5, eM27_5, h⟩ := bd_e h
      refine m_callVi (As := [.int (nI 3)]) (st := []) (s_X10_no (d := d + 0) hA  eM27_5) rfl okX10 ck_X10_no w_1388 rfl (Nat.le_of_ble_eq_true rfl) dX10_mark_27 ?_
      exact g_zret rfl rfl (pi_of h) dX10_mark_30
  · replace h := ite_p c10 h
    refine g_aload_n dX10_mark_11 rfl 0 rfl ?_
    refine g_iconst (v := (nI 1)) dX10_mark_12 (by decide) ?_
    obtain ⟨v13_9, M13_8, eM13_8, h⟩ := bd_e h
    refine m_callVi (As := [.int (nI 1)]) (st := []) (s_X10_no (d := d + 0) hA  eM13_8) rfl okX10 ck_X10_no w_1388 rfl (Nat.le_of_ble_eq_true rfl) dX10_mark_13 ?_
    exact g_zret rfl rfl (pi_of h) dX10_mark_16
theorem ck_X10_mark : CKV yX10_mark cX10_mark 1 (some .int) 0 := ⟨⟨by decide, by decide, by decide +kernel⟩, w_1599, w_81, ⟨w_1597, w_1598⟩, by decide⟩
theorem dX10_back_0 : decode cX10_back 0 = .ok (.aload_n 0, 1) := by decide +kernel
theorem dX10_back_1 : decode cX10_back 1 = .ok (.invokevirtual 156, 3) := by decide +kernel
theorem dX10_back_4 : decode cX10_back 4 = .ok (.iload_n 1, 1) := by decide +kernel
theorem dX10_back_5 : decode cX10_back 5 = .ok (.iconst 0, 1) := by decide +kernel
theorem dX10_back_6 : decode cX10_back 6 = .ok (.aload_n 0, 1) := by decide +kernel
theorem dX10_back_7 : decode cX10_back 7 = .ok (.getfield 172, 3) := by decide +kernel
theorem dX10_back_10 : decode cX10_back 10 = .ok (.iconst 1, 1) := by decide +kernel
theorem dX10_back_11 : decode cX10_back 11 = .ok (.isub, 1) := by decide +kernel
theorem dX10_back_12 : decode cX10_back 12 = .ok (.invokestatic 144, 3) := by decide +kernel
theorem dX10_back_15 : decode cX10_back 15 = .ok (.ifCond .ne 9, 3) := by decide +kernel
theorem dX10_back_18 : decode cX10_back 18 = .ok (.aload_n 0, 1) := by decide +kernel
theorem dX10_back_19 : decode cX10_back 19 = .ok (.iconst 1, 1) := by decide +kernel
theorem dX10_back_20 : decode cX10_back 20 = .ok (.invokevirtual 271, 3) := by decide +kernel
theorem dX10_back_23 : decode cX10_back 23 = .ok (.ireturn, 1) := by decide +kernel
theorem dX10_back_24 : decode cX10_back 24 = .ok (.aload_n 0, 1) := by decide +kernel
theorem dX10_back_25 : decode cX10_back 25 = .ok (.iload_n 1, 1) := by decide +kernel
theorem dX10_back_26 : decode cX10_back 26 = .ok (.invokevirtual 287, 3) := by decide +kernel
theorem dX10_back_29 : decode cX10_back 29 = .ok (.iconst 1, 1) := by decide +kernel
theorem dX10_back_30 : decode cX10_back 30 = .ok (.ireturn, 1) := by decide +kernel
def f_X10_back (x1 : Int32) (M : Mm) : Option (Int32 × Mm) :=
  bv (f_X10_good  M) fun M1_1 => bd (f_X10_within x1 (nI 0) ((M1_1 81 19) - (nI 1)) M1_1) fun v12_4 M12_3 => if v12_4 = 0 then (bd (f_X10_isNot (nI 1) M12_3) fun v20_8 M20_7 => gd (zo v20_8) <| some (v20_8, M20_7)) else (bv (f_X10_bringBack x1 M12_3) fun M26_5 => some ((nI 1), M26_5))
set_option maxHeartbeats 4000000 in
set_option maxRecDepth 100000 in
theorem s_X10_back {l : Launch} {B : BT} (hA : bA B = false) {d : Nat} {r : Int32} {M' : Mm} {x1 : Int32} {M : Mm}  (h : f_X10_back x1 M = some (r, M')) : Con l B LY (d + 1) yX10_back cX10_back 2 (some .boolean) 0 0 [.ref 81, .int x1] 97 M (PI r M') := by
  refine con_of (by decide) (Nat.le_of_ble_eq_true rfl) ?_
  show GG l B LY (d + 1) yX10_back cX10_back 2 (some .boolean) 0 0 (PI r M') 97 0 0 0 [(0, .ref 81), (1, .int x1)] [] M
  rw [f_X10_back] at h
  refine g_aload_n dX10_back_0 rfl 0 rfl ?_
  obtain ⟨M1_1, eM1_1, h⟩ := bv_e h
  refine m_callVv (As := []) (st := []) (s_X10_good (d := d + 0) hA  eM1_1) rfl okX10 ck_X10_good w_1381 rfl (Nat.le_of_ble_eq_true rfl) dX10_back_1 ?_
  refine g_iload_n dX10_back_4 rfl 1 rfl ?_
  refine g_iconst (v := (nI 0)) dX10_back_5 (by decide) ?_
  refine g_aload_n dX10_back_6 rfl 0 rfl ?_
  refine m_geti (k := 19) okX10 rfl rfl (by decide) w_1288 rfl dX10_back_7 ?_
  refine g_iconst (v := (nI 1)) dX10_back_10 (by decide) ?_
  refine g_isub dX10_back_11 ?_
  obtain ⟨v12_4, M12_3, eM12_3, h⟩ := bd_e h
  refine m_callSi (As := [.int x1, .int (nI 0), .int ((M1_1 81 19) - (nI 1))]) (st := []) (s_X10_within (d := d + 0) hA  eM12_3) ck_X10_within w_1385 rfl (Nat.le_of_ble_eq_true rfl) dX10_back_12 ?_
  refine g_if_ne (tgt := 24) dX10_back_15 (by decide) (fun c9 => ?_) (fun c9 => ?_)
  · replace h := ite_n c9 h
    refine g_aload_n dX10_back_24 rfl 0 rfl ?_
    refine g_iload_n dX10_back_25 rfl 1 rfl ?_
    obtain ⟨M26_5, eM26_5, h⟩ := bv_e h
    refine m_callVv (As := [.int x1]) (st := []) (s_X10_bringBack (d := d + 0) hA  eM26_5) rfl okX10 ck_X10_bringBack w_1608 rfl (Nat.le_of_ble_eq_true rfl) dX10_back_26 ?_
    refine g_iconst (v := (nI 1)) dX10_back_29 (by decide) ?_
    exact g_zret rfl rfl (pi_of h) dX10_back_30
  · replace h := ite_p c9 h
    refine g_aload_n dX10_back_18 rfl 0 rfl ?_
    refine g_iconst (v := (nI 1)) dX10_back_19 (by decide) ?_
    obtain ⟨v20_8, M20_7, eM20_7, h⟩ := bd_e h
    refine m_callVi (As := [.int (nI 1)]) (st := []) (s_X10_isNot (d := d + 0) hA  eM20_7) rfl okX10 ck_X10_isNot w_1507 rfl (Nat.le_of_ble_eq_true rfl) dX10_back_20 ?_
    obtain ⟨hz, h⟩ := gd_s h
    exact g_zret rfl (nar_zo hz) (pi_of h) dX10_back_23
theorem ck_X10_back : CKV yX10_back cX10_back 2 (some .boolean) 1 := ⟨⟨by decide, by decide, by decide +kernel⟩, w_1607, w_81, ⟨w_1605, w_1606⟩, by decide⟩
theorem dX10_allWays_0 : decode cX10_allWays 0 = .ok (.lconst 1, 1) := by decide +kernel
theorem dX10_allWays_1 : decode cX10_allWays 1 = .ok (.lstore_n 1, 1) := by decide +kernel
theorem dX10_allWays_2 : decode cX10_allWays 2 = .ok (.iconst 1, 1) := by decide +kernel
theorem dX10_allWays_3 : decode cX10_allWays 3 = .ok (.istore_n 3, 1) := by decide +kernel
theorem dX10_allWays_4 : decode cX10_allWays 4 = .ok (.iload_n 3, 1) := by decide +kernel
theorem dX10_allWays_5 : decode cX10_allWays 5 = .ok (.aload_n 0, 1) := by decide +kernel
theorem dX10_allWays_6 : decode cX10_allWays 6 = .ok (.getfield 20, 3) := by decide +kernel
theorem dX10_allWays_9 : decode cX10_allWays 9 = .ok (.bipush 92, 2) := by decide +kernel
theorem dX10_allWays_11 : decode cX10_allWays 11 = .ok (.iaload, 1) := by decide +kernel
theorem dX10_allWays_12 : decode cX10_allWays 12 = .ok (.if_icmp .ge 15, 3) := by decide +kernel
theorem dX10_allWays_15 : decode cX10_allWays 15 = .ok (.lload_n 1, 1) := by decide +kernel
theorem dX10_allWays_16 : decode cX10_allWays 16 = .ok (.ldc2_w 290, 3) := by decide +kernel
theorem dX10_allWays_19 : decode cX10_allWays 19 = .ok (.lmul, 1) := by decide +kernel
theorem dX10_allWays_20 : decode cX10_allWays 20 = .ok (.lstore_n 1, 1) := by decide +kernel
theorem dX10_allWays_21 : decode cX10_allWays 21 = .ok (.iinc 3 1, 3) := by decide +kernel
theorem dX10_allWays_24 : decode cX10_allWays 24 = .ok (.goto (-20), 3) := by decide +kernel
theorem dX10_allWays_27 : decode cX10_allWays 27 = .ok (.lload_n 1, 1) := by decide +kernel
theorem dX10_allWays_28 : decode cX10_allWays 28 = .ok (.lreturn, 1) := by decide +kernel
def lp_X10_allWays_4   : Nat → Int64 → Int32 → Mm → Option (Int64 × Mm)
  | 0, _, _, _ => none
  | n + 1, y1, y3, M =>
    if (M 84 92) ≤ y3 then (some (y1, M)) else (lp_X10_allWays_4 n (y1 * (100 : Int64)) (y3 + (nI 1)) M)
def f_X10_allWays  (M : Mm) : Option (Int64 × Mm) :=
  lp_X10_allWays_4   N0 (1 : Int64) (nI 1) M
set_option maxHeartbeats 4000000 in
set_option maxRecDepth 100000 in
theorem sl_X10_allWays_4 {l : Launch} {B : BT} (hA : bA B = false) {d : Nat} {r : Int64} {M' : Mm}     :
    ∀ (n : Nat) (y1 : Int64) (y3 : Int32) (M : Mm), lp_X10_allWays_4 n y1 y3 M = some (r, M') → GG l B LY (d + 0) yX10_allWays cX10_allWays 4 (some .long) 0 0 (PL r M') 97 0 0 4 [(0, .ref 81), (1, .long y1), (3, .int y3)] [] M := by
  intro n
  induction n with
  | zero => intro y1 y3 M h; cases h
  | succ n ih =>
    intro y1 y3 M h
    rw [lp_X10_allWays_4] at h
    refine g_iload_n dX10_allWays_4 rfl 2 rfl ?_
    refine g_aload_n dX10_allWays_5 rfl 0 rfl ?_
    refine m_getr (k := 15) okX10 rfl rfl (by decide) w_1284 rfl dX10_allWays_6 ?_
    refine g_bipush (v := (nI 92)) dX10_allWays_9 (by decide) ?_
    refine m_ialdL (k := 92) rfl rfl (by decide) dX10_allWays_11 ?_
    refine g_icmp_ge (tgt := 27) dX10_allWays_12 (by decide) (fun c1 => ?_) (fun c1 => ?_)
    · replace h := ite_p c1 h
      refine g_lload_n dX10_allWays_27 rfl 1 rfl ?_
      exact g_lret rfl (pl_of h) dX10_allWays_28
    · replace h := ite_n c1 h
      refine g_lload_n dX10_allWays_15 rfl 1 rfl ?_
      refine g_ldc2 (v := 100) w_1620 dX10_allWays_16 ?_
      refine g_lmul dX10_allWays_19 ?_
      refine g_lstore_n (lv' := [(1, .long (y1 * (100 : Int64))), (0, .ref 81), (3, .int y3)]) dX10_allWays_20 rfl (by decide) rfl ?_
      refine g_iinc (v := (y3 + (nI 1))) (lv' := [(3, .int (y3 + (nI 1))), (1, .long (y1 * (100 : Int64))), (0, .ref 81)]) dX10_allWays_21 2 rfl rfl (by decide) rfl ?_
      refine g_goto (tgt := 4) dX10_allWays_24 (by decide) ?_
      refine g_sub [2, 1, 0] (lv' := [(0, .ref 81), (1, .long (y1 * (100 : Int64))), (3, .int (y3 + (nI 1)))]) rfl ?_
      exact ih _ _  _ h
set_option maxHeartbeats 4000000 in
set_option maxRecDepth 100000 in
theorem s_X10_allWays {l : Launch} {B : BT} (hA : bA B = false) {d : Nat} {r : Int64} {M' : Mm}  {M : Mm}  (h : f_X10_allWays  M = some (r, M')) : Con l B LY (d + 0) yX10_allWays cX10_allWays 4 (some .long) 0 0 [.ref 81] 97 M (PL r M') := by
  refine con_of (by decide) (Nat.le_of_ble_eq_true rfl) ?_
  show GG l B LY (d + 0) yX10_allWays cX10_allWays 4 (some .long) 0 0 (PL r M') 97 0 0 0 [(0, .ref 81)] [] M
  rw [f_X10_allWays] at h
  refine g_lconst (v := 1) dX10_allWays_0 (by decide) ?_
  refine g_lstore_n (lv' := [(1, .long (1 : Int64)), (0, .ref 81)]) dX10_allWays_1 rfl (by decide) rfl ?_
  refine g_iconst (v := (nI 1)) dX10_allWays_2 (by decide) ?_
  refine g_istore_n (lv' := [(3, .int (nI 1)), (1, .long (1 : Int64)), (0, .ref 81)]) dX10_allWays_3 rfl (by decide) rfl ?_
  refine g_sub [2, 1, 0] (lv' := [(0, .ref 81), (1, .long (1 : Int64)), (3, .int (nI 1))]) rfl ?_
  refine sl_X10_allWays_4 hA   _ _ _ _ h
theorem ck_X10_allWays : CKV yX10_allWays cX10_allWays 4 (some .long) 0 := ⟨⟨by decide, by decide, by decide +kernel⟩, w_1628, w_81, ⟨w_1627, w_47⟩, by decide⟩
theorem dX10_first_0 : decode cX10_first 0 = .ok (.lconst 1, 1) := by decide +kernel
theorem dX10_first_1 : decode cX10_first 1 = .ok (.lstore_n 2, 1) := by decide +kernel
theorem dX10_first_2 : decode cX10_first 2 = .ok (.iconst 0, 1) := by decide +kernel
theorem dX10_first_3 : decode cX10_first 3 = .ok (.istore 4, 2) := by decide +kernel
theorem dX10_first_5 : decode cX10_first 5 = .ok (.iload 4, 2) := by decide +kernel
theorem dX10_first_7 : decode cX10_first 7 = .ok (.aload_n 0, 1) := by decide +kernel
theorem dX10_first_8 : decode cX10_first 8 = .ok (.getfield 20, 3) := by decide +kernel
theorem dX10_first_11 : decode cX10_first 11 = .ok (.bipush 92, 2) := by decide +kernel
theorem dX10_first_13 : decode cX10_first 13 = .ok (.iaload, 1) := by decide +kernel
theorem dX10_first_14 : decode cX10_first 14 = .ok (.iconst 1, 1) := by decide +kernel
theorem dX10_first_15 : decode cX10_first 15 = .ok (.isub, 1) := by decide +kernel
theorem dX10_first_16 : decode cX10_first 16 = .ok (.if_icmp .ge 58, 3) := by decide +kernel
theorem dX10_first_19 : decode cX10_first 19 = .ok (.lload_n 2, 1) := by decide +kernel
theorem dX10_first_20 : decode cX10_first 20 = .ok (.iload 4, 2) := by decide +kernel
theorem dX10_first_22 : decode cX10_first 22 = .ok (.iload_n 1, 1) := by decide +kernel
theorem dX10_first_23 : decode cX10_first 23 = .ok (.if_icmp .ge 20, 3) := by decide +kernel
theorem dX10_first_26 : decode cX10_first 26 = .ok (.bipush 100, 2) := by decide +kernel
theorem dX10_first_28 : decode cX10_first 28 = .ok (.aload_n 0, 1) := by decide +kernel
theorem dX10_first_29 : decode cX10_first 29 = .ok (.getfield 20, 3) := by decide +kernel
theorem dX10_first_32 : decode cX10_first 32 = .ok (.bipush 6, 2) := by decide +kernel
theorem dX10_first_34 : decode cX10_first 34 = .ok (.iload 4, 2) := by decide +kernel
theorem dX10_first_36 : decode cX10_first 36 = .ok (.iadd, 1) := by decide +kernel
theorem dX10_first_37 : decode cX10_first 37 = .ok (.iaload, 1) := by decide +kernel
theorem dX10_first_38 : decode cX10_first 38 = .ok (.isub, 1) := by decide +kernel
theorem dX10_first_39 : decode cX10_first 39 = .ok (.i2l, 1) := by decide +kernel
theorem dX10_first_40 : decode cX10_first 40 = .ok (.goto 26, 3) := by decide +kernel
theorem dX10_first_43 : decode cX10_first 43 = .ok (.iload 4, 2) := by decide +kernel
theorem dX10_first_45 : decode cX10_first 45 = .ok (.iload_n 1, 1) := by decide +kernel
theorem dX10_first_46 : decode cX10_first 46 = .ok (.if_icmp .ne 17, 3) := by decide +kernel
theorem dX10_first_49 : decode cX10_first 49 = .ok (.aload_n 0, 1) := by decide +kernel
theorem dX10_first_50 : decode cX10_first 50 = .ok (.getfield 20, 3) := by decide +kernel
theorem dX10_first_53 : decode cX10_first 53 = .ok (.bipush 6, 2) := by decide +kernel
theorem dX10_first_55 : decode cX10_first 55 = .ok (.iload 4, 2) := by decide +kernel
theorem dX10_first_57 : decode cX10_first 57 = .ok (.iadd, 1) := by decide +kernel
theorem dX10_first_58 : decode cX10_first 58 = .ok (.iaload, 1) := by decide +kernel
theorem dX10_first_59 : decode cX10_first 59 = .ok (.i2l, 1) := by decide +kernel
theorem dX10_first_60 : decode cX10_first 60 = .ok (.goto 6, 3) := by decide +kernel
theorem dX10_first_63 : decode cX10_first 63 = .ok (.ldc2_w 290, 3) := by decide +kernel
theorem dX10_first_66 : decode cX10_first 66 = .ok (.lmul, 1) := by decide +kernel
theorem dX10_first_67 : decode cX10_first 67 = .ok (.lstore_n 2, 1) := by decide +kernel
theorem dX10_first_68 : decode cX10_first 68 = .ok (.iinc 4 1, 3) := by decide +kernel
theorem dX10_first_71 : decode cX10_first 71 = .ok (.goto (-66), 3) := by decide +kernel
theorem dX10_first_74 : decode cX10_first 74 = .ok (.lload_n 2, 1) := by decide +kernel
theorem dX10_first_75 : decode cX10_first 75 = .ok (.lreturn, 1) := by decide +kernel
def lp_X10_first_5 (y1 : Int32)  : Nat → Int64 → Int32 → Mm → Option (Int64 × Mm)
  | 0, _, _, _ => none
  | n + 1, y2, y4, M =>
    if ((M 84 92) - (nI 1)) ≤ y4 then (some (y2, M)) else (jn (fun (s1 : Int64) (M2 : Mm) => lp_X10_first_5 y1 n (y2 * s1) (y4 + (nI 1)) M2) fun j3 => if y1 ≤ y4 then (if y4 = y1 then (gd (inb ((nI 6) + y4) 141) <| j3 (M 84 ((nI 6) + y4).toNatClampNeg).toInt64 M) else (j3 (100 : Int64) M)) else (gd (inb ((nI 6) + y4) 141) <| j3 ((nI 100) - (M 84 ((nI 6) + y4).toNatClampNeg)).toInt64 M))
def f_X10_first (x1 : Int32) (M : Mm) : Option (Int64 × Mm) :=
  lp_X10_first_5 x1  N0 (1 : Int64) (nI 0) M
set_option maxHeartbeats 4000000 in
set_option maxRecDepth 100000 in
theorem sl_X10_first_5 {l : Launch} {B : BT} (hA : bA B = false) {d : Nat} {r : Int64} {M' : Mm} {y1 : Int32}    :
    ∀ (n : Nat) (y2 : Int64) (y4 : Int32) (M : Mm), lp_X10_first_5 y1 n y2 y4 M = some (r, M') → GG l B LY (d + 0) yX10_first cX10_first 5 (some .long) 0 0 (PL r M') 97 0 0 5 [(0, .ref 81), (1, .int y1), (2, .long y2), (4, .int y4)] [] M := by
  intro n
  induction n with
  | zero => intro y2 y4 M h; cases h
  | succ n ih =>
    intro y2 y4 M h
    rw [lp_X10_first_5] at h
    refine g_iload dX10_first_5 3 rfl ?_
    refine g_aload_n dX10_first_7 rfl 0 rfl ?_
    refine m_getr (k := 15) okX10 rfl rfl (by decide) w_1284 rfl dX10_first_8 ?_
    refine g_bipush (v := (nI 92)) dX10_first_11 (by decide) ?_
    refine m_ialdL (k := 92) rfl rfl (by decide) dX10_first_13 ?_
    refine g_iconst (v := (nI 1)) dX10_first_14 (by decide) ?_
    refine g_isub dX10_first_15 ?_
    refine g_icmp_ge (tgt := 74) dX10_first_16 (by decide) (fun c6 => ?_) (fun c6 => ?_)
    · replace h := ite_p c6 h
      refine g_lload_n dX10_first_74 rfl 2 rfl ?_
      exact g_lret rfl (pl_of h) dX10_first_75
    · replace h := ite_n c6 h
      refine g_lload_n dX10_first_19 rfl 2 rfl ?_
      refine g_iload dX10_first_20 3 rfl ?_
      refine g_iload_n dX10_first_22 rfl 1 rfl ?_
      obtain ⟨j3, ej3, h⟩ := jn_e h
      have hj3 : ∀ (s1 : Int64) (M2 : Mm), j3 s1 M2 = some (r, M') → GG l B LY (d + 0) yX10_first cX10_first 5 (some .long) 0 0 (PL r M') 97 0 0 66 [(0, .ref 81), (1, .int y1), (4, .int y4)] [.long s1, .long y2] M2 := by
        intro s1 M2 h
        rw [ej3] at h
        refine g_lmul dX10_first_66 ?_
        refine g_lstore_n (lv' := [(2, .long (y2 * s1)), (0, .ref 81), (1, .int y1), (4, .int y4)]) dX10_first_67 rfl (by decide) rfl ?_
        refine g_iinc (v := (y4 + (nI 1))) (lv' := [(4, .int (y4 + (nI 1))), (2, .long (y2 * s1)), (0, .ref 81), (1, .int y1)]) dX10_first_68 3 rfl rfl (by decide) rfl ?_
        refine g_goto (tgt := 5) dX10_first_71 (by decide) ?_
        refine g_sub [2, 3, 1, 0] (lv' := [(0, .ref 81), (1, .int y1), (2, .long (y2 * s1)), (4, .int (y4 + (nI 1)))]) rfl ?_
        exact ih _ _  _ h
      refine g_icmp_ge (tgt := 43) dX10_first_23 (by decide) (fun c5 => ?_) (fun c5 => ?_)
      · replace h := ite_p c5 h
        refine g_iload dX10_first_43 3 rfl ?_
        refine g_iload_n dX10_first_45 rfl 1 rfl ?_
        refine g_icmp_ne (tgt := 63) dX10_first_46 (by decide) (fun c4 => ?_) (fun c4 => ?_)
        · replace h := ite_n c4 h
          refine g_ldc2 (v := 100) w_1620 dX10_first_63 ?_
          refine g_sub [0, 1, 3] (lv' := [(0, .ref 81), (1, .int y1), (4, .int y4)]) rfl ?_
          exact hj3 _ _ h
        · replace h := ite_p c4 h
          refine g_aload_n dX10_first_49 rfl 0 rfl ?_
          refine m_getr (k := 15) okX10 rfl rfl (by decide) w_1284 rfl dX10_first_50 ?_
          refine g_bipush (v := (nI 6)) dX10_first_53 (by decide) ?_
          refine g_iload dX10_first_55 3 rfl ?_
          refine g_iadd dX10_first_57 ?_
          obtain ⟨hz, h⟩ := gd_s h
          refine m_iald rfl hz dX10_first_58 ?_
          refine g_i2l dX10_first_59 ?_
          refine g_goto (tgt := 66) dX10_first_60 (by decide) ?_
          refine g_sub [0, 1, 3] (lv' := [(0, .ref 81), (1, .int y1), (4, .int y4)]) rfl ?_
          exact hj3 _ _ h
      · replace h := ite_n c5 h
        refine g_bipush (v := (nI 100)) dX10_first_26 (by decide) ?_
        refine g_aload_n dX10_first_28 rfl 0 rfl ?_
        refine m_getr (k := 15) okX10 rfl rfl (by decide) w_1284 rfl dX10_first_29 ?_
        refine g_bipush (v := (nI 6)) dX10_first_32 (by decide) ?_
        refine g_iload dX10_first_34 3 rfl ?_
        refine g_iadd dX10_first_36 ?_
        obtain ⟨hz, h⟩ := gd_s h
        refine m_iald rfl hz dX10_first_37 ?_
        refine g_isub dX10_first_38 ?_
        refine g_i2l dX10_first_39 ?_
        refine g_goto (tgt := 66) dX10_first_40 (by decide) ?_
        refine g_sub [0, 1, 3] (lv' := [(0, .ref 81), (1, .int y1), (4, .int y4)]) rfl ?_
        exact hj3 _ _ h
set_option maxHeartbeats 4000000 in
set_option maxRecDepth 100000 in
theorem s_X10_first {l : Launch} {B : BT} (hA : bA B = false) {d : Nat} {r : Int64} {M' : Mm} {x1 : Int32} {M : Mm}  (h : f_X10_first x1 M = some (r, M')) : Con l B LY (d + 0) yX10_first cX10_first 5 (some .long) 0 0 [.ref 81, .int x1] 97 M (PL r M') := by
  refine con_of (by decide) (Nat.le_of_ble_eq_true rfl) ?_
  show GG l B LY (d + 0) yX10_first cX10_first 5 (some .long) 0 0 (PL r M') 97 0 0 0 [(0, .ref 81), (1, .int x1)] [] M
  rw [f_X10_first] at h
  refine g_lconst (v := 1) dX10_first_0 (by decide) ?_
  refine g_lstore_n (lv' := [(2, .long (1 : Int64)), (0, .ref 81), (1, .int x1)]) dX10_first_1 rfl (by decide) rfl ?_
  refine g_iconst (v := (nI 0)) dX10_first_2 (by decide) ?_
  refine g_istore (lv' := [(4, .int (nI 0)), (2, .long (1 : Int64)), (0, .ref 81), (1, .int x1)]) dX10_first_3 (by decide) rfl ?_
  refine g_sub [2, 3, 1, 0] (lv' := [(0, .ref 81), (1, .int x1), (2, .long (1 : Int64)), (4, .int (nI 0))]) rfl ?_
  refine sl_X10_first_5 hA   _ _ _ _ h
theorem ck_X10_first : CKV yX10_first cX10_first 5 (some .long) 1 := ⟨⟨by decide, by decide, by decide +kernel⟩, w_1619, w_81, ⟨w_1618, w_46⟩, by decide⟩
theorem dX10_behind_0 : decode cX10_behind 0 = .ok (.aload_n 0, 1) := by decide +kernel
theorem dX10_behind_1 : decode cX10_behind 1 = .ok (.invokevirtual 156, 3) := by decide +kernel
theorem dX10_behind_4 : decode cX10_behind 4 = .ok (.aload_n 0, 1) := by decide +kernel
theorem dX10_behind_5 : decode cX10_behind 5 = .ok (.getfield 165, 3) := by decide +kernel
theorem dX10_behind_8 : decode cX10_behind 8 = .ok (.ifCond .eq 28, 3) := by decide +kernel
theorem dX10_behind_11 : decode cX10_behind 11 = .ok (.iload_n 1, 1) := by decide +kernel
theorem dX10_behind_12 : decode cX10_behind 12 = .ok (.iconst 0, 1) := by decide +kernel
theorem dX10_behind_13 : decode cX10_behind 13 = .ok (.aload_n 0, 1) := by decide +kernel
theorem dX10_behind_14 : decode cX10_behind 14 = .ok (.getfield 20, 3) := by decide +kernel
theorem dX10_behind_17 : decode cX10_behind 17 = .ok (.bipush 92, 2) := by decide +kernel
theorem dX10_behind_19 : decode cX10_behind 19 = .ok (.iaload, 1) := by decide +kernel
theorem dX10_behind_20 : decode cX10_behind 20 = .ok (.iconst 1, 1) := by decide +kernel
theorem dX10_behind_21 : decode cX10_behind 21 = .ok (.isub, 1) := by decide +kernel
theorem dX10_behind_22 : decode cX10_behind 22 = .ok (.invokestatic 144, 3) := by decide +kernel
theorem dX10_behind_25 : decode cX10_behind 25 = .ok (.ifCond .eq 11, 3) := by decide +kernel
theorem dX10_behind_28 : decode cX10_behind 28 = .ok (.aload_n 0, 1) := by decide +kernel
theorem dX10_behind_29 : decode cX10_behind 29 = .ok (.iload_n 1, 1) := by decide +kernel
theorem dX10_behind_30 : decode cX10_behind 30 = .ok (.invokevirtual 292, 3) := by decide +kernel
theorem dX10_behind_33 : decode cX10_behind 33 = .ok (.goto 9, 3) := by decide +kernel
theorem dX10_behind_36 : decode cX10_behind 36 = .ok (.aload_n 0, 1) := by decide +kernel
theorem dX10_behind_37 : decode cX10_behind 37 = .ok (.iconst 1, 1) := by decide +kernel
theorem dX10_behind_38 : decode cX10_behind 38 = .ok (.invokevirtual 159, 3) := by decide +kernel
theorem dX10_behind_41 : decode cX10_behind 41 = .ok (.i2l, 1) := by decide +kernel
theorem dX10_behind_42 : decode cX10_behind 42 = .ok (.lreturn, 1) := by decide +kernel
def f_X10_behind (x1 : Int32) (M : Mm) : Option (Int64 × Mm) :=
  bv (f_X10_good  M) fun M1_1 => jn (fun (M3 : Mm) => bd (f_X10_no (nI 1) M3) fun v38_6 M38_5 => some (v38_6.toInt64, M38_5)) fun j4 => if (M1_1 81 14) = 0 then (j4  M1_1) else (bd (f_X10_within x1 (nI 0) ((M1_1 84 92) - (nI 1)) M1_1) fun v22_8 M22_7 => if v22_8 = 0 then (j4  M22_7) else (bd (f_X10_first x1 M22_7) fun v30_10 M30_9 => some (v30_10, M30_9)))
set_option maxHeartbeats 4000000 in
set_option maxRecDepth 100000 in
theorem s_X10_behind {l : Launch} {B : BT} (hA : bA B = false) {d : Nat} {r : Int64} {M' : Mm} {x1 : Int32} {M : Mm}  (h : f_X10_behind x1 M = some (r, M')) : Con l B LY (d + 1) yX10_behind cX10_behind 2 (some .long) 0 0 [.ref 81, .int x1] 97 M (PL r M') := by
  refine con_of (by decide) (Nat.le_of_ble_eq_true rfl) ?_
  show GG l B LY (d + 1) yX10_behind cX10_behind 2 (some .long) 0 0 (PL r M') 97 0 0 0 [(0, .ref 81), (1, .int x1)] [] M
  rw [f_X10_behind] at h
  refine g_aload_n dX10_behind_0 rfl 0 rfl ?_
  obtain ⟨M1_1, eM1_1, h⟩ := bv_e h
  refine m_callVv (As := []) (st := []) (s_X10_good (d := d + 0) hA  eM1_1) rfl okX10 ck_X10_good w_1381 rfl (Nat.le_of_ble_eq_true rfl) dX10_behind_1 ?_
  refine g_aload_n dX10_behind_4 rfl 0 rfl ?_
  refine m_geti (k := 14) okX10 rfl rfl (by decide) w_1283 rfl dX10_behind_5 ?_
  obtain ⟨j4, ej4, h⟩ := jn_e h
  have hj4 : ∀ (M3 : Mm), j4 M3 = some (r, M') → GG l B LY (d + 1) yX10_behind cX10_behind 2 (some .long) 0 0 (PL r M') 97 0 0 36 [(0, .ref 81)] [] M3 := by
    intro M3 h
    rw [ej4] at h
    refine g_aload_n dX10_behind_36 rfl 0 rfl ?_
    refine g_iconst (v := (nI 1)) dX10_behind_37 (by decide) ?_
    obtain ⟨v38_6, M38_5, eM38_5, h⟩ := bd_e h
    refine m_callVi (As := [.int (nI 1)]) (st := []) (s_X10_no (d := d + 0) hA  eM38_5) rfl okX10 ck_X10_no w_1388 rfl (Nat.le_of_ble_eq_true rfl) dX10_behind_38 ?_
    refine g_i2l dX10_behind_41 ?_
    exact g_lret rfl (pl_of h) dX10_behind_42
  refine g_if_eq (tgt := 36) dX10_behind_8 (by decide) (fun c12 => ?_) (fun c12 => ?_)
  · replace h := ite_p c12 h
    refine g_sub [0] (lv' := [(0, .ref 81)]) rfl ?_
    exact hj4  _ h
  · replace h := ite_n c12 h
    refine g_iload_n dX10_behind_11 rfl 1 rfl ?_
    refine g_iconst (v := (nI 0)) dX10_behind_12 (by decide) ?_
    refine g_aload_n dX10_behind_13 rfl 0 rfl ?_
    refine m_getr (k := 15) okX10 rfl rfl (by decide) w_1284 rfl dX10_behind_14 ?_
    refine g_bipush (v := (nI 92)) dX10_behind_17 (by decide) ?_
    refine m_ialdL (k := 92) rfl rfl (by decide) dX10_behind_19 ?_
    refine g_iconst (v := (nI 1)) dX10_behind_20 (by decide) ?_
    refine g_isub dX10_behind_21 ?_
    obtain ⟨v22_8, M22_7, eM22_7, h⟩ := bd_e h
    refine m_callSi (As := [.int x1, .int (nI 0), .int ((M1_1 84 92) - (nI 1))]) (st := []) (s_X10_within (d := d + 0) hA  eM22_7) ck_X10_within w_1385 rfl (Nat.le_of_ble_eq_true rfl) dX10_behind_22 ?_
    refine g_if_eq (tgt := 36) dX10_behind_25 (by decide) (fun c11 => ?_) (fun c11 => ?_)
    · replace h := ite_p c11 h
      refine g_sub [0] (lv' := [(0, .ref 81)]) rfl ?_
      exact hj4  _ h
    · replace h := ite_n c11 h
      refine g_aload_n dX10_behind_28 rfl 0 rfl ?_
      refine g_iload_n dX10_behind_29 rfl 1 rfl ?_
      obtain ⟨v30_10, M30_9, eM30_9, h⟩ := bd_e h
      refine m_callVl (As := [.int x1]) (st := []) (s_X10_first (d := d + 0) hA  eM30_9) rfl okX10 ck_X10_first w_1616 rfl (Nat.le_of_ble_eq_true rfl) dX10_behind_30 ?_
      refine g_goto (tgt := 42) dX10_behind_33 (by decide) ?_
      exact g_lret rfl (pl_of h) dX10_behind_42
theorem ck_X10_behind : CKV yX10_behind cX10_behind 2 (some .long) 1 := ⟨⟨by decide, by decide, by decide +kernel⟩, w_1615, w_81, ⟨w_1613, w_1614⟩, by decide⟩
theorem dX10_ways_0 : decode cX10_ways 0 = .ok (.aload_n 0, 1) := by decide +kernel
theorem dX10_ways_1 : decode cX10_ways 1 = .ok (.invokevirtual 156, 3) := by decide +kernel
theorem dX10_ways_4 : decode cX10_ways 4 = .ok (.aload_n 0, 1) := by decide +kernel
theorem dX10_ways_5 : decode cX10_ways 5 = .ok (.getfield 165, 3) := by decide +kernel
theorem dX10_ways_8 : decode cX10_ways 8 = .ok (.ifCond .eq 10, 3) := by decide +kernel
theorem dX10_ways_11 : decode cX10_ways 11 = .ok (.aload_n 0, 1) := by decide +kernel
theorem dX10_ways_12 : decode cX10_ways 12 = .ok (.invokevirtual 296, 3) := by decide +kernel
theorem dX10_ways_15 : decode cX10_ways 15 = .ok (.goto 9, 3) := by decide +kernel
theorem dX10_ways_18 : decode cX10_ways 18 = .ok (.aload_n 0, 1) := by decide +kernel
theorem dX10_ways_19 : decode cX10_ways 19 = .ok (.iconst 1, 1) := by decide +kernel
theorem dX10_ways_20 : decode cX10_ways 20 = .ok (.invokevirtual 159, 3) := by decide +kernel
theorem dX10_ways_23 : decode cX10_ways 23 = .ok (.i2l, 1) := by decide +kernel
theorem dX10_ways_24 : decode cX10_ways 24 = .ok (.lreturn, 1) := by decide +kernel
def f_X10_ways  (M : Mm) : Option (Int64 × Mm) :=
  bv (f_X10_good  M) fun M1_1 => if (M1_1 81 14) = 0 then (bd (f_X10_no (nI 1) M1_1) fun v20_4 M20_3 => some (v20_4.toInt64, M20_3)) else (bd (f_X10_allWays  M1_1) fun v12_6 M12_5 => some (v12_6, M12_5))
set_option maxHeartbeats 4000000 in
set_option maxRecDepth 100000 in
theorem s_X10_ways {l : Launch} {B : BT} (hA : bA B = false) {d : Nat} {r : Int64} {M' : Mm}  {M : Mm}  (h : f_X10_ways  M = some (r, M')) : Con l B LY (d + 1) yX10_ways cX10_ways 1 (some .long) 0 0 [.ref 81] 97 M (PL r M') := by
  refine con_of (by decide) (Nat.le_of_ble_eq_true rfl) ?_
  show GG l B LY (d + 1) yX10_ways cX10_ways 1 (some .long) 0 0 (PL r M') 97 0 0 0 [(0, .ref 81)] [] M
  rw [f_X10_ways] at h
  refine g_aload_n dX10_ways_0 rfl 0 rfl ?_
  obtain ⟨M1_1, eM1_1, h⟩ := bv_e h
  refine m_callVv (As := []) (st := []) (s_X10_good (d := d + 0) hA  eM1_1) rfl okX10 ck_X10_good w_1381 rfl (Nat.le_of_ble_eq_true rfl) dX10_ways_1 ?_
  refine g_aload_n dX10_ways_4 rfl 0 rfl ?_
  refine m_geti (k := 14) okX10 rfl rfl (by decide) w_1283 rfl dX10_ways_5 ?_
  refine g_if_eq (tgt := 18) dX10_ways_8 (by decide) (fun c7 => ?_) (fun c7 => ?_)
  · replace h := ite_p c7 h
    refine g_aload_n dX10_ways_18 rfl 0 rfl ?_
    refine g_iconst (v := (nI 1)) dX10_ways_19 (by decide) ?_
    obtain ⟨v20_4, M20_3, eM20_3, h⟩ := bd_e h
    refine m_callVi (As := [.int (nI 1)]) (st := []) (s_X10_no (d := d + 0) hA  eM20_3) rfl okX10 ck_X10_no w_1388 rfl (Nat.le_of_ble_eq_true rfl) dX10_ways_20 ?_
    refine g_i2l dX10_ways_23 ?_
    exact g_lret rfl (pl_of h) dX10_ways_24
  · replace h := ite_n c7 h
    refine g_aload_n dX10_ways_11 rfl 0 rfl ?_
    obtain ⟨v12_6, M12_5, eM12_5, h⟩ := bd_e h
    refine m_callVl (As := []) (st := []) (s_X10_allWays (d := d + 0) hA  eM12_5) rfl okX10 ck_X10_allWays w_1625 rfl (Nat.le_of_ble_eq_true rfl) dX10_ways_12 ?_
    refine g_goto (tgt := 24) dX10_ways_15 (by decide) ?_
    exact g_lret rfl (pl_of h) dX10_ways_24
theorem ck_X10_ways : CKV yX10_ways cX10_ways 1 (some .long) 0 := ⟨⟨by decide, by decide, by decide +kernel⟩, w_1624, w_81, ⟨w_1622, w_1623⟩, by decide⟩
theorem dX10_endOf_0 : decode cX10_endOf 0 = .ok (.iconst 0, 1) := by decide +kernel
theorem dX10_endOf_1 : decode cX10_endOf 1 = .ok (.istore_n 2, 1) := by decide +kernel
theorem dX10_endOf_2 : decode cX10_endOf 2 = .ok (.iconst 0, 1) := by decide +kernel
theorem dX10_endOf_3 : decode cX10_endOf 3 = .ok (.istore_n 3, 1) := by decide +kernel
theorem dX10_endOf_4 : decode cX10_endOf 4 = .ok (.iload_n 3, 1) := by decide +kernel
theorem dX10_endOf_5 : decode cX10_endOf 5 = .ok (.iload_n 1, 1) := by decide +kernel
theorem dX10_endOf_6 : decode cX10_endOf 6 = .ok (.if_icmp .gt 17, 3) := by decide +kernel
theorem dX10_endOf_9 : decode cX10_endOf 9 = .ok (.iload_n 2, 1) := by decide +kernel
theorem dX10_endOf_10 : decode cX10_endOf 10 = .ok (.aload_n 0, 1) := by decide +kernel
theorem dX10_endOf_11 : decode cX10_endOf 11 = .ok (.iload_n 3, 1) := by decide +kernel
theorem dX10_endOf_12 : decode cX10_endOf 12 = .ok (.invokevirtual 237, 3) := by decide +kernel
theorem dX10_endOf_15 : decode cX10_endOf 15 = .ok (.iadd, 1) := by decide +kernel
theorem dX10_endOf_16 : decode cX10_endOf 16 = .ok (.istore_n 2, 1) := by decide +kernel
theorem dX10_endOf_17 : decode cX10_endOf 17 = .ok (.iinc 3 1, 3) := by decide +kernel
theorem dX10_endOf_20 : decode cX10_endOf 20 = .ok (.goto (-16), 3) := by decide +kernel
theorem dX10_endOf_23 : decode cX10_endOf 23 = .ok (.iload_n 2, 1) := by decide +kernel
theorem dX10_endOf_24 : decode cX10_endOf 24 = .ok (.ireturn, 1) := by decide +kernel
def lp_X10_endOf_4 (y1 : Int32)  : Nat → Int32 → Int32 → Mm → Option (Int32 × Mm)
  | 0, _, _, _ => none
  | n + 1, y2, y3, M =>
    if y1 < y3 then (some (y2, M)) else (bd (f_X10_tenthsOf y3 M) fun v12_2 M12_1 => lp_X10_endOf_4 y1 n (y2 + v12_2) (y3 + (nI 1)) M12_1)
def f_X10_endOf (x1 : Int32) (M : Mm) : Option (Int32 × Mm) :=
  lp_X10_endOf_4 x1  N0 (nI 0) (nI 0) M
set_option maxHeartbeats 4000000 in
set_option maxRecDepth 100000 in
theorem sl_X10_endOf_4 {l : Launch} {B : BT} (hA : bA B = false) {d : Nat} {r : Int32} {M' : Mm} {y1 : Int32}    :
    ∀ (n : Nat) (y2 : Int32) (y3 : Int32) (M : Mm), lp_X10_endOf_4 y1 n y2 y3 M = some (r, M') → GG l B LY (d + 1) yX10_endOf cX10_endOf 4 (some .int) 0 0 (PI r M') 97 0 0 4 [(0, .ref 81), (1, .int y1), (2, .int y2), (3, .int y3)] [] M := by
  intro n
  induction n with
  | zero => intro y2 y3 M h; cases h
  | succ n ih =>
    intro y2 y3 M h
    rw [lp_X10_endOf_4] at h
    refine g_iload_n dX10_endOf_4 rfl 3 rfl ?_
    refine g_iload_n dX10_endOf_5 rfl 1 rfl ?_
    refine g_icmp_gt (tgt := 23) dX10_endOf_6 (by decide) (fun c3 => ?_) (fun c3 => ?_)
    · replace h := ite_p c3 h
      refine g_iload_n dX10_endOf_23 rfl 2 rfl ?_
      exact g_zret rfl rfl (pi_of h) dX10_endOf_24
    · replace h := ite_n c3 h
      refine g_iload_n dX10_endOf_9 rfl 2 rfl ?_
      refine g_aload_n dX10_endOf_10 rfl 0 rfl ?_
      refine g_iload_n dX10_endOf_11 rfl 3 rfl ?_
      obtain ⟨v12_2, M12_1, eM12_1, h⟩ := bd_e h
      refine m_callVi (As := [.int y3]) (st := [.int y2]) (s_X10_tenthsOf (d := d + 0) hA  eM12_1) rfl okX10 ck_X10_tenthsOf w_1524 rfl (Nat.le_of_ble_eq_true rfl) dX10_endOf_12 ?_
      refine g_iadd dX10_endOf_15 ?_
      refine g_istore_n (lv' := [(2, .int (y2 + v12_2)), (0, .ref 81), (1, .int y1), (3, .int y3)]) dX10_endOf_16 rfl (by decide) rfl ?_
      refine g_iinc (v := (y3 + (nI 1))) (lv' := [(3, .int (y3 + (nI 1))), (2, .int (y2 + v12_2)), (0, .ref 81), (1, .int y1)]) dX10_endOf_17 3 rfl rfl (by decide) rfl ?_
      refine g_goto (tgt := 4) dX10_endOf_20 (by decide) ?_
      refine g_sub [2, 3, 1, 0] (lv' := [(0, .ref 81), (1, .int y1), (2, .int (y2 + v12_2)), (3, .int (y3 + (nI 1)))]) rfl ?_
      exact ih _ _  _ h
set_option maxHeartbeats 4000000 in
set_option maxRecDepth 100000 in
theorem s_X10_endOf {l : Launch} {B : BT} (hA : bA B = false) {d : Nat} {r : Int32} {M' : Mm} {x1 : Int32} {M : Mm}  (h : f_X10_endOf x1 M = some (r, M')) : Con l B LY (d + 1) yX10_endOf cX10_endOf 4 (some .int) 0 0 [.ref 81, .int x1] 97 M (PI r M') := by
  refine con_of (by decide) (Nat.le_of_ble_eq_true rfl) ?_
  show GG l B LY (d + 1) yX10_endOf cX10_endOf 4 (some .int) 0 0 (PI r M') 97 0 0 0 [(0, .ref 81), (1, .int x1)] [] M
  rw [f_X10_endOf] at h
  refine g_iconst (v := (nI 0)) dX10_endOf_0 (by decide) ?_
  refine g_istore_n (lv' := [(2, .int (nI 0)), (0, .ref 81), (1, .int x1)]) dX10_endOf_1 rfl (by decide) rfl ?_
  refine g_iconst (v := (nI 0)) dX10_endOf_2 (by decide) ?_
  refine g_istore_n (lv' := [(3, .int (nI 0)), (2, .int (nI 0)), (0, .ref 81), (1, .int x1)]) dX10_endOf_3 rfl (by decide) rfl ?_
  refine g_sub [2, 3, 1, 0] (lv' := [(0, .ref 81), (1, .int x1), (2, .int (nI 0)), (3, .int (nI 0))]) rfl ?_
  refine sl_X10_endOf_4 hA   _ _ _ _ h
theorem ck_X10_endOf : CKV yX10_endOf cX10_endOf 4 (some .int) 1 := ⟨⟨by decide, by decide, by decide +kernel⟩, w_1644, w_81, ⟨w_1643, w_50⟩, by decide⟩
theorem dX10_whole_0 : decode cX10_whole 0 = .ok (.aload_n 0, 1) := by decide +kernel
theorem dX10_whole_1 : decode cX10_whole 1 = .ok (.aload_n 0, 1) := by decide +kernel
theorem dX10_whole_2 : decode cX10_whole 2 = .ok (.getfield 20, 3) := by decide +kernel
theorem dX10_whole_5 : decode cX10_whole 5 = .ok (.bipush 92, 2) := by decide +kernel
theorem dX10_whole_7 : decode cX10_whole 7 = .ok (.iaload, 1) := by decide +kernel
theorem dX10_whole_8 : decode cX10_whole 8 = .ok (.iconst 1, 1) := by decide +kernel
theorem dX10_whole_9 : decode cX10_whole 9 = .ok (.isub, 1) := by decide +kernel
theorem dX10_whole_10 : decode cX10_whole 10 = .ok (.invokevirtual 300, 3) := by decide +kernel
theorem dX10_whole_13 : decode cX10_whole 13 = .ok (.ireturn, 1) := by decide +kernel
def f_X10_whole  (M : Mm) : Option (Int32 × Mm) :=
  bd (f_X10_endOf ((M 84 92) - (nI 1)) M) fun v10_2 M10_1 => some (v10_2, M10_1)
set_option maxHeartbeats 4000000 in
set_option maxRecDepth 100000 in
theorem s_X10_whole {l : Launch} {B : BT} (hA : bA B = false) {d : Nat} {r : Int32} {M' : Mm}  {M : Mm}  (h : f_X10_whole  M = some (r, M')) : Con l B LY (d + 2) yX10_whole cX10_whole 1 (some .int) 0 0 [.ref 81] 97 M (PI r M') := by
  refine con_of (by decide) (Nat.le_of_ble_eq_true rfl) ?_
  show GG l B LY (d + 2) yX10_whole cX10_whole 1 (some .int) 0 0 (PI r M') 97 0 0 0 [(0, .ref 81)] [] M
  rw [f_X10_whole] at h
  refine g_aload_n dX10_whole_0 rfl 0 rfl ?_
  refine g_aload_n dX10_whole_1 rfl 0 rfl ?_
  refine m_getr (k := 15) okX10 rfl rfl (by decide) w_1284 rfl dX10_whole_2 ?_
  refine g_bipush (v := (nI 92)) dX10_whole_5 (by decide) ?_
  refine m_ialdL (k := 92) rfl rfl (by decide) dX10_whole_7 ?_
  refine g_iconst (v := (nI 1)) dX10_whole_8 (by decide) ?_
  refine g_isub dX10_whole_9 ?_
  obtain ⟨v10_2, M10_1, eM10_1, h⟩ := bd_e h
  refine m_callVi (As := [.int ((M 84 92) - (nI 1))]) (st := []) (s_X10_endOf (d := d + 0) hA  eM10_1) rfl okX10 ck_X10_endOf w_1641 rfl (Nat.le_of_ble_eq_true rfl) dX10_whole_10 ?_
  exact g_zret rfl rfl (pi_of h) dX10_whole_13
theorem ck_X10_whole : CKV yX10_whole cX10_whole 1 (some .int) 0 := ⟨⟨by decide, by decide, by decide +kernel⟩, w_1640, w_81, ⟨w_1639, w_49⟩, by decide⟩
theorem dX10_gone_0 : decode cX10_gone 0 = .ok (.aload_n 0, 1) := by decide +kernel
theorem dX10_gone_1 : decode cX10_gone 1 = .ok (.getfield 20, 3) := by decide +kernel
theorem dX10_gone_4 : decode cX10_gone 4 = .ok (.iconst 0, 1) := by decide +kernel
theorem dX10_gone_5 : decode cX10_gone 5 = .ok (.iaload, 1) := by decide +kernel
theorem dX10_gone_6 : decode cX10_gone 6 = .ok (.iload_n 2, 1) := by decide +kernel
theorem dX10_gone_7 : decode cX10_gone 7 = .ok (.iload_n 3, 1) := by decide +kernel
theorem dX10_gone_8 : decode cX10_gone 8 = .ok (.aload_n 0, 1) := by decide +kernel
theorem dX10_gone_9 : decode cX10_gone 9 = .ok (.getfield 20, 3) := by decide +kernel
theorem dX10_gone_12 : decode cX10_gone 12 = .ok (.bipush 61, 2) := by decide +kernel
theorem dX10_gone_14 : decode cX10_gone 14 = .ok (.iload_n 1, 1) := by decide +kernel
theorem dX10_gone_15 : decode cX10_gone 15 = .ok (.iadd, 1) := by decide +kernel
theorem dX10_gone_16 : decode cX10_gone 16 = .ok (.iaload, 1) := by decide +kernel
theorem dX10_gone_17 : decode cX10_gone 17 = .ok (.idiv, 1) := by decide +kernel
theorem dX10_gone_18 : decode cX10_gone 18 = .ok (.iadd, 1) := by decide +kernel
theorem dX10_gone_19 : decode cX10_gone 19 = .ok (.invokestatic 303, 3) := by decide +kernel
theorem dX10_gone_22 : decode cX10_gone 22 = .ok (.ireturn, 1) := by decide +kernel
def f_X10_gone (x1 : Int32) (x2 : Int32) (x3 : Int32) (M : Mm) : Option (Int32 × Mm) :=
  gd (inb ((nI 61) + x1) 141) <| gd (nzi (M 84 ((nI 61) + x1).toNatClampNeg)) <| bd (f_X10_less (M 84 0) (x2 + (x3 / (M 84 ((nI 61) + x1).toNatClampNeg))) M) fun v19_2 M19_1 => some (v19_2, M19_1)
set_option maxHeartbeats 4000000 in
set_option maxRecDepth 100000 in
theorem s_X10_gone {l : Launch} {B : BT} (hA : bA B = false) {d : Nat} {r : Int32} {M' : Mm} {x1 : Int32} {x2 : Int32} {x3 : Int32} {M : Mm}  (h : f_X10_gone x1 x2 x3 M = some (r, M')) : Con l B LY (d + 1) yX10_gone cX10_gone 4 (some .int) 0 0 [.ref 81, .int x1, .int x2, .int x3] 97 M (PI r M') := by
  refine con_of (by decide) (Nat.le_of_ble_eq_true rfl) ?_
  show GG l B LY (d + 1) yX10_gone cX10_gone 4 (some .int) 0 0 (PI r M') 97 0 0 0 [(0, .ref 81), (1, .int x1), (2, .int x2), (3, .int x3)] [] M
  rw [f_X10_gone] at h
  refine g_aload_n dX10_gone_0 rfl 0 rfl ?_
  refine m_getr (k := 15) okX10 rfl rfl (by decide) w_1284 rfl dX10_gone_1 ?_
  refine g_iconst (v := (nI 0)) dX10_gone_4 (by decide) ?_
  refine m_ialdL (k := 0) rfl rfl (by decide) dX10_gone_5 ?_
  refine g_iload_n dX10_gone_6 rfl 2 rfl ?_
  refine g_iload_n dX10_gone_7 rfl 3 rfl ?_
  refine g_aload_n dX10_gone_8 rfl 0 rfl ?_
  refine m_getr (k := 15) okX10 rfl rfl (by decide) w_1284 rfl dX10_gone_9 ?_
  refine g_bipush (v := (nI 61)) dX10_gone_12 (by decide) ?_
  refine g_iload_n dX10_gone_14 rfl 1 rfl ?_
  refine g_iadd dX10_gone_15 ?_
  obtain ⟨hz, h⟩ := gd_s h
  refine m_iald rfl hz dX10_gone_16 ?_
  obtain ⟨hz, h⟩ := gd_s h
  refine g_idiv dX10_gone_17 (nzi_s hz) ?_
  refine g_iadd dX10_gone_18 ?_
  obtain ⟨v19_2, M19_1, eM19_1, h⟩ := bd_e h
  refine m_callSi (As := [.int (M 84 0), .int (x2 + (x3 / (M 84 ((nI 61) + x1).toNatClampNeg)))]) (st := []) (s_X10_less (d := d + 0) hA  eM19_1) ck_X10_less w_1657 rfl (Nat.le_of_ble_eq_true rfl) dX10_gone_19 ?_
  exact g_zret rfl rfl (pi_of h) dX10_gone_22
theorem ck_X10_gone : CKV yX10_gone cX10_gone 4 (some .int) 3 := ⟨⟨by decide, by decide, by decide +kernel⟩, w_1656, w_81, ⟨w_1655, w_53⟩, by decide⟩
