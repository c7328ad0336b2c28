/-! walks: X10_often X10_mark X10_back X10_allWays X10_first X10_behind X10_ways X10_endOf X10_whole X10_gone X10_seenWays X10_brings X10_gains X10_risks X10_oddsWhy X10_risk X10_gain X10_bestOf X10_best X10_worth X10_isRest. Written by wip/programs/parts.py. -/
theorem dX10_often_0 : decode cX10_often 0 = .ok (.aload_n 0, 1) := by decide +kernel
theorem dX10_often_1 : decode cX10_often 1 = .ok (.invokevirtual 156, 3) := by decide +kernel
theorem dX10_often_4 : decode cX10_often 4 = .ok (.aload_n 0, 1) := by decide +kernel
theorem dX10_often_5 : decode cX10_often 5 = .ok (.iload_n 1, 1) := by decide +kernel
theorem dX10_often_6 : decode cX10_often 6 = .ok (.invokevirtual 278, 3) := by decide +kernel
theorem dX10_often_9 : decode cX10_often 9 = .ok (.ifCond .ne 9, 3) := by decide +kernel
theorem dX10_often_12 : decode cX10_often 12 = .ok (.aload_n 0, 1) := by decide +kernel
theorem dX10_often_13 : decode cX10_often 13 = .ok (.iconst 1, 1) := by decide +kernel
theorem dX10_often_14 : decode cX10_often 14 = .ok (.invokevirtual 159, 3) := by decide +kernel
theorem dX10_often_17 : decode cX10_often 17 = .ok (.ireturn, 1) := by decide +kernel
theorem dX10_often_18 : decode cX10_often 18 = .ok (.aload_n 0, 1) := by decide +kernel
theorem dX10_often_19 : decode cX10_often 19 = .ok (.getfield 26, 3) := by decide +kernel
theorem dX10_often_22 : decode cX10_often 22 = .ok (.bipush 24, 2) := by decide +kernel
theorem dX10_often_24 : decode cX10_often 24 = .ok (.iload_n 1, 1) := by decide +kernel
theorem dX10_often_25 : decode cX10_often 25 = .ok (.iadd, 1) := by decide +kernel
theorem dX10_often_26 : decode cX10_often 26 = .ok (.iaload, 1) := by decide +kernel
theorem dX10_often_27 : decode cX10_often 27 = .ok (.aload_n 0, 1) := by decide +kernel
theorem dX10_often_28 : decode cX10_often 28 = .ok (.getfield 26, 3) := by decide +kernel
theorem dX10_often_31 : decode cX10_often 31 = .ok (.bipush 29, 2) := by decide +kernel
theorem dX10_often_33 : decode cX10_often 33 = .ok (.iload_n 1, 1) := by decide +kernel
theorem dX10_often_34 : decode cX10_often 34 = .ok (.iadd, 1) := by decide +kernel
theorem dX10_often_35 : decode cX10_often 35 = .ok (.iaload, 1) := by decide +kernel
theorem dX10_often_36 : decode cX10_often 36 = .ok (.iadd, 1) := by decide +kernel
theorem dX10_often_37 : decode cX10_often 37 = .ok (.istore_n 2, 1) := by decide +kernel
theorem dX10_often_38 : decode cX10_often 38 = .ok (.iload_n 2, 1) := by decide +kernel
theorem dX10_often_39 : decode cX10_often 39 = .ok (.ifCond .ne 12, 3) := by decide +kernel
theorem dX10_often_42 : decode cX10_often 42 = .ok (.aload_n 0, 1) := by decide +kernel
theorem dX10_often_43 : decode cX10_often 43 = .ok (.bipush 6, 2) := by decide +kernel
theorem dX10_often_45 : decode cX10_often 45 = .ok (.invokevirtual 159, 3) := by decide +kernel
theorem dX10_often_48 : decode cX10_often 48 = .ok (.goto 17, 3) := by decide +kernel
theorem dX10_often_51 : decode cX10_often 51 = .ok (.bipush 100, 2) := by decide +kernel
theorem dX10_often_53 : decode cX10_often 53 = .ok (.aload_n 0, 1) := by decide +kernel
theorem dX10_often_54 : decode cX10_often 54 = .ok (.getfield 26, 3) := by decide +kernel
theorem dX10_often_57 : decode cX10_often 57 = .ok (.bipush 29, 2) := by decide +kernel
theorem dX10_often_59 : decode cX10_often 59 = .ok (.iload_n 1, 1) := by decide +kernel
theorem dX10_often_60 : decode cX10_often 60 = .ok (.iadd, 1) := by decide +kernel
theorem dX10_often_61 : decode cX10_often 61 = .ok (.iaload, 1) := by decide +kernel
theorem dX10_often_62 : decode cX10_often 62 = .ok (.imul, 1) := by decide +kernel
theorem dX10_often_63 : decode cX10_often 63 = .ok (.iload_n 2, 1) := by decide +kernel
theorem dX10_often_64 : decode cX10_often 64 = .ok (.idiv, 1) := by decide +kernel
theorem dX10_often_65 : decode cX10_often 65 = .ok (.ireturn, 1) := by decide +kernel
def f_X10_often (x1 : Int32) (M : Mm) : Option (Int32 × Mm) :=
  bv (f_X10_good  M) fun M1_1 => bd (f_X10_isCreeper x1 M1_1) fun v6_4 M6_3 => if v6_4 = 0 then (bd (f_X10_no (1 : Int32) M6_3) fun v14_10 M14_9 => some (v14_10, M14_9)) else (gd (inb ((24 : Int32) + x1) 44) <| gd (inb ((29 : Int32) + x1) 44) <| lt (((M6_3 86 ((24 : Int32) + x1).toNatClampNeg) + (M6_3 86 ((29 : Int32) + x1).toNatClampNeg))) fun t5 => if t5 = 0 then (bd (f_X10_no (6 : Int32) M6_3) fun v45_7 M45_6 => some (v45_7, M45_6)) else (gd (inb ((29 : Int32) + x1) 44) <| gd (nzi t5) <| some ((((100 : Int32) * (M6_3 86 ((29 : Int32) + x1).toNatClampNeg)) / t5), M6_3)))
set_option maxHeartbeats 4000000 in
set_option maxRecDepth 100000 in
theorem s_X10_often {l : Launch} {B : BT} (hA : bA B = false) {d : Nat} {r : Int32} {M' : Mm} {x1 : Int32} {M : Mm}  (h : f_X10_often x1 M = some (r, M')) : Con l B LY (d + 2) yX10_often cX10_often 3 (some .int) 0 0 [.ref 81, .int x1] 97 M (PI r M') := by
  refine con_of (by decide) (Nat.le_of_ble_eq_true rfl) ?_
  show GG l B LY (d + 2) yX10_often cX10_often 3 (some .int) 0 0 (PI r M') 97 0 0 0 [(0, .ref 81), (1, .int x1)] [] M
  rw [f_X10_often] at h
  refine g_aload_n dX10_often_0 rfl 0 rfl ?_
  obtain ⟨M1_1, eM1_1, h⟩ := bv_e h
  refine m_callVv (As := []) (st := []) (s_X10_good (d := d + 1) hA  eM1_1) rfl okX10 ck_X10_good w_1381 rfl (Nat.le_of_ble_eq_true rfl) dX10_often_1 ?_
  refine g_aload_n dX10_often_4 rfl 0 rfl ?_
  refine g_iload_n dX10_often_5 rfl 1 rfl ?_
  obtain ⟨v6_4, M6_3, eM6_3, h⟩ := bd_e h
  refine m_callVi (As := [.int x1]) (st := []) (s_X10_isCreeper (d := d + 0) hA  eM6_3) rfl okX10 ck_X10_isCreeper w_1572 rfl (Nat.le_of_ble_eq_true rfl) dX10_often_6 ?_
  refine g_if_ne (tgt := 18) dX10_often_9 (by decide) (fun c11 => ?_) (fun c11 => ?_)
  · replace h := ite_n c11 h
    refine g_aload_n dX10_often_18 rfl 0 rfl ?_
    refine m_getr (k := 17) okX10 rfl rfl (by decide) w_1286 rfl dX10_often_19 ?_
    refine g_bipush (v := 24) dX10_often_22 (by decide) ?_
    refine g_iload_n dX10_often_24 rfl 1 rfl ?_
    refine g_iadd dX10_often_25 ?_
    obtain ⟨hz, h⟩ := gd_s h
    refine m_iald rfl hz dX10_often_26 ?_
    refine g_aload_n dX10_often_27 rfl 0 rfl ?_
    refine m_getr (k := 17) okX10 rfl rfl (by decide) w_1286 rfl dX10_often_28 ?_
    refine g_bipush (v := 29) dX10_often_31 (by decide) ?_
    refine g_iload_n dX10_often_33 rfl 1 rfl ?_
    refine g_iadd dX10_often_34 ?_
    obtain ⟨hz, h⟩ := gd_s h
    refine m_iald rfl hz dX10_often_35 ?_
    refine g_iadd dX10_often_36 ?_
    obtain ⟨t5, et5, h⟩ := lt_e h
    refine g_cuti et5 ?_
    refine g_istore_n (lv' := [(2, .int t5), (0, .ref 81), (1, .int x1)]) dX10_often_37 rfl (by decide) rfl ?_
    refine g_iload_n dX10_often_38 rfl 0 rfl ?_
    refine g_if_ne (tgt := 51) dX10_often_39 (by decide) (fun c8 => ?_) (fun c8 => ?_)
    · replace h := ite_n c8 h
      refine g_bipush (v := 100) dX10_often_51 (by decide) ?_
      refine g_aload_n dX10_often_53 rfl 1 rfl ?_
      refine m_getr (k := 17) okX10 rfl rfl (by decide) w_1286 rfl dX10_often_54 ?_
      refine g_bipush (v := 29) dX10_often_57 (by decide) ?_
      refine g_iload_n dX10_often_59 rfl 2 rfl ?_
      refine g_iadd dX10_often_60 ?_
      obtain ⟨hz, h⟩ := gd_s h
      refine m_iald rfl hz dX10_often_61 ?_
      refine g_imul dX10_often_62 ?_
      refine g_iload_n dX10_often_63 rfl 0 rfl ?_
      obtain ⟨hz, h⟩ := gd_s h
      refine g_idiv dX10_often_64 (nzi_s hz) ?_
      exact g_zret rfl rfl (pi_of h) dX10_often_65
    · replace h := ite_p c8 h
      refine g_aload_n dX10_often_42 rfl 1 rfl ?_
      refine g_bipush (v := 6) dX10_often_43 (by decide) ?_
      obtain ⟨v45_7, M45_6, eM45_6, h⟩ := bd_e h
      refine m_callVi (As := [.int (6 : Int32)]) (st := []) (s_X10_no (d := d + 1) hA  eM45_6) rfl okX10 ck_X10_no w_1388 rfl (Nat.le_of_ble_eq_true rfl) dX10_often_45 ?_
      refine g_goto (tgt := 65) dX10_often_48 (by decide) ?_
      exact g_zret rfl rfl (pi_of h) dX10_often_65
  · replace h := ite_p c11 h
    refine g_aload_n dX10_often_12 rfl 0 rfl ?_
    refine g_iconst (v := 1) dX10_often_13 (by decide) ?_
    obtain ⟨v14_10, M14_9, eM14_9, h⟩ := bd_e h
    refine m_callVi (As := [.int (1 : Int32)]) (st := []) (s_X10_no (d := d + 1) hA  eM14_9) rfl okX10 ck_X10_no w_1388 rfl (Nat.le_of_ble_eq_true rfl) dX10_often_14 ?_
    exact g_zret rfl rfl (pi_of h) dX10_often_17
theorem ck_X10_often : CKV yX10_often cX10_often 3 (some .int) 1 := ⟨⟨by decide, by decide, by decide +kernel⟩, w_1595, w_81, ⟨w_1593, w_1594⟩, by decide⟩
theorem dX10_mark_0 : decode cX10_mark 0 = .ok (.aload_n 0, 1) := by decide +kernel
theorem dX10_mark_1 : decode cX10_mark 1 = .ok (.invokevirtual 156, 3) := by decide +kernel
theorem dX10_mark_4 : decode cX10_mark 4 = .ok (.aload_n 0, 1) := by decide +kernel
theorem dX10_mark_5 : decode cX10_mark 5 = .ok (.getfield 165, 3) := by decide +kernel
theorem dX10_mark_8 : decode cX10_mark 8 = .ok (.ifCond .ne 9, 3) := by decide +kernel
theorem dX10_mark_11 : decode cX10_mark 11 = .ok (.aload_n 0, 1) := by decide +kernel
theorem dX10_mark_12 : decode cX10_mark 12 = .ok (.iconst 1, 1) := by decide +kernel
theorem dX10_mark_13 : decode cX10_mark 13 = .ok (.invokevirtual 159, 3) := by decide +kernel
theorem dX10_mark_16 : decode cX10_mark 16 = .ok (.ireturn, 1) := by decide +kernel
theorem dX10_mark_17 : decode cX10_mark 17 = .ok (.aload_n 0, 1) := by decide +kernel
theorem dX10_mark_18 : decode cX10_mark 18 = .ok (.getfield 172, 3) := by decide +kernel
theorem dX10_mark_21 : decode cX10_mark 21 = .ok (.iconst 3, 1) := by decide +kernel
theorem dX10_mark_22 : decode cX10_mark 22 = .ok (.if_icmp .ne 9, 3) := by decide +kernel
theorem dX10_mark_25 : decode cX10_mark 25 = .ok (.aload_n 0, 1) := by decide +kernel
theorem dX10_mark_26 : decode cX10_mark 26 = .ok (.iconst 3, 1) := by decide +kernel
theorem dX10_mark_27 : decode cX10_mark 27 = .ok (.invokevirtual 159, 3) := by decide +kernel
theorem dX10_mark_30 : decode cX10_mark 30 = .ok (.ireturn, 1) := by decide +kernel
theorem dX10_mark_31 : decode cX10_mark 31 = .ok (.aload_n 0, 1) := by decide +kernel
theorem dX10_mark_32 : decode cX10_mark 32 = .ok (.aload_n 0, 1) := by decide +kernel
theorem dX10_mark_33 : decode cX10_mark 33 = .ok (.getfield 172, 3) := by decide +kernel
theorem dX10_mark_36 : decode cX10_mark 36 = .ok (.invokevirtual 284, 3) := by decide +kernel
theorem dX10_mark_39 : decode cX10_mark 39 = .ok (.aload_n 0, 1) := by decide +kernel
theorem dX10_mark_40 : decode cX10_mark 40 = .ok (.dup, 1) := by decide +kernel
theorem dX10_mark_41 : decode cX10_mark 41 = .ok (.getfield 172, 3) := by decide +kernel
theorem dX10_mark_44 : decode cX10_mark 44 = .ok (.iconst 1, 1) := by decide +kernel
theorem dX10_mark_45 : decode cX10_mark 45 = .ok (.iadd, 1) := by decide +kernel
theorem dX10_mark_46 : decode cX10_mark 46 = .ok (.putfield 172, 3) := by decide +kernel
theorem dX10_mark_49 : decode cX10_mark 49 = .ok (.aload_n 0, 1) := by decide +kernel
theorem dX10_mark_50 : decode cX10_mark 50 = .ok (.getfield 172, 3) := by decide +kernel
theorem dX10_mark_53 : decode cX10_mark 53 = .ok (.iconst 1, 1) := by decide +kernel
theorem dX10_mark_54 : decode cX10_mark 54 = .ok (.isub, 1) := by decide +kernel
theorem dX10_mark_55 : decode cX10_mark 55 = .ok (.ireturn, 1) := by decide +kernel
def f_X10_mark  (M : Mm) : Option (Int32 × Mm) :=
  bv (f_X10_good  M) fun M1_1 => if (M1_1 81 14) = 0 then (bd (f_X10_no (1 : Int32) M1_1) fun v13_9 M13_8 => some (v13_9, M13_8)) else (if (M1_1 81 19) = (3 : Int32) then (bd (f_X10_no (3 : Int32) M1_1) fun v27_6 M27_5 => some (v27_6, M27_5)) else (bv (f_X10_keep (M1_1 81 19) M1_1) fun M36_3 => some ((((mset M36_3 81 19 ((M36_3 81 19) + (1 : Int32))) 81 19) - (1 : Int32)), (mset M36_3 81 19 ((M36_3 81 19) + (1 : Int32))))))
set_option maxHeartbeats 4000000 in
set_option maxRecDepth 100000 in
theorem s_X10_mark {l : Launch} {B : BT} (hA : bA B = false) {d : Nat} {r : Int32} {M' : Mm}  {M : Mm}  (h : f_X10_mark  M = some (r, M')) : Con l B LY (d + 1) yX10_mark cX10_mark 1 (some .int) 0 0 [.ref 81] 97 M (PI r M') := by
  refine con_of (by decide) (Nat.le_of_ble_eq_true rfl) ?_
  show GG l B LY (d + 1) yX10_mark cX10_mark 1 (some .int) 0 0 (PI r M') 97 0 0 0 [(0, .ref 81)] [] M
  rw [f_X10_mark] at h
  refine g_aload_n dX10_mark_0 rfl 0 rfl ?_
  obtain ⟨M1_1, eM1_1, h⟩ := bv_e h
  refine m_callVv (As := []) (st := []) (s_X10_good (d := d + 0) hA  eM1_1) rfl okX10 ck_X10_good w_1381 rfl (Nat.le_of_ble_eq_true rfl) dX10_mark_1 ?_
  refine g_aload_n dX10_mark_4 rfl 0 rfl ?_
  refine m_geti (k := 14) okX10 rfl rfl (by decide) w_1283 rfl dX10_mark_5 ?_
  refine g_if_ne (tgt := 17) dX10_mark_8 (by decide) (fun c10 => ?_) (fun c10 => ?_)
  · replace h := ite_n c10 h
    refine g_aload_n dX10_mark_17 rfl 0 rfl ?_
    refine m_geti (k := 19) okX10 rfl rfl (by decide) w_1288 rfl dX10_mark_18 ?_
    refine g_iconst (v := 3) dX10_mark_21 (by decide) ?_
    refine g_icmp_ne (tgt := 31) dX10_mark_22 (by decide) (fun c7 => ?_) (fun c7 => ?_)
    · replace h := ite_n c7 h
      refine g_aload_n dX10_mark_31 rfl 0 rfl ?_
      refine g_aload_n dX10_mark_32 rfl 0 rfl ?_
      refine m_geti (k := 19) okX10 rfl rfl (by decide) w_1288 rfl dX10_mark_33 ?_
      obtain ⟨M36_3, eM36_3, h⟩ := bv_e h
      refine m_callVv (As := [.int (M1_1 81 19)]) (st := []) (s_X10_keep (d := d + 0) hA  eM36_3) rfl okX10 ck_X10_keep w_1600 rfl (Nat.le_of_ble_eq_true rfl) dX10_mark_36 ?_
      refine g_aload_n dX10_mark_39 rfl 0 rfl ?_
      refine g_dup dX10_mark_40 rfl ?_
      refine m_geti (k := 19) okX10 rfl rfl (by decide) w_1288 rfl dX10_mark_41 ?_
      refine g_iconst (v := 1) dX10_mark_44 (by decide) ?_
      refine g_iadd dX10_mark_45 ?_
      refine m_puti (k := 19) okX10 rfl rfl (by decide) w_1288 rfl rfl rfl dX10_mark_46 ?_
      refine g_aload_n dX10_mark_49 rfl 0 rfl ?_
      refine m_geti (k := 19) okX10 rfl rfl (by decide) w_1288 rfl dX10_mark_50 ?_
      refine g_iconst (v := 1) dX10_mark_53 (by decide) ?_
      refine g_isub dX10_mark_54 ?_
      exact g_zret rfl rfl (pi_of h) dX10_mark_55
    · replace h := ite_p c7 h
      refine g_aload_n dX10_mark_25 rfl 0 rfl ?_
      refine g_iconst (v := 3) dX10_mark_26 (by decide) ?_
      obtain ⟨v27_6, M27_5, eM27_5, h⟩ := bd_e h
      refine m_callVi (As := [.int (3 : Int32)]) (st := []) (s_X10_no (d := d + 0) hA  eM27_5) rfl okX10 ck_X10_no w_1388 rfl (Nat.le_of_ble_eq_true rfl) dX10_mark_27 ?_
      exact g_zret rfl rfl (pi_of h) dX10_mark_30
  · replace h := ite_p c10 h
    refine g_aload_n dX10_mark_11 rfl 0 rfl ?_
    refine g_iconst (v := 1) dX10_mark_12 (by decide) ?_
    obtain ⟨v13_9, M13_8, eM13_8, h⟩ := bd_e h
    refine m_callVi (As := [.int (1 : Int32)]) (st := []) (s_X10_no (d := d + 0) hA  eM13_8) rfl okX10 ck_X10_no w_1388 rfl (Nat.le_of_ble_eq_true rfl) dX10_mark_13 ?_
    exact g_zret rfl rfl (pi_of h) dX10_mark_16
theorem ck_X10_mark : CKV yX10_mark cX10_mark 1 (some .int) 0 := ⟨⟨by decide, by decide, by decide +kernel⟩, w_1599, w_81, ⟨w_1597, w_1598⟩, by decide⟩
theorem dX10_back_0 : decode cX10_back 0 = .ok (.aload_n 0, 1) := by decide +kernel
theorem dX10_back_1 : decode cX10_back 1 = .ok (.invokevirtual 156, 3) := by decide +kernel
theorem dX10_back_4 : decode cX10_back 4 = .ok (.iload_n 1, 1) := by decide +kernel
theorem dX10_back_5 : decode cX10_back 5 = .ok (.iconst 0, 1) := by decide +kernel
theorem dX10_back_6 : decode cX10_back 6 = .ok (.aload_n 0, 1) := by decide +kernel
theorem dX10_back_7 : decode cX10_back 7 = .ok (.getfield 172, 3) := by decide +kernel
theorem dX10_back_10 : decode cX10_back 10 = .ok (.iconst 1, 1) := by decide +kernel
theorem dX10_back_11 : decode cX10_back 11 = .ok (.isub, 1) := by decide +kernel
theorem dX10_back_12 : decode cX10_back 12 = .ok (.invokestatic 144, 3) := by decide +kernel
theorem dX10_back_15 : decode cX10_back 15 = .ok (.ifCond .ne 9, 3) := by decide +kernel
theorem dX10_back_18 : decode cX10_back 18 = .ok (.aload_n 0, 1) := by decide +kernel
theorem dX10_back_19 : decode cX10_back 19 = .ok (.iconst 1, 1) := by decide +kernel
theorem dX10_back_20 : decode cX10_back 20 = .ok (.invokevirtual 271, 3) := by decide +kernel
theorem dX10_back_23 : decode cX10_back 23 = .ok (.ireturn, 1) := by decide +kernel
theorem dX10_back_24 : decode cX10_back 24 = .ok (.aload_n 0, 1) := by decide +kernel
theorem dX10_back_25 : decode cX10_back 25 = .ok (.iload_n 1, 1) := by decide +kernel
theorem dX10_back_26 : decode cX10_back 26 = .ok (.invokevirtual 287, 3) := by decide +kernel
theorem dX10_back_29 : decode cX10_back 29 = .ok (.iconst 1, 1) := by decide +kernel
theorem dX10_back_30 : decode cX10_back 30 = .ok (.ireturn, 1) := by decide +kernel
def f_X10_back (x1 : Int32) (M : Mm) : Option (Int32 × Mm) :=
  bv (f_X10_good  M) fun M1_1 => bd (f_X10_within x1 (0 : Int32) ((M1_1 81 19) - (1 : Int32)) M1_1) fun v12_4 M12_3 => if v12_4 = 0 then (bd (f_X10_isNot (1 : Int32) M12_3) fun v20_8 M20_7 => gd (zo v20_8) <| some (v20_8, M20_7)) else (bv (f_X10_bringBack x1 M12_3) fun M26_5 => some ((1 : Int32), M26_5))
set_option maxHeartbeats 4000000 in
set_option maxRecDepth 100000 in
theorem s_X10_back {l : Launch} {B : BT} (hA : bA B = false) {d : Nat} {r : Int32} {M' : Mm} {x1 : Int32} {M : Mm}  (h : f_X10_back x1 M = some (r, M')) : Con l B LY (d + 1) yX10_back cX10_back 2 (some .boolean) 0 0 [.ref 81, .int x1] 97 M (PI r M') := by
  refine con_of (by decide) (Nat.le_of_ble_eq_true rfl) ?_
  show GG l B LY (d + 1) yX10_back cX10_back 2 (some .boolean) 0 0 (PI r M') 97 0 0 0 [(0, .ref 81), (1, .int x1)] [] M
  rw [f_X10_back] at h
  refine g_aload_n dX10_back_0 rfl 0 rfl ?_
  obtain ⟨M1_1, eM1_1, h⟩ := bv_e h
  refine m_callVv (As := []) (st := []) (s_X10_good (d := d + 0) hA  eM1_1) rfl okX10 ck_X10_good w_1381 rfl (Nat.le_of_ble_eq_true rfl) dX10_back_1 ?_
  refine g_iload_n dX10_back_4 rfl 1 rfl ?_
  refine g_iconst (v := 0) dX10_back_5 (by decide) ?_
  refine g_aload_n dX10_back_6 rfl 0 rfl ?_
  refine m_geti (k := 19) okX10 rfl rfl (by decide) w_1288 rfl dX10_back_7 ?_
  refine g_iconst (v := 1) dX10_back_10 (by decide) ?_
  refine g_isub dX10_back_11 ?_
  obtain ⟨v12_4, M12_3, eM12_3, h⟩ := bd_e h
  refine m_callSi (As := [.int x1, .int (0 : Int32), .int ((M1_1 81 19) - (1 : Int32))]) (st := []) (s_X10_within (d := d + 0) hA  eM12_3) ck_X10_within w_1385 rfl (Nat.le_of_ble_eq_true rfl) dX10_back_12 ?_
  refine g_if_ne (tgt := 24) dX10_back_15 (by decide) (fun c9 => ?_) (fun c9 => ?_)
  · replace h := ite_n c9 h
    refine g_aload_n dX10_back_24 rfl 0 rfl ?_
    refine g_iload_n dX10_back_25 rfl 1 rfl ?_
    obtain ⟨M26_5, eM26_5, h⟩ := bv_e h
    refine m_callVv (As := [.int x1]) (st := []) (s_X10_bringBack (d := d + 0) hA  eM26_5) rfl okX10 ck_X10_bringBack w_1608 rfl (Nat.le_of_ble_eq_true rfl) dX10_back_26 ?_
    refine g_iconst (v := 1) dX10_back_29 (by decide) ?_
    exact g_zret rfl rfl (pi_of h) dX10_back_30
  · replace h := ite_p c9 h
    refine g_aload_n dX10_back_18 rfl 0 rfl ?_
    refine g_iconst (v := 1) dX10_back_19 (by decide) ?_
    obtain ⟨v20_8, M20_7, eM20_7, h⟩ := bd_e h
    refine m_callVi (As := [.int (1 : Int32)]) (st := []) (s_X10_isNot (d := d + 0) hA  eM20_7) rfl okX10 ck_X10_isNot w_1507 rfl (Nat.le_of_ble_eq_true rfl) dX10_back_20 ?_
    obtain ⟨hz, h⟩ := gd_s h
    exact g_zret rfl (nar_zo hz) (pi_of h) dX10_back_23
theorem ck_X10_back : CKV yX10_back cX10_back 2 (some .boolean) 1 := ⟨⟨by decide, by decide, by decide +kernel⟩, w_1607, w_81, ⟨w_1605, w_1606⟩, by decide⟩
theorem dX10_allWays_0 : decode cX10_allWays 0 = .ok (.lconst 1, 1) := by decide +kernel
theorem dX10_allWays_1 : decode cX10_allWays 1 = .ok (.lstore_n 1, 1) := by decide +kernel
theorem dX10_allWays_2 : decode cX10_allWays 2 = .ok (.iconst 1, 1) := by decide +kernel
theorem dX10_allWays_3 : decode cX10_allWays 3 = .ok (.istore_n 3, 1) := by decide +kernel
theorem dX10_allWays_4 : decode cX10_allWays 4 = .ok (.iload_n 3, 1) := by decide +kernel
theorem dX10_allWays_5 : decode cX10_allWays 5 = .ok (.aload_n 0, 1) := by decide +kernel
theorem dX10_allWays_6 : decode cX10_allWays 6 = .ok (.getfield 20, 3) := by decide +kernel
theorem dX10_allWays_9 : decode cX10_allWays 9 = .ok (.bipush 92, 2) := by decide +kernel
theorem dX10_allWays_11 : decode cX10_allWays 11 = .ok (.iaload, 1) := by decide +kernel
theorem dX10_allWays_12 : decode cX10_allWays 12 = .ok (.if_icmp .ge 15, 3) := by decide +kernel
theorem dX10_allWays_15 : decode cX10_allWays 15 = .ok (.lload_n 1, 1) := by decide +kernel
theorem dX10_allWays_16 : decode cX10_allWays 16 = .ok (.ldc2_w 290, 3) := by decide +kernel
theorem dX10_allWays_19 : decode cX10_allWays 19 = .ok (.lmul, 1) := by decide +kernel
theorem dX10_allWays_20 : decode cX10_allWays 20 = .ok (.lstore_n 1, 1) := by decide +kernel
theorem dX10_allWays_21 : decode cX10_allWays 21 = .ok (.iinc 3 1, 3) := by decide +kernel
theorem dX10_allWays_24 : decode cX10_allWays 24 = .ok (.goto (-20), 3) := by decide +kernel
theorem dX10_allWays_27 : decode cX10_allWays 27 = .ok (.lload_n 1, 1) := by decide +kernel
theorem dX10_allWays_28 : decode cX10_allWays 28 = .ok (.lreturn, 1) := by decide +kernel
def lp_X10_allWays_4   : Nat → Int64 → Int32 → Mm → Option (Int64 × Mm)
  | 0, _, _, _ => none
  | n + 1, y1, y3, M =>
    gd (inb (92 : Int32) 141) <| if (M 84 (92 : Int32).toNatClampNeg) ≤ y3 then (some (y1, M)) else (lp_X10_allWays_4 n (y1 * (100 : Int64)) (y3 + (1 : Int32)) M)
def f_X10_allWays  (M : Mm) : Option (Int64 × Mm) :=
  lp_X10_allWays_4   N0 (1 : Int64) (1 : Int32) M
set_option maxHeartbeats 4000000 in
set_option maxRecDepth 100000 in
theorem sl_X10_allWays_4 {l : Launch} {B : BT} (hA : bA B = false) {d : Nat} {r : Int64} {M' : Mm}     :
    ∀ (n : Nat) (y1 : Int64) (y3 : Int32) (M : Mm), lp_X10_allWays_4 n y1 y3 M = some (r, M') → GG l B LY (d + 0) yX10_allWays cX10_allWays 4 (some .long) 0 0 (PL r M') 97 0 0 4 [(0, .ref 81), (1, .long y1), (3, .int y3)] [] M := by
  intro n
  induction n with
  | zero => intro y1 y3 M h; cases h
  | succ n ih =>
    intro y1 y3 M h
    rw [lp_X10_allWays_4] at h
    refine g_iload_n dX10_allWays_4 rfl 2 rfl ?_
    refine g_aload_n dX10_allWays_5 rfl 0 rfl ?_
    refine m_getr (k := 15) okX10 rfl rfl (by decide) w_1284 rfl dX10_allWays_6 ?_
    refine g_bipush (v := 92) dX10_allWays_9 (by decide) ?_
    obtain ⟨hz, h⟩ := gd_s h
    refine m_iald rfl hz dX10_allWays_11 ?_
    refine g_icmp_ge (tgt := 27) dX10_allWays_12 (by decide) (fun c1 => ?_) (fun c1 => ?_)
    · replace h := ite_p c1 h
      refine g_lload_n dX10_allWays_27 rfl 1 rfl ?_
      exact g_lret rfl (pl_of h) dX10_allWays_28
    · replace h := ite_n c1 h
      refine g_lload_n dX10_allWays_15 rfl 1 rfl ?_
      refine g_ldc2 (v := 100) w_1620 dX10_allWays_16 ?_
      refine g_lmul dX10_allWays_19 ?_
      refine g_lstore_n (lv' := [(1, .long (y1 * (100 : Int64))), (0, .ref 81), (3, .int y3)]) dX10_allWays_20 rfl (by decide) rfl ?_
      refine g_iinc (v := (y3 + (1 : Int32))) (lv' := [(3, .int (y3 + (1 : Int32))), (1, .long (y1 * (100 : Int64))), (0, .ref 81)]) dX10_allWays_21 2 rfl rfl (by decide) rfl ?_
      refine g_goto (tgt := 4) dX10_allWays_24 (by decide) ?_
      refine g_sub [2, 1, 0] (lv' := [(0, .ref 81), (1, .long (y1 * (100 : Int64))), (3, .int (y3 + (1 : Int32)))]) rfl ?_
      exact ih _ _  _ h
set_option maxHeartbeats 4000000 in
set_option maxRecDepth 100000 in
theorem s_X10_allWays {l : Launch} {B : BT} (hA : bA B = false) {d : Nat} {r : Int64} {M' : Mm}  {M : Mm}  (h : f_X10_allWays  M = some (r, M')) : Con l B LY (d + 0) yX10_allWays cX10_allWays 4 (some .long) 0 0 [.ref 81] 97 M (PL r M') := by
  refine con_of (by decide) (Nat.le_of_ble_eq_true rfl) ?_
  show GG l B LY (d + 0) yX10_allWays cX10_allWays 4 (some .long) 0 0 (PL r M') 97 0 0 0 [(0, .ref 81)] [] M
  rw [f_X10_allWays] at h
  refine g_lconst (v := 1) dX10_allWays_0 (by decide) ?_
  refine g_lstore_n (lv' := [(1, .long (1 : Int64)), (0, .ref 81)]) dX10_allWays_1 rfl (by decide) rfl ?_
  refine g_iconst (v := 1) dX10_allWays_2 (by decide) ?_
  refine g_istore_n (lv' := [(3, .int (1 : Int32)), (1, .long (1 : Int64)), (0, .ref 81)]) dX10_allWays_3 rfl (by decide) rfl ?_
  refine g_sub [2, 1, 0] (lv' := [(0, .ref 81), (1, .long (1 : Int64)), (3, .int (1 : Int32))]) rfl ?_
  refine sl_X10_allWays_4 hA   _ _ _ _ h
theorem ck_X10_allWays : CKV yX10_allWays cX10_allWays 4 (some .long) 0 := ⟨⟨by decide, by decide, by decide +kernel⟩, w_1628, w_81, ⟨w_1627, w_47⟩, by decide⟩
theorem dX10_first_0 : decode cX10_first 0 = .ok (.lconst 1, 1) := by decide +kernel
theorem dX10_first_1 : decode cX10_first 1 = .ok (.lstore_n 2, 1) := by decide +kernel
theorem dX10_first_2 : decode cX10_first 2 = .ok (.iconst 0, 1) := by decide +kernel
theorem dX10_first_3 : decode cX10_first 3 = .ok (.istore 4, 2) := by decide +kernel
theorem dX10_first_5 : decode cX10_first 5 = .ok (.iload 4, 2) := by decide +kernel
theorem dX10_first_7 : decode cX10_first 7 = .ok (.aload_n 0, 1) := by decide +kernel
theorem dX10_first_8 : decode cX10_first 8 = .ok (.getfield 20, 3) := by decide +kernel
theorem dX10_first_11 : decode cX10_first 11 = .ok (.bipush 92, 2) := by decide +kernel
theorem dX10_first_13 : decode cX10_first 13 = .ok (.iaload, 1) := by decide +kernel
theorem dX10_first_14 : decode cX10_first 14 = .ok (.iconst 1, 1) := by decide +kernel
theorem dX10_first_15 : decode cX10_first 15 = .ok (.isub, 1) := by decide +kernel
theorem dX10_first_16 : decode cX10_first 16 = .ok (.if_icmp .ge 58, 3) := by decide +kernel
theorem dX10_first_19 : decode cX10_first 19 = .ok (.lload_n 2, 1) := by decide +kernel
theorem dX10_first_20 : decode cX10_first 20 = .ok (.iload 4, 2) := by decide +kernel
theorem dX10_first_22 : decode cX10_first 22 = .ok (.iload_n 1, 1) := by decide +kernel
theorem dX10_first_23 : decode cX10_first 23 = .ok (.if_icmp .ge 20, 3) := by decide +kernel
theorem dX10_first_26 : decode cX10_first 26 = .ok (.bipush 100, 2) := by decide +kernel
theorem dX10_first_28 : decode cX10_first 28 = .ok (.aload_n 0, 1) := by decide +kernel
theorem dX10_first_29 : decode cX10_first 29 = .ok (.getfield 20, 3) := by decide +kernel
theorem dX10_first_32 : decode cX10_first 32 = .ok (.bipush 6, 2) := by decide +kernel
theorem dX10_first_34 : decode cX10_first 34 = .ok (.iload 4, 2) := by decide +kernel
theorem dX10_first_36 : decode cX10_first 36 = .ok (.iadd, 1) := by decide +kernel
theorem dX10_first_37 : decode cX10_first 37 = .ok (.iaload, 1) := by decide +kernel
theorem dX10_first_38 : decode cX10_first 38 = .ok (.isub, 1) := by decide +kernel
theorem dX10_first_39 : decode cX10_first 39 = .ok (.i2l, 1) := by decide +kernel
theorem dX10_first_40 : decode cX10_first 40 = .ok (.goto 26, 3) := by decide +kernel
theorem dX10_first_43 : decode cX10_first 43 = .ok (.iload 4, 2) := by decide +kernel
theorem dX10_first_45 : decode cX10_first 45 = .ok (.iload_n 1, 1) := by decide +kernel
theorem dX10_first_46 : decode cX10_first 46 = .ok (.if_icmp .ne 17, 3) := by decide +kernel
theorem dX10_first_49 : decode cX10_first 49 = .ok (.aload_n 0, 1) := by decide +kernel
theorem dX10_first_50 : decode cX10_first 50 = .ok (.getfield 20, 3) := by decide +kernel
theorem dX10_first_53 : decode cX10_first 53 = .ok (.bipush 6, 2) := by decide +kernel
theorem dX10_first_55 : decode cX10_first 55 = .ok (.iload 4, 2) := by decide +kernel
theorem dX10_first_57 : decode cX10_first 57 = .ok (.iadd, 1) := by decide +kernel
theorem dX10_first_58 : decode cX10_first 58 = .ok (.iaload, 1) := by decide +kernel
theorem dX10_first_59 : decode cX10_first 59 = .ok (.i2l, 1) := by decide +kernel
theorem dX10_first_60 : decode cX10_first 60 = .ok (.goto 6, 3) := by decide +kernel
theorem dX10_first_63 : decode cX10_first 63 = .ok (.ldc2_w 290, 3) := by decide +kernel
theorem dX10_first_66 : decode cX10_first 66 = .ok (.lmul, 1) := by decide +kernel
theorem dX10_first_67 : decode cX10_first 67 = .ok (.lstore_n 2, 1) := by decide +kernel
theorem dX10_first_68 : decode cX10_first 68 = .ok (.iinc 4 1, 3) := by decide +kernel
theorem dX10_first_71 : decode cX10_first 71 = .ok (.goto (-66), 3) := by decide +kernel
theorem dX10_first_74 : decode cX10_first 74 = .ok (.lload_n 2, 1) := by decide +kernel
theorem dX10_first_75 : decode cX10_first 75 = .ok (.lreturn, 1) := by decide +kernel
def lp_X10_first_5 (y1 : Int32)  : Nat → Int64 → Int32 → Mm → Option (Int64 × Mm)
  | 0, _, _, _ => none
  | n + 1, y2, y4, M =>
    gd (inb (92 : Int32) 141) <| if ((M 84 (92 : Int32).toNatClampNeg) - (1 : Int32)) ≤ y4 then (some (y2, M)) else (jn (fun (s1 : Int64) (M2 : Mm) => lp_X10_first_5 y1 n (y2 * s1) (y4 + (1 : Int32)) M2) fun j3 => if y1 ≤ y4 then (if y4 = y1 then (gd (inb ((6 : Int32) + y4) 141) <| j3 (M 84 ((6 : Int32) + y4).toNatClampNeg).toInt64 M) else (j3 (100 : Int64) M)) else (gd (inb ((6 : Int32) + y4) 141) <| j3 ((100 : Int32) - (M 84 ((6 : Int32) + y4).toNatClampNeg)).toInt64 M))
def f_X10_first (x1 : Int32) (M : Mm) : Option (Int64 × Mm) :=
  lp_X10_first_5 x1  N0 (1 : Int64) (0 : Int32) M
set_option maxHeartbeats 4000000 in
set_option maxRecDepth 100000 in
theorem sl_X10_first_5 {l : Launch} {B : BT} (hA : bA B = false) {d : Nat} {r : Int64} {M' : Mm} {y1 : Int32}    :
    ∀ (n : Nat) (y2 : Int64) (y4 : Int32) (M : Mm), lp_X10_first_5 y1 n y2 y4 M = some (r, M') → GG l B LY (d + 0) yX10_first cX10_first 5 (some .long) 0 0 (PL r M') 97 0 0 5 [(0, .ref 81), (1, .int y1), (2, .long y2), (4, .int y4)] [] M := by
  intro n
  induction n with
  | zero => intro y2 y4 M h; cases h
  | succ n ih =>
    intro y2 y4 M h
    rw [lp_X10_first_5] at h
    refine g_iload dX10_first_5 3 rfl ?_
    refine g_aload_n dX10_first_7 rfl 0 rfl ?_
    refine m_getr (k := 15) okX10 rfl rfl (by decide) w_1284 rfl dX10_first_8 ?_
    refine g_bipush (v := 92) dX10_first_11 (by decide) ?_
    obtain ⟨hz, h⟩ := gd_s h
    refine m_iald rfl hz dX10_first_13 ?_
    refine g_iconst (v := 1) dX10_first_14 (by decide) ?_
    refine g_isub dX10_first_15 ?_
    refine g_icmp_ge (tgt := 74) dX10_first_16 (by decide) (fun c6 => ?_) (fun c6 => ?_)
    · replace h := ite_p c6 h
      refine g_lload_n dX10_first_74 rfl 2 rfl ?_
      exact g_lret rfl (pl_of h) dX10_first_75
    · replace h := ite_n c6 h
      refine g_lload_n dX10_first_19 rfl 2 rfl ?_
      refine g_iload dX10_first_20 3 rfl ?_
      refine g_iload_n dX10_first_22 rfl 1 rfl ?_
      obtain ⟨j3, ej3, h⟩ := jn_e h
      have hj3 : ∀ (s1 : Int64) (M2 : Mm), j3 s1 M2 = some (r, M') → GG l B LY (d + 0) yX10_first cX10_first 5 (some .long) 0 0 (PL r M') 97 0 0 66 [(0, .ref 81), (1, .int y1), (4, .int y4)] [.long s1, .long y2] M2 := by
        intro s1 M2 h
        rw [ej3] at h
        refine g_lmul dX10_first_66 ?_
        refine g_lstore_n (lv' := [(2, .long (y2 * s1)), (0, .ref 81), (1, .int y1), (4, .int y4)]) dX10_first_67 rfl (by decide) rfl ?_
        refine g_iinc (v := (y4 + (1 : Int32))) (lv' := [(4, .int (y4 + (1 : Int32))), (2, .long (y2 * s1)), (0, .ref 81), (1, .int y1)]) dX10_first_68 3 rfl rfl (by decide) rfl ?_
        refine g_goto (tgt := 5) dX10_first_71 (by decide) ?_
        refine g_sub [2, 3, 1, 0] (lv' := [(0, .ref 81), (1, .int y1), (2, .long (y2 * s1)), (4, .int (y4 + (1 : Int32)))]) rfl ?_
        exact ih _ _  _ h
      refine g_icmp_ge (tgt := 43) dX10_first_23 (by decide) (fun c5 => ?_) (fun c5 => ?_)
      · replace h := ite_p c5 h
        refine g_iload dX10_first_43 3 rfl ?_
        refine g_iload_n dX10_first_45 rfl 1 rfl ?_
        refine g_icmp_ne (tgt := 63) dX10_first_46 (by decide) (fun c4 => ?_) (fun c4 => ?_)
        · replace h := ite_n c4 h
          refine g_ldc2 (v := 100) w_1620 dX10_first_63 ?_
          refine g_sub [0, 1, 3] (lv' := [(0, .ref 81), (1, .int y1), (4, .int y4)]) rfl ?_
          exact hj3 _ _ h
        · replace h := ite_p c4 h
          refine g_aload_n dX10_first_49 rfl 0 rfl ?_
          refine m_getr (k := 15) okX10 rfl rfl (by decide) w_1284 rfl dX10_first_50 ?_
          refine g_bipush (v := 6) dX10_first_53 (by decide) ?_
          refine g_iload dX10_first_55 3 rfl ?_
          refine g_iadd dX10_first_57 ?_
          obtain ⟨hz, h⟩ := gd_s h
          refine m_iald rfl hz dX10_first_58 ?_
          refine g_i2l dX10_first_59 ?_
          refine g_goto (tgt := 66) dX10_first_60 (by decide) ?_
          refine g_sub [0, 1, 3] (lv' := [(0, .ref 81), (1, .int y1), (4, .int y4)]) rfl ?_
          exact hj3 _ _ h
      · replace h := ite_n c5 h
        refine g_bipush (v := 100) dX10_first_26 (by decide) ?_
        refine g_aload_n dX10_first_28 rfl 0 rfl ?_
        refine m_getr (k := 15) okX10 rfl rfl (by decide) w_1284 rfl dX10_first_29 ?_
        refine g_bipush (v := 6) dX10_first_32 (by decide) ?_
        refine g_iload dX10_first_34 3 rfl ?_
        refine g_iadd dX10_first_36 ?_
        obtain ⟨hz, h⟩ := gd_s h
        refine m_iald rfl hz dX10_first_37 ?_
        refine g_isub dX10_first_38 ?_
        refine g_i2l dX10_first_39 ?_
        refine g_goto (tgt := 66) dX10_first_40 (by decide) ?_
        refine g_sub [0, 1, 3] (lv' := [(0, .ref 81), (1, .int y1), (4, .int y4)]) rfl ?_
        exact hj3 _ _ h
set_option maxHeartbeats 4000000 in
set_option maxRecDepth 100000 in
theorem s_X10_first {l : Launch} {B : BT} (hA : bA B = false) {d : Nat} {r : Int64} {M' : Mm} {x1 : Int32} {M : Mm}  (h : f_X10_first x1 M = some (r, M')) : Con l B LY (d + 0) yX10_first cX10_first 5 (some .long) 0 0 [.ref 81, .int x1] 97 M (PL r M') := by
  refine con_of (by decide) (Nat.le_of_ble_eq_true rfl) ?_
  show GG l B LY (d + 0) yX10_first cX10_first 5 (some .long) 0 0 (PL r M') 97 0 0 0 [(0, .ref 81), (1, .int x1)] [] M
  rw [f_X10_first] at h
  refine g_lconst (v := 1) dX10_first_0 (by decide) ?_
  refine g_lstore_n (lv' := [(2, .long (1 : Int64)), (0, .ref 81), (1, .int x1)]) dX10_first_1 rfl (by decide) rfl ?_
  refine g_iconst (v := 0) dX10_first_2 (by decide) ?_
  refine g_istore (lv' := [(4, .int (0 : Int32)), (2, .long (1 : Int64)), (0, .ref 81), (1, .int x1)]) dX10_first_3 (by decide) rfl ?_
  refine g_sub [2, 3, 1, 0] (lv' := [(0, .ref 81), (1, .int x1), (2, .long (1 : Int64)), (4, .int (0 : Int32))]) rfl ?_
  refine sl_X10_first_5 hA   _ _ _ _ h
theorem ck_X10_first : CKV yX10_first cX10_first 5 (some .long) 1 := ⟨⟨by decide, by decide, by decide +kernel⟩, w_1619, w_81, ⟨w_1618, w_46⟩, by decide⟩
theorem dX10_behind_0 : decode cX10_behind 0 = .ok (.aload_n 0, 1) := by decide +kernel
theorem dX10_behind_1 : decode cX10_behind 1 = .ok (.invokevirtual 156, 3) := by decide +kernel
theorem dX10_behind_4 : decode cX10_behind 4 = .ok (.aload_n 0, 1) := by decide +kernel
theorem dX10_behind_5 : decode cX10_behind 5 = .ok (.getfield 165, 3) := by decide +kernel
theorem dX10_behind_8 : decode cX10_behind 8 = .ok (.ifCond .eq 28, 3) := by decide +kernel
theorem dX10_behind_11 : decode cX10_behind 11 = .ok (.iload_n 1, 1) := by decide +kernel
theorem dX10_behind_12 : decode cX10_behind 12 = .ok (.iconst 0, 1) := by decide +kernel
theorem dX10_behind_13 : decode cX10_behind 13 = .ok (.aload_n 0, 1) := by decide +kernel
theorem dX10_behind_14 : decode cX10_behind 14 = .ok (.getfield 20, 3) := by decide +kernel
theorem dX10_behind_17 : decode cX10_behind 17 = .ok (.bipush 92, 2) := by decide +kernel
theorem dX10_behind_19 : decode cX10_behind 19 = .ok (.iaload, 1) := by decide +kernel
theorem dX10_behind_20 : decode cX10_behind 20 = .ok (.iconst 1, 1) := by decide +kernel
theorem dX10_behind_21 : decode cX10_behind 21 = .ok (.isub, 1) := by decide +kernel
theorem dX10_behind_22 : decode cX10_behind 22 = .ok (.invokestatic 144, 3) := by decide +kernel
theorem dX10_behind_25 : decode cX10_behind 25 = .ok (.ifCond .eq 11, 3) := by decide +kernel
theorem dX10_behind_28 : decode cX10_behind 28 = .ok (.aload_n 0, 1) := by decide +kernel
theorem dX10_behind_29 : decode cX10_behind 29 = .ok (.iload_n 1, 1) := by decide +kernel
theorem dX10_behind_30 : decode cX10_behind 30 = .ok (.invokevirtual 292, 3) := by decide +kernel
theorem dX10_behind_33 : decode cX10_behind 33 = .ok (.goto 9, 3) := by decide +kernel
theorem dX10_behind_36 : decode cX10_behind 36 = .ok (.aload_n 0, 1) := by decide +kernel
theorem dX10_behind_37 : decode cX10_behind 37 = .ok (.iconst 1, 1) := by decide +kernel
theorem dX10_behind_38 : decode cX10_behind 38 = .ok (.invokevirtual 159, 3) := by decide +kernel
theorem dX10_behind_41 : decode cX10_behind 41 = .ok (.i2l, 1) := by decide +kernel
theorem dX10_behind_42 : decode cX10_behind 42 = .ok (.lreturn, 1) := by decide +kernel
def f_X10_behind (x1 : Int32) (M : Mm) : Option (Int64 × Mm) :=
  bv (f_X10_good  M) fun M1_1 => jn (fun (M3 : Mm) => bd (f_X10_no (1 : Int32) M3) fun v38_6 M38_5 => some (v38_6.toInt64, M38_5)) fun j4 => if (M1_1 81 14) = 0 then (j4  M1_1) else (gd (inb (92 : Int32) 141) <| bd (f_X10_within x1 (0 : Int32) ((M1_1 84 (92 : Int32).toNatClampNeg) - (1 : Int32)) M1_1) fun v22_8 M22_7 => if v22_8 = 0 then (j4  M22_7) else (bd (f_X10_first x1 M22_7) fun v30_10 M30_9 => some (v30_10, M30_9)))
set_option maxHeartbeats 4000000 in
set_option maxRecDepth 100000 in
theorem s_X10_behind {l : Launch} {B : BT} (hA : bA B = false) {d : Nat} {r : Int64} {M' : Mm} {x1 : Int32} {M : Mm}  (h : f_X10_behind x1 M = some (r, M')) : Con l B LY (d + 1) yX10_behind cX10_behind 2 (some .long) 0 0 [.ref 81, .int x1] 97 M (PL r M') := by
  refine con_of (by decide) (Nat.le_of_ble_eq_true rfl) ?_
  show GG l B LY (d + 1) yX10_behind cX10_behind 2 (some .long) 0 0 (PL r M') 97 0 0 0 [(0, .ref 81), (1, .int x1)] [] M
  rw [f_X10_behind] at h
  refine g_aload_n dX10_behind_0 rfl 0 rfl ?_
  obtain ⟨M1_1, eM1_1, h⟩ := bv_e h
  refine m_callVv (As := []) (st := []) (s_X10_good (d := d + 0) hA  eM1_1) rfl okX10 ck_X10_good w_1381 rfl (Nat.le_of_ble_eq_true rfl) dX10_behind_1 ?_
  refine g_aload_n dX10_behind_4 rfl 0 rfl ?_
  refine m_geti (k := 14) okX10 rfl rfl (by decide) w_1283 rfl dX10_behind_5 ?_
  obtain ⟨j4, ej4, h⟩ := jn_e h
  have hj4 : ∀ (M3 : Mm), j4 M3 = some (r, M') → GG l B LY (d + 1) yX10_behind cX10_behind 2 (some .long) 0 0 (PL r M') 97 0 0 36 [(0, .ref 81)] [] M3 := by
    intro M3 h
    rw [ej4] at h
    refine g_aload_n dX10_behind_36 rfl 0 rfl ?_
    refine g_iconst (v := 1) dX10_behind_37 (by decide) ?_
    obtain ⟨v38_6, M38_5, eM38_5, h⟩ := bd_e h
    refine m_callVi (As := [.int (1 : Int32)]) (st := []) (s_X10_no (d := d + 0) hA  eM38_5) rfl okX10 ck_X10_no w_1388 rfl (Nat.le_of_ble_eq_true rfl) dX10_behind_38 ?_
    refine g_i2l dX10_behind_41 ?_
    exact g_lret rfl (pl_of h) dX10_behind_42
  refine g_if_eq (tgt := 36) dX10_behind_8 (by decide) (fun c12 => ?_) (fun c12 => ?_)
  · replace h := ite_p c12 h
    refine g_sub [0] (lv' := [(0, .ref 81)]) rfl ?_
    exact hj4  _ h
  · replace h := ite_n c12 h
    refine g_iload_n dX10_behind_11 rfl 1 rfl ?_
    refine g_iconst (v := 0) dX10_behind_12 (by decide) ?_
    refine g_aload_n dX10_behind_13 rfl 0 rfl ?_
    refine m_getr (k := 15) okX10 rfl rfl (by decide) w_1284 rfl dX10_behind_14 ?_
    refine g_bipush (v := 92) dX10_behind_17 (by decide) ?_
    obtain ⟨hz, h⟩ := gd_s h
    refine m_iald rfl hz dX10_behind_19 ?_
    refine g_iconst (v := 1) dX10_behind_20 (by decide) ?_
    refine g_isub dX10_behind_21 ?_
    obtain ⟨v22_8, M22_7, eM22_7, h⟩ := bd_e h
    refine m_callSi (As := [.int x1, .int (0 : Int32), .int ((M1_1 84 (92 : Int32).toNatClampNeg) - (1 : Int32))]) (st := []) (s_X10_within (d := d + 0) hA  eM22_7) ck_X10_within w_1385 rfl (Nat.le_of_ble_eq_true rfl) dX10_behind_22 ?_
    refine g_if_eq (tgt := 36) dX10_behind_25 (by decide) (fun c11 => ?_) (fun c11 => ?_)
    · replace h := ite_p c11 h
      refine g_sub [0] (lv' := [(0, .ref 81)]) rfl ?_
      exact hj4  _ h
    · replace h := ite_n c11 h
      refine g_aload_n dX10_behind_28 rfl 0 rfl ?_
      refine g_iload_n dX10_behind_29 rfl 1 rfl ?_
      obtain ⟨v30_10, M30_9, eM30_9, h⟩ := bd_e h
      refine m_callVl (As := [.int x1]) (st := []) (s_X10_first (d := d + 0) hA  eM30_9) rfl okX10 ck_X10_first w_1616 rfl (Nat.le_of_ble_eq_true rfl) dX10_behind_30 ?_
      refine g_goto (tgt := 42) dX10_behind_33 (by decide) ?_
      exact g_lret rfl (pl_of h) dX10_behind_42
theorem ck_X10_behind : CKV yX10_behind cX10_behind 2 (some .long) 1 := ⟨⟨by decide, by decide, by decide +kernel⟩, w_1615, w_81, ⟨w_1613, w_1614⟩, by decide⟩
theorem dX10_ways_0 : decode cX10_ways 0 = .ok (.aload_n 0, 1) := by decide +kernel
theorem dX10_ways_1 : decode cX10_ways 1 = .ok (.invokevirtual 156, 3) := by decide +kernel
theorem dX10_ways_4 : decode cX10_ways 4 = .ok (.aload_n 0, 1) := by decide +kernel
theorem dX10_ways_5 : decode cX10_ways 5 = .ok (.getfield 165, 3) := by decide +kernel
theorem dX10_ways_8 : decode cX10_ways 8 = .ok (.ifCond .eq 10, 3) := by decide +kernel
theorem dX10_ways_11 : decode cX10_ways 11 = .ok (.aload_n 0, 1) := by decide +kernel
theorem dX10_ways_12 : decode cX10_ways 12 = .ok (.invokevirtual 296, 3) := by decide +kernel
theorem dX10_ways_15 : decode cX10_ways 15 = .ok (.goto 9, 3) := by decide +kernel
theorem dX10_ways_18 : decode cX10_ways 18 = .ok (.aload_n 0, 1) := by decide +kernel
theorem dX10_ways_19 : decode cX10_ways 19 = .ok (.iconst 1, 1) := by decide +kernel
theorem dX10_ways_20 : decode cX10_ways 20 = .ok (.invokevirtual 159, 3) := by decide +kernel
theorem dX10_ways_23 : decode cX10_ways 23 = .ok (.i2l, 1) := by decide +kernel
theorem dX10_ways_24 : decode cX10_ways 24 = .ok (.lreturn, 1) := by decide +kernel
def f_X10_ways  (M : Mm) : Option (Int64 × Mm) :=
  bv (f_X10_good  M) fun M1_1 => if (M1_1 81 14) = 0 then (bd (f_X10_no (1 : Int32) M1_1) fun v20_4 M20_3 => some (v20_4.toInt64, M20_3)) else (bd (f_X10_allWays  M1_1) fun v12_6 M12_5 => some (v12_6, M12_5))
set_option maxHeartbeats 4000000 in
set_option maxRecDepth 100000 in
theorem s_X10_ways {l : Launch} {B : BT} (hA : bA B = false) {d : Nat} {r : Int64} {M' : Mm}  {M : Mm}  (h : f_X10_ways  M = some (r, M')) : Con l B LY (d + 1) yX10_ways cX10_ways 1 (some .long) 0 0 [.ref 81] 97 M (PL r M') := by
  refine con_of (by decide) (Nat.le_of_ble_eq_true rfl) ?_
  show GG l B LY (d + 1) yX10_ways cX10_ways 1 (some .long) 0 0 (PL r M') 97 0 0 0 [(0, .ref 81)] [] M
  rw [f_X10_ways] at h
  refine g_aload_n dX10_ways_0 rfl 0 rfl ?_
  obtain ⟨M1_1, eM1_1, h⟩ := bv_e h
  refine m_callVv (As := []) (st := []) (s_X10_good (d := d + 0) hA  eM1_1) rfl okX10 ck_X10_good w_1381 rfl (Nat.le_of_ble_eq_true rfl) dX10_ways_1 ?_
  refine g_aload_n dX10_ways_4 rfl 0 rfl ?_
  refine m_geti (k := 14) okX10 rfl rfl (by decide) w_1283 rfl dX10_ways_5 ?_
  refine g_if_eq (tgt := 18) dX10_ways_8 (by decide) (fun c7 => ?_) (fun c7 => ?_)
  · replace h := ite_p c7 h
    refine g_aload_n dX10_ways_18 rfl 0 rfl ?_
    refine g_iconst (v := 1) dX10_ways_19 (by decide) ?_
    obtain ⟨v20_4, M20_3, eM20_3, h⟩ := bd_e h
    refine m_callVi (As := [.int (1 : Int32)]) (st := []) (s_X10_no (d := d + 0) hA  eM20_3) rfl okX10 ck_X10_no w_1388 rfl (Nat.le_of_ble_eq_true rfl) dX10_ways_20 ?_
    refine g_i2l dX10_ways_23 ?_
    exact g_lret rfl (pl_of h) dX10_ways_24
  · replace h := ite_n c7 h
    refine g_aload_n dX10_ways_11 rfl 0 rfl ?_
    obtain ⟨v12_6, M12_5, eM12_5, h⟩ := bd_e h
    refine m_callVl (As := []) (st := []) (s_X10_allWays (d := d + 0) hA  eM12_5) rfl okX10 ck_X10_allWays w_1625 rfl (Nat.le_of_ble_eq_true rfl) dX10_ways_12 ?_
    refine g_goto (tgt := 24) dX10_ways_15 (by decide) ?_
    exact g_lret rfl (pl_of h) dX10_ways_24
theorem ck_X10_ways : CKV yX10_ways cX10_ways 1 (some .long) 0 := ⟨⟨by decide, by decide, by decide +kernel⟩, w_1624, w_81, ⟨w_1622, w_1623⟩, by decide⟩
theorem dX10_endOf_0 : decode cX10_endOf 0 = .ok (.iconst 0, 1) := by decide +kernel
theorem dX10_endOf_1 : decode cX10_endOf 1 = .ok (.istore_n 2, 1) := by decide +kernel
theorem dX10_endOf_2 : decode cX10_endOf 2 = .ok (.iconst 0, 1) := by decide +kernel
theorem dX10_endOf_3 : decode cX10_endOf 3 = .ok (.istore_n 3, 1) := by decide +kernel
theorem dX10_endOf_4 : decode cX10_endOf 4 = .ok (.iload_n 3, 1) := by decide +kernel
theorem dX10_endOf_5 : decode cX10_endOf 5 = .ok (.iload_n 1, 1) := by decide +kernel
theorem dX10_endOf_6 : decode cX10_endOf 6 = .ok (.if_icmp .gt 17, 3) := by decide +kernel
theorem dX10_endOf_9 : decode cX10_endOf 9 = .ok (.iload_n 2, 1) := by decide +kernel
theorem dX10_endOf_10 : decode cX10_endOf 10 = .ok (.aload_n 0, 1) := by decide +kernel
theorem dX10_endOf_11 : decode cX10_endOf 11 = .ok (.iload_n 3, 1) := by decide +kernel
theorem dX10_endOf_12 : decode cX10_endOf 12 = .ok (.invokevirtual 237, 3) := by decide +kernel
theorem dX10_endOf_15 : decode cX10_endOf 15 = .ok (.iadd, 1) := by decide +kernel
theorem dX10_endOf_16 : decode cX10_endOf 16 = .ok (.istore_n 2, 1) := by decide +kernel
theorem dX10_endOf_17 : decode cX10_endOf 17 = .ok (.iinc 3 1, 3) := by decide +kernel
theorem dX10_endOf_20 : decode cX10_endOf 20 = .ok (.goto (-16), 3) := by decide +kernel
theorem dX10_endOf_23 : decode cX10_endOf 23 = .ok (.iload_n 2, 1) := by decide +kernel
theorem dX10_endOf_24 : decode cX10_endOf 24 = .ok (.ireturn, 1) := by decide +kernel
def lp_X10_endOf_4 (y1 : Int32)  : Nat → Int32 → Int32 → Mm → Option (Int32 × Mm)
  | 0, _, _, _ => none
  | n + 1, y2, y3, M =>
    if y1 < y3 then (some (y2, M)) else (bd (f_X10_tenthsOf y3 M) fun v12_2 M12_1 => lp_X10_endOf_4 y1 n (y2 + v12_2) (y3 + (1 : Int32)) M12_1)
def f_X10_endOf (x1 : Int32) (M : Mm) : Option (Int32 × Mm) :=
  lp_X10_endOf_4 x1  N0 (0 : Int32) (0 : Int32) M
set_option maxHeartbeats 4000000 in
set_option maxRecDepth 100000 in
theorem sl_X10_endOf_4 {l : Launch} {B : BT} (hA : bA B = false) {d : Nat} {r : Int32} {M' : Mm} {y1 : Int32}    :
    ∀ (n : Nat) (y2 : Int32) (y3 : Int32) (M : Mm), lp_X10_endOf_4 y1 n y2 y3 M = some (r, M') → GG l B LY (d + 1) yX10_endOf cX10_endOf 4 (some .int) 0 0 (PI r M') 97 0 0 4 [(0, .ref 81), (1, .int y1), (2, .int y2), (3, .int y3)] [] M := by
  intro n
  induction n with
  | zero => intro y2 y3 M h; cases h
  | succ n ih =>
    intro y2 y3 M h
    rw [lp_X10_endOf_4] at h
    refine g_iload_n dX10_endOf_4 rfl 3 rfl ?_
    refine g_iload_n dX10_endOf_5 rfl 1 rfl ?_
    refine g_icmp_gt (tgt := 23) dX10_endOf_6 (by decide) (fun c3 => ?_) (fun c3 => ?_)
    · replace h := ite_p c3 h
      refine g_iload_n dX10_endOf_23 rfl 2 rfl ?_
      exact g_zret rfl rfl (pi_of h) dX10_endOf_24
    · replace h := ite_n c3 h
      refine g_iload_n dX10_endOf_9 rfl 2 rfl ?_
      refine g_aload_n dX10_endOf_10 rfl 0 rfl ?_
      refine g_iload_n dX10_endOf_11 rfl 3 rfl ?_
      obtain ⟨v12_2, M12_1, eM12_1, h⟩ := bd_e h
      refine m_callVi (As := [.int y3]) (st := [.int y2]) (s_X10_tenthsOf (d := d + 0) hA  eM12_1) rfl okX10 ck_X10_tenthsOf w_1524 rfl (Nat.le_of_ble_eq_true rfl) dX10_endOf_12 ?_
      refine g_iadd dX10_endOf_15 ?_
      refine g_istore_n (lv' := [(2, .int (y2 + v12_2)), (0, .ref 81), (1, .int y1), (3, .int y3)]) dX10_endOf_16 rfl (by decide) rfl ?_
      refine g_iinc (v := (y3 + (1 : Int32))) (lv' := [(3, .int (y3 + (1 : Int32))), (2, .int (y2 + v12_2)), (0, .ref 81), (1, .int y1)]) dX10_endOf_17 3 rfl rfl (by decide) rfl ?_
      refine g_goto (tgt := 4) dX10_endOf_20 (by decide) ?_
      refine g_sub [2, 3, 1, 0] (lv' := [(0, .ref 81), (1, .int y1), (2, .int (y2 + v12_2)), (3, .int (y3 + (1 : Int32)))]) rfl ?_
      exact ih _ _  _ h
set_option maxHeartbeats 4000000 in
set_option maxRecDepth 100000 in
theorem s_X10_endOf {l : Launch} {B : BT} (hA : bA B = false) {d : Nat} {r : Int32} {M' : Mm} {x1 : Int32} {M : Mm}  (h : f_X10_endOf x1 M = some (r, M')) : Con l B LY (d + 1) yX10_endOf cX10_endOf 4 (some .int) 0 0 [.ref 81, .int x1] 97 M (PI r M') := by
  refine con_of (by decide) (Nat.le_of_ble_eq_true rfl) ?_
  show GG l B LY (d + 1) yX10_endOf cX10_endOf 4 (some .int) 0 0 (PI r M') 97 0 0 0 [(0, .ref 81), (1, .int x1)] [] M
  rw [f_X10_endOf] at h
  refine g_iconst (v := 0) dX10_endOf_0 (by decide) ?_
  refine g_istore_n (lv' := [(2, .int (0 : Int32)), (0, .ref 81), (1, .int x1)]) dX10_endOf_1 rfl (by decide) rfl ?_
  refine g_iconst (v := 0) dX10_endOf_2 (by decide) ?_
  refine g_istore_n (lv' := [(3, .int (0 : Int32)), (2, .int (0 : Int32)), (0, .ref 81), (1, .int x1)]) dX10_endOf_3 rfl (by decide) rfl ?_
  refine g_sub [2, 3, 1, 0] (lv' := [(0, .ref 81), (1, .int x1), (2, .int (0 : Int32)), (3, .int (0 : Int32))]) rfl ?_
  refine sl_X10_endOf_4 hA   _ _ _ _ h
theorem ck_X10_endOf : CKV yX10_endOf cX10_endOf 4 (some .int) 1 := ⟨⟨by decide, by decide, by decide +kernel⟩, w_1644, w_81, ⟨w_1643, w_50⟩, by decide⟩
theorem dX10_whole_0 : decode cX10_whole 0 = .ok (.aload_n 0, 1) := by decide +kernel
theorem dX10_whole_1 : decode cX10_whole 1 = .ok (.aload_n 0, 1) := by decide +kernel
theorem dX10_whole_2 : decode cX10_whole 2 = .ok (.getfield 20, 3) := by decide +kernel
theorem dX10_whole_5 : decode cX10_whole 5 = .ok (.bipush 92, 2) := by decide +kernel
theorem dX10_whole_7 : decode cX10_whole 7 = .ok (.iaload, 1) := by decide +kernel
theorem dX10_whole_8 : decode cX10_whole 8 = .ok (.iconst 1, 1) := by decide +kernel
theorem dX10_whole_9 : decode cX10_whole 9 = .ok (.isub, 1) := by decide +kernel
theorem dX10_whole_10 : decode cX10_whole 10 = .ok (.invokevirtual 300, 3) := by decide +kernel
theorem dX10_whole_13 : decode cX10_whole 13 = .ok (.ireturn, 1) := by decide +kernel
def f_X10_whole  (M : Mm) : Option (Int32 × Mm) :=
  gd (inb (92 : Int32) 141) <| bd (f_X10_endOf ((M 84 (92 : Int32).toNatClampNeg) - (1 : Int32)) M) fun v10_2 M10_1 => some (v10_2, M10_1)
set_option maxHeartbeats 4000000 in
set_option maxRecDepth 100000 in
theorem s_X10_whole {l : Launch} {B : BT} (hA : bA B = false) {d : Nat} {r : Int32} {M' : Mm}  {M : Mm}  (h : f_X10_whole  M = some (r, M')) : Con l B LY (d + 2) yX10_whole cX10_whole 1 (some .int) 0 0 [.ref 81] 97 M (PI r M') := by
  refine con_of (by decide) (Nat.le_of_ble_eq_true rfl) ?_
  show GG l B LY (d + 2) yX10_whole cX10_whole 1 (some .int) 0 0 (PI r M') 97 0 0 0 [(0, .ref 81)] [] M
  rw [f_X10_whole] at h
  refine g_aload_n dX10_whole_0 rfl 0 rfl ?_
  refine g_aload_n dX10_whole_1 rfl 0 rfl ?_
  refine m_getr (k := 15) okX10 rfl rfl (by decide) w_1284 rfl dX10_whole_2 ?_
  refine g_bipush (v := 92) dX10_whole_5 (by decide) ?_
  obtain ⟨hz, h⟩ := gd_s h
  refine m_iald rfl hz dX10_whole_7 ?_
  refine g_iconst (v := 1) dX10_whole_8 (by decide) ?_
  refine g_isub dX10_whole_9 ?_
  obtain ⟨v10_2, M10_1, eM10_1, h⟩ := bd_e h
  refine m_callVi (As := [.int ((M 84 (92 : Int32).toNatClampNeg) - (1 : Int32))]) (st := []) (s_X10_endOf (d := d + 0) hA  eM10_1) rfl okX10 ck_X10_endOf w_1641 rfl (Nat.le_of_ble_eq_true rfl) dX10_whole_10 ?_
  exact g_zret rfl rfl (pi_of h) dX10_whole_13
theorem ck_X10_whole : CKV yX10_whole cX10_whole 1 (some .int) 0 := ⟨⟨by decide, by decide, by decide +kernel⟩, w_1640, w_81, ⟨w_1639, w_49⟩, by decide⟩
theorem dX10_gone_0 : decode cX10_gone 0 = .ok (.aload_n 0, 1) := by decide +kernel
theorem dX10_gone_1 : decode cX10_gone 1 = .ok (.getfield 20, 3) := by decide +kernel
theorem dX10_gone_4 : decode cX10_gone 4 = .ok (.iconst 0, 1) := by decide +kernel
theorem dX10_gone_5 : decode cX10_gone 5 = .ok (.iaload, 1) := by decide +kernel
theorem dX10_gone_6 : decode cX10_gone 6 = .ok (.iload_n 2, 1) := by decide +kernel
theorem dX10_gone_7 : decode cX10_gone 7 = .ok (.iload_n 3, 1) := by decide +kernel
theorem dX10_gone_8 : decode cX10_gone 8 = .ok (.aload_n 0, 1) := by decide +kernel
theorem dX10_gone_9 : decode cX10_gone 9 = .ok (.getfield 20, 3) := by decide +kernel
theorem dX10_gone_12 : decode cX10_gone 12 = .ok (.bipush 61, 2) := by decide +kernel
theorem dX10_gone_14 : decode cX10_gone 14 = .ok (.iload_n 1, 1) := by decide +kernel
theorem dX10_gone_15 : decode cX10_gone 15 = .ok (.iadd, 1) := by decide +kernel
theorem dX10_gone_16 : decode cX10_gone 16 = .ok (.iaload, 1) := by decide +kernel
theorem dX10_gone_17 : decode cX10_gone 17 = .ok (.idiv, 1) := by decide +kernel
theorem dX10_gone_18 : decode cX10_gone 18 = .ok (.iadd, 1) := by decide +kernel
theorem dX10_gone_19 : decode cX10_gone 19 = .ok (.invokestatic 303, 3) := by decide +kernel
theorem dX10_gone_22 : decode cX10_gone 22 = .ok (.ireturn, 1) := by decide +kernel
def f_X10_gone (x1 : Int32) (x2 : Int32) (x3 : Int32) (M : Mm) : Option (Int32 × Mm) :=
  gd (inb (0 : Int32) 141) <| gd (inb ((61 : Int32) + x1) 141) <| gd (nzi (M 84 ((61 : Int32) + x1).toNatClampNeg)) <| bd (f_X10_less (M 84 (0 : Int32).toNatClampNeg) (x2 + (x3 / (M 84 ((61 : Int32) + x1).toNatClampNeg))) M) fun v19_2 M19_1 => some (v19_2, M19_1)
set_option maxHeartbeats 4000000 in
set_option maxRecDepth 100000 in
theorem s_X10_gone {l : Launch} {B : BT} (hA : bA B = false) {d : Nat} {r : Int32} {M' : Mm} {x1 : Int32} {x2 : Int32} {x3 : Int32} {M : Mm}  (h : f_X10_gone x1 x2 x3 M = some (r, M')) : Con l B LY (d + 1) yX10_gone cX10_gone 4 (some .int) 0 0 [.ref 81, .int x1, .int x2, .int x3] 97 M (PI r M') := by
  refine con_of (by decide) (Nat.le_of_ble_eq_true rfl) ?_
  show GG l B LY (d + 1) yX10_gone cX10_gone 4 (some .int) 0 0 (PI r M') 97 0 0 0 [(0, .ref 81), (1, .int x1), (2, .int x2), (3, .int x3)] [] M
  rw [f_X10_gone] at h
  refine g_aload_n dX10_gone_0 rfl 0 rfl ?_
  refine m_getr (k := 15) okX10 rfl rfl (by decide) w_1284 rfl dX10_gone_1 ?_
  refine g_iconst (v := 0) dX10_gone_4 (by decide) ?_
  obtain ⟨hz, h⟩ := gd_s h
  refine m_iald rfl hz dX10_gone_5 ?_
  refine g_iload_n dX10_gone_6 rfl 2 rfl ?_
  refine g_iload_n dX10_gone_7 rfl 3 rfl ?_
  refine g_aload_n dX10_gone_8 rfl 0 rfl ?_
  refine m_getr (k := 15) okX10 rfl rfl (by decide) w_1284 rfl dX10_gone_9 ?_
  refine g_bipush (v := 61) dX10_gone_12 (by decide) ?_
  refine g_iload_n dX10_gone_14 rfl 1 rfl ?_
  refine g_iadd dX10_gone_15 ?_
  obtain ⟨hz, h⟩ := gd_s h
  refine m_iald rfl hz dX10_gone_16 ?_
  obtain ⟨hz, h⟩ := gd_s h
  refine g_idiv dX10_gone_17 (nzi_s hz) ?_
  refine g_iadd dX10_gone_18 ?_
  obtain ⟨v19_2, M19_1, eM19_1, h⟩ := bd_e h
  refine m_callSi (As := [.int (M 84 (0 : Int32).toNatClampNeg), .int (x2 + (x3 / (M 84 ((61 : Int32) + x1).toNatClampNeg)))]) (st := []) (s_X10_less (d := d + 0) hA  eM19_1) ck_X10_less w_1657 rfl (Nat.le_of_ble_eq_true rfl) dX10_gone_19 ?_
  exact g_zret rfl rfl (pi_of h) dX10_gone_22
theorem ck_X10_gone : CKV yX10_gone cX10_gone 4 (some .int) 3 := ⟨⟨by decide, by decide, by decide +kernel⟩, w_1656, w_81, ⟨w_1655, w_53⟩, by decide⟩
theorem dX10_seenWays_0 : decode cX10_seenWays 0 = .ok (.aload_n 0, 1) := by decide +kernel
theorem dX10_seenWays_1 : decode cX10_seenWays 1 = .ok (.iload 4, 2) := by decide +kernel
theorem dX10_seenWays_3 : decode cX10_seenWays 3 = .ok (.invokevirtual 300, 3) := by decide +kernel
theorem dX10_seenWays_6 : decode cX10_seenWays 6 = .ok (.istore 5, 2) := by decide +kernel
theorem dX10_seenWays_8 : decode cX10_seenWays 8 = .ok (.iload 5, 2) := by decide +kernel
theorem dX10_seenWays_10 : decode cX10_seenWays 10 = .ok (.iload_n 3, 1) := by decide +kernel
theorem dX10_seenWays_11 : decode cX10_seenWays 11 = .ok (.if_icmp .lt 5, 3) := by decide +kernel
theorem dX10_seenWays_14 : decode cX10_seenWays 14 = .ok (.iconst 0, 1) := by decide +kernel
theorem dX10_seenWays_15 : decode cX10_seenWays 15 = .ok (.ireturn, 1) := by decide +kernel
theorem dX10_seenWays_16 : decode cX10_seenWays 16 = .ok (.aload_n 0, 1) := by decide +kernel
theorem dX10_seenWays_17 : decode cX10_seenWays 17 = .ok (.iload_n 1, 1) := by decide +kernel
theorem dX10_seenWays_18 : decode cX10_seenWays 18 = .ok (.iload_n 2, 1) := by decide +kernel
theorem dX10_seenWays_19 : decode cX10_seenWays 19 = .ok (.iload 5, 2) := by decide +kernel
theorem dX10_seenWays_21 : decode cX10_seenWays 21 = .ok (.invokevirtual 306, 3) := by decide +kernel
theorem dX10_seenWays_24 : decode cX10_seenWays 24 = .ok (.istore 6, 2) := by decide +kernel
theorem dX10_seenWays_26 : decode cX10_seenWays 26 = .ok (.iload 5, 2) := by decide +kernel
theorem dX10_seenWays_28 : decode cX10_seenWays 28 = .ok (.aload_n 0, 1) := by decide +kernel
theorem dX10_seenWays_29 : decode cX10_seenWays 29 = .ok (.getfield 20, 3) := by decide +kernel
theorem dX10_seenWays_32 : decode cX10_seenWays 32 = .ok (.bipush 61, 2) := by decide +kernel
theorem dX10_seenWays_34 : decode cX10_seenWays 34 = .ok (.iload_n 1, 1) := by decide +kernel
theorem dX10_seenWays_35 : decode cX10_seenWays 35 = .ok (.iadd, 1) := by decide +kernel
theorem dX10_seenWays_36 : decode cX10_seenWays 36 = .ok (.iaload, 1) := by decide +kernel
theorem dX10_seenWays_37 : decode cX10_seenWays 37 = .ok (.irem, 1) := by decide +kernel
theorem dX10_seenWays_38 : decode cX10_seenWays 38 = .ok (.istore 7, 2) := by decide +kernel
theorem dX10_seenWays_40 : decode cX10_seenWays 40 = .ok (.iload 6, 2) := by decide +kernel
theorem dX10_seenWays_42 : decode cX10_seenWays 42 = .ok (.aload_n 0, 1) := by decide +kernel
theorem dX10_seenWays_43 : decode cX10_seenWays 43 = .ok (.getfield 20, 3) := by decide +kernel
theorem dX10_seenWays_46 : decode cX10_seenWays 46 = .ok (.iconst 0, 1) := by decide +kernel
theorem dX10_seenWays_47 : decode cX10_seenWays 47 = .ok (.iaload, 1) := by decide +kernel
theorem dX10_seenWays_48 : decode cX10_seenWays 48 = .ok (.if_icmp .ge 12, 3) := by decide +kernel
theorem dX10_seenWays_51 : decode cX10_seenWays 51 = .ok (.iload 7, 2) := by decide +kernel
theorem dX10_seenWays_53 : decode cX10_seenWays 53 = .ok (.ifCond .le 7, 3) := by decide +kernel
theorem dX10_seenWays_56 : decode cX10_seenWays 56 = .ok (.iconst 1, 1) := by decide +kernel
theorem dX10_seenWays_57 : decode cX10_seenWays 57 = .ok (.goto 4, 3) := by decide +kernel
theorem dX10_seenWays_60 : decode cX10_seenWays 60 = .ok (.iconst 0, 1) := by decide +kernel
theorem dX10_seenWays_61 : decode cX10_seenWays 61 = .ok (.istore 8, 2) := by decide +kernel
theorem dX10_seenWays_63 : decode cX10_seenWays 63 = .ok (.iload 8, 2) := by decide +kernel
theorem dX10_seenWays_65 : decode cX10_seenWays 65 = .ok (.ifCond .eq 49, 3) := by decide +kernel
theorem dX10_seenWays_68 : decode cX10_seenWays 68 = .ok (.iload 7, 2) := by decide +kernel
theorem dX10_seenWays_70 : decode cX10_seenWays 70 = .ok (.bipush 100, 2) := by decide +kernel
theorem dX10_seenWays_72 : decode cX10_seenWays 72 = .ok (.imul, 1) := by decide +kernel
theorem dX10_seenWays_73 : decode cX10_seenWays 73 = .ok (.aload_n 0, 1) := by decide +kernel
theorem dX10_seenWays_74 : decode cX10_seenWays 74 = .ok (.getfield 20, 3) := by decide +kernel
theorem dX10_seenWays_77 : decode cX10_seenWays 77 = .ok (.bipush 61, 2) := by decide +kernel
theorem dX10_seenWays_79 : decode cX10_seenWays 79 = .ok (.iload_n 1, 1) := by decide +kernel
theorem dX10_seenWays_80 : decode cX10_seenWays 80 = .ok (.iadd, 1) := by decide +kernel
theorem dX10_seenWays_81 : decode cX10_seenWays 81 = .ok (.iaload, 1) := by decide +kernel
theorem dX10_seenWays_82 : decode cX10_seenWays 82 = .ok (.idiv, 1) := by decide +kernel
theorem dX10_seenWays_83 : decode cX10_seenWays 83 = .ok (.aload_n 0, 1) := by decide +kernel
theorem dX10_seenWays_84 : decode cX10_seenWays 84 = .ok (.getfield 20, 3) := by decide +kernel
theorem dX10_seenWays_87 : decode cX10_seenWays 87 = .ok (.iconst 5, 1) := by decide +kernel
theorem dX10_seenWays_88 : decode cX10_seenWays 88 = .ok (.iaload, 1) := by decide +kernel
theorem dX10_seenWays_89 : decode cX10_seenWays 89 = .ok (.aload_n 0, 1) := by decide +kernel
theorem dX10_seenWays_90 : decode cX10_seenWays 90 = .ok (.getfield 20, 3) := by decide +kernel
theorem dX10_seenWays_93 : decode cX10_seenWays 93 = .ok (.iconst 0, 1) := by decide +kernel
theorem dX10_seenWays_94 : decode cX10_seenWays 94 = .ok (.iaload, 1) := by decide +kernel
theorem dX10_seenWays_95 : decode cX10_seenWays 95 = .ok (.iadd, 1) := by decide +kernel
theorem dX10_seenWays_96 : decode cX10_seenWays 96 = .ok (.iload 6, 2) := by decide +kernel
theorem dX10_seenWays_98 : decode cX10_seenWays 98 = .ok (.isub, 1) := by decide +kernel
theorem dX10_seenWays_99 : decode cX10_seenWays 99 = .ok (.if_icmp .lt 15, 3) := by decide +kernel
theorem dX10_seenWays_102 : decode cX10_seenWays 102 = .ok (.aload_n 0, 1) := by decide +kernel
theorem dX10_seenWays_103 : decode cX10_seenWays 103 = .ok (.getfield 20, 3) := by decide +kernel
theorem dX10_seenWays_106 : decode cX10_seenWays 106 = .ok (.bipush 66, 2) := by decide +kernel
theorem dX10_seenWays_108 : decode cX10_seenWays 108 = .ok (.iload_n 1, 1) := by decide +kernel
theorem dX10_seenWays_109 : decode cX10_seenWays 109 = .ok (.iadd, 1) := by decide +kernel
theorem dX10_seenWays_110 : decode cX10_seenWays 110 = .ok (.iaload, 1) := by decide +kernel
theorem dX10_seenWays_111 : decode cX10_seenWays 111 = .ok (.goto 4, 3) := by decide +kernel
theorem dX10_seenWays_114 : decode cX10_seenWays 114 = .ok (.iconst 0, 1) := by decide +kernel
theorem dX10_seenWays_115 : decode cX10_seenWays 115 = .ok (.ireturn, 1) := by decide +kernel
def f_X10_seenWays (x1 : Int32) (x2 : Int32) (x3 : Int32) (x4 : Int32) (M : Mm) : Option (Int32 × Mm) :=
  bd (f_X10_endOf x4 M) fun v3_2 M3_1 => if v3_2 < x3 then (bd (f_X10_gone x1 x2 v3_2 M3_1) fun v21_4 M21_3 => gd (inb ((61 : Int32) + x1) 141) <| gd (nzi (M21_3 84 ((61 : Int32) + x1).toNatClampNeg)) <| lt ((v3_2 - v3_2 / (M21_3 84 ((61 : Int32) + x1).toNatClampNeg) * (M21_3 84 ((61 : Int32) + x1).toNatClampNeg))) fun t5 => gd (inb (0 : Int32) 141) <| jn (fun (s6 : Int32) (M7 : Mm) => jn (fun (M9 : Mm) => some ((0 : Int32), M9)) fun j10 => if s6 = 0 then (j10  M7) else (gd (inb ((61 : Int32) + x1) 141) <| gd (nzi (M7 84 ((61 : Int32) + x1).toNatClampNeg)) <| gd (inb (5 : Int32) 141) <| gd (inb (0 : Int32) 141) <| if ((t5 * (100 : Int32)) / (M7 84 ((61 : Int32) + x1).toNatClampNeg)) < (((M7 84 (5 : Int32).toNatClampNeg) + (M7 84 (0 : Int32).toNatClampNeg)) - v21_4) then (j10  M7) else (gd (inb ((66 : Int32) + x1) 141) <| some ((M7 84 ((66 : Int32) + x1).toNatClampNeg), M7)))) fun j8 => jn (fun (M13 : Mm) => j8 (0 : Int32) M13) fun j14 => if (M21_3 84 (0 : Int32).toNatClampNeg) ≤ v21_4 then (j14  M21_3) else (if t5 ≤ 0 then (j14  M21_3) else (j8 (1 : Int32) M21_3))) else (some ((0 : Int32), M3_1))
set_option maxHeartbeats 4000000 in
set_option maxRecDepth 100000 in
theorem s_X10_seenWays {l : Launch} {B : BT} (hA : bA B = false) {d : Nat} {r : Int32} {M' : Mm} {x1 : Int32} {x2 : Int32} {x3 : Int32} {x4 : Int32} {M : Mm}  (h : f_X10_seenWays x1 x2 x3 x4 M = some (r, M')) : Con l B LY (d + 2) yX10_seenWays cX10_seenWays 9 (some .int) 0 0 [.ref 81, .int x1, .int x2, .int x3, .int x4] 97 M (PI r M') := by
  refine con_of (by decide) (Nat.le_of_ble_eq_true rfl) ?_
  show GG l B LY (d + 2) yX10_seenWays cX10_seenWays 9 (some .int) 0 0 (PI r M') 97 0 0 0 [(0, .ref 81), (1, .int x1), (2, .int x2), (3, .int x3), (4, .int x4)] [] M
  rw [f_X10_seenWays] at h
  refine g_aload_n dX10_seenWays_0 rfl 0 rfl ?_
  refine g_iload dX10_seenWays_1 4 rfl ?_
  obtain ⟨v3_2, M3_1, eM3_1, h⟩ := bd_e h
  refine m_callVi (As := [.int x4]) (st := []) (s_X10_endOf (d := d + 0) hA  eM3_1) rfl okX10 ck_X10_endOf w_1641 rfl (Nat.le_of_ble_eq_true rfl) dX10_seenWays_3 ?_
  refine g_istore (lv' := [(5, .int v3_2), (0, .ref 81), (1, .int x1), (2, .int x2), (3, .int x3), (4, .int x4)]) dX10_seenWays_6 (by decide) rfl ?_
  refine g_iload dX10_seenWays_8 0 rfl ?_
  refine g_iload_n dX10_seenWays_10 rfl 4 rfl ?_
  refine g_icmp_lt (tgt := 16) dX10_seenWays_11 (by decide) (fun c17 => ?_) (fun c17 => ?_)
  · replace h := ite_p c17 h
    refine g_aload_n dX10_seenWays_16 rfl 1 rfl ?_
    refine g_iload_n dX10_seenWays_17 rfl 2 rfl ?_
    refine g_iload_n dX10_seenWays_18 rfl 3 rfl ?_
    refine g_iload dX10_seenWays_19 0 rfl ?_
    obtain ⟨v21_4, M21_3, eM21_3, h⟩ := bd_e h
    refine m_callVi (As := [.int x1, .int x2, .int v3_2]) (st := []) (s_X10_gone (d := d + 0) hA  eM21_3) rfl okX10 ck_X10_gone w_1653 rfl (Nat.le_of_ble_eq_true rfl) dX10_seenWays_21 ?_
    refine g_istore (lv' := [(6, .int v21_4), (5, .int v3_2), (0, .ref 81), (1, .int x1), (2, .int x2), (3, .int x3), (4, .int x4)]) dX10_seenWays_24 (by decide) rfl ?_
    refine g_iload dX10_seenWays_26 1 rfl ?_
    refine g_aload_n dX10_seenWays_28 rfl 2 rfl ?_
    refine m_getr (k := 15) okX10 rfl rfl (by decide) w_1284 rfl dX10_seenWays_29 ?_
    refine g_bipush (v := 61) dX10_seenWays_32 (by decide) ?_
    refine g_iload_n dX10_seenWays_34 rfl 3 rfl ?_
    refine g_iadd dX10_seenWays_35 ?_
    obtain ⟨hz, h⟩ := gd_s h
    refine m_iald rfl hz dX10_seenWays_36 ?_
    obtain ⟨hz, h⟩ := gd_s h
    refine g_irem dX10_seenWays_37 (nzi_s hz) ?_
    obtain ⟨t5, et5, h⟩ := lt_e h
    refine g_cuti et5 ?_
    refine g_istore (lv' := [(7, .int t5), (6, .int v21_4), (5, .int v3_2), (0, .ref 81), (1, .int x1), (2, .int x2), (3, .int x3), (4, .int x4)]) dX10_seenWays_38 (by decide) rfl ?_
    refine g_iload dX10_seenWays_40 1 rfl ?_
    refine g_aload_n dX10_seenWays_42 rfl 3 rfl ?_
    refine m_getr (k := 15) okX10 rfl rfl (by decide) w_1284 rfl dX10_seenWays_43 ?_
    refine g_iconst (v := 0) dX10_seenWays_46 (by decide) ?_
    obtain ⟨hz, h⟩ := gd_s h
    refine m_iald rfl hz dX10_seenWays_47 ?_
    obtain ⟨j8, ej8, h⟩ := jn_e h
    have hj8 : ∀ (s6 : Int32) (M7 : Mm), j8 s6 M7 = some (r, M') → GG l B LY (d + 2) yX10_seenWays cX10_seenWays 9 (some .int) 0 0 (PI r M') 97 0 0 61 [(0, .ref 81), (1, .int x1), (6, .int v21_4), (7, .int t5)] [.int s6] M7 := by
      intro s6 M7 h
      rw [ej8] at h
      refine g_istore (lv' := [(8, .int s6), (0, .ref 81), (1, .int x1), (6, .int v21_4), (7, .int t5)]) dX10_seenWays_61 (by decide) rfl ?_
      refine g_iload dX10_seenWays_63 0 rfl ?_
      obtain ⟨j10, ej10, h⟩ := jn_e h
      have hj10 : ∀ (M9 : Mm), j10 M9 = some (r, M') → GG l B LY (d + 2) yX10_seenWays cX10_seenWays 9 (some .int) 0 0 (PI r M') 97 0 0 114 [] [] M9 := by
        intro M9 h
        rw [ej10] at h
        refine g_iconst (v := 0) dX10_seenWays_114 (by decide) ?_
        exact g_zret rfl rfl (pi_of h) dX10_seenWays_115
      refine g_if_eq (tgt := 114) dX10_seenWays_65 (by decide) (fun c12 => ?_) (fun c12 => ?_)
      · replace h := ite_p c12 h
        refine g_sub [] (lv' := []) rfl ?_
        exact hj10  _ h
      · replace h := ite_n c12 h
        refine g_iload dX10_seenWays_68 4 rfl ?_
        refine g_bipush (v := 100) dX10_seenWays_70 (by decide) ?_
        refine g_imul dX10_seenWays_72 ?_
        refine g_aload_n dX10_seenWays_73 rfl 1 rfl ?_
        refine m_getr (k := 15) okX10 rfl rfl (by decide) w_1284 rfl dX10_seenWays_74 ?_
        refine g_bipush (v := 61) dX10_seenWays_77 (by decide) ?_
        refine g_iload_n dX10_seenWays_79 rfl 2 rfl ?_
        refine g_iadd dX10_seenWays_80 ?_
        obtain ⟨hz, h⟩ := gd_s h
        refine m_iald rfl hz dX10_seenWays_81 ?_
        obtain ⟨hz, h⟩ := gd_s h
        refine g_idiv dX10_seenWays_82 (nzi_s hz) ?_
        refine g_aload_n dX10_seenWays_83 rfl 1 rfl ?_
        refine m_getr (k := 15) okX10 rfl rfl (by decide) w_1284 rfl dX10_seenWays_84 ?_
        refine g_iconst (v := 5) dX10_seenWays_87 (by decide) ?_
        obtain ⟨hz, h⟩ := gd_s h
        refine m_iald rfl hz dX10_seenWays_88 ?_
        refine g_aload_n dX10_seenWays_89 rfl 1 rfl ?_
        refine m_getr (k := 15) okX10 rfl rfl (by decide) w_1284 rfl dX10_seenWays_90 ?_
        refine g_iconst (v := 0) dX10_seenWays_93 (by decide) ?_
        obtain ⟨hz, h⟩ := gd_s h
        refine m_iald rfl hz dX10_seenWays_94 ?_
        refine g_iadd dX10_seenWays_95 ?_
        refine g_iload dX10_seenWays_96 3 rfl ?_
        refine g_isub dX10_seenWays_98 ?_
        refine g_icmp_lt (tgt := 114) dX10_seenWays_99 (by decide) (fun c11 => ?_) (fun c11 => ?_)
        · replace h := ite_p c11 h
          refine g_sub [] (lv' := []) rfl ?_
          exact hj10  _ h
        · replace h := ite_n c11 h
          refine g_aload_n dX10_seenWays_102 rfl 1 rfl ?_
          refine m_getr (k := 15) okX10 rfl rfl (by decide) w_1284 rfl dX10_seenWays_103 ?_
          refine g_bipush (v := 66) dX10_seenWays_106 (by decide) ?_
          refine g_iload_n dX10_seenWays_108 rfl 2 rfl ?_
          refine g_iadd dX10_seenWays_109 ?_
          obtain ⟨hz, h⟩ := gd_s h
          refine m_iald rfl hz dX10_seenWays_110 ?_
          refine g_goto (tgt := 115) dX10_seenWays_111 (by decide) ?_
          exact g_zret rfl rfl (pi_of h) dX10_seenWays_115
    obtain ⟨j14, ej14, h⟩ := jn_e h
    have hj14 : ∀ (M13 : Mm), j14 M13 = some (r, M') → GG l B LY (d + 2) yX10_seenWays cX10_seenWays 9 (some .int) 0 0 (PI r M') 97 0 0 60 [(0, .ref 81), (1, .int x1), (6, .int v21_4), (7, .int t5)] [] M13 := by
      intro M13 h
      rw [ej14] at h
      refine g_iconst (v := 0) dX10_seenWays_60 (by decide) ?_
      refine g_sub [0, 1, 2, 3] (lv' := [(0, .ref 81), (1, .int x1), (6, .int v21_4), (7, .int t5)]) rfl ?_
      exact hj8 _ _ h
    refine g_icmp_ge (tgt := 60) dX10_seenWays_48 (by decide) (fun c16 => ?_) (fun c16 => ?_)
    · replace h := ite_p c16 h
      refine g_sub [3, 4, 1, 0] (lv' := [(0, .ref 81), (1, .int x1), (6, .int v21_4), (7, .int t5)]) rfl ?_
      exact hj14  _ h
    · replace h := ite_n c16 h
      refine g_iload dX10_seenWays_51 0 rfl ?_
      refine g_if_le (tgt := 60) dX10_seenWays_53 (by decide) (fun c15 => ?_) (fun c15 => ?_)
      · replace h := ite_p c15 h
        refine g_sub [3, 4, 1, 0] (lv' := [(0, .ref 81), (1, .int x1), (6, .int v21_4), (7, .int t5)]) rfl ?_
        exact hj14  _ h
      · replace h := ite_n c15 h
        refine g_iconst (v := 1) dX10_seenWays_56 (by decide) ?_
        refine g_goto (tgt := 61) dX10_seenWays_57 (by decide) ?_
        refine g_sub [3, 4, 1, 0] (lv' := [(0, .ref 81), (1, .int x1), (6, .int v21_4), (7, .int t5)]) rfl ?_
        exact hj8 _ _ h
  · replace h := ite_n c17 h
    refine g_iconst (v := 0) dX10_seenWays_14 (by decide) ?_
    exact g_zret rfl rfl (pi_of h) dX10_seenWays_15
theorem ck_X10_seenWays : CKV yX10_seenWays cX10_seenWays 9 (some .int) 4 := ⟨⟨by decide, by decide, by decide +kernel⟩, w_1652, w_81, ⟨w_1651, w_52⟩, by decide⟩
theorem dX10_brings_0 : decode cX10_brings 0 = .ok (.aload_n 0, 1) := by decide +kernel
theorem dX10_brings_1 : decode cX10_brings 1 = .ok (.iload_n 1, 1) := by decide +kernel
theorem dX10_brings_2 : decode cX10_brings 2 = .ok (.iload_n 2, 1) := by decide +kernel
theorem dX10_brings_3 : decode cX10_brings 3 = .ok (.aload_n 0, 1) := by decide +kernel
theorem dX10_brings_4 : decode cX10_brings 4 = .ok (.iload 4, 2) := by decide +kernel
theorem dX10_brings_6 : decode cX10_brings 6 = .ok (.invokevirtual 300, 3) := by decide +kernel
theorem dX10_brings_9 : decode cX10_brings 9 = .ok (.iload_n 3, 1) := by decide +kernel
theorem dX10_brings_10 : decode cX10_brings 10 = .ok (.invokestatic 303, 3) := by decide +kernel
theorem dX10_brings_13 : decode cX10_brings 13 = .ok (.invokevirtual 306, 3) := by decide +kernel
theorem dX10_brings_16 : decode cX10_brings 16 = .ok (.istore 6, 2) := by decide +kernel
theorem dX10_brings_18 : decode cX10_brings 18 = .ok (.iload 5, 2) := by decide +kernel
theorem dX10_brings_20 : decode cX10_brings 20 = .ok (.ifCond .eq 7, 3) := by decide +kernel
theorem dX10_brings_23 : decode cX10_brings 23 = .ok (.iconst 0, 1) := by decide +kernel
theorem dX10_brings_24 : decode cX10_brings 24 = .ok (.goto 12, 3) := by decide +kernel
theorem dX10_brings_27 : decode cX10_brings 27 = .ok (.aload_n 0, 1) := by decide +kernel
theorem dX10_brings_28 : decode cX10_brings 28 = .ok (.iload_n 1, 1) := by decide +kernel
theorem dX10_brings_29 : decode cX10_brings 29 = .ok (.iload_n 2, 1) := by decide +kernel
theorem dX10_brings_30 : decode cX10_brings 30 = .ok (.iload_n 3, 1) := by decide +kernel
theorem dX10_brings_31 : decode cX10_brings 31 = .ok (.iload 4, 2) := by decide +kernel
theorem dX10_brings_33 : decode cX10_brings 33 = .ok (.invokevirtual 310, 3) := by decide +kernel
theorem dX10_brings_36 : decode cX10_brings 36 = .ok (.istore 7, 2) := by decide +kernel
theorem dX10_brings_38 : decode cX10_brings 38 = .ok (.ldc2_w 290, 3) := by decide +kernel
theorem dX10_brings_41 : decode cX10_brings 41 = .ok (.iload 7, 2) := by decide +kernel
theorem dX10_brings_43 : decode cX10_brings 43 = .ok (.i2l, 1) := by decide +kernel
theorem dX10_brings_44 : decode cX10_brings 44 = .ok (.lsub, 1) := by decide +kernel
theorem dX10_brings_45 : decode cX10_brings 45 = .ok (.iload 6, 2) := by decide +kernel
theorem dX10_brings_47 : decode cX10_brings 47 = .ok (.iload_n 2, 1) := by decide +kernel
theorem dX10_brings_48 : decode cX10_brings 48 = .ok (.isub, 1) := by decide +kernel
theorem dX10_brings_49 : decode cX10_brings 49 = .ok (.i2l, 1) := by decide +kernel
theorem dX10_brings_50 : decode cX10_brings 50 = .ok (.lmul, 1) := by decide +kernel
theorem dX10_brings_51 : decode cX10_brings 51 = .ok (.iload 7, 2) := by decide +kernel
theorem dX10_brings_53 : decode cX10_brings 53 = .ok (.i2l, 1) := by decide +kernel
theorem dX10_brings_54 : decode cX10_brings 54 = .ok (.iload_n 2, 1) := by decide +kernel
theorem dX10_brings_55 : decode cX10_brings 55 = .ok (.i2l, 1) := by decide +kernel
theorem dX10_brings_56 : decode cX10_brings 56 = .ok (.lmul, 1) := by decide +kernel
theorem dX10_brings_57 : decode cX10_brings 57 = .ok (.lsub, 1) := by decide +kernel
theorem dX10_brings_58 : decode cX10_brings 58 = .ok (.lreturn, 1) := by decide +kernel
def f_X10_brings (x1 : Int32) (x2 : Int32) (x3 : Int32) (x4 : Int32) (x5 : Int32) (M : Mm) : Option (Int64 × Mm) :=
  bd (f_X10_endOf x4 M) fun v6_2 M6_1 => bd (f_X10_less v6_2 x3 M6_1) fun v10_4 M10_3 => bd (f_X10_gone x1 x2 v10_4 M10_3) fun v13_6 M13_5 => jn (fun (s7 : Int32) (M8 : Mm) => some (((((100 : Int64) - s7.toInt64) * (v13_6 - x2).toInt64) - (s7.toInt64 * x2.toInt64)), M8)) fun j9 => if x5 = 0 then (bd (f_X10_seenWays x1 x2 x3 x4 M13_5) fun v33_11 M33_10 => j9 v33_11 M33_10) else (j9 (0 : Int32) M13_5)
set_option maxHeartbeats 4000000 in
set_option maxRecDepth 100000 in
theorem s_X10_brings {l : Launch} {B : BT} (hA : bA B = false) {d : Nat} {r : Int64} {M' : Mm} {x1 : Int32} {x2 : Int32} {x3 : Int32} {x4 : Int32} {x5 : Int32} {M : Mm}  (h : f_X10_brings x1 x2 x3 x4 x5 M = some (r, M')) : Con l B LY (d + 3) yX10_brings cX10_brings 8 (some .long) 0 0 [.ref 81, .int x1, .int x2, .int x3, .int x4, .int x5] 97 M (PL r M') := by
  refine con_of (by decide) (Nat.le_of_ble_eq_true rfl) ?_
  show GG l B LY (d + 3) yX10_brings cX10_brings 8 (some .long) 0 0 (PL r M') 97 0 0 0 [(0, .ref 81), (1, .int x1), (2, .int x2), (3, .int x3), (4, .int x4), (5, .int x5)] [] M
  rw [f_X10_brings] at h
  refine g_aload_n dX10_brings_0 rfl 0 rfl ?_
  refine g_iload_n dX10_brings_1 rfl 1 rfl ?_
  refine g_iload_n dX10_brings_2 rfl 2 rfl ?_
  refine g_aload_n dX10_brings_3 rfl 0 rfl ?_
  refine g_iload dX10_brings_4 4 rfl ?_
  obtain ⟨v6_2, M6_1, eM6_1, h⟩ := bd_e h
  refine m_callVi (As := [.int x4]) (st := [.int x2, .int x1, .ref 81]) (s_X10_endOf (d := d + 1) hA  eM6_1) rfl okX10 ck_X10_endOf w_1641 rfl (Nat.le_of_ble_eq_true rfl) dX10_brings_6 ?_
  refine g_iload_n dX10_brings_9 rfl 3 rfl ?_
  obtain ⟨v10_4, M10_3, eM10_3, h⟩ := bd_e h
  refine m_callSi (As := [.int v6_2, .int x3]) (st := [.int x2, .int x1, .ref 81]) (s_X10_less (d := d + 2) hA  eM10_3) ck_X10_less w_1657 rfl (Nat.le_of_ble_eq_true rfl) dX10_brings_10 ?_
  obtain ⟨v13_6, M13_5, eM13_5, h⟩ := bd_e h
  refine m_callVi (As := [.int x1, .int x2, .int v10_4]) (st := []) (s_X10_gone (d := d + 1) hA  eM13_5) rfl okX10 ck_X10_gone w_1653 rfl (Nat.le_of_ble_eq_true rfl) dX10_brings_13 ?_
  refine g_istore (lv' := [(6, .int v13_6), (0, .ref 81), (1, .int x1), (2, .int x2), (3, .int x3), (4, .int x4), (5, .int x5)]) dX10_brings_16 (by decide) rfl ?_
  refine g_iload dX10_brings_18 6 rfl ?_
  obtain ⟨j9, ej9, h⟩ := jn_e h
  have hj9 : ∀ (s7 : Int32) (M8 : Mm), j9 s7 M8 = some (r, M') → GG l B LY (d + 3) yX10_brings cX10_brings 8 (some .long) 0 0 (PL r M') 97 0 0 36 [(2, .int x2), (6, .int v13_6)] [.int s7] M8 := by
    intro s7 M8 h
    rw [ej9] at h
    refine g_istore (lv' := [(7, .int s7), (2, .int x2), (6, .int v13_6)]) dX10_brings_36 (by decide) rfl ?_
    refine g_ldc2 (v := 100) w_1620 dX10_brings_38 ?_
    refine g_iload dX10_brings_41 0 rfl ?_
    refine g_i2l dX10_brings_43 ?_
    refine g_lsub dX10_brings_44 ?_
    refine g_iload dX10_brings_45 2 rfl ?_
    refine g_iload_n dX10_brings_47 rfl 1 rfl ?_
    refine g_isub dX10_brings_48 ?_
    refine g_i2l dX10_brings_49 ?_
    refine g_lmul dX10_brings_50 ?_
    refine g_iload dX10_brings_51 0 rfl ?_
    refine g_i2l dX10_brings_53 ?_
    refine g_iload_n dX10_brings_54 rfl 1 rfl ?_
    refine g_i2l dX10_brings_55 ?_
    refine g_lmul dX10_brings_56 ?_
    refine g_lsub dX10_brings_57 ?_
    exact g_lret rfl (pl_of h) dX10_brings_58
  refine g_if_eq (tgt := 27) dX10_brings_20 (by decide) (fun c12 => ?_) (fun c12 => ?_)
  · replace h := ite_p c12 h
    refine g_aload_n dX10_brings_27 rfl 1 rfl ?_
    refine g_iload_n dX10_brings_28 rfl 2 rfl ?_
    refine g_iload_n dX10_brings_29 rfl 3 rfl ?_
    refine g_iload_n dX10_brings_30 rfl 4 rfl ?_
    refine g_iload dX10_brings_31 5 rfl ?_
    obtain ⟨v33_11, M33_10, eM33_10, h⟩ := bd_e h
    refine m_callVi (As := [.int x1, .int x2, .int x3, .int x4]) (st := []) (s_X10_seenWays (d := d + 0) hA  eM33_10) rfl okX10 ck_X10_seenWays w_1649 rfl (Nat.le_of_ble_eq_true rfl) dX10_brings_33 ?_
    refine g_sub [3, 0] (lv' := [(2, .int x2), (6, .int v13_6)]) rfl ?_
    exact hj9 _ _ h
  · replace h := ite_n c12 h
    refine g_iconst (v := 0) dX10_brings_23 (by decide) ?_
    refine g_goto (tgt := 36) dX10_brings_24 (by decide) ?_
    refine g_sub [3, 0] (lv' := [(2, .int x2), (6, .int v13_6)]) rfl ?_
    exact hj9 _ _ h
theorem ck_X10_brings : CKV yX10_brings cX10_brings 8 (some .long) 5 := ⟨⟨by decide, by decide, by decide +kernel⟩, w_1672, w_81, ⟨w_1671, w_55⟩, by decide⟩
theorem dX10_gains_0 : decode cX10_gains 0 = .ok (.lconst 0, 1) := by decide +kernel
theorem dX10_gains_1 : decode cX10_gains 1 = .ok (.lstore 5, 2) := by decide +kernel
theorem dX10_gains_3 : decode cX10_gains 3 = .ok (.iconst 0, 1) := by decide +kernel
theorem dX10_gains_4 : decode cX10_gains 4 = .ok (.istore 7, 2) := by decide +kernel
theorem dX10_gains_6 : decode cX10_gains 6 = .ok (.iload 7, 2) := by decide +kernel
theorem dX10_gains_8 : decode cX10_gains 8 = .ok (.aload_n 0, 1) := by decide +kernel
theorem dX10_gains_9 : decode cX10_gains 9 = .ok (.getfield 20, 3) := by decide +kernel
theorem dX10_gains_12 : decode cX10_gains 12 = .ok (.bipush 92, 2) := by decide +kernel
theorem dX10_gains_14 : decode cX10_gains 14 = .ok (.iaload, 1) := by decide +kernel
theorem dX10_gains_15 : decode cX10_gains 15 = .ok (.if_icmp .ge 32, 3) := by decide +kernel
theorem dX10_gains_18 : decode cX10_gains 18 = .ok (.lload 5, 2) := by decide +kernel
theorem dX10_gains_20 : decode cX10_gains 20 = .ok (.aload_n 0, 1) := by decide +kernel
theorem dX10_gains_21 : decode cX10_gains 21 = .ok (.iload 7, 2) := by decide +kernel
theorem dX10_gains_23 : decode cX10_gains 23 = .ok (.invokevirtual 292, 3) := by decide +kernel
theorem dX10_gains_26 : decode cX10_gains 26 = .ok (.aload_n 0, 1) := by decide +kernel
theorem dX10_gains_27 : decode cX10_gains 27 = .ok (.iload_n 1, 1) := by decide +kernel
theorem dX10_gains_28 : decode cX10_gains 28 = .ok (.iload_n 2, 1) := by decide +kernel
theorem dX10_gains_29 : decode cX10_gains 29 = .ok (.iload_n 3, 1) := by decide +kernel
theorem dX10_gains_30 : decode cX10_gains 30 = .ok (.iload 7, 2) := by decide +kernel
theorem dX10_gains_32 : decode cX10_gains 32 = .ok (.iload 4, 2) := by decide +kernel
theorem dX10_gains_34 : decode cX10_gains 34 = .ok (.invokevirtual 314, 3) := by decide +kernel
theorem dX10_gains_37 : decode cX10_gains 37 = .ok (.lmul, 1) := by decide +kernel
theorem dX10_gains_38 : decode cX10_gains 38 = .ok (.ladd, 1) := by decide +kernel
theorem dX10_gains_39 : decode cX10_gains 39 = .ok (.lstore 5, 2) := by decide +kernel
theorem dX10_gains_41 : decode cX10_gains 41 = .ok (.iinc 7 1, 3) := by decide +kernel
theorem dX10_gains_44 : decode cX10_gains 44 = .ok (.goto (-38), 3) := by decide +kernel
theorem dX10_gains_47 : decode cX10_gains 47 = .ok (.lload 5, 2) := by decide +kernel
theorem dX10_gains_49 : decode cX10_gains 49 = .ok (.lreturn, 1) := by decide +kernel
def lp_X10_gains_6 (y1 : Int32) (y2 : Int32) (y3 : Int32) (y4 : Int32)  : Nat → Int64 → Int32 → Mm → Option (Int64 × Mm)
  | 0, _, _, _ => none
  | n + 1, y5, y7, M =>
    gd (inb (92 : Int32) 141) <| if (M 84 (92 : Int32).toNatClampNeg) ≤ y7 then (some (y5, M)) else (bd (f_X10_first y7 M) fun v23_2 M23_1 => bd (f_X10_brings y1 y2 y3 y7 y4 M23_1) fun v34_4 M34_3 => lp_X10_gains_6 y1 y2 y3 y4 n (y5 + (v23_2 * v34_4)) (y7 + (1 : Int32)) M34_3)
def f_X10_gains (x1 : Int32) (x2 : Int32) (x3 : Int32) (x4 : Int32) (M : Mm) : Option (Int64 × Mm) :=
  lp_X10_gains_6 x1 x2 x3 x4  N0 (0 : Int64) (0 : Int32) M
set_option maxHeartbeats 4000000 in
set_option maxRecDepth 100000 in
theorem sl_X10_gains_6 {l : Launch} {B : BT} (hA : bA B = false) {d : Nat} {r : Int64} {M' : Mm} {y1 : Int32} {y2 : Int32} {y3 : Int32} {y4 : Int32}    :
    ∀ (n : Nat) (y5 : Int64) (y7 : Int32) (M : Mm), lp_X10_gains_6 y1 y2 y3 y4 n y5 y7 M = some (r, M') → GG l B LY (d + 4) yX10_gains cX10_gains 8 (some .long) 0 0 (PL r M') 97 0 0 6 [(0, .ref 81), (1, .int y1), (2, .int y2), (3, .int y3), (4, .int y4), (5, .long y5), (7, .int y7)] [] M := by
  intro n
  induction n with
  | zero => intro y5 y7 M h; cases h
  | succ n ih =>
    intro y5 y7 M h
    rw [lp_X10_gains_6] at h
    refine g_iload dX10_gains_6 6 rfl ?_
    refine g_aload_n dX10_gains_8 rfl 0 rfl ?_
    refine m_getr (k := 15) okX10 rfl rfl (by decide) w_1284 rfl dX10_gains_9 ?_
    refine g_bipush (v := 92) dX10_gains_12 (by decide) ?_
    obtain ⟨hz, h⟩ := gd_s h
    refine m_iald rfl hz dX10_gains_14 ?_
    refine g_icmp_ge (tgt := 47) dX10_gains_15 (by decide) (fun c5 => ?_) (fun c5 => ?_)
    · replace h := ite_p c5 h
      refine g_lload dX10_gains_47 5 rfl ?_
      exact g_lret rfl (pl_of h) dX10_gains_49
    · replace h := ite_n c5 h
      refine g_lload dX10_gains_18 5 rfl ?_
      refine g_aload_n dX10_gains_20 rfl 0 rfl ?_
      refine g_iload dX10_gains_21 6 rfl ?_
      obtain ⟨v23_2, M23_1, eM23_1, h⟩ := bd_e h
      refine m_callVl (As := [.int y7]) (st := [.long y5]) (s_X10_first (d := d + 3) hA  eM23_1) rfl okX10 ck_X10_first w_1616 rfl (Nat.le_of_ble_eq_true rfl) dX10_gains_23 ?_
      refine g_aload_n dX10_gains_26 rfl 0 rfl ?_
      refine g_iload_n dX10_gains_27 rfl 1 rfl ?_
      refine g_iload_n dX10_gains_28 rfl 2 rfl ?_
      refine g_iload_n dX10_gains_29 rfl 3 rfl ?_
      refine g_iload dX10_gains_30 6 rfl ?_
      refine g_iload dX10_gains_32 4 rfl ?_
      obtain ⟨v34_4, M34_3, eM34_3, h⟩ := bd_e h
      refine m_callVl (As := [.int y1, .int y2, .int y3, .int y7, .int y4]) (st := [.long v23_2, .long y5]) (s_X10_brings (d := d + 0) hA  eM34_3) rfl okX10 ck_X10_brings w_1669 rfl (Nat.le_of_ble_eq_true rfl) dX10_gains_34 ?_
      refine g_lmul dX10_gains_37 ?_
      refine g_ladd dX10_gains_38 ?_
      refine g_lstore (lv' := [(5, .long (y5 + (v23_2 * v34_4))), (0, .ref 81), (1, .int y1), (2, .int y2), (3, .int y3), (4, .int y4), (7, .int y7)]) dX10_gains_39 (by decide) rfl ?_
      refine g_iinc (v := (y7 + (1 : Int32))) (lv' := [(7, .int (y7 + (1 : Int32))), (5, .long (y5 + (v23_2 * v34_4))), (0, .ref 81), (1, .int y1), (2, .int y2), (3, .int y3), (4, .int y4)]) dX10_gains_41 6 rfl rfl (by decide) rfl ?_
      refine g_goto (tgt := 6) dX10_gains_44 (by decide) ?_
      refine g_sub [2, 3, 4, 5, 6, 1, 0] (lv' := [(0, .ref 81), (1, .int y1), (2, .int y2), (3, .int y3), (4, .int y4), (5, .long (y5 + (v23_2 * v34_4))), (7, .int (y7 + (1 : Int32)))]) rfl ?_
      exact ih _ _  _ h
set_option maxHeartbeats 4000000 in
set_option maxRecDepth 100000 in
theorem s_X10_gains {l : Launch} {B : BT} (hA : bA B = false) {d : Nat} {r : Int64} {M' : Mm} {x1 : Int32} {x2 : Int32} {x3 : Int32} {x4 : Int32} {M : Mm}  (h : f_X10_gains x1 x2 x3 x4 M = some (r, M')) : Con l B LY (d + 4) yX10_gains cX10_gains 8 (some .long) 0 0 [.ref 81, .int x1, .int x2, .int x3, .int x4] 97 M (PL r M') := by
  refine con_of (by decide) (Nat.le_of_ble_eq_true rfl) ?_
  show GG l B LY (d + 4) yX10_gains cX10_gains 8 (some .long) 0 0 (PL r M') 97 0 0 0 [(0, .ref 81), (1, .int x1), (2, .int x2), (3, .int x3), (4, .int x4)] [] M
  rw [f_X10_gains] at h
  refine g_lconst (v := 0) dX10_gains_0 (by decide) ?_
  refine g_lstore (lv' := [(5, .long (0 : Int64)), (0, .ref 81), (1, .int x1), (2, .int x2), (3, .int x3), (4, .int x4)]) dX10_gains_1 (by decide) rfl ?_
  refine g_iconst (v := 0) dX10_gains_3 (by decide) ?_
  refine g_istore (lv' := [(7, .int (0 : Int32)), (5, .long (0 : Int64)), (0, .ref 81), (1, .int x1), (2, .int x2), (3, .int x3), (4, .int x4)]) dX10_gains_4 (by decide) rfl ?_
  refine g_sub [2, 3, 4, 5, 6, 1, 0] (lv' := [(0, .ref 81), (1, .int x1), (2, .int x2), (3, .int x3), (4, .int x4), (5, .long (0 : Int64)), (7, .int (0 : Int32))]) rfl ?_
  refine sl_X10_gains_6 hA   _ _ _ _ h
theorem ck_X10_gains : CKV yX10_gains cX10_gains 8 (some .long) 4 := ⟨⟨by decide, by decide, by decide +kernel⟩, w_1668, w_81, ⟨w_1667, w_54⟩, by decide⟩
theorem dX10_risks_0 : decode cX10_risks 0 = .ok (.lconst 0, 1) := by decide +kernel
theorem dX10_risks_1 : decode cX10_risks 1 = .ok (.lstore 4, 2) := by decide +kernel
theorem dX10_risks_3 : decode cX10_risks 3 = .ok (.iconst 0, 1) := by decide +kernel
theorem dX10_risks_4 : decode cX10_risks 4 = .ok (.istore 6, 2) := by decide +kernel
theorem dX10_risks_6 : decode cX10_risks 6 = .ok (.iload 6, 2) := by decide +kernel
theorem dX10_risks_8 : decode cX10_risks 8 = .ok (.aload_n 0, 1) := by decide +kernel
theorem dX10_risks_9 : decode cX10_risks 9 = .ok (.getfield 20, 3) := by decide +kernel
theorem dX10_risks_12 : decode cX10_risks 12 = .ok (.bipush 92, 2) := by decide +kernel
theorem dX10_risks_14 : decode cX10_risks 14 = .ok (.iaload, 1) := by decide +kernel
theorem dX10_risks_15 : decode cX10_risks 15 = .ok (.if_icmp .ge 31, 3) := by decide +kernel
theorem dX10_risks_18 : decode cX10_risks 18 = .ok (.lload 4, 2) := by decide +kernel
theorem dX10_risks_20 : decode cX10_risks 20 = .ok (.aload_n 0, 1) := by decide +kernel
theorem dX10_risks_21 : decode cX10_risks 21 = .ok (.iload 6, 2) := by decide +kernel
theorem dX10_risks_23 : decode cX10_risks 23 = .ok (.invokevirtual 292, 3) := by decide +kernel
theorem dX10_risks_26 : decode cX10_risks 26 = .ok (.aload_n 0, 1) := by decide +kernel
theorem dX10_risks_27 : decode cX10_risks 27 = .ok (.iload_n 1, 1) := by decide +kernel
theorem dX10_risks_28 : decode cX10_risks 28 = .ok (.iload_n 2, 1) := by decide +kernel
theorem dX10_risks_29 : decode cX10_risks 29 = .ok (.iload_n 3, 1) := by decide +kernel
theorem dX10_risks_30 : decode cX10_risks 30 = .ok (.iload 6, 2) := by decide +kernel
theorem dX10_risks_32 : decode cX10_risks 32 = .ok (.invokevirtual 310, 3) := by decide +kernel
theorem dX10_risks_35 : decode cX10_risks 35 = .ok (.i2l, 1) := by decide +kernel
theorem dX10_risks_36 : decode cX10_risks 36 = .ok (.lmul, 1) := by decide +kernel
theorem dX10_risks_37 : decode cX10_risks 37 = .ok (.ladd, 1) := by decide +kernel
theorem dX10_risks_38 : decode cX10_risks 38 = .ok (.lstore 4, 2) := by decide +kernel
theorem dX10_risks_40 : decode cX10_risks 40 = .ok (.iinc 6 1, 3) := by decide +kernel
theorem dX10_risks_43 : decode cX10_risks 43 = .ok (.goto (-37), 3) := by decide +kernel
theorem dX10_risks_46 : decode cX10_risks 46 = .ok (.lload 4, 2) := by decide +kernel
theorem dX10_risks_48 : decode cX10_risks 48 = .ok (.lreturn, 1) := by decide +kernel
def lp_X10_risks_6 (y1 : Int32) (y2 : Int32) (y3 : Int32)  : Nat → Int64 → Int32 → Mm → Option (Int64 × Mm)
  | 0, _, _, _ => none
  | n + 1, y4, y6, M =>
    gd (inb (92 : Int32) 141) <| if (M 84 (92 : Int32).toNatClampNeg) ≤ y6 then (some (y4, M)) else (bd (f_X10_first y6 M) fun v23_2 M23_1 => bd (f_X10_seenWays y1 y2 y3 y6 M23_1) fun v32_4 M32_3 => lt ((y4 + (v23_2 * v32_4.toInt64))) fun t5 => lp_X10_risks_6 y1 y2 y3 n t5 (y6 + (1 : Int32)) M32_3)
def f_X10_risks (x1 : Int32) (x2 : Int32) (x3 : Int32) (M : Mm) : Option (Int64 × Mm) :=
  lp_X10_risks_6 x1 x2 x3  N0 (0 : Int64) (0 : Int32) M
set_option maxHeartbeats 4000000 in
set_option maxRecDepth 100000 in
theorem sl_X10_risks_6 {l : Launch} {B : BT} (hA : bA B = false) {d : Nat} {r : Int64} {M' : Mm} {y1 : Int32} {y2 : Int32} {y3 : Int32}    :
    ∀ (n : Nat) (y4 : Int64) (y6 : Int32) (M : Mm), lp_X10_risks_6 y1 y2 y3 n y4 y6 M = some (r, M') → GG l B LY (d + 3) yX10_risks cX10_risks 7 (some .long) 0 0 (PL r M') 97 0 0 6 [(0, .ref 81), (1, .int y1), (2, .int y2), (3, .int y3), (4, .long y4), (6, .int y6)] [] M := by
  intro n
  induction n with
  | zero => intro y4 y6 M h; cases h
  | succ n ih =>
    intro y4 y6 M h
    rw [lp_X10_risks_6] at h
    refine g_iload dX10_risks_6 5 rfl ?_
    refine g_aload_n dX10_risks_8 rfl 0 rfl ?_
    refine m_getr (k := 15) okX10 rfl rfl (by decide) w_1284 rfl dX10_risks_9 ?_
    refine g_bipush (v := 92) dX10_risks_12 (by decide) ?_
    obtain ⟨hz, h⟩ := gd_s h
    refine m_iald rfl hz dX10_risks_14 ?_
    refine g_icmp_ge (tgt := 46) dX10_risks_15 (by decide) (fun c6 => ?_) (fun c6 => ?_)
    · replace h := ite_p c6 h
      refine g_lload dX10_risks_46 4 rfl ?_
      exact g_lret rfl (pl_of h) dX10_risks_48
    · replace h := ite_n c6 h
      refine g_lload dX10_risks_18 4 rfl ?_
      refine g_aload_n dX10_risks_20 rfl 0 rfl ?_
      refine g_iload dX10_risks_21 5 rfl ?_
      obtain ⟨v23_2, M23_1, eM23_1, h⟩ := bd_e h
      refine m_callVl (As := [.int y6]) (st := [.long y4]) (s_X10_first (d := d + 2) hA  eM23_1) rfl okX10 ck_X10_first w_1616 rfl (Nat.le_of_ble_eq_true rfl) dX10_risks_23 ?_
      refine g_aload_n dX10_risks_26 rfl 0 rfl ?_
      refine g_iload_n dX10_risks_27 rfl 1 rfl ?_
      refine g_iload_n dX10_risks_28 rfl 2 rfl ?_
      refine g_iload_n dX10_risks_29 rfl 3 rfl ?_
      refine g_iload dX10_risks_30 5 rfl ?_
      obtain ⟨v32_4, M32_3, eM32_3, h⟩ := bd_e h
      refine m_callVi (As := [.int y1, .int y2, .int y3, .int y6]) (st := [.long v23_2, .long y4]) (s_X10_seenWays (d := d + 0) hA  eM32_3) rfl okX10 ck_X10_seenWays w_1649 rfl (Nat.le_of_ble_eq_true rfl) dX10_risks_32 ?_
      refine g_i2l dX10_risks_35 ?_
      refine g_lmul dX10_risks_36 ?_
      refine g_ladd dX10_risks_37 ?_
      obtain ⟨t5, et5, h⟩ := lt_e h
      refine g_cutl et5 ?_
      refine g_lstore (lv' := [(4, .long t5), (0, .ref 81), (1, .int y1), (2, .int y2), (3, .int y3), (6, .int y6)]) dX10_risks_38 (by decide) rfl ?_
      refine g_iinc (v := (y6 + (1 : Int32))) (lv' := [(6, .int (y6 + (1 : Int32))), (4, .long t5), (0, .ref 81), (1, .int y1), (2, .int y2), (3, .int y3)]) dX10_risks_40 5 rfl rfl (by decide) rfl ?_
      refine g_goto (tgt := 6) dX10_risks_43 (by decide) ?_
      refine g_sub [2, 3, 4, 5, 1, 0] (lv' := [(0, .ref 81), (1, .int y1), (2, .int y2), (3, .int y3), (4, .long t5), (6, .int (y6 + (1 : Int32)))]) rfl ?_
      exact ih _ _  _ h
set_option maxHeartbeats 4000000 in
set_option maxRecDepth 100000 in
theorem s_X10_risks {l : Launch} {B : BT} (hA : bA B = false) {d : Nat} {r : Int64} {M' : Mm} {x1 : Int32} {x2 : Int32} {x3 : Int32} {M : Mm}  (h : f_X10_risks x1 x2 x3 M = some (r, M')) : Con l B LY (d + 3) yX10_risks cX10_risks 7 (some .long) 0 0 [.ref 81, .int x1, .int x2, .int x3] 97 M (PL r M') := by
  refine con_of (by decide) (Nat.le_of_ble_eq_true rfl) ?_
  show GG l B LY (d + 3) yX10_risks cX10_risks 7 (some .long) 0 0 (PL r M') 97 0 0 0 [(0, .ref 81), (1, .int x1), (2, .int x2), (3, .int x3)] [] M
  rw [f_X10_risks] at h
  refine g_lconst (v := 0) dX10_risks_0 (by decide) ?_
  refine g_lstore (lv' := [(4, .long (0 : Int64)), (0, .ref 81), (1, .int x1), (2, .int x2), (3, .int x3)]) dX10_risks_1 (by decide) rfl ?_
  refine g_iconst (v := 0) dX10_risks_3 (by decide) ?_
  refine g_istore (lv' := [(6, .int (0 : Int32)), (4, .long (0 : Int64)), (0, .ref 81), (1, .int x1), (2, .int x2), (3, .int x3)]) dX10_risks_4 (by decide) rfl ?_
  refine g_sub [2, 3, 4, 5, 1, 0] (lv' := [(0, .ref 81), (1, .int x1), (2, .int x2), (3, .int x3), (4, .long (0 : Int64)), (6, .int (0 : Int32))]) rfl ?_
  refine sl_X10_risks_6 hA   _ _ _ _ h
theorem ck_X10_risks : CKV yX10_risks cX10_risks 7 (some .long) 3 := ⟨⟨by decide, by decide, by decide +kernel⟩, w_1648, w_81, ⟨w_1647, w_51⟩, by decide⟩
theorem dX10_oddsWhy_0 : decode cX10_oddsWhy 0 = .ok (.aload_n 0, 1) := by decide +kernel
theorem dX10_oddsWhy_1 : decode cX10_oddsWhy 1 = .ok (.iload_n 1, 1) := by decide +kernel
theorem dX10_oddsWhy_2 : decode cX10_oddsWhy 2 = .ok (.invokevirtual 278, 3) := by decide +kernel
theorem dX10_oddsWhy_5 : decode cX10_oddsWhy 5 = .ok (.ifCond .ne 7, 3) := by decide +kernel
theorem dX10_oddsWhy_8 : decode cX10_oddsWhy 8 = .ok (.iconst 1, 1) := by decide +kernel
theorem dX10_oddsWhy_9 : decode cX10_oddsWhy 9 = .ok (.goto 36, 3) := by decide +kernel
theorem dX10_oddsWhy_12 : decode cX10_oddsWhy 12 = .ok (.iload_n 2, 1) := by decide +kernel
theorem dX10_oddsWhy_13 : decode cX10_oddsWhy 13 = .ok (.iconst 0, 1) := by decide +kernel
theorem dX10_oddsWhy_14 : decode cX10_oddsWhy 14 = .ok (.aload_n 0, 1) := by decide +kernel
theorem dX10_oddsWhy_15 : decode cX10_oddsWhy 15 = .ok (.getfield 20, 3) := by decide +kernel
theorem dX10_oddsWhy_18 : decode cX10_oddsWhy 18 = .ok (.iconst 0, 1) := by decide +kernel
theorem dX10_oddsWhy_19 : decode cX10_oddsWhy 19 = .ok (.iaload, 1) := by decide +kernel
theorem dX10_oddsWhy_20 : decode cX10_oddsWhy 20 = .ok (.iconst 1, 1) := by decide +kernel
theorem dX10_oddsWhy_21 : decode cX10_oddsWhy 21 = .ok (.isub, 1) := by decide +kernel
theorem dX10_oddsWhy_22 : decode cX10_oddsWhy 22 = .ok (.invokestatic 144, 3) := by decide +kernel
theorem dX10_oddsWhy_25 : decode cX10_oddsWhy 25 = .ok (.ifCond .eq 19, 3) := by decide +kernel
theorem dX10_oddsWhy_28 : decode cX10_oddsWhy 28 = .ok (.iload_n 3, 1) := by decide +kernel
theorem dX10_oddsWhy_29 : decode cX10_oddsWhy 29 = .ok (.iconst 0, 1) := by decide +kernel
theorem dX10_oddsWhy_30 : decode cX10_oddsWhy 30 = .ok (.aload_n 0, 1) := by decide +kernel
theorem dX10_oddsWhy_31 : decode cX10_oddsWhy 31 = .ok (.invokevirtual 318, 3) := by decide +kernel
theorem dX10_oddsWhy_34 : decode cX10_oddsWhy 34 = .ok (.invokestatic 144, 3) := by decide +kernel
theorem dX10_oddsWhy_37 : decode cX10_oddsWhy 37 = .ok (.ifCond .eq 7, 3) := by decide +kernel
theorem dX10_oddsWhy_40 : decode cX10_oddsWhy 40 = .ok (.iconst 0, 1) := by decide +kernel
theorem dX10_oddsWhy_41 : decode cX10_oddsWhy 41 = .ok (.goto 4, 3) := by decide +kernel
theorem dX10_oddsWhy_44 : decode cX10_oddsWhy 44 = .ok (.iconst 2, 1) := by decide +kernel
theorem dX10_oddsWhy_45 : decode cX10_oddsWhy 45 = .ok (.ireturn, 1) := by decide +kernel
def f_X10_oddsWhy (x1 : Int32) (x2 : Int32) (x3 : Int32) (M : Mm) : Option (Int32 × Mm) :=
  bd (f_X10_isCreeper x1 M) fun v2_2 M2_1 => if v2_2 = 0 then (some ((1 : Int32), M2_1)) else (gd (inb (0 : Int32) 141) <| bd (f_X10_within x2 (0 : Int32) ((M2_1 84 (0 : Int32).toNatClampNeg) - (1 : Int32)) M2_1) fun v22_4 M22_3 => jn (fun (M5 : Mm) => some ((2 : Int32), M5)) fun j6 => if v22_4 = 0 then (j6  M22_3) else (bd (f_X10_whole  M22_3) fun v31_8 M31_7 => bd (f_X10_within x3 (0 : Int32) v31_8 M31_7) fun v34_10 M34_9 => if v34_10 = 0 then (j6  M34_9) else (some ((0 : Int32), M34_9))))
set_option maxHeartbeats 4000000 in
set_option maxRecDepth 100000 in
theorem s_X10_oddsWhy {l : Launch} {B : BT} (hA : bA B = false) {d : Nat} {r : Int32} {M' : Mm} {x1 : Int32} {x2 : Int32} {x3 : Int32} {M : Mm}  (h : f_X10_oddsWhy x1 x2 x3 M = some (r, M')) : Con l B LY (d + 3) yX10_oddsWhy cX10_oddsWhy 4 (some .int) 0 0 [.ref 81, .int x1, .int x2, .int x3] 97 M (PI r M') := by
  refine con_of (by decide) (Nat.le_of_ble_eq_true rfl) ?_
  show GG l B LY (d + 3) yX10_oddsWhy cX10_oddsWhy 4 (some .int) 0 0 (PI r M') 97 0 0 0 [(0, .ref 81), (1, .int x1), (2, .int x2), (3, .int x3)] [] M
  rw [f_X10_oddsWhy] at h
  refine g_aload_n dX10_oddsWhy_0 rfl 0 rfl ?_
  refine g_iload_n dX10_oddsWhy_1 rfl 1 rfl ?_
  obtain ⟨v2_2, M2_1, eM2_1, h⟩ := bd_e h
  refine m_callVi (As := [.int x1]) (st := []) (s_X10_isCreeper (d := d + 1) hA  eM2_1) rfl okX10 ck_X10_isCreeper w_1572 rfl (Nat.le_of_ble_eq_true rfl) dX10_oddsWhy_2 ?_
  refine g_if_ne (tgt := 12) dX10_oddsWhy_5 (by decide) (fun c13 => ?_) (fun c13 => ?_)
  · replace h := ite_n c13 h
    refine g_iload_n dX10_oddsWhy_12 rfl 2 rfl ?_
    refine g_iconst (v := 0) dX10_oddsWhy_13 (by decide) ?_
    refine g_aload_n dX10_oddsWhy_14 rfl 0 rfl ?_
    refine m_getr (k := 15) okX10 rfl rfl (by decide) w_1284 rfl dX10_oddsWhy_15 ?_
    refine g_iconst (v := 0) dX10_oddsWhy_18 (by decide) ?_
    obtain ⟨hz, h⟩ := gd_s h
    refine m_iald rfl hz dX10_oddsWhy_19 ?_
    refine g_iconst (v := 1) dX10_oddsWhy_20 (by decide) ?_
    refine g_isub dX10_oddsWhy_21 ?_
    obtain ⟨v22_4, M22_3, eM22_3, h⟩ := bd_e h
    refine m_callSi (As := [.int x2, .int (0 : Int32), .int ((M2_1 84 (0 : Int32).toNatClampNeg) - (1 : Int32))]) (st := []) (s_X10_within (d := d + 2) hA  eM22_3) ck_X10_within w_1385 rfl (Nat.le_of_ble_eq_true rfl) dX10_oddsWhy_22 ?_
    obtain ⟨j6, ej6, h⟩ := jn_e h
    have hj6 : ∀ (M5 : Mm), j6 M5 = some (r, M') → GG l B LY (d + 3) yX10_oddsWhy cX10_oddsWhy 4 (some .int) 0 0 (PI r M') 97 0 0 44 [] [] M5 := by
      intro M5 h
      rw [ej6] at h
      refine g_iconst (v := 2) dX10_oddsWhy_44 (by decide) ?_
      exact g_zret rfl rfl (pi_of h) dX10_oddsWhy_45
    refine g_if_eq (tgt := 44) dX10_oddsWhy_25 (by decide) (fun c12 => ?_) (fun c12 => ?_)
    · replace h := ite_p c12 h
      refine g_sub [] (lv' := []) rfl ?_
      exact hj6  _ h
    · replace h := ite_n c12 h
      refine g_iload_n dX10_oddsWhy_28 rfl 3 rfl ?_
      refine g_iconst (v := 0) dX10_oddsWhy_29 (by decide) ?_
      refine g_aload_n dX10_oddsWhy_30 rfl 0 rfl ?_
      obtain ⟨v31_8, M31_7, eM31_7, h⟩ := bd_e h
      refine m_callVi (As := []) (st := [.int (0 : Int32), .int x3]) (s_X10_whole (d := d + 0) hA  eM31_7) rfl okX10 ck_X10_whole w_1637 rfl (Nat.le_of_ble_eq_true rfl) dX10_oddsWhy_31 ?_
      obtain ⟨v34_10, M34_9, eM34_9, h⟩ := bd_e h
      refine m_callSi (As := [.int x3, .int (0 : Int32), .int v31_8]) (st := []) (s_X10_within (d := d + 2) hA  eM34_9) ck_X10_within w_1385 rfl (Nat.le_of_ble_eq_true rfl) dX10_oddsWhy_34 ?_
      refine g_if_eq (tgt := 44) dX10_oddsWhy_37 (by decide) (fun c11 => ?_) (fun c11 => ?_)
      · replace h := ite_p c11 h
        refine g_sub [] (lv' := []) rfl ?_
        exact hj6  _ h
      · replace h := ite_n c11 h
        refine g_iconst (v := 0) dX10_oddsWhy_40 (by decide) ?_
        refine g_goto (tgt := 45) dX10_oddsWhy_41 (by decide) ?_
        exact g_zret rfl rfl (pi_of h) dX10_oddsWhy_45
  · replace h := ite_p c13 h
    refine g_iconst (v := 1) dX10_oddsWhy_8 (by decide) ?_
    refine g_goto (tgt := 45) dX10_oddsWhy_9 (by decide) ?_
    exact g_zret rfl rfl (pi_of h) dX10_oddsWhy_45
theorem ck_X10_oddsWhy : CKV yX10_oddsWhy cX10_oddsWhy 4 (some .int) 3 := ⟨⟨by decide, by decide, by decide +kernel⟩, w_1636, w_81, ⟨w_1635, w_48⟩, by decide⟩
theorem dX10_risk_0 : decode cX10_risk 0 = .ok (.aload_n 0, 1) := by decide +kernel
theorem dX10_risk_1 : decode cX10_risk 1 = .ok (.invokevirtual 156, 3) := by decide +kernel
theorem dX10_risk_4 : decode cX10_risk 4 = .ok (.aload_n 0, 1) := by decide +kernel
theorem dX10_risk_5 : decode cX10_risk 5 = .ok (.iload_n 1, 1) := by decide +kernel
theorem dX10_risk_6 : decode cX10_risk 6 = .ok (.iload_n 2, 1) := by decide +kernel
theorem dX10_risk_7 : decode cX10_risk 7 = .ok (.iload_n 3, 1) := by decide +kernel
theorem dX10_risk_8 : decode cX10_risk 8 = .ok (.invokevirtual 320, 3) := by decide +kernel
theorem dX10_risk_11 : decode cX10_risk 11 = .ok (.istore 4, 2) := by decide +kernel
theorem dX10_risk_13 : decode cX10_risk 13 = .ok (.iload 4, 2) := by decide +kernel
theorem dX10_risk_15 : decode cX10_risk 15 = .ok (.ifCond .eq 13, 3) := by decide +kernel
theorem dX10_risk_18 : decode cX10_risk 18 = .ok (.aload_n 0, 1) := by decide +kernel
theorem dX10_risk_19 : decode cX10_risk 19 = .ok (.iload 4, 2) := by decide +kernel
theorem dX10_risk_21 : decode cX10_risk 21 = .ok (.invokevirtual 159, 3) := by decide +kernel
theorem dX10_risk_24 : decode cX10_risk 24 = .ok (.i2l, 1) := by decide +kernel
theorem dX10_risk_25 : decode cX10_risk 25 = .ok (.goto 10, 3) := by decide +kernel
theorem dX10_risk_28 : decode cX10_risk 28 = .ok (.aload_n 0, 1) := by decide +kernel
theorem dX10_risk_29 : decode cX10_risk 29 = .ok (.iload_n 1, 1) := by decide +kernel
theorem dX10_risk_30 : decode cX10_risk 30 = .ok (.iload_n 2, 1) := by decide +kernel
theorem dX10_risk_31 : decode cX10_risk 31 = .ok (.iload_n 3, 1) := by decide +kernel
theorem dX10_risk_32 : decode cX10_risk 32 = .ok (.invokevirtual 323, 3) := by decide +kernel
theorem dX10_risk_35 : decode cX10_risk 35 = .ok (.lreturn, 1) := by decide +kernel
def f_X10_risk (x1 : Int32) (x2 : Int32) (x3 : Int32) (M : Mm) : Option (Int64 × Mm) :=
  bv (f_X10_good  M) fun M1_1 => bd (f_X10_oddsWhy x1 x2 x3 M1_1) fun v8_4 M8_3 => if v8_4 = 0 then (bd (f_X10_risks x1 x2 x3 M8_3) fun v32_6 M32_5 => some (v32_6, M32_5)) else (bd (f_X10_no v8_4 M8_3) fun v21_8 M21_7 => some (v21_8.toInt64, M21_7))
set_option maxHeartbeats 4000000 in
set_option maxRecDepth 100000 in
theorem s_X10_risk {l : Launch} {B : BT} (hA : bA B = false) {d : Nat} {r : Int64} {M' : Mm} {x1 : Int32} {x2 : Int32} {x3 : Int32} {M : Mm}  (h : f_X10_risk x1 x2 x3 M = some (r, M')) : Con l B LY (d + 4) yX10_risk cX10_risk 5 (some .long) 0 0 [.ref 81, .int x1, .int x2, .int x3] 97 M (PL r M') := by
  refine con_of (by decide) (Nat.le_of_ble_eq_true rfl) ?_
  show GG l B LY (d + 4) yX10_risk cX10_risk 5 (some .long) 0 0 (PL r M') 97 0 0 0 [(0, .ref 81), (1, .int x1), (2, .int x2), (3, .int x3)] [] M
  rw [f_X10_risk] at h
  refine g_aload_n dX10_risk_0 rfl 0 rfl ?_
  obtain ⟨M1_1, eM1_1, h⟩ := bv_e h
  refine m_callVv (As := []) (st := []) (s_X10_good (d := d + 3) hA  eM1_1) rfl okX10 ck_X10_good w_1381 rfl (Nat.le_of_ble_eq_true rfl) dX10_risk_1 ?_
  refine g_aload_n dX10_risk_4 rfl 0 rfl ?_
  refine g_iload_n dX10_risk_5 rfl 1 rfl ?_
  refine g_iload_n dX10_risk_6 rfl 2 rfl ?_
  refine g_iload_n dX10_risk_7 rfl 3 rfl ?_
  obtain ⟨v8_4, M8_3, eM8_3, h⟩ := bd_e h
  refine m_callVi (As := [.int x1, .int x2, .int x3]) (st := []) (s_X10_oddsWhy (d := d + 0) hA  eM8_3) rfl okX10 ck_X10_oddsWhy w_1633 rfl (Nat.le_of_ble_eq_true rfl) dX10_risk_8 ?_
  refine g_istore (lv' := [(4, .int v8_4), (0, .ref 81), (1, .int x1), (2, .int x2), (3, .int x3)]) dX10_risk_11 (by decide) rfl ?_
  refine g_iload dX10_risk_13 0 rfl ?_
  refine g_if_eq (tgt := 28) dX10_risk_15 (by decide) (fun c9 => ?_) (fun c9 => ?_)
  · replace h := ite_p c9 h
    refine g_aload_n dX10_risk_28 rfl 1 rfl ?_
    refine g_iload_n dX10_risk_29 rfl 2 rfl ?_
    refine g_iload_n dX10_risk_30 rfl 3 rfl ?_
    refine g_iload_n dX10_risk_31 rfl 4 rfl ?_
    obtain ⟨v32_6, M32_5, eM32_5, h⟩ := bd_e h
    refine m_callVl (As := [.int x1, .int x2, .int x3]) (st := []) (s_X10_risks (d := d + 0) hA  eM32_5) rfl okX10 ck_X10_risks w_1645 rfl (Nat.le_of_ble_eq_true rfl) dX10_risk_32 ?_
    exact g_lret rfl (pl_of h) dX10_risk_35
  · replace h := ite_n c9 h
    refine g_aload_n dX10_risk_18 rfl 1 rfl ?_
    refine g_iload dX10_risk_19 0 rfl ?_
    obtain ⟨v21_8, M21_7, eM21_7, h⟩ := bd_e h
    refine m_callVi (As := [.int v8_4]) (st := []) (s_X10_no (d := d + 3) hA  eM21_7) rfl okX10 ck_X10_no w_1388 rfl (Nat.le_of_ble_eq_true rfl) dX10_risk_21 ?_
    refine g_i2l dX10_risk_24 ?_
    refine g_goto (tgt := 35) dX10_risk_25 (by decide) ?_
    exact g_lret rfl (pl_of h) dX10_risk_35
theorem ck_X10_risk : CKV yX10_risk cX10_risk 5 (some .long) 3 := ⟨⟨by decide, by decide, by decide +kernel⟩, w_1632, w_81, ⟨w_1630, w_1631⟩, by decide⟩
theorem dX10_gain_0 : decode cX10_gain 0 = .ok (.aload_n 0, 1) := by decide +kernel
theorem dX10_gain_1 : decode cX10_gain 1 = .ok (.invokevirtual 156, 3) := by decide +kernel
theorem dX10_gain_4 : decode cX10_gain 4 = .ok (.aload_n 0, 1) := by decide +kernel
theorem dX10_gain_5 : decode cX10_gain 5 = .ok (.aload_n 0, 1) := by decide +kernel
theorem dX10_gain_6 : decode cX10_gain 6 = .ok (.iload_n 1, 1) := by decide +kernel
theorem dX10_gain_7 : decode cX10_gain 7 = .ok (.iload_n 2, 1) := by decide +kernel
theorem dX10_gain_8 : decode cX10_gain 8 = .ok (.iload_n 3, 1) := by decide +kernel
theorem dX10_gain_9 : decode cX10_gain 9 = .ok (.invokevirtual 320, 3) := by decide +kernel
theorem dX10_gain_12 : decode cX10_gain 12 = .ok (.putfield 62, 3) := by decide +kernel
theorem dX10_gain_15 : decode cX10_gain 15 = .ok (.aload_n 0, 1) := by decide +kernel
theorem dX10_gain_16 : decode cX10_gain 16 = .ok (.getfield 62, 3) := by decide +kernel
theorem dX10_gain_19 : decode cX10_gain 19 = .ok (.ifCond .eq 9, 3) := by decide +kernel
theorem dX10_gain_22 : decode cX10_gain 22 = .ok (.ldc2_w 327, 3) := by decide +kernel
theorem dX10_gain_25 : decode cX10_gain 25 = .ok (.goto 12, 3) := by decide +kernel
theorem dX10_gain_28 : decode cX10_gain 28 = .ok (.aload_n 0, 1) := by decide +kernel
theorem dX10_gain_29 : decode cX10_gain 29 = .ok (.iload_n 1, 1) := by decide +kernel
theorem dX10_gain_30 : decode cX10_gain 30 = .ok (.iload_n 2, 1) := by decide +kernel
theorem dX10_gain_31 : decode cX10_gain 31 = .ok (.iload_n 3, 1) := by decide +kernel
theorem dX10_gain_32 : decode cX10_gain 32 = .ok (.iload 4, 2) := by decide +kernel
theorem dX10_gain_34 : decode cX10_gain 34 = .ok (.invokevirtual 329, 3) := by decide +kernel
theorem dX10_gain_37 : decode cX10_gain 37 = .ok (.lreturn, 1) := by decide +kernel
def f_X10_gain (x1 : Int32) (x2 : Int32) (x3 : Int32) (x4 : Int32) (M : Mm) : Option (Int64 × Mm) :=
  bv (f_X10_good  M) fun M1_1 => bd (f_X10_oddsWhy x1 x2 x3 M1_1) fun v9_4 M9_3 => if ((mset M9_3 81 11 v9_4) 81 11) = 0 then (bd (f_X10_gains x1 x2 x3 x4 (mset M9_3 81 11 v9_4)) fun v34_6 M34_5 => some (v34_6, M34_5)) else (some ((-9223372036854775808 : Int64), (mset M9_3 81 11 v9_4)))
set_option maxHeartbeats 4000000 in
set_option maxRecDepth 100000 in
theorem s_X10_gain {l : Launch} {B : BT} (hA : bA B = false) {d : Nat} {r : Int64} {M' : Mm} {x1 : Int32} {x2 : Int32} {x3 : Int32} {x4 : Int32} {M : Mm}  (h : f_X10_gain x1 x2 x3 x4 M = some (r, M')) : Con l B LY (d + 5) yX10_gain cX10_gain 5 (some .long) 0 0 [.ref 81, .int x1, .int x2, .int x3, .int x4] 97 M (PL r M') := by
  refine con_of (by decide) (Nat.le_of_ble_eq_true rfl) ?_
  show GG l B LY (d + 5) yX10_gain cX10_gain 5 (some .long) 0 0 (PL r M') 97 0 0 0 [(0, .ref 81), (1, .int x1), (2, .int x2), (3, .int x3), (4, .int x4)] [] M
  rw [f_X10_gain] at h
  refine g_aload_n dX10_gain_0 rfl 0 rfl ?_
  obtain ⟨M1_1, eM1_1, h⟩ := bv_e h
  refine m_callVv (As := []) (st := []) (s_X10_good (d := d + 4) hA  eM1_1) rfl okX10 ck_X10_good w_1381 rfl (Nat.le_of_ble_eq_true rfl) dX10_gain_1 ?_
  refine g_aload_n dX10_gain_4 rfl 0 rfl ?_
  refine g_aload_n dX10_gain_5 rfl 0 rfl ?_
  refine g_iload_n dX10_gain_6 rfl 1 rfl ?_
  refine g_iload_n dX10_gain_7 rfl 2 rfl ?_
  refine g_iload_n dX10_gain_8 rfl 3 rfl ?_
  obtain ⟨v9_4, M9_3, eM9_3, h⟩ := bd_e h
  refine m_callVi (As := [.int x1, .int x2, .int x3]) (st := [.ref 81]) (s_X10_oddsWhy (d := d + 1) hA  eM9_3) rfl okX10 ck_X10_oddsWhy w_1633 rfl (Nat.le_of_ble_eq_true rfl) dX10_gain_9 ?_
  refine m_puti (k := 11) okX10 rfl rfl (by decide) w_1280 rfl rfl rfl dX10_gain_12 ?_
  refine g_aload_n dX10_gain_15 rfl 0 rfl ?_
  refine m_geti (k := 11) okX10 rfl rfl (by decide) w_1280 rfl dX10_gain_16 ?_
  refine g_if_eq (tgt := 28) dX10_gain_19 (by decide) (fun c7 => ?_) (fun c7 => ?_)
  · replace h := ite_p c7 h
    refine g_aload_n dX10_gain_28 rfl 0 rfl ?_
    refine g_iload_n dX10_gain_29 rfl 1 rfl ?_
    refine g_iload_n dX10_gain_30 rfl 2 rfl ?_
    refine g_iload_n dX10_gain_31 rfl 3 rfl ?_
    refine g_iload dX10_gain_32 4 rfl ?_
    obtain ⟨v34_6, M34_5, eM34_5, h⟩ := bd_e h
    refine m_callVl (As := [.int x1, .int x2, .int x3, .int x4]) (st := []) (s_X10_gains (d := d + 0) hA  eM34_5) rfl okX10 ck_X10_gains w_1665 rfl (Nat.le_of_ble_eq_true rfl) dX10_gain_34 ?_
    exact g_lret rfl (pl_of h) dX10_gain_37
  · replace h := ite_n c7 h
    refine g_ldc2 (v := (-9223372036854775808)) w_1664 dX10_gain_22 ?_
    refine g_goto (tgt := 37) dX10_gain_25 (by decide) ?_
    exact g_lret rfl (pl_of h) dX10_gain_37
theorem ck_X10_gain : CKV yX10_gain cX10_gain 5 (some .long) 4 := ⟨⟨by decide, by decide, by decide +kernel⟩, w_1663, w_81, ⟨w_1661, w_1662⟩, by decide⟩
theorem dX10_bestOf_0 : decode cX10_bestOf 0 = .ok (.iconst 0, 1) := by decide +kernel
theorem dX10_bestOf_1 : decode cX10_bestOf 1 = .ok (.istore 4, 2) := by decide +kernel
theorem dX10_bestOf_3 : decode cX10_bestOf 3 = .ok (.iconst 1, 1) := by decide +kernel
theorem dX10_bestOf_4 : decode cX10_bestOf 4 = .ok (.istore 5, 2) := by decide +kernel
theorem dX10_bestOf_6 : decode cX10_bestOf 6 = .ok (.iload 5, 2) := by decide +kernel
theorem dX10_bestOf_8 : decode cX10_bestOf 8 = .ok (.aload_n 0, 1) := by decide +kernel
theorem dX10_bestOf_9 : decode cX10_bestOf 9 = .ok (.invokevirtual 318, 3) := by decide +kernel
theorem dX10_bestOf_12 : decode cX10_bestOf 12 = .ok (.if_icmp .gt 40, 3) := by decide +kernel
theorem dX10_bestOf_15 : decode cX10_bestOf 15 = .ok (.aload_n 0, 1) := by decide +kernel
theorem dX10_bestOf_16 : decode cX10_bestOf 16 = .ok (.iload_n 1, 1) := by decide +kernel
theorem dX10_bestOf_17 : decode cX10_bestOf 17 = .ok (.iload_n 2, 1) := by decide +kernel
theorem dX10_bestOf_18 : decode cX10_bestOf 18 = .ok (.iload 5, 2) := by decide +kernel
theorem dX10_bestOf_20 : decode cX10_bestOf 20 = .ok (.iload_n 3, 1) := by decide +kernel
theorem dX10_bestOf_21 : decode cX10_bestOf 21 = .ok (.invokevirtual 329, 3) := by decide +kernel
theorem dX10_bestOf_24 : decode cX10_bestOf 24 = .ok (.aload_n 0, 1) := by decide +kernel
theorem dX10_bestOf_25 : decode cX10_bestOf 25 = .ok (.iload_n 1, 1) := by decide +kernel
theorem dX10_bestOf_26 : decode cX10_bestOf 26 = .ok (.iload_n 2, 1) := by decide +kernel
theorem dX10_bestOf_27 : decode cX10_bestOf 27 = .ok (.iload 4, 2) := by decide +kernel
theorem dX10_bestOf_29 : decode cX10_bestOf 29 = .ok (.iload_n 3, 1) := by decide +kernel
theorem dX10_bestOf_30 : decode cX10_bestOf 30 = .ok (.invokevirtual 329, 3) := by decide +kernel
theorem dX10_bestOf_33 : decode cX10_bestOf 33 = .ok (.lcmp, 1) := by decide +kernel
theorem dX10_bestOf_34 : decode cX10_bestOf 34 = .ok (.ifCond .le 8, 3) := by decide +kernel
theorem dX10_bestOf_37 : decode cX10_bestOf 37 = .ok (.iload 5, 2) := by decide +kernel
theorem dX10_bestOf_39 : decode cX10_bestOf 39 = .ok (.goto 5, 3) := by decide +kernel
theorem dX10_bestOf_42 : decode cX10_bestOf 42 = .ok (.iload 4, 2) := by decide +kernel
theorem dX10_bestOf_44 : decode cX10_bestOf 44 = .ok (.istore 4, 2) := by decide +kernel
theorem dX10_bestOf_46 : decode cX10_bestOf 46 = .ok (.iinc 5 1, 3) := by decide +kernel
theorem dX10_bestOf_49 : decode cX10_bestOf 49 = .ok (.goto (-43), 3) := by decide +kernel
theorem dX10_bestOf_52 : decode cX10_bestOf 52 = .ok (.iload 4, 2) := by decide +kernel
theorem dX10_bestOf_54 : decode cX10_bestOf 54 = .ok (.ireturn, 1) := by decide +kernel
def lp_X10_bestOf_6 (y1 : Int32) (y2 : Int32) (y3 : Int32)  : Nat → Int32 → Int32 → Mm → Option (Int32 × Mm)
  | 0, _, _, _ => none
  | n + 1, y4, y5, M =>
    bd (f_X10_whole  M) fun v9_2 M9_1 => if v9_2 < y5 then (some (y4, M9_1)) else (bd (f_X10_gains y1 y2 y5 y3 M9_1) fun v21_4 M21_3 => bd (f_X10_gains y1 y2 y4 y3 M21_3) fun v30_6 M30_5 => jn (fun (s7 : Int32) (M8 : Mm) => lp_X10_bestOf_6 y1 y2 y3 n s7 (y5 + (1 : Int32)) M8) fun j9 => if (lg_cmp v21_4 v30_6) ≤ 0 then (j9 y4 M30_5) else (j9 y5 M30_5))
def f_X10_bestOf (x1 : Int32) (x2 : Int32) (x3 : Int32) (M : Mm) : Option (Int32 × Mm) :=
  lp_X10_bestOf_6 x1 x2 x3  N0 (0 : Int32) (1 : Int32) M
set_option maxHeartbeats 4000000 in
set_option maxRecDepth 100000 in
theorem sl_X10_bestOf_6 {l : Launch} {B : BT} (hA : bA B = false) {d : Nat} {r : Int32} {M' : Mm} {y1 : Int32} {y2 : Int32} {y3 : Int32}    :
    ∀ (n : Nat) (y4 : Int32) (y5 : Int32) (M : Mm), lp_X10_bestOf_6 y1 y2 y3 n y4 y5 M = some (r, M') → GG l B LY (d + 5) yX10_bestOf cX10_bestOf 6 (some .int) 0 0 (PI r M') 97 0 0 6 [(0, .ref 81), (1, .int y1), (2, .int y2), (3, .int y3), (4, .int y4), (5, .int y5)] [] M := by
  intro n
  induction n with
  | zero => intro y4 y5 M h; cases h
  | succ n ih =>
    intro y4 y5 M h
    rw [lp_X10_bestOf_6] at h
    refine g_iload dX10_bestOf_6 5 rfl ?_
    refine g_aload_n dX10_bestOf_8 rfl 0 rfl ?_
    obtain ⟨v9_2, M9_1, eM9_1, h⟩ := bd_e h
    refine m_callVi (As := []) (st := [.int y5]) (s_X10_whole (d := d + 2) hA  eM9_1) rfl okX10 ck_X10_whole w_1637 rfl (Nat.le_of_ble_eq_true rfl) dX10_bestOf_9 ?_
    refine g_icmp_gt (tgt := 52) dX10_bestOf_12 (by decide) (fun c11 => ?_) (fun c11 => ?_)
    · replace h := ite_p c11 h
      refine g_iload dX10_bestOf_52 4 rfl ?_
      exact g_zret rfl rfl (pi_of h) dX10_bestOf_54
    · replace h := ite_n c11 h
      refine g_aload_n dX10_bestOf_15 rfl 0 rfl ?_
      refine g_iload_n dX10_bestOf_16 rfl 1 rfl ?_
      refine g_iload_n dX10_bestOf_17 rfl 2 rfl ?_
      refine g_iload dX10_bestOf_18 5 rfl ?_
      refine g_iload_n dX10_bestOf_20 rfl 3 rfl ?_
      obtain ⟨v21_4, M21_3, eM21_3, h⟩ := bd_e h
      refine m_callVl (As := [.int y1, .int y2, .int y5, .int y3]) (st := []) (s_X10_gains (d := d + 0) hA  eM21_3) rfl okX10 ck_X10_gains w_1665 rfl (Nat.le_of_ble_eq_true rfl) dX10_bestOf_21 ?_
      refine g_aload_n dX10_bestOf_24 rfl 0 rfl ?_
      refine g_iload_n dX10_bestOf_25 rfl 1 rfl ?_
      refine g_iload_n dX10_bestOf_26 rfl 2 rfl ?_
      refine g_iload dX10_bestOf_27 4 rfl ?_
      refine g_iload_n dX10_bestOf_29 rfl 3 rfl ?_
      obtain ⟨v30_6, M30_5, eM30_5, h⟩ := bd_e h
      refine m_callVl (As := [.int y1, .int y2, .int y4, .int y3]) (st := [.long v21_4]) (s_X10_gains (d := d + 0) hA  eM30_5) rfl okX10 ck_X10_gains w_1665 rfl (Nat.le_of_ble_eq_true rfl) dX10_bestOf_30 ?_
      refine g_lcmp dX10_bestOf_33 ?_
      obtain ⟨j9, ej9, h⟩ := jn_e h
      have hj9 : ∀ (s7 : Int32) (M8 : Mm), j9 s7 M8 = some (r, M') → GG l B LY (d + 5) yX10_bestOf cX10_bestOf 6 (some .int) 0 0 (PI r M') 97 0 0 44 [(0, .ref 81), (1, .int y1), (2, .int y2), (3, .int y3), (5, .int y5)] [.int s7] M8 := by
        intro s7 M8 h
        rw [ej9] at h
        refine g_istore (lv' := [(4, .int s7), (0, .ref 81), (1, .int y1), (2, .int y2), (3, .int y3), (5, .int y5)]) dX10_bestOf_44 (by decide) rfl ?_
        refine g_iinc (v := (y5 + (1 : Int32))) (lv' := [(5, .int (y5 + (1 : Int32))), (4, .int s7), (0, .ref 81), (1, .int y1), (2, .int y2), (3, .int y3)]) dX10_bestOf_46 5 rfl rfl (by decide) rfl ?_
        refine g_goto (tgt := 6) dX10_bestOf_49 (by decide) ?_
        refine g_sub [2, 3, 4, 5, 1, 0] (lv' := [(0, .ref 81), (1, .int y1), (2, .int y2), (3, .int y3), (4, .int s7), (5, .int (y5 + (1 : Int32)))]) rfl ?_
        exact ih _ _  _ h
      refine g_if_le (tgt := 42) dX10_bestOf_34 (by decide) (fun c10 => ?_) (fun c10 => ?_)
      · replace h := ite_p c10 h
        refine g_iload dX10_bestOf_42 4 rfl ?_
        refine g_sub [0, 1, 2, 3, 5] (lv' := [(0, .ref 81), (1, .int y1), (2, .int y2), (3, .int y3), (5, .int y5)]) rfl ?_
        exact hj9 _ _ h
      · replace h := ite_n c10 h
        refine g_iload dX10_bestOf_37 5 rfl ?_
        refine g_goto (tgt := 44) dX10_bestOf_39 (by decide) ?_
        refine g_sub [0, 1, 2, 3, 5] (lv' := [(0, .ref 81), (1, .int y1), (2, .int y2), (3, .int y3), (5, .int y5)]) rfl ?_
        exact hj9 _ _ h
set_option maxHeartbeats 4000000 in
set_option maxRecDepth 100000 in
theorem s_X10_bestOf {l : Launch} {B : BT} (hA : bA B = false) {d : Nat} {r : Int32} {M' : Mm} {x1 : Int32} {x2 : Int32} {x3 : Int32} {M : Mm}  (h : f_X10_bestOf x1 x2 x3 M = some (r, M')) : Con l B LY (d + 5) yX10_bestOf cX10_bestOf 6 (some .int) 0 0 [.ref 81, .int x1, .int x2, .int x3] 97 M (PI r M') := by
  refine con_of (by decide) (Nat.le_of_ble_eq_true rfl) ?_
  show GG l B LY (d + 5) yX10_bestOf cX10_bestOf 6 (some .int) 0 0 (PI r M') 97 0 0 0 [(0, .ref 81), (1, .int x1), (2, .int x2), (3, .int x3)] [] M
  rw [f_X10_bestOf] at h
  refine g_iconst (v := 0) dX10_bestOf_0 (by decide) ?_
  refine g_istore (lv' := [(4, .int (0 : Int32)), (0, .ref 81), (1, .int x1), (2, .int x2), (3, .int x3)]) dX10_bestOf_1 (by decide) rfl ?_
  refine g_iconst (v := 1) dX10_bestOf_3 (by decide) ?_
  refine g_istore (lv' := [(5, .int (1 : Int32)), (4, .int (0 : Int32)), (0, .ref 81), (1, .int x1), (2, .int x2), (3, .int x3)]) dX10_bestOf_4 (by decide) rfl ?_
  refine g_sub [2, 3, 4, 5, 1, 0] (lv' := [(0, .ref 81), (1, .int x1), (2, .int x2), (3, .int x3), (4, .int (0 : Int32)), (5, .int (1 : Int32))]) rfl ?_
  refine sl_X10_bestOf_6 hA   _ _ _ _ h
theorem ck_X10_bestOf : CKV yX10_bestOf cX10_bestOf 6 (some .int) 3 := ⟨⟨by decide, by decide, by decide +kernel⟩, w_1680, w_81, ⟨w_1679, w_56⟩, by decide⟩
theorem dX10_best_0 : decode cX10_best 0 = .ok (.aload_n 0, 1) := by decide +kernel
theorem dX10_best_1 : decode cX10_best 1 = .ok (.invokevirtual 156, 3) := by decide +kernel
theorem dX10_best_4 : decode cX10_best 4 = .ok (.aload_n 0, 1) := by decide +kernel
theorem dX10_best_5 : decode cX10_best 5 = .ok (.iload_n 1, 1) := by decide +kernel
theorem dX10_best_6 : decode cX10_best 6 = .ok (.iload_n 2, 1) := by decide +kernel
theorem dX10_best_7 : decode cX10_best 7 = .ok (.iconst 0, 1) := by decide +kernel
theorem dX10_best_8 : decode cX10_best 8 = .ok (.invokevirtual 320, 3) := by decide +kernel
theorem dX10_best_11 : decode cX10_best 11 = .ok (.istore 4, 2) := by decide +kernel
theorem dX10_best_13 : decode cX10_best 13 = .ok (.iload 4, 2) := by decide +kernel
theorem dX10_best_15 : decode cX10_best 15 = .ok (.ifCond .eq 12, 3) := by decide +kernel
theorem dX10_best_18 : decode cX10_best 18 = .ok (.aload_n 0, 1) := by decide +kernel
theorem dX10_best_19 : decode cX10_best 19 = .ok (.iload 4, 2) := by decide +kernel
theorem dX10_best_21 : decode cX10_best 21 = .ok (.invokevirtual 159, 3) := by decide +kernel
theorem dX10_best_24 : decode cX10_best 24 = .ok (.goto 10, 3) := by decide +kernel
theorem dX10_best_27 : decode cX10_best 27 = .ok (.aload_n 0, 1) := by decide +kernel
theorem dX10_best_28 : decode cX10_best 28 = .ok (.iload_n 1, 1) := by decide +kernel
theorem dX10_best_29 : decode cX10_best 29 = .ok (.iload_n 2, 1) := by decide +kernel
theorem dX10_best_30 : decode cX10_best 30 = .ok (.iload_n 3, 1) := by decide +kernel
theorem dX10_best_31 : decode cX10_best 31 = .ok (.invokevirtual 333, 3) := by decide +kernel
theorem dX10_best_34 : decode cX10_best 34 = .ok (.ireturn, 1) := by decide +kernel
def f_X10_best (x1 : Int32) (x2 : Int32) (x3 : Int32) (M : Mm) : Option (Int32 × Mm) :=
  bv (f_X10_good  M) fun M1_1 => bd (f_X10_oddsWhy x1 x2 (0 : Int32) M1_1) fun v8_4 M8_3 => if v8_4 = 0 then (bd (f_X10_bestOf x1 x2 x3 M8_3) fun v31_6 M31_5 => some (v31_6, M31_5)) else (bd (f_X10_no v8_4 M8_3) fun v21_8 M21_7 => some (v21_8, M21_7))
set_option maxHeartbeats 4000000 in
set_option maxRecDepth 100000 in
theorem s_X10_best {l : Launch} {B : BT} (hA : bA B = false) {d : Nat} {r : Int32} {M' : Mm} {x1 : Int32} {x2 : Int32} {x3 : Int32} {M : Mm}  (h : f_X10_best x1 x2 x3 M = some (r, M')) : Con l B LY (d + 6) yX10_best cX10_best 5 (some .int) 0 0 [.ref 81, .int x1, .int x2, .int x3] 97 M (PI r M') := by
  refine con_of (by decide) (Nat.le_of_ble_eq_true rfl) ?_
  show GG l B LY (d + 6) yX10_best cX10_best 5 (some .int) 0 0 (PI r M') 97 0 0 0 [(0, .ref 81), (1, .int x1), (2, .int x2), (3, .int x3)] [] M
  rw [f_X10_best] at h
  refine g_aload_n dX10_best_0 rfl 0 rfl ?_
  obtain ⟨M1_1, eM1_1, h⟩ := bv_e h
  refine m_callVv (As := []) (st := []) (s_X10_good (d := d + 5) hA  eM1_1) rfl okX10 ck_X10_good w_1381 rfl (Nat.le_of_ble_eq_true rfl) dX10_best_1 ?_
  refine g_aload_n dX10_best_4 rfl 0 rfl ?_
  refine g_iload_n dX10_best_5 rfl 1 rfl ?_
  refine g_iload_n dX10_best_6 rfl 2 rfl ?_
  refine g_iconst (v := 0) dX10_best_7 (by decide) ?_
  obtain ⟨v8_4, M8_3, eM8_3, h⟩ := bd_e h
  refine m_callVi (As := [.int x1, .int x2, .int (0 : Int32)]) (st := []) (s_X10_oddsWhy (d := d + 2) hA  eM8_3) rfl okX10 ck_X10_oddsWhy w_1633 rfl (Nat.le_of_ble_eq_true rfl) dX10_best_8 ?_
  refine g_istore (lv' := [(4, .int v8_4), (0, .ref 81), (1, .int x1), (2, .int x2), (3, .int x3)]) dX10_best_11 (by decide) rfl ?_
  refine g_iload dX10_best_13 0 rfl ?_
  refine g_if_eq (tgt := 27) dX10_best_15 (by decide) (fun c9 => ?_) (fun c9 => ?_)
  · replace h := ite_p c9 h
    refine g_aload_n dX10_best_27 rfl 1 rfl ?_
    refine g_iload_n dX10_best_28 rfl 2 rfl ?_
    refine g_iload_n dX10_best_29 rfl 3 rfl ?_
    refine g_iload_n dX10_best_30 rfl 4 rfl ?_
    obtain ⟨v31_6, M31_5, eM31_5, h⟩ := bd_e h
    refine m_callVi (As := [.int x1, .int x2, .int x3]) (st := []) (s_X10_bestOf (d := d + 0) hA  eM31_5) rfl okX10 ck_X10_bestOf w_1677 rfl (Nat.le_of_ble_eq_true rfl) dX10_best_31 ?_
    exact g_zret rfl rfl (pi_of h) dX10_best_34
  · replace h := ite_n c9 h
    refine g_aload_n dX10_best_18 rfl 1 rfl ?_
    refine g_iload dX10_best_19 0 rfl ?_
    obtain ⟨v21_8, M21_7, eM21_7, h⟩ := bd_e h
    refine m_callVi (As := [.int v8_4]) (st := []) (s_X10_no (d := d + 5) hA  eM21_7) rfl okX10 ck_X10_no w_1388 rfl (Nat.le_of_ble_eq_true rfl) dX10_best_21 ?_
    refine g_goto (tgt := 34) dX10_best_24 (by decide) ?_
    exact g_zret rfl rfl (pi_of h) dX10_best_34
theorem ck_X10_best : CKV yX10_best cX10_best 5 (some .int) 3 := ⟨⟨by decide, by decide, by decide +kernel⟩, w_1676, w_81, ⟨w_1674, w_1675⟩, by decide⟩
theorem dX10_worth_0 : decode cX10_worth 0 = .ok (.aload_n 0, 1) := by decide +kernel
theorem dX10_worth_1 : decode cX10_worth 1 = .ok (.invokevirtual 156, 3) := by decide +kernel
theorem dX10_worth_4 : decode cX10_worth 4 = .ok (.aload_n 0, 1) := by decide +kernel
theorem dX10_worth_5 : decode cX10_worth 5 = .ok (.iload_n 1, 1) := by decide +kernel
theorem dX10_worth_6 : decode cX10_worth 6 = .ok (.iload_n 2, 1) := by decide +kernel
theorem dX10_worth_7 : decode cX10_worth 7 = .ok (.iconst 0, 1) := by decide +kernel
theorem dX10_worth_8 : decode cX10_worth 8 = .ok (.invokevirtual 320, 3) := by decide +kernel
theorem dX10_worth_11 : decode cX10_worth 11 = .ok (.istore_n 3, 1) := by decide +kernel
theorem dX10_worth_12 : decode cX10_worth 12 = .ok (.iload_n 3, 1) := by decide +kernel
theorem dX10_worth_13 : decode cX10_worth 13 = .ok (.ifCond .eq 10, 3) := by decide +kernel
theorem dX10_worth_16 : decode cX10_worth 16 = .ok (.aload_n 0, 1) := by decide +kernel
theorem dX10_worth_17 : decode cX10_worth 17 = .ok (.iload_n 3, 1) := by decide +kernel
theorem dX10_worth_18 : decode cX10_worth 18 = .ok (.invokevirtual 159, 3) := by decide +kernel
theorem dX10_worth_21 : decode cX10_worth 21 = .ok (.i2l, 1) := by decide +kernel
theorem dX10_worth_22 : decode cX10_worth 22 = .ok (.lreturn, 1) := by decide +kernel
theorem dX10_worth_23 : decode cX10_worth 23 = .ok (.aload_n 0, 1) := by decide +kernel
theorem dX10_worth_24 : decode cX10_worth 24 = .ok (.iload_n 1, 1) := by decide +kernel
theorem dX10_worth_25 : decode cX10_worth 25 = .ok (.iload_n 2, 1) := by decide +kernel
theorem dX10_worth_26 : decode cX10_worth 26 = .ok (.aload_n 0, 1) := by decide +kernel
theorem dX10_worth_27 : decode cX10_worth 27 = .ok (.iload_n 1, 1) := by decide +kernel
theorem dX10_worth_28 : decode cX10_worth 28 = .ok (.iload_n 2, 1) := by decide +kernel
theorem dX10_worth_29 : decode cX10_worth 29 = .ok (.iconst 1, 1) := by decide +kernel
theorem dX10_worth_30 : decode cX10_worth 30 = .ok (.invokevirtual 333, 3) := by decide +kernel
theorem dX10_worth_33 : decode cX10_worth 33 = .ok (.iconst 1, 1) := by decide +kernel
theorem dX10_worth_34 : decode cX10_worth 34 = .ok (.invokevirtual 329, 3) := by decide +kernel
theorem dX10_worth_37 : decode cX10_worth 37 = .ok (.aload_n 0, 1) := by decide +kernel
theorem dX10_worth_38 : decode cX10_worth 38 = .ok (.iload_n 1, 1) := by decide +kernel
theorem dX10_worth_39 : decode cX10_worth 39 = .ok (.iload_n 2, 1) := by decide +kernel
theorem dX10_worth_40 : decode cX10_worth 40 = .ok (.aload_n 0, 1) := by decide +kernel
theorem dX10_worth_41 : decode cX10_worth 41 = .ok (.iload_n 1, 1) := by decide +kernel
theorem dX10_worth_42 : decode cX10_worth 42 = .ok (.iload_n 2, 1) := by decide +kernel
theorem dX10_worth_43 : decode cX10_worth 43 = .ok (.iconst 0, 1) := by decide +kernel
theorem dX10_worth_44 : decode cX10_worth 44 = .ok (.invokevirtual 333, 3) := by decide +kernel
theorem dX10_worth_47 : decode cX10_worth 47 = .ok (.iconst 0, 1) := by decide +kernel
theorem dX10_worth_48 : decode cX10_worth 48 = .ok (.invokevirtual 329, 3) := by decide +kernel
theorem dX10_worth_51 : decode cX10_worth 51 = .ok (.lsub, 1) := by decide +kernel
theorem dX10_worth_52 : decode cX10_worth 52 = .ok (.lreturn, 1) := by decide +kernel
def f_X10_worth (x1 : Int32) (x2 : Int32) (M : Mm) : Option (Int64 × Mm) :=
  bv (f_X10_good  M) fun M1_1 => bd (f_X10_oddsWhy x1 x2 (0 : Int32) M1_1) fun v8_4 M8_3 => if v8_4 = 0 then (bd (f_X10_bestOf x1 x2 (1 : Int32) M8_3) fun v30_6 M30_5 => bd (f_X10_gains x1 x2 v30_6 (1 : Int32) M30_5) fun v34_8 M34_7 => bd (f_X10_bestOf x1 x2 (0 : Int32) M34_7) fun v44_10 M44_9 => bd (f_X10_gains x1 x2 v44_10 (0 : Int32) M44_9) fun v48_12 M48_11 => some ((v34_8 - v48_12), M48_11)) else (bd (f_X10_no v8_4 M8_3) fun v18_14 M18_13 => some (v18_14.toInt64, M18_13))
set_option maxHeartbeats 4000000 in
set_option maxRecDepth 100000 in
theorem s_X10_worth {l : Launch} {B : BT} (hA : bA B = false) {d : Nat} {r : Int64} {M' : Mm} {x1 : Int32} {x2 : Int32} {M : Mm}  (h : f_X10_worth x1 x2 M = some (r, M')) : Con l B LY (d + 6) yX10_worth cX10_worth 4 (some .long) 0 0 [.ref 81, .int x1, .int x2] 97 M (PL r M') := by
  refine con_of (by decide) (Nat.le_of_ble_eq_true rfl) ?_
  show GG l B LY (d + 6) yX10_worth cX10_worth 4 (some .long) 0 0 (PL r M') 97 0 0 0 [(0, .ref 81), (1, .int x1), (2, .int x2)] [] M
  rw [f_X10_worth] at h
  refine g_aload_n dX10_worth_0 rfl 0 rfl ?_
  obtain ⟨M1_1, eM1_1, h⟩ := bv_e h
  refine m_callVv (As := []) (st := []) (s_X10_good (d := d + 5) hA  eM1_1) rfl okX10 ck_X10_good w_1381 rfl (Nat.le_of_ble_eq_true rfl) dX10_worth_1 ?_
  refine g_aload_n dX10_worth_4 rfl 0 rfl ?_
  refine g_iload_n dX10_worth_5 rfl 1 rfl ?_
  refine g_iload_n dX10_worth_6 rfl 2 rfl ?_
  refine g_iconst (v := 0) dX10_worth_7 (by decide) ?_
  obtain ⟨v8_4, M8_3, eM8_3, h⟩ := bd_e h
  refine m_callVi (As := [.int x1, .int x2, .int (0 : Int32)]) (st := []) (s_X10_oddsWhy (d := d + 2) hA  eM8_3) rfl okX10 ck_X10_oddsWhy w_1633 rfl (Nat.le_of_ble_eq_true rfl) dX10_worth_8 ?_
  refine g_istore_n (lv' := [(3, .int v8_4), (0, .ref 81), (1, .int x1), (2, .int x2)]) dX10_worth_11 rfl (by decide) rfl ?_
  refine g_iload_n dX10_worth_12 rfl 0 rfl ?_
  refine g_if_eq (tgt := 23) dX10_worth_13 (by decide) (fun c15 => ?_) (fun c15 => ?_)
  · replace h := ite_p c15 h
    refine g_aload_n dX10_worth_23 rfl 1 rfl ?_
    refine g_iload_n dX10_worth_24 rfl 2 rfl ?_
    refine g_iload_n dX10_worth_25 rfl 3 rfl ?_
    refine g_aload_n dX10_worth_26 rfl 1 rfl ?_
    refine g_iload_n dX10_worth_27 rfl 2 rfl ?_
    refine g_iload_n dX10_worth_28 rfl 3 rfl ?_
    refine g_iconst (v := 1) dX10_worth_29 (by decide) ?_
    obtain ⟨v30_6, M30_5, eM30_5, h⟩ := bd_e h
    refine m_callVi (As := [.int x1, .int x2, .int (1 : Int32)]) (st := [.int x2, .int x1, .ref 81]) (s_X10_bestOf (d := d + 0) hA  eM30_5) rfl okX10 ck_X10_bestOf w_1677 rfl (Nat.le_of_ble_eq_true rfl) dX10_worth_30 ?_
    refine g_iconst (v := 1) dX10_worth_33 (by decide) ?_
    obtain ⟨v34_8, M34_7, eM34_7, h⟩ := bd_e h
    refine m_callVl (As := [.int x1, .int x2, .int v30_6, .int (1 : Int32)]) (st := []) (s_X10_gains (d := d + 1) hA  eM34_7) rfl okX10 ck_X10_gains w_1665 rfl (Nat.le_of_ble_eq_true rfl) dX10_worth_34 ?_
    refine g_aload_n dX10_worth_37 rfl 1 rfl ?_
    refine g_iload_n dX10_worth_38 rfl 2 rfl ?_
    refine g_iload_n dX10_worth_39 rfl 3 rfl ?_
    refine g_aload_n dX10_worth_40 rfl 1 rfl ?_
    refine g_iload_n dX10_worth_41 rfl 2 rfl ?_
    refine g_iload_n dX10_worth_42 rfl 3 rfl ?_
    refine g_iconst (v := 0) dX10_worth_43 (by decide) ?_
    obtain ⟨v44_10, M44_9, eM44_9, h⟩ := bd_e h
    refine m_callVi (As := [.int x1, .int x2, .int (0 : Int32)]) (st := [.int x2, .int x1, .ref 81, .long v34_8]) (s_X10_bestOf (d := d + 0) hA  eM44_9) rfl okX10 ck_X10_bestOf w_1677 rfl (Nat.le_of_ble_eq_true rfl) dX10_worth_44 ?_
    refine g_iconst (v := 0) dX10_worth_47 (by decide) ?_
    obtain ⟨v48_12, M48_11, eM48_11, h⟩ := bd_e h
    refine m_callVl (As := [.int x1, .int x2, .int v44_10, .int (0 : Int32)]) (st := [.long v34_8]) (s_X10_gains (d := d + 1) hA  eM48_11) rfl okX10 ck_X10_gains w_1665 rfl (Nat.le_of_ble_eq_true rfl) dX10_worth_48 ?_
    refine g_lsub dX10_worth_51 ?_
    exact g_lret rfl (pl_of h) dX10_worth_52
  · replace h := ite_n c15 h
    refine g_aload_n dX10_worth_16 rfl 1 rfl ?_
    refine g_iload_n dX10_worth_17 rfl 0 rfl ?_
    obtain ⟨v18_14, M18_13, eM18_13, h⟩ := bd_e h
    refine m_callVi (As := [.int v8_4]) (st := []) (s_X10_no (d := d + 5) hA  eM18_13) rfl okX10 ck_X10_no w_1388 rfl (Nat.le_of_ble_eq_true rfl) dX10_worth_18 ?_
    refine g_i2l dX10_worth_21 ?_
    exact g_lret rfl (pl_of h) dX10_worth_22
theorem ck_X10_worth : CKV yX10_worth cX10_worth 4 (some .long) 2 := ⟨⟨by decide, by decide, by decide +kernel⟩, w_1684, w_81, ⟨w_1682, w_1683⟩, by decide⟩
theorem dX10_isRest_0 : decode cX10_isRest 0 = .ok (.aload_n 0, 1) := by decide +kernel
theorem dX10_isRest_1 : decode cX10_isRest 1 = .ok (.iload_n 1, 1) := by decide +kernel
theorem dX10_isRest_2 : decode cX10_isRest 2 = .ok (.iload_n 2, 1) := by decide +kernel
theorem dX10_isRest_3 : decode cX10_isRest 3 = .ok (.aload_n 0, 1) := by decide +kernel
theorem dX10_isRest_4 : decode cX10_isRest 4 = .ok (.iload 4, 2) := by decide +kernel
theorem dX10_isRest_6 : decode cX10_isRest 6 = .ok (.invokevirtual 300, 3) := by decide +kernel
theorem dX10_isRest_9 : decode cX10_isRest 9 = .ok (.iload_n 3, 1) := by decide +kernel
theorem dX10_isRest_10 : decode cX10_isRest 10 = .ok (.iconst 0, 1) := by decide +kernel
theorem dX10_isRest_11 : decode cX10_isRest 11 = .ok (.invokevirtual 314, 3) := by decide +kernel
theorem dX10_isRest_14 : decode cX10_isRest 14 = .ok (.lstore 5, 2) := by decide +kernel
theorem dX10_isRest_16 : decode cX10_isRest 16 = .ok (.iconst 1, 1) := by decide +kernel
theorem dX10_isRest_17 : decode cX10_isRest 17 = .ok (.istore 7, 2) := by decide +kernel
theorem dX10_isRest_19 : decode cX10_isRest 19 = .ok (.iconst 0, 1) := by decide +kernel
theorem dX10_isRest_20 : decode cX10_isRest 20 = .ok (.istore 8, 2) := by decide +kernel
theorem dX10_isRest_22 : decode cX10_isRest 22 = .ok (.iload 8, 2) := by decide +kernel
theorem dX10_isRest_24 : decode cX10_isRest 24 = .ok (.aload_n 0, 1) := by decide +kernel
theorem dX10_isRest_25 : decode cX10_isRest 25 = .ok (.getfield 20, 3) := by decide +kernel
theorem dX10_isRest_28 : decode cX10_isRest 28 = .ok (.bipush 92, 2) := by decide +kernel
theorem dX10_isRest_30 : decode cX10_isRest 30 = .ok (.iaload, 1) := by decide +kernel
theorem dX10_isRest_31 : decode cX10_isRest 31 = .ok (.if_icmp .ge 62, 3) := by decide +kernel
theorem dX10_isRest_34 : decode cX10_isRest 34 = .ok (.iload 7, 2) := by decide +kernel
theorem dX10_isRest_36 : decode cX10_isRest 36 = .ok (.ifCond .eq 48, 3) := by decide +kernel
theorem dX10_isRest_39 : decode cX10_isRest 39 = .ok (.aload_n 0, 1) := by decide +kernel
theorem dX10_isRest_40 : decode cX10_isRest 40 = .ok (.iload_n 1, 1) := by decide +kernel
theorem dX10_isRest_41 : decode cX10_isRest 41 = .ok (.iload_n 2, 1) := by decide +kernel
theorem dX10_isRest_42 : decode cX10_isRest 42 = .ok (.aload_n 0, 1) := by decide +kernel
theorem dX10_isRest_43 : decode cX10_isRest 43 = .ok (.iload 8, 2) := by decide +kernel
theorem dX10_isRest_45 : decode cX10_isRest 45 = .ok (.invokevirtual 300, 3) := by decide +kernel
theorem dX10_isRest_48 : decode cX10_isRest 48 = .ok (.iload_n 3, 1) := by decide +kernel
theorem dX10_isRest_49 : decode cX10_isRest 49 = .ok (.iconst 0, 1) := by decide +kernel
theorem dX10_isRest_50 : decode cX10_isRest 50 = .ok (.invokevirtual 314, 3) := by decide +kernel
theorem dX10_isRest_53 : decode cX10_isRest 53 = .ok (.lload 5, 2) := by decide +kernel
theorem dX10_isRest_55 : decode cX10_isRest 55 = .ok (.lcmp, 1) := by decide +kernel
theorem dX10_isRest_56 : decode cX10_isRest 56 = .ok (.ifCond .gt 28, 3) := by decide +kernel
theorem dX10_isRest_59 : decode cX10_isRest 59 = .ok (.aload_n 0, 1) := by decide +kernel
theorem dX10_isRest_60 : decode cX10_isRest 60 = .ok (.iload_n 1, 1) := by decide +kernel
theorem dX10_isRest_61 : decode cX10_isRest 61 = .ok (.iload_n 2, 1) := by decide +kernel
theorem dX10_isRest_62 : decode cX10_isRest 62 = .ok (.aload_n 0, 1) := by decide +kernel
theorem dX10_isRest_63 : decode cX10_isRest 63 = .ok (.iload 4, 2) := by decide +kernel
theorem dX10_isRest_65 : decode cX10_isRest 65 = .ok (.invokevirtual 300, 3) := by decide +kernel
theorem dX10_isRest_68 : decode cX10_isRest 68 = .ok (.iload 8, 2) := by decide +kernel
theorem dX10_isRest_70 : decode cX10_isRest 70 = .ok (.iconst 0, 1) := by decide +kernel
theorem dX10_isRest_71 : decode cX10_isRest 71 = .ok (.invokevirtual 314, 3) := by decide +kernel
theorem dX10_isRest_74 : decode cX10_isRest 74 = .ok (.lload 5, 2) := by decide +kernel
theorem dX10_isRest_76 : decode cX10_isRest 76 = .ok (.lcmp, 1) := by decide +kernel
theorem dX10_isRest_77 : decode cX10_isRest 77 = .ok (.ifCond .lt 7, 3) := by decide +kernel
theorem dX10_isRest_80 : decode cX10_isRest 80 = .ok (.iconst 1, 1) := by decide +kernel
theorem dX10_isRest_81 : decode cX10_isRest 81 = .ok (.goto 4, 3) := by decide +kernel
theorem dX10_isRest_84 : decode cX10_isRest 84 = .ok (.iconst 0, 1) := by decide +kernel
theorem dX10_isRest_85 : decode cX10_isRest 85 = .ok (.istore 7, 2) := by decide +kernel
theorem dX10_isRest_87 : decode cX10_isRest 87 = .ok (.iinc 8 1, 3) := by decide +kernel
theorem dX10_isRest_90 : decode cX10_isRest 90 = .ok (.goto (-68), 3) := by decide +kernel
theorem dX10_isRest_93 : decode cX10_isRest 93 = .ok (.iload 7, 2) := by decide +kernel
theorem dX10_isRest_95 : decode cX10_isRest 95 = .ok (.ireturn, 1) := by decide +kernel
def lp_X10_isRest_22 (y1 : Int32) (y2 : Int32) (y3 : Int32) (y4 : Int32) (y5 : Int64)  : Nat → Int32 → Int32 → Mm → Option (Int32 × Mm)
  | 0, _, _, _ => none
  | n + 1, y7, y8, M =>
    gd (inb (92 : Int32) 141) <| if (M 84 (92 : Int32).toNatClampNeg) ≤ y8 then (gd (zo y7) <| some (y7, M)) else (jn (fun (s5 : Int32) (M6 : Mm) => lp_X10_isRest_22 y1 y2 y3 y4 y5 n s5 (y8 + (1 : Int32)) M6) fun j7 => jn (fun (M8 : Mm) => j7 (0 : Int32) M8) fun j9 => if y7 = 0 then (j9  M) else (bd (f_X10_endOf y8 M) fun v45_11 M45_10 => bd (f_X10_brings y1 y2 v45_11 y3 (0 : Int32) M45_10) fun v50_13 M50_12 => if 0 < (lg_cmp v50_13 y5) then (j9  M50_12) else (bd (f_X10_endOf y4 M50_12) fun v65_15 M65_14 => bd (f_X10_brings y1 y2 v65_15 y8 (0 : Int32) M65_14) fun v71_17 M71_16 => if (lg_cmp v71_17 y5) < 0 then (j9  M71_16) else (j7 (1 : Int32) M71_16))))
def f_X10_isRest (x1 : Int32) (x2 : Int32) (x3 : Int32) (x4 : Int32) (M : Mm) : Option (Int32 × Mm) :=
  bd (f_X10_endOf x4 M) fun v6_2 M6_1 => bd (f_X10_brings x1 x2 v6_2 x3 (0 : Int32) M6_1) fun v11_4 M11_3 => lp_X10_isRest_22 x1 x2 x3 x4 v11_4  N0 (1 : Int32) (0 : Int32) M11_3
set_option maxHeartbeats 4000000 in
set_option maxRecDepth 100000 in
theorem sl_X10_isRest_22 {l : Launch} {B : BT} (hA : bA B = false) {d : Nat} {r : Int32} {M' : Mm} {y1 : Int32} {y2 : Int32} {y3 : Int32} {y4 : Int32} {y5 : Int64}    :
    ∀ (n : Nat) (y7 : Int32) (y8 : Int32) (M : Mm), lp_X10_isRest_22 y1 y2 y3 y4 y5 n y7 y8 M = some (r, M') → GG l B LY (d + 4) yX10_isRest cX10_isRest 9 (some .boolean) 0 0 (PI r M') 97 0 0 22 [(0, .ref 81), (1, .int y1), (2, .int y2), (3, .int y3), (4, .int y4), (5, .long y5), (7, .int y7), (8, .int y8)] [] M := by
  intro n
  induction n with
  | zero => intro y7 y8 M h; cases h
  | succ n ih =>
    intro y7 y8 M h
    rw [lp_X10_isRest_22] at h
    refine g_iload dX10_isRest_22 7 rfl ?_
    refine g_aload_n dX10_isRest_24 rfl 0 rfl ?_
    refine m_getr (k := 15) okX10 rfl rfl (by decide) w_1284 rfl dX10_isRest_25 ?_
    refine g_bipush (v := 92) dX10_isRest_28 (by decide) ?_
    obtain ⟨hz, h⟩ := gd_s h
    refine m_iald rfl hz dX10_isRest_30 ?_
    refine g_icmp_ge (tgt := 93) dX10_isRest_31 (by decide) (fun c21 => ?_) (fun c21 => ?_)
    · replace h := ite_p c21 h
      refine g_iload dX10_isRest_93 6 rfl ?_
      obtain ⟨hz, h⟩ := gd_s h
      exact g_zret rfl (nar_zo hz) (pi_of h) dX10_isRest_95
    · replace h := ite_n c21 h
      refine g_iload dX10_isRest_34 6 rfl ?_
      obtain ⟨j7, ej7, h⟩ := jn_e h
      have hj7 : ∀ (s5 : Int32) (M6 : Mm), j7 s5 M6 = some (r, M') → GG l B LY (d + 4) yX10_isRest cX10_isRest 9 (some .boolean) 0 0 (PI r M') 97 0 0 85 [(0, .ref 81), (1, .int y1), (2, .int y2), (3, .int y3), (4, .int y4), (5, .long y5), (8, .int y8)] [.int s5] M6 := by
        intro s5 M6 h
        rw [ej7] at h
        refine g_istore (lv' := [(7, .int s5), (0, .ref 81), (1, .int y1), (2, .int y2), (3, .int y3), (4, .int y4), (5, .long y5), (8, .int y8)]) dX10_isRest_85 (by decide) rfl ?_
        refine g_iinc (v := (y8 + (1 : Int32))) (lv' := [(8, .int (y8 + (1 : Int32))), (7, .int s5), (0, .ref 81), (1, .int y1), (2, .int y2), (3, .int y3), (4, .int y4), (5, .long y5)]) dX10_isRest_87 7 rfl rfl (by decide) rfl ?_
        refine g_goto (tgt := 22) dX10_isRest_90 (by decide) ?_
        refine g_sub [2, 3, 4, 5, 6, 7, 1, 0] (lv' := [(0, .ref 81), (1, .int y1), (2, .int y2), (3, .int y3), (4, .int y4), (5, .long y5), (7, .int s5), (8, .int (y8 + (1 : Int32)))]) rfl ?_
        exact ih _ _  _ h
      obtain ⟨j9, ej9, h⟩ := jn_e h
      have hj9 : ∀ (M8 : Mm), j9 M8 = some (r, M') → GG l B LY (d + 4) yX10_isRest cX10_isRest 9 (some .boolean) 0 0 (PI r M') 97 0 0 84 [(0, .ref 81), (1, .int y1), (2, .int y2), (3, .int y3), (4, .int y4), (5, .long y5), (8, .int y8)] [] M8 := by
        intro M8 h
        rw [ej9] at h
        refine g_iconst (v := 0) dX10_isRest_84 (by decide) ?_
        refine g_sub [0, 1, 2, 3, 4, 5, 6] (lv' := [(0, .ref 81), (1, .int y1), (2, .int y2), (3, .int y3), (4, .int y4), (5, .long y5), (8, .int y8)]) rfl ?_
        exact hj7 _ _ h
      refine g_if_eq (tgt := 84) dX10_isRest_36 (by decide) (fun c20 => ?_) (fun c20 => ?_)
      · replace h := ite_p c20 h
        refine g_sub [0, 1, 2, 3, 4, 5, 7] (lv' := [(0, .ref 81), (1, .int y1), (2, .int y2), (3, .int y3), (4, .int y4), (5, .long y5), (8, .int y8)]) rfl ?_
        exact hj9  _ h
      · replace h := ite_n c20 h
        refine g_aload_n dX10_isRest_39 rfl 0 rfl ?_
        refine g_iload_n dX10_isRest_40 rfl 1 rfl ?_
        refine g_iload_n dX10_isRest_41 rfl 2 rfl ?_
        refine g_aload_n dX10_isRest_42 rfl 0 rfl ?_
        refine g_iload dX10_isRest_43 7 rfl ?_
        obtain ⟨v45_11, M45_10, eM45_10, h⟩ := bd_e h
        refine m_callVi (As := [.int y8]) (st := [.int y2, .int y1, .ref 81]) (s_X10_endOf (d := d + 2) hA  eM45_10) rfl okX10 ck_X10_endOf w_1641 rfl (Nat.le_of_ble_eq_true rfl) dX10_isRest_45 ?_
        refine g_iload_n dX10_isRest_48 rfl 3 rfl ?_
        refine g_iconst (v := 0) dX10_isRest_49 (by decide) ?_
        obtain ⟨v50_13, M50_12, eM50_12, h⟩ := bd_e h
        refine m_callVl (As := [.int y1, .int y2, .int v45_11, .int y3, .int (0 : Int32)]) (st := []) (s_X10_brings (d := d + 0) hA  eM50_12) rfl okX10 ck_X10_brings w_1669 rfl (Nat.le_of_ble_eq_true rfl) dX10_isRest_50 ?_
        refine g_lload dX10_isRest_53 5 rfl ?_
        refine g_lcmp dX10_isRest_55 ?_
        refine g_if_gt (tgt := 84) dX10_isRest_56 (by decide) (fun c19 => ?_) (fun c19 => ?_)
        · replace h := ite_p c19 h
          refine g_sub [0, 1, 2, 3, 4, 5, 7] (lv' := [(0, .ref 81), (1, .int y1), (2, .int y2), (3, .int y3), (4, .int y4), (5, .long y5), (8, .int y8)]) rfl ?_
          exact hj9  _ h
        · replace h := ite_n c19 h
          refine g_aload_n dX10_isRest_59 rfl 0 rfl ?_
          refine g_iload_n dX10_isRest_60 rfl 1 rfl ?_
          refine g_iload_n dX10_isRest_61 rfl 2 rfl ?_
          refine g_aload_n dX10_isRest_62 rfl 0 rfl ?_
          refine g_iload dX10_isRest_63 4 rfl ?_
          obtain ⟨v65_15, M65_14, eM65_14, h⟩ := bd_e h
          refine m_callVi (As := [.int y4]) (st := [.int y2, .int y1, .ref 81]) (s_X10_endOf (d := d + 2) hA  eM65_14) rfl okX10 ck_X10_endOf w_1641 rfl (Nat.le_of_ble_eq_true rfl) dX10_isRest_65 ?_
          refine g_iload dX10_isRest_68 7 rfl ?_
          refine g_iconst (v := 0) dX10_isRest_70 (by decide) ?_
          obtain ⟨v71_17, M71_16, eM71_16, h⟩ := bd_e h
          refine m_callVl (As := [.int y1, .int y2, .int v65_15, .int y8, .int (0 : Int32)]) (st := []) (s_X10_brings (d := d + 0) hA  eM71_16) rfl okX10 ck_X10_brings w_1669 rfl (Nat.le_of_ble_eq_true rfl) dX10_isRest_71 ?_
          refine g_lload dX10_isRest_74 5 rfl ?_
          refine g_lcmp dX10_isRest_76 ?_
          refine g_if_lt (tgt := 84) dX10_isRest_77 (by decide) (fun c18 => ?_) (fun c18 => ?_)
          · replace h := ite_p c18 h
            refine g_sub [0, 1, 2, 3, 4, 5, 7] (lv' := [(0, .ref 81), (1, .int y1), (2, .int y2), (3, .int y3), (4, .int y4), (5, .long y5), (8, .int y8)]) rfl ?_
            exact hj9  _ h
          · replace h := ite_n c18 h
            refine g_iconst (v := 1) dX10_isRest_80 (by decide) ?_
            refine g_goto (tgt := 85) dX10_isRest_81 (by decide) ?_
            refine g_sub [0, 1, 2, 3, 4, 5, 7] (lv' := [(0, .ref 81), (1, .int y1), (2, .int y2), (3, .int y3), (4, .int y4), (5, .long y5), (8, .int y8)]) rfl ?_
            exact hj7 _ _ h
set_option maxHeartbeats 4000000 in
set_option maxRecDepth 100000 in
theorem s_X10_isRest {l : Launch} {B : BT} (hA : bA B = false) {d : Nat} {r : Int32} {M' : Mm} {x1 : Int32} {x2 : Int32} {x3 : Int32} {x4 : Int32} {M : Mm}  (h : f_X10_isRest x1 x2 x3 x4 M = some (r, M')) : Con l B LY (d + 4) yX10_isRest cX10_isRest 9 (some .boolean) 0 0 [.ref 81, .int x1, .int x2, .int x3, .int x4] 97 M (PI r M') := by
  refine con_of (by decide) (Nat.le_of_ble_eq_true rfl) ?_
  show GG l B LY (d + 4) yX10_isRest cX10_isRest 9 (some .boolean) 0 0 (PI r M') 97 0 0 0 [(0, .ref 81), (1, .int x1), (2, .int x2), (3, .int x3), (4, .int x4)] [] M
  rw [f_X10_isRest] at h
  refine g_aload_n dX10_isRest_0 rfl 0 rfl ?_
  refine g_iload_n dX10_isRest_1 rfl 1 rfl ?_
  refine g_iload_n dX10_isRest_2 rfl 2 rfl ?_
  refine g_aload_n dX10_isRest_3 rfl 0 rfl ?_
  refine g_iload dX10_isRest_4 4 rfl ?_
  obtain ⟨v6_2, M6_1, eM6_1, h⟩ := bd_e h
  refine m_callVi (As := [.int x4]) (st := [.int x2, .int x1, .ref 81]) (s_X10_endOf (d := d + 2) hA  eM6_1) rfl okX10 ck_X10_endOf w_1641 rfl (Nat.le_of_ble_eq_true rfl) dX10_isRest_6 ?_
  refine g_iload_n dX10_isRest_9 rfl 3 rfl ?_
  refine g_iconst (v := 0) dX10_isRest_10 (by decide) ?_
  obtain ⟨v11_4, M11_3, eM11_3, h⟩ := bd_e h
  refine m_callVl (As := [.int x1, .int x2, .int v6_2, .int x3, .int (0 : Int32)]) (st := []) (s_X10_brings (d := d + 0) hA  eM11_3) rfl okX10 ck_X10_brings w_1669 rfl (Nat.le_of_ble_eq_true rfl) dX10_isRest_11 ?_
  refine g_lstore (lv' := [(5, .long v11_4), (0, .ref 81), (1, .int x1), (2, .int x2), (3, .int x3), (4, .int x4)]) dX10_isRest_14 (by decide) rfl ?_
  refine g_iconst (v := 1) dX10_isRest_16 (by decide) ?_
  refine g_istore (lv' := [(7, .int (1 : Int32)), (5, .long v11_4), (0, .ref 81), (1, .int x1), (2, .int x2), (3, .int x3), (4, .int x4)]) dX10_isRest_17 (by decide) rfl ?_
  refine g_iconst (v := 0) dX10_isRest_19 (by decide) ?_
  refine g_istore (lv' := [(8, .int (0 : Int32)), (7, .int (1 : Int32)), (5, .long v11_4), (0, .ref 81), (1, .int x1), (2, .int x2), (3, .int x3), (4, .int x4)]) dX10_isRest_20 (by decide) rfl ?_
  refine g_sub [3, 4, 5, 6, 7, 2, 1, 0] (lv' := [(0, .ref 81), (1, .int x1), (2, .int x2), (3, .int x3), (4, .int x4), (5, .long v11_4), (7, .int (1 : Int32)), (8, .int (0 : Int32))]) rfl ?_
  refine sl_X10_isRest_22 hA   _ _ _ _ h
theorem ck_X10_isRest : CKV yX10_isRest cX10_isRest 9 (some .boolean) 4 := ⟨⟨by decide, by decide, by decide +kernel⟩, w_1696, w_81, ⟨w_1695, w_58⟩, by decide⟩
