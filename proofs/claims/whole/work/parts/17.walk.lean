/-! walks: X9_worth X9_rests X9_rest X9_watch X9_both X9_arePlays X9_wins X9_lasts X9_sent X9_looking X9_isFilmed X9_film X9_law X9_says X9_off X9_stop X9_span X9_fits X9_home X9_far. Written by wip/programs/parts.py. -/
theorem dX9_worth_0 : decode cX9_worth 0 = .ok (.aload_n 0, 1) := by decide +kernel
theorem dX9_worth_1 : decode cX9_worth 1 = .ok (.iload_n 1, 1) := by decide +kernel
theorem dX9_worth_2 : decode cX9_worth 2 = .ok (.invokevirtual 146, 3) := by decide +kernel
theorem dX9_worth_5 : decode cX9_worth 5 = .ok (.ifCond .ne 10, 3) := by decide +kernel
theorem dX9_worth_8 : decode cX9_worth 8 = .ok (.aload_n 0, 1) := by decide +kernel
theorem dX9_worth_9 : decode cX9_worth 9 = .ok (.iconst 1, 1) := by decide +kernel
theorem dX9_worth_10 : decode cX9_worth 10 = .ok (.invokevirtual 82, 3) := by decide +kernel
theorem dX9_worth_13 : decode cX9_worth 13 = .ok (.i2l, 1) := by decide +kernel
theorem dX9_worth_14 : decode cX9_worth 14 = .ok (.lreturn, 1) := by decide +kernel
theorem dX9_worth_15 : decode cX9_worth 15 = .ok (.aload_n 0, 1) := by decide +kernel
theorem dX9_worth_16 : decode cX9_worth 16 = .ok (.iload_n 2, 1) := by decide +kernel
theorem dX9_worth_17 : decode cX9_worth 17 = .ok (.invokevirtual 149, 3) := by decide +kernel
theorem dX9_worth_20 : decode cX9_worth 20 = .ok (.ifCond .ne 10, 3) := by decide +kernel
theorem dX9_worth_23 : decode cX9_worth 23 = .ok (.aload_n 0, 1) := by decide +kernel
theorem dX9_worth_24 : decode cX9_worth 24 = .ok (.iconst 2, 1) := by decide +kernel
theorem dX9_worth_25 : decode cX9_worth 25 = .ok (.invokevirtual 82, 3) := by decide +kernel
theorem dX9_worth_28 : decode cX9_worth 28 = .ok (.i2l, 1) := by decide +kernel
theorem dX9_worth_29 : decode cX9_worth 29 = .ok (.lreturn, 1) := by decide +kernel
theorem dX9_worth_30 : decode cX9_worth 30 = .ok (.aload_n 0, 1) := by decide +kernel
theorem dX9_worth_31 : decode cX9_worth 31 = .ok (.iconst 0, 1) := by decide +kernel
theorem dX9_worth_32 : decode cX9_worth 32 = .ok (.putfield 117, 3) := by decide +kernel
theorem dX9_worth_35 : decode cX9_worth 35 = .ok (.aload_n 0, 1) := by decide +kernel
theorem dX9_worth_36 : decode cX9_worth 36 = .ok (.getfield 10, 3) := by decide +kernel
theorem dX9_worth_39 : decode cX9_worth 39 = .ok (.iload_n 1, 1) := by decide +kernel
theorem dX9_worth_40 : decode cX9_worth 40 = .ok (.iload_n 2, 1) := by decide +kernel
theorem dX9_worth_41 : decode cX9_worth 41 = .ok (.iconst 1, 1) := by decide +kernel
theorem dX9_worth_42 : decode cX9_worth 42 = .ok (.invokestatic 245, 3) := by decide +kernel
theorem dX9_worth_45 : decode cX9_worth 45 = .ok (.istore_n 3, 1) := by decide +kernel
theorem dX9_worth_46 : decode cX9_worth 46 = .ok (.aload_n 0, 1) := by decide +kernel
theorem dX9_worth_47 : decode cX9_worth 47 = .ok (.getfield 10, 3) := by decide +kernel
theorem dX9_worth_50 : decode cX9_worth 50 = .ok (.iload_n 1, 1) := by decide +kernel
theorem dX9_worth_51 : decode cX9_worth 51 = .ok (.iload_n 2, 1) := by decide +kernel
theorem dX9_worth_52 : decode cX9_worth 52 = .ok (.iconst 0, 1) := by decide +kernel
theorem dX9_worth_53 : decode cX9_worth 53 = .ok (.invokestatic 245, 3) := by decide +kernel
theorem dX9_worth_56 : decode cX9_worth 56 = .ok (.istore 4, 2) := by decide +kernel
theorem dX9_worth_58 : decode cX9_worth 58 = .ok (.aload_n 0, 1) := by decide +kernel
theorem dX9_worth_59 : decode cX9_worth 59 = .ok (.getfield 10, 3) := by decide +kernel
theorem dX9_worth_62 : decode cX9_worth 62 = .ok (.iload_n 1, 1) := by decide +kernel
theorem dX9_worth_63 : decode cX9_worth 63 = .ok (.iload_n 2, 1) := by decide +kernel
theorem dX9_worth_64 : decode cX9_worth 64 = .ok (.iload_n 3, 1) := by decide +kernel
theorem dX9_worth_65 : decode cX9_worth 65 = .ok (.iconst 1, 1) := by decide +kernel
theorem dX9_worth_66 : decode cX9_worth 66 = .ok (.invokestatic 241, 3) := by decide +kernel
theorem dX9_worth_69 : decode cX9_worth 69 = .ok (.aload_n 0, 1) := by decide +kernel
theorem dX9_worth_70 : decode cX9_worth 70 = .ok (.getfield 10, 3) := by decide +kernel
theorem dX9_worth_73 : decode cX9_worth 73 = .ok (.iload_n 1, 1) := by decide +kernel
theorem dX9_worth_74 : decode cX9_worth 74 = .ok (.iload_n 2, 1) := by decide +kernel
theorem dX9_worth_75 : decode cX9_worth 75 = .ok (.iload 4, 2) := by decide +kernel
theorem dX9_worth_77 : decode cX9_worth 77 = .ok (.iconst 0, 1) := by decide +kernel
theorem dX9_worth_78 : decode cX9_worth 78 = .ok (.invokestatic 241, 3) := by decide +kernel
theorem dX9_worth_81 : decode cX9_worth 81 = .ok (.lsub, 1) := by decide +kernel
theorem dX9_worth_82 : decode cX9_worth 82 = .ok (.lreturn, 1) := by decide +kernel
def f_X9_worth (x1 : Int32) (x2 : Int32) (M : Mm) : Option (Int64 × Mm) :=
  bd (f_X9_isCreeper x1 M) fun v2_2 M2_1 => if v2_2 = 0 then (bd (f_X9_refused (nI 1) M2_1) fun v10_21 M10_20 => some (v10_21.toInt64, M10_20)) else (bd (f_X9_isBelowWall x2 M2_1) fun v17_4 M17_3 => if v17_4 = 0 then (bd (f_X9_refused (nI 2) M17_3) fun v25_18 M25_17 => some (v25_18.toInt64, M25_17)) else (bg ((mset M17_3 0 11 (nI 0)) 0 8) fun g5 => bd (f_X2_bestStand g5 x1 x2 (nI 1) (mset M17_3 0 11 (nI 0))) fun v42_7 M42_6 => bg (M42_6 0 8) fun g8 => bd (f_X2_bestStand g8 x1 x2 (nI 0) M42_6) fun v53_10 M53_9 => bg (M53_9 0 8) fun g11 => bd (f_X2_gained g11 x1 x2 v42_7 (nI 1) M53_9) fun v66_13 M66_12 => bg (M66_12 0 8) fun g14 => bd (f_X2_gained g14 x1 x2 v53_10 (nI 0) M66_12) fun v78_16 M78_15 => some ((v66_13 - v78_16), M78_15)))
set_option maxHeartbeats 4000000 in
set_option maxRecDepth 100000 in
theorem s_X9_worth {l : Launch} {B : BT} (hA : bA B = false) {d : Nat} {r : Int64} {M' : Mm} {x1 : Int32} {x2 : Int32} {M : Mm}  (h : f_X9_worth x1 x2 M = some (r, M')) : Con l B LY (d + 6) yX9_worth cX9_worth 5 (some .long) 0 0 [.ref 0, .int x1, .int x2] 97 M (PL r M') := by
  refine con_of (by decide) (Nat.le_of_ble_eq_true rfl) ?_
  show GG l B LY (d + 6) yX9_worth cX9_worth 5 (some .long) 0 0 (PL r M') 97 0 0 0 [(0, .ref 0), (1, .int x1), (2, .int x2)] [] M
  rw [f_X9_worth] at h
  refine g_aload_n dX9_worth_0 rfl 0 rfl ?_
  refine g_iload_n dX9_worth_1 rfl 1 rfl ?_
  obtain ⟨v2_2, M2_1, eM2_1, h⟩ := bd_e h
  refine m_callVi (As := [.int x1]) (st := []) (s_X9_isCreeper (d := d + 5) hA  eM2_1) rfl okX9 ck_X9_isCreeper w_816 rfl (Nat.le_of_ble_eq_true rfl) dX9_worth_2 ?_
  refine g_if_ne (tgt := 15) dX9_worth_5 (by decide) (fun c22 => ?_) (fun c22 => ?_)
  · replace h := ite_n c22 h
    refine g_aload_n dX9_worth_15 rfl 0 rfl ?_
    refine g_iload_n dX9_worth_16 rfl 2 rfl ?_
    obtain ⟨v17_4, M17_3, eM17_3, h⟩ := bd_e h
    refine m_callVi (As := [.int x2]) (st := []) (s_X9_isBelowWall (d := d + 5) hA  eM17_3) rfl okX9 ck_X9_isBelowWall w_820 rfl (Nat.le_of_ble_eq_true rfl) dX9_worth_17 ?_
    refine g_if_ne (tgt := 30) dX9_worth_20 (by decide) (fun c19 => ?_) (fun c19 => ?_)
    · replace h := ite_n c19 h
      refine g_aload_n dX9_worth_30 rfl 0 rfl ?_
      refine g_iconst (v := (nI 0)) dX9_worth_31 (by decide) ?_
      refine m_puti (k := 11) okX9 rfl rfl (by decide) w_424 rfl rfl rfl dX9_worth_32 ?_
      refine g_aload_n dX9_worth_35 rfl 0 rfl ?_
      obtain ⟨g5, eg5, hg5, h⟩ := bg_e h
      refine m_getm (k := 8) okX9 rfl rfl (by decide) w_421 rfl dX9_worth_36 eg5 hg5 ?_
      refine g_iload_n dX9_worth_39 rfl 1 rfl ?_
      refine g_iload_n dX9_worth_40 rfl 2 rfl ?_
      refine g_iconst (v := (nI 1)) dX9_worth_41 (by decide) ?_
      obtain ⟨v42_7, M42_6, eM42_6, h⟩ := bd_e h
      refine m_callSi (As := [.ref g5, .int x1, .int x2, .int (nI 1)]) (st := []) (s_X2_bestStand (d := d + 0) hA hg5 eM42_6) ck_X2_bestStand w_945 rfl (Nat.le_of_ble_eq_true rfl) dX9_worth_42 ?_
      refine g_istore_n (lv' := [(3, .int v42_7), (0, .ref 0), (1, .int x1), (2, .int x2)]) dX9_worth_45 rfl (by decide) rfl ?_
      refine g_aload_n dX9_worth_46 rfl 1 rfl ?_
      obtain ⟨g8, eg8, hg8, h⟩ := bg_e h
      refine m_getm (k := 8) okX9 rfl rfl (by decide) w_421 rfl dX9_worth_47 eg8 hg8 ?_
      refine g_iload_n dX9_worth_50 rfl 2 rfl ?_
      refine g_iload_n dX9_worth_51 rfl 3 rfl ?_
      refine g_iconst (v := (nI 0)) dX9_worth_52 (by decide) ?_
      obtain ⟨v53_10, M53_9, eM53_9, h⟩ := bd_e h
      refine m_callSi (As := [.ref g8, .int x1, .int x2, .int (nI 0)]) (st := []) (s_X2_bestStand (d := d + 0) hA hg8 eM53_9) ck_X2_bestStand w_945 rfl (Nat.le_of_ble_eq_true rfl) dX9_worth_53 ?_
      refine g_istore (lv' := [(4, .int v53_10), (3, .int v42_7), (0, .ref 0), (1, .int x1), (2, .int x2)]) dX9_worth_56 (by decide) rfl ?_
      refine g_aload_n dX9_worth_58 rfl 2 rfl ?_
      obtain ⟨g11, eg11, hg11, h⟩ := bg_e h
      refine m_getm (k := 8) okX9 rfl rfl (by decide) w_421 rfl dX9_worth_59 eg11 hg11 ?_
      refine g_iload_n dX9_worth_62 rfl 3 rfl ?_
      refine g_iload_n dX9_worth_63 rfl 4 rfl ?_
      refine g_iload_n dX9_worth_64 rfl 1 rfl ?_
      refine g_iconst (v := (nI 1)) dX9_worth_65 (by decide) ?_
      obtain ⟨v66_13, M66_12, eM66_12, h⟩ := bd_e h
      refine m_callSl (As := [.ref g11, .int x1, .int x2, .int v42_7, .int (nI 1)]) (st := []) (s_X2_gained (d := d + 1) hA hg11 eM66_12) ck_X2_gained w_935 rfl (Nat.le_of_ble_eq_true rfl) dX9_worth_66 ?_
      refine g_aload_n dX9_worth_69 rfl 2 rfl ?_
      obtain ⟨g14, eg14, hg14, h⟩ := bg_e h
      refine m_getm (k := 8) okX9 rfl rfl (by decide) w_421 rfl dX9_worth_70 eg14 hg14 ?_
      refine g_iload_n dX9_worth_73 rfl 3 rfl ?_
      refine g_iload_n dX9_worth_74 rfl 4 rfl ?_
      refine g_iload dX9_worth_75 0 rfl ?_
      refine g_iconst (v := (nI 0)) dX9_worth_77 (by decide) ?_
      obtain ⟨v78_16, M78_15, eM78_15, h⟩ := bd_e h
      refine m_callSl (As := [.ref g14, .int x1, .int x2, .int v53_10, .int (nI 0)]) (st := [.long v66_13]) (s_X2_gained (d := d + 1) hA hg14 eM78_15) ck_X2_gained w_935 rfl (Nat.le_of_ble_eq_true rfl) dX9_worth_78 ?_
      refine g_lsub dX9_worth_81 ?_
      exact g_lret rfl (pl_of h) dX9_worth_82
    · replace h := ite_p c19 h
      refine g_aload_n dX9_worth_23 rfl 0 rfl ?_
      refine g_iconst (v := (nI 2)) dX9_worth_24 (by decide) ?_
      obtain ⟨v25_18, M25_17, eM25_17, h⟩ := bd_e h
      refine m_callVi (As := [.int (nI 2)]) (st := []) (s_X9_refused (d := d + 5) hA  eM25_17) rfl okX9 ck_X9_refused w_468 rfl (Nat.le_of_ble_eq_true rfl) dX9_worth_25 ?_
      refine g_i2l dX9_worth_28 ?_
      exact g_lret rfl (pl_of h) dX9_worth_29
  · replace h := ite_p c22 h
    refine g_aload_n dX9_worth_8 rfl 0 rfl ?_
    refine g_iconst (v := (nI 1)) dX9_worth_9 (by decide) ?_
    obtain ⟨v10_21, M10_20, eM10_20, h⟩ := bd_e h
    refine m_callVi (As := [.int (nI 1)]) (st := []) (s_X9_refused (d := d + 5) hA  eM10_20) rfl okX9 ck_X9_refused w_468 rfl (Nat.le_of_ble_eq_true rfl) dX9_worth_10 ?_
    refine g_i2l dX9_worth_13 ?_
    exact g_lret rfl (pl_of h) dX9_worth_14
theorem ck_X9_worth : CKV yX9_worth cX9_worth 5 (some .long) 2 := ⟨⟨by decide, by decide, by decide +kernel⟩, w_953, w_72, ⟨w_951, w_952⟩, by decide⟩
theorem dX9_rests_0 : decode cX9_rests 0 = .ok (.aload_n 0, 1) := by decide +kernel
theorem dX9_rests_1 : decode cX9_rests 1 = .ok (.iload_n 1, 1) := by decide +kernel
theorem dX9_rests_2 : decode cX9_rests 2 = .ok (.invokevirtual 146, 3) := by decide +kernel
theorem dX9_rests_5 : decode cX9_rests 5 = .ok (.ifCond .ne 9, 3) := by decide +kernel
theorem dX9_rests_8 : decode cX9_rests 8 = .ok (.aload_n 0, 1) := by decide +kernel
theorem dX9_rests_9 : decode cX9_rests 9 = .ok (.iconst 1, 1) := by decide +kernel
theorem dX9_rests_10 : decode cX9_rests 10 = .ok (.invokevirtual 82, 3) := by decide +kernel
theorem dX9_rests_13 : decode cX9_rests 13 = .ok (.ireturn, 1) := by decide +kernel
theorem dX9_rests_14 : decode cX9_rests 14 = .ok (.aload_n 0, 1) := by decide +kernel
theorem dX9_rests_15 : decode cX9_rests 15 = .ok (.iload_n 2, 1) := by decide +kernel
theorem dX9_rests_16 : decode cX9_rests 16 = .ok (.invokevirtual 149, 3) := by decide +kernel
theorem dX9_rests_19 : decode cX9_rests 19 = .ok (.ifCond .ne 9, 3) := by decide +kernel
theorem dX9_rests_22 : decode cX9_rests 22 = .ok (.aload_n 0, 1) := by decide +kernel
theorem dX9_rests_23 : decode cX9_rests 23 = .ok (.iconst 2, 1) := by decide +kernel
theorem dX9_rests_24 : decode cX9_rests 24 = .ok (.invokevirtual 82, 3) := by decide +kernel
theorem dX9_rests_27 : decode cX9_rests 27 = .ok (.ireturn, 1) := by decide +kernel
theorem dX9_rests_28 : decode cX9_rests 28 = .ok (.aload_n 0, 1) := by decide +kernel
theorem dX9_rests_29 : decode cX9_rests 29 = .ok (.aload_n 0, 1) := by decide +kernel
theorem dX9_rests_30 : decode cX9_rests 30 = .ok (.getfield 10, 3) := by decide +kernel
theorem dX9_rests_33 : decode cX9_rests 33 = .ok (.iload_n 1, 1) := by decide +kernel
theorem dX9_rests_34 : decode cX9_rests 34 = .ok (.iload_n 2, 1) := by decide +kernel
theorem dX9_rests_35 : decode cX9_rests 35 = .ok (.invokestatic 249, 3) := by decide +kernel
theorem dX9_rests_38 : decode cX9_rests 38 = .ok (.invokevirtual 114, 3) := by decide +kernel
theorem dX9_rests_41 : decode cX9_rests 41 = .ok (.ireturn, 1) := by decide +kernel
def f_X9_rests (x1 : Int32) (x2 : Int32) (M : Mm) : Option (Int32 × Mm) :=
  bd (f_X9_isCreeper x1 M) fun v2_2 M2_1 => if v2_2 = 0 then (bd (f_X9_refused (nI 1) M2_1) fun v10_14 M10_13 => some (v10_14, M10_13)) else (bd (f_X9_isBelowWall x2 M2_1) fun v16_4 M16_3 => if v16_4 = 0 then (bd (f_X9_refused (nI 2) M16_3) fun v24_11 M24_10 => some (v24_11, M24_10)) else (bg (M16_3 0 8) fun g5 => bd (f_X2_countRests g5 x1 x2 M16_3) fun v35_7 M35_6 => bd (f_X9_well v35_7 M35_6) fun v38_9 M38_8 => some (v38_9, M38_8)))
set_option maxHeartbeats 4000000 in
set_option maxRecDepth 100000 in
theorem s_X9_rests {l : Launch} {B : BT} (hA : bA B = false) {d : Nat} {r : Int32} {M' : Mm} {x1 : Int32} {x2 : Int32} {M : Mm}  (h : f_X9_rests x1 x2 M = some (r, M')) : Con l B LY (d + 6) yX9_rests cX9_rests 3 (some .int) 0 0 [.ref 0, .int x1, .int x2] 97 M (PI r M') := by
  refine con_of (by decide) (Nat.le_of_ble_eq_true rfl) ?_
  show GG l B LY (d + 6) yX9_rests cX9_rests 3 (some .int) 0 0 (PI r M') 97 0 0 0 [(0, .ref 0), (1, .int x1), (2, .int x2)] [] M
  rw [f_X9_rests] at h
  refine g_aload_n dX9_rests_0 rfl 0 rfl ?_
  refine g_iload_n dX9_rests_1 rfl 1 rfl ?_
  obtain ⟨v2_2, M2_1, eM2_1, h⟩ := bd_e h
  refine m_callVi (As := [.int x1]) (st := []) (s_X9_isCreeper (d := d + 5) hA  eM2_1) rfl okX9 ck_X9_isCreeper w_816 rfl (Nat.le_of_ble_eq_true rfl) dX9_rests_2 ?_
  refine g_if_ne (tgt := 14) dX9_rests_5 (by decide) (fun c15 => ?_) (fun c15 => ?_)
  · replace h := ite_n c15 h
    refine g_aload_n dX9_rests_14 rfl 0 rfl ?_
    refine g_iload_n dX9_rests_15 rfl 2 rfl ?_
    obtain ⟨v16_4, M16_3, eM16_3, h⟩ := bd_e h
    refine m_callVi (As := [.int x2]) (st := []) (s_X9_isBelowWall (d := d + 5) hA  eM16_3) rfl okX9 ck_X9_isBelowWall w_820 rfl (Nat.le_of_ble_eq_true rfl) dX9_rests_16 ?_
    refine g_if_ne (tgt := 28) dX9_rests_19 (by decide) (fun c12 => ?_) (fun c12 => ?_)
    · replace h := ite_n c12 h
      refine g_aload_n dX9_rests_28 rfl 0 rfl ?_
      refine g_aload_n dX9_rests_29 rfl 0 rfl ?_
      obtain ⟨g5, eg5, hg5, h⟩ := bg_e h
      refine m_getm (k := 8) okX9 rfl rfl (by decide) w_421 rfl dX9_rests_30 eg5 hg5 ?_
      refine g_iload_n dX9_rests_33 rfl 1 rfl ?_
      refine g_iload_n dX9_rests_34 rfl 2 rfl ?_
      obtain ⟨v35_7, M35_6, eM35_6, h⟩ := bd_e h
      refine m_callSi (As := [.ref g5, .int x1, .int x2]) (st := [.ref 0]) (s_X2_countRests (d := d + 0) hA hg5 eM35_6) ck_X2_countRests w_958 rfl (Nat.le_of_ble_eq_true rfl) dX9_rests_35 ?_
      obtain ⟨v38_9, M38_8, eM38_8, h⟩ := bd_e h
      refine m_callVi (As := [.int v35_7]) (st := []) (s_X9_well (d := d + 5) hA  eM38_8) rfl okX9 ck_X9_well w_677 rfl (Nat.le_of_ble_eq_true rfl) dX9_rests_38 ?_
      exact g_zret rfl rfl (pi_of h) dX9_rests_41
    · replace h := ite_p c12 h
      refine g_aload_n dX9_rests_22 rfl 0 rfl ?_
      refine g_iconst (v := (nI 2)) dX9_rests_23 (by decide) ?_
      obtain ⟨v24_11, M24_10, eM24_10, h⟩ := bd_e h
      refine m_callVi (As := [.int (nI 2)]) (st := []) (s_X9_refused (d := d + 5) hA  eM24_10) rfl okX9 ck_X9_refused w_468 rfl (Nat.le_of_ble_eq_true rfl) dX9_rests_24 ?_
      exact g_zret rfl rfl (pi_of h) dX9_rests_27
  · replace h := ite_p c15 h
    refine g_aload_n dX9_rests_8 rfl 0 rfl ?_
    refine g_iconst (v := (nI 1)) dX9_rests_9 (by decide) ?_
    obtain ⟨v10_14, M10_13, eM10_13, h⟩ := bd_e h
    refine m_callVi (As := [.int (nI 1)]) (st := []) (s_X9_refused (d := d + 5) hA  eM10_13) rfl okX9 ck_X9_refused w_468 rfl (Nat.le_of_ble_eq_true rfl) dX9_rests_10 ?_
    exact g_zret rfl rfl (pi_of h) dX9_rests_13
theorem ck_X9_rests : CKV yX9_rests cX9_rests 3 (some .int) 2 := ⟨⟨by decide, by decide, by decide +kernel⟩, w_957, w_72, ⟨w_955, w_956⟩, by decide⟩
theorem dX9_rest_0 : decode cX9_rest 0 = .ok (.aload_n 0, 1) := by decide +kernel
theorem dX9_rest_1 : decode cX9_rest 1 = .ok (.iload_n 1, 1) := by decide +kernel
theorem dX9_rest_2 : decode cX9_rest 2 = .ok (.invokevirtual 146, 3) := by decide +kernel
theorem dX9_rest_5 : decode cX9_rest 5 = .ok (.ifCond .ne 9, 3) := by decide +kernel
theorem dX9_rest_8 : decode cX9_rest 8 = .ok (.aload_n 0, 1) := by decide +kernel
theorem dX9_rest_9 : decode cX9_rest 9 = .ok (.iconst 1, 1) := by decide +kernel
theorem dX9_rest_10 : decode cX9_rest 10 = .ok (.invokevirtual 82, 3) := by decide +kernel
theorem dX9_rest_13 : decode cX9_rest 13 = .ok (.ireturn, 1) := by decide +kernel
theorem dX9_rest_14 : decode cX9_rest 14 = .ok (.aload_n 0, 1) := by decide +kernel
theorem dX9_rest_15 : decode cX9_rest 15 = .ok (.iload_n 2, 1) := by decide +kernel
theorem dX9_rest_16 : decode cX9_rest 16 = .ok (.invokevirtual 149, 3) := by decide +kernel
theorem dX9_rest_19 : decode cX9_rest 19 = .ok (.ifCond .ne 9, 3) := by decide +kernel
theorem dX9_rest_22 : decode cX9_rest 22 = .ok (.aload_n 0, 1) := by decide +kernel
theorem dX9_rest_23 : decode cX9_rest 23 = .ok (.iconst 2, 1) := by decide +kernel
theorem dX9_rest_24 : decode cX9_rest 24 = .ok (.invokevirtual 82, 3) := by decide +kernel
theorem dX9_rest_27 : decode cX9_rest 27 = .ok (.ireturn, 1) := by decide +kernel
theorem dX9_rest_28 : decode cX9_rest 28 = .ok (.aload_n 0, 1) := by decide +kernel
theorem dX9_rest_29 : decode cX9_rest 29 = .ok (.getfield 10, 3) := by decide +kernel
theorem dX9_rest_32 : decode cX9_rest 32 = .ok (.iload_n 1, 1) := by decide +kernel
theorem dX9_rest_33 : decode cX9_rest 33 = .ok (.iload_n 2, 1) := by decide +kernel
theorem dX9_rest_34 : decode cX9_rest 34 = .ok (.iload_n 3, 1) := by decide +kernel
theorem dX9_rest_35 : decode cX9_rest 35 = .ok (.invokestatic 253, 3) := by decide +kernel
theorem dX9_rest_38 : decode cX9_rest 38 = .ok (.istore 4, 2) := by decide +kernel
theorem dX9_rest_40 : decode cX9_rest 40 = .ok (.iload 4, 2) := by decide +kernel
theorem dX9_rest_42 : decode cX9_rest 42 = .ok (.iconst (-1), 1) := by decide +kernel
theorem dX9_rest_43 : decode cX9_rest 43 = .ok (.if_icmp .ne 11, 3) := by decide +kernel
theorem dX9_rest_46 : decode cX9_rest 46 = .ok (.aload_n 0, 1) := by decide +kernel
theorem dX9_rest_47 : decode cX9_rest 47 = .ok (.iconst 1, 1) := by decide +kernel
theorem dX9_rest_48 : decode cX9_rest 48 = .ok (.invokevirtual 82, 3) := by decide +kernel
theorem dX9_rest_51 : decode cX9_rest 51 = .ok (.goto 9, 3) := by decide +kernel
theorem dX9_rest_54 : decode cX9_rest 54 = .ok (.aload_n 0, 1) := by decide +kernel
theorem dX9_rest_55 : decode cX9_rest 55 = .ok (.iload 4, 2) := by decide +kernel
theorem dX9_rest_57 : decode cX9_rest 57 = .ok (.invokevirtual 114, 3) := by decide +kernel
theorem dX9_rest_60 : decode cX9_rest 60 = .ok (.ireturn, 1) := by decide +kernel
def f_X9_rest (x1 : Int32) (x2 : Int32) (x3 : Int32) (M : Mm) : Option (Int32 × Mm) :=
  bd (f_X9_isCreeper x1 M) fun v2_2 M2_1 => if v2_2 = 0 then (bd (f_X9_refused (nI 1) M2_1) fun v10_17 M10_16 => some (v10_17, M10_16)) else (bd (f_X9_isBelowWall x2 M2_1) fun v16_4 M16_3 => if v16_4 = 0 then (bd (f_X9_refused (nI 2) M16_3) fun v24_14 M24_13 => some (v24_14, M24_13)) else (bg (M16_3 0 8) fun g5 => bd (f_X2_restAt g5 x1 x2 x3 M16_3) fun v35_7 M35_6 => if v35_7 = (-1 : Int32) then (bd (f_X9_refused (nI 1) M35_6) fun v48_11 M48_10 => some (v48_11, M48_10)) else (bd (f_X9_well v35_7 M35_6) fun v57_9 M57_8 => some (v57_9, M57_8))))
set_option maxHeartbeats 4000000 in
set_option maxRecDepth 100000 in
theorem s_X9_rest {l : Launch} {B : BT} (hA : bA B = false) {d : Nat} {r : Int32} {M' : Mm} {x1 : Int32} {x2 : Int32} {x3 : Int32} {M : Mm}  (h : f_X9_rest x1 x2 x3 M = some (r, M')) : Con l B LY (d + 6) yX9_rest cX9_rest 5 (some .int) 0 0 [.ref 0, .int x1, .int x2, .int x3] 97 M (PI r M') := by
  refine con_of (by decide) (Nat.le_of_ble_eq_true rfl) ?_
  show GG l B LY (d + 6) yX9_rest cX9_rest 5 (some .int) 0 0 (PI r M') 97 0 0 0 [(0, .ref 0), (1, .int x1), (2, .int x2), (3, .int x3)] [] M
  rw [f_X9_rest] at h
  refine g_aload_n dX9_rest_0 rfl 0 rfl ?_
  refine g_iload_n dX9_rest_1 rfl 1 rfl ?_
  obtain ⟨v2_2, M2_1, eM2_1, h⟩ := bd_e h
  refine m_callVi (As := [.int x1]) (st := []) (s_X9_isCreeper (d := d + 5) hA  eM2_1) rfl okX9 ck_X9_isCreeper w_816 rfl (Nat.le_of_ble_eq_true rfl) dX9_rest_2 ?_
  refine g_if_ne (tgt := 14) dX9_rest_5 (by decide) (fun c18 => ?_) (fun c18 => ?_)
  · replace h := ite_n c18 h
    refine g_aload_n dX9_rest_14 rfl 0 rfl ?_
    refine g_iload_n dX9_rest_15 rfl 2 rfl ?_
    obtain ⟨v16_4, M16_3, eM16_3, h⟩ := bd_e h
    refine m_callVi (As := [.int x2]) (st := []) (s_X9_isBelowWall (d := d + 5) hA  eM16_3) rfl okX9 ck_X9_isBelowWall w_820 rfl (Nat.le_of_ble_eq_true rfl) dX9_rest_16 ?_
    refine g_if_ne (tgt := 28) dX9_rest_19 (by decide) (fun c15 => ?_) (fun c15 => ?_)
    · replace h := ite_n c15 h
      refine g_aload_n dX9_rest_28 rfl 0 rfl ?_
      obtain ⟨g5, eg5, hg5, h⟩ := bg_e h
      refine m_getm (k := 8) okX9 rfl rfl (by decide) w_421 rfl dX9_rest_29 eg5 hg5 ?_
      refine g_iload_n dX9_rest_32 rfl 1 rfl ?_
      refine g_iload_n dX9_rest_33 rfl 2 rfl ?_
      refine g_iload_n dX9_rest_34 rfl 3 rfl ?_
      obtain ⟨v35_7, M35_6, eM35_6, h⟩ := bd_e h
      refine m_callSi (As := [.ref g5, .int x1, .int x2, .int x3]) (st := []) (s_X2_restAt (d := d + 0) hA hg5 eM35_6) ck_X2_restAt w_968 rfl (Nat.le_of_ble_eq_true rfl) dX9_rest_35 ?_
      refine g_istore (lv' := [(4, .int v35_7), (0, .ref 0), (1, .int x1), (2, .int x2), (3, .int x3)]) dX9_rest_38 (by decide) rfl ?_
      refine g_iload dX9_rest_40 0 rfl ?_
      refine g_iconst (v := (-1 : Int32)) dX9_rest_42 (by decide) ?_
      refine g_icmp_ne (tgt := 54) dX9_rest_43 (by decide) (fun c12 => ?_) (fun c12 => ?_)
      · replace h := ite_n c12 h
        refine g_aload_n dX9_rest_54 rfl 1 rfl ?_
        refine g_iload dX9_rest_55 0 rfl ?_
        obtain ⟨v57_9, M57_8, eM57_8, h⟩ := bd_e h
        refine m_callVi (As := [.int v35_7]) (st := []) (s_X9_well (d := d + 5) hA  eM57_8) rfl okX9 ck_X9_well w_677 rfl (Nat.le_of_ble_eq_true rfl) dX9_rest_57 ?_
        exact g_zret rfl rfl (pi_of h) dX9_rest_60
      · replace h := ite_p c12 h
        refine g_aload_n dX9_rest_46 rfl 1 rfl ?_
        refine g_iconst (v := (nI 1)) dX9_rest_47 (by decide) ?_
        obtain ⟨v48_11, M48_10, eM48_10, h⟩ := bd_e h
        refine m_callVi (As := [.int (nI 1)]) (st := []) (s_X9_refused (d := d + 5) hA  eM48_10) rfl okX9 ck_X9_refused w_468 rfl (Nat.le_of_ble_eq_true rfl) dX9_rest_48 ?_
        refine g_goto (tgt := 60) dX9_rest_51 (by decide) ?_
        exact g_zret rfl rfl (pi_of h) dX9_rest_60
    · replace h := ite_p c15 h
      refine g_aload_n dX9_rest_22 rfl 0 rfl ?_
      refine g_iconst (v := (nI 2)) dX9_rest_23 (by decide) ?_
      obtain ⟨v24_14, M24_13, eM24_13, h⟩ := bd_e h
      refine m_callVi (As := [.int (nI 2)]) (st := []) (s_X9_refused (d := d + 5) hA  eM24_13) rfl okX9 ck_X9_refused w_468 rfl (Nat.le_of_ble_eq_true rfl) dX9_rest_24 ?_
      exact g_zret rfl rfl (pi_of h) dX9_rest_27
  · replace h := ite_p c18 h
    refine g_aload_n dX9_rest_8 rfl 0 rfl ?_
    refine g_iconst (v := (nI 1)) dX9_rest_9 (by decide) ?_
    obtain ⟨v10_17, M10_16, eM10_16, h⟩ := bd_e h
    refine m_callVi (As := [.int (nI 1)]) (st := []) (s_X9_refused (d := d + 5) hA  eM10_16) rfl okX9 ck_X9_refused w_468 rfl (Nat.le_of_ble_eq_true rfl) dX9_rest_10 ?_
    exact g_zret rfl rfl (pi_of h) dX9_rest_13
theorem ck_X9_rest : CKV yX9_rest cX9_rest 5 (some .int) 3 := ⟨⟨by decide, by decide, by decide +kernel⟩, w_967, w_72, ⟨w_965, w_966⟩, by decide⟩
theorem dX9_watch_0 : decode cX9_watch 0 = .ok (.aload_n 0, 1) := by decide +kernel
theorem dX9_watch_1 : decode cX9_watch 1 = .ok (.invokevirtual 120, 3) := by decide +kernel
theorem dX9_watch_4 : decode cX9_watch 4 = .ok (.ifCond .ne 9, 3) := by decide +kernel
theorem dX9_watch_7 : decode cX9_watch 7 = .ok (.aload_n 0, 1) := by decide +kernel
theorem dX9_watch_8 : decode cX9_watch 8 = .ok (.iconst 1, 1) := by decide +kernel
theorem dX9_watch_9 : decode cX9_watch 9 = .ok (.invokevirtual 82, 3) := by decide +kernel
theorem dX9_watch_12 : decode cX9_watch 12 = .ok (.ireturn, 1) := by decide +kernel
theorem dX9_watch_13 : decode cX9_watch 13 = .ok (.aload_n 0, 1) := by decide +kernel
theorem dX9_watch_14 : decode cX9_watch 14 = .ok (.aload_n 0, 1) := by decide +kernel
theorem dX9_watch_15 : decode cX9_watch 15 = .ok (.getfield 10, 3) := by decide +kernel
theorem dX9_watch_18 : decode cX9_watch 18 = .ok (.aload_n 0, 1) := by decide +kernel
theorem dX9_watch_19 : decode cX9_watch 19 = .ok (.getfield 38, 3) := by decide +kernel
theorem dX9_watch_22 : decode cX9_watch 22 = .ok (.invokestatic 257, 3) := by decide +kernel
theorem dX9_watch_25 : decode cX9_watch 25 = .ok (.invokevirtual 114, 3) := by decide +kernel
theorem dX9_watch_28 : decode cX9_watch 28 = .ok (.ireturn, 1) := by decide +kernel
def f_X9_watch  (M : Mm) : Option (Int32 × Mm) :=
  bd (f_X9_hasGame  M) fun v1_2 M1_1 => if v1_2 = 0 then (bd (f_X9_refused (nI 1) M1_1) fun v9_9 M9_8 => some (v9_9, M9_8)) else (bg (M1_1 0 8) fun g3 => bd (f_X2_watched g3 20 M1_1) fun v22_5 M22_4 => bd (f_X9_well v22_5 M22_4) fun v25_7 M25_6 => some (v25_7, M25_6))
set_option maxHeartbeats 4000000 in
set_option maxRecDepth 100000 in
theorem s_X9_watch {l : Launch} {B : BT} (hA : bA B = false) {d : Nat} {r : Int32} {M' : Mm}  {M : Mm}  (h : f_X9_watch  M = some (r, M')) : Con l B LY (d + 6) yX9_watch cX9_watch 1 (some .int) 0 0 [.ref 0] 97 M (PI r M') := by
  refine con_of (by decide) (Nat.le_of_ble_eq_true rfl) ?_
  show GG l B LY (d + 6) yX9_watch cX9_watch 1 (some .int) 0 0 (PI r M') 97 0 0 0 [(0, .ref 0)] [] M
  rw [f_X9_watch] at h
  refine g_aload_n dX9_watch_0 rfl 0 rfl ?_
  obtain ⟨v1_2, M1_1, eM1_1, h⟩ := bd_e h
  refine m_callVi (As := []) (st := []) (s_X9_hasGame (d := d + 5) hA  eM1_1) rfl okX9 ck_X9_hasGame w_693 rfl (Nat.le_of_ble_eq_true rfl) dX9_watch_1 ?_
  refine g_if_ne (tgt := 13) dX9_watch_4 (by decide) (fun c10 => ?_) (fun c10 => ?_)
  · replace h := ite_n c10 h
    refine g_aload_n dX9_watch_13 rfl 0 rfl ?_
    refine g_aload_n dX9_watch_14 rfl 0 rfl ?_
    obtain ⟨g3, eg3, hg3, h⟩ := bg_e h
    refine m_getm (k := 8) okX9 rfl rfl (by decide) w_421 rfl dX9_watch_15 eg3 hg3 ?_
    refine g_aload_n dX9_watch_18 rfl 0 rfl ?_
    refine m_geta (k := 2) okX9 rfl rfl (by decide) w_415 rfl dX9_watch_19 ?_
    obtain ⟨v22_5, M22_4, eM22_4, h⟩ := bd_e h
    refine m_callSi (As := [.ref g3, .ref 20]) (st := [.ref 0]) (s_X2_watched (d := d + 0) hA hg3 rfl eM22_4) ck_X2_watched w_975 rfl (Nat.le_of_ble_eq_true rfl) dX9_watch_22 ?_
    obtain ⟨v25_7, M25_6, eM25_6, h⟩ := bd_e h
    refine m_callVi (As := [.int v22_5]) (st := []) (s_X9_well (d := d + 5) hA  eM25_6) rfl okX9 ck_X9_well w_677 rfl (Nat.le_of_ble_eq_true rfl) dX9_watch_25 ?_
    exact g_zret rfl rfl (pi_of h) dX9_watch_28
  · replace h := ite_p c10 h
    refine g_aload_n dX9_watch_7 rfl 0 rfl ?_
    refine g_iconst (v := (nI 1)) dX9_watch_8 (by decide) ?_
    obtain ⟨v9_9, M9_8, eM9_8, h⟩ := bd_e h
    refine m_callVi (As := [.int (nI 1)]) (st := []) (s_X9_refused (d := d + 5) hA  eM9_8) rfl okX9 ck_X9_refused w_468 rfl (Nat.le_of_ble_eq_true rfl) dX9_watch_9 ?_
    exact g_zret rfl rfl (pi_of h) dX9_watch_12
theorem ck_X9_watch : CKV yX9_watch cX9_watch 1 (some .int) 0 := ⟨⟨by decide, by decide, by decide +kernel⟩, w_974, w_72, ⟨w_972, w_973⟩, by decide⟩
theorem dX9_both_0 : decode cX9_both 0 = .ok (.aload_n 0, 1) := by decide +kernel
theorem dX9_both_1 : decode cX9_both 1 = .ok (.invokevirtual 120, 3) := by decide +kernel
theorem dX9_both_4 : decode cX9_both 4 = .ok (.ifCond .ne 10, 3) := by decide +kernel
theorem dX9_both_7 : decode cX9_both 7 = .ok (.aload_n 0, 1) := by decide +kernel
theorem dX9_both_8 : decode cX9_both 8 = .ok (.iconst 1, 1) := by decide +kernel
theorem dX9_both_9 : decode cX9_both 9 = .ok (.invokevirtual 82, 3) := by decide +kernel
theorem dX9_both_12 : decode cX9_both 12 = .ok (.i2l, 1) := by decide +kernel
theorem dX9_both_13 : decode cX9_both 13 = .ok (.lreturn, 1) := by decide +kernel
theorem dX9_both_14 : decode cX9_both 14 = .ok (.iload_n 1, 1) := by decide +kernel
theorem dX9_both_15 : decode cX9_both 15 = .ok (.ifCond .lt 14, 3) := by decide +kernel
theorem dX9_both_18 : decode cX9_both 18 = .ok (.iload_n 1, 1) := by decide +kernel
theorem dX9_both_19 : decode cX9_both 19 = .ok (.aload_n 0, 1) := by decide +kernel
theorem dX9_both_20 : decode cX9_both 20 = .ok (.getfield 10, 3) := by decide +kernel
theorem dX9_both_23 : decode cX9_both 23 = .ok (.getfield 219, 3) := by decide +kernel
theorem dX9_both_26 : decode cX9_both 26 = .ok (.if_icmp .le 10, 3) := by decide +kernel
theorem dX9_both_29 : decode cX9_both 29 = .ok (.aload_n 0, 1) := by decide +kernel
theorem dX9_both_30 : decode cX9_both 30 = .ok (.iconst 2, 1) := by decide +kernel
theorem dX9_both_31 : decode cX9_both 31 = .ok (.invokevirtual 82, 3) := by decide +kernel
theorem dX9_both_34 : decode cX9_both 34 = .ok (.i2l, 1) := by decide +kernel
theorem dX9_both_35 : decode cX9_both 35 = .ok (.lreturn, 1) := by decide +kernel
theorem dX9_both_36 : decode cX9_both 36 = .ok (.aload_n 0, 1) := by decide +kernel
theorem dX9_both_37 : decode cX9_both 37 = .ok (.iconst 0, 1) := by decide +kernel
theorem dX9_both_38 : decode cX9_both 38 = .ok (.putfield 117, 3) := by decide +kernel
theorem dX9_both_41 : decode cX9_both 41 = .ok (.aload_n 0, 1) := by decide +kernel
theorem dX9_both_42 : decode cX9_both 42 = .ok (.getfield 10, 3) := by decide +kernel
theorem dX9_both_45 : decode cX9_both 45 = .ok (.iload_n 1, 1) := by decide +kernel
theorem dX9_both_46 : decode cX9_both 46 = .ok (.invokestatic 261, 3) := by decide +kernel
theorem dX9_both_49 : decode cX9_both 49 = .ok (.lstore_n 2, 1) := by decide +kernel
theorem dX9_both_50 : decode cX9_both 50 = .ok (.lload_n 2, 1) := by decide +kernel
theorem dX9_both_51 : decode cX9_both 51 = .ok (.lload_n 2, 1) := by decide +kernel
theorem dX9_both_52 : decode cX9_both 52 = .ok (.lmul, 1) := by decide +kernel
theorem dX9_both_53 : decode cX9_both 53 = .ok (.lreturn, 1) := by decide +kernel
def f_X9_both (x1 : Int32) (M : Mm) : Option (Int64 × Mm) :=
  bd (f_X9_hasGame  M) fun v1_2 M1_1 => if v1_2 = 0 then (bd (f_X9_refused (nI 1) M1_1) fun v9_14 M9_13 => some (v9_14.toInt64, M9_13)) else (jn (fun (M3 : Mm) => bd (f_X9_refused (nI 2) M3) fun v31_6 M31_5 => some (v31_6.toInt64, M31_5)) fun j4 => if x1 < 0 then (j4  M1_1) else (bg (M1_1 0 8) fun g7 => if x1 ≤ (M1_1 g7 9) then (bg ((mset M1_1 0 11 (nI 0)) 0 8) fun g8 => bd (f_X2_waysUnturned g8 x1 (mset M1_1 0 11 (nI 0))) fun v46_10 M46_9 => some ((v46_10 * v46_10), M46_9)) else (j4  M1_1)))
set_option maxHeartbeats 4000000 in
set_option maxRecDepth 100000 in
theorem s_X9_both {l : Launch} {B : BT} (hA : bA B = false) {d : Nat} {r : Int64} {M' : Mm} {x1 : Int32} {M : Mm}  (h : f_X9_both x1 M = some (r, M')) : Con l B LY (d + 2) yX9_both cX9_both 4 (some .long) 0 0 [.ref 0, .int x1] 97 M (PL r M') := by
  refine con_of (by decide) (Nat.le_of_ble_eq_true rfl) ?_
  show GG l B LY (d + 2) yX9_both cX9_both 4 (some .long) 0 0 (PL r M') 97 0 0 0 [(0, .ref 0), (1, .int x1)] [] M
  rw [f_X9_both] at h
  refine g_aload_n dX9_both_0 rfl 0 rfl ?_
  obtain ⟨v1_2, M1_1, eM1_1, h⟩ := bd_e h
  refine m_callVi (As := []) (st := []) (s_X9_hasGame (d := d + 1) hA  eM1_1) rfl okX9 ck_X9_hasGame w_693 rfl (Nat.le_of_ble_eq_true rfl) dX9_both_1 ?_
  refine g_if_ne (tgt := 14) dX9_both_4 (by decide) (fun c15 => ?_) (fun c15 => ?_)
  · replace h := ite_n c15 h
    refine g_iload_n dX9_both_14 rfl 1 rfl ?_
    obtain ⟨j4, ej4, h⟩ := jn_e h
    have hj4 : ∀ (M3 : Mm), j4 M3 = some (r, M') → GG l B LY (d + 2) yX9_both cX9_both 4 (some .long) 0 0 (PL r M') 97 0 0 29 [(0, .ref 0)] [] M3 := by
      intro M3 h
      rw [ej4] at h
      refine g_aload_n dX9_both_29 rfl 0 rfl ?_
      refine g_iconst (v := (nI 2)) dX9_both_30 (by decide) ?_
      obtain ⟨v31_6, M31_5, eM31_5, h⟩ := bd_e h
      refine m_callVi (As := [.int (nI 2)]) (st := []) (s_X9_refused (d := d + 1) hA  eM31_5) rfl okX9 ck_X9_refused w_468 rfl (Nat.le_of_ble_eq_true rfl) dX9_both_31 ?_
      refine g_i2l dX9_both_34 ?_
      exact g_lret rfl (pl_of h) dX9_both_35
    refine g_if_lt (tgt := 29) dX9_both_15 (by decide) (fun c12 => ?_) (fun c12 => ?_)
    · replace h := ite_p c12 h
      refine g_sub [0] (lv' := [(0, .ref 0)]) rfl ?_
      exact hj4  _ h
    · replace h := ite_n c12 h
      refine g_iload_n dX9_both_18 rfl 1 rfl ?_
      refine g_aload_n dX9_both_19 rfl 0 rfl ?_
      obtain ⟨g7, eg7, hg7, h⟩ := bg_e h
      refine m_getm (k := 8) okX9 rfl rfl (by decide) w_421 rfl dX9_both_20 eg7 hg7 ?_
      refine m_geti (k := 9) okX0 hg7 rfl (by decide) w_137 rfl dX9_both_23 ?_
      refine g_icmp_le (tgt := 36) dX9_both_26 (by decide) (fun c11 => ?_) (fun c11 => ?_)
      · replace h := ite_p c11 h
        refine g_aload_n dX9_both_36 rfl 0 rfl ?_
        refine g_iconst (v := (nI 0)) dX9_both_37 (by decide) ?_
        refine m_puti (k := 11) okX9 rfl rfl (by decide) w_424 rfl rfl rfl dX9_both_38 ?_
        refine g_aload_n dX9_both_41 rfl 0 rfl ?_
        obtain ⟨g8, eg8, hg8, h⟩ := bg_e h
        refine m_getm (k := 8) okX9 rfl rfl (by decide) w_421 rfl dX9_both_42 eg8 hg8 ?_
        refine g_iload_n dX9_both_45 rfl 1 rfl ?_
        obtain ⟨v46_10, M46_9, eM46_9, h⟩ := bd_e h
        refine m_callSl (As := [.ref g8, .int x1]) (st := []) (s_X2_waysUnturned (d := d + 0) hA hg8 eM46_9) ck_X2_waysUnturned w_1000 rfl (Nat.le_of_ble_eq_true rfl) dX9_both_46 ?_
        refine g_lstore_n (lv' := [(2, .long v46_10), (0, .ref 0), (1, .int x1)]) dX9_both_49 rfl (by decide) rfl ?_
        refine g_lload_n dX9_both_50 rfl 0 rfl ?_
        refine g_lload_n dX9_both_51 rfl 0 rfl ?_
        refine g_lmul dX9_both_52 ?_
        exact g_lret rfl (pl_of h) dX9_both_53
      · replace h := ite_n c11 h
        refine g_sub [0] (lv' := [(0, .ref 0)]) rfl ?_
        exact hj4  _ h
  · replace h := ite_p c15 h
    refine g_aload_n dX9_both_7 rfl 0 rfl ?_
    refine g_iconst (v := (nI 1)) dX9_both_8 (by decide) ?_
    obtain ⟨v9_14, M9_13, eM9_13, h⟩ := bd_e h
    refine m_callVi (As := [.int (nI 1)]) (st := []) (s_X9_refused (d := d + 1) hA  eM9_13) rfl okX9 ck_X9_refused w_468 rfl (Nat.le_of_ble_eq_true rfl) dX9_both_9 ?_
    refine g_i2l dX9_both_12 ?_
    exact g_lret rfl (pl_of h) dX9_both_13
theorem ck_X9_both : CKV yX9_both cX9_both 4 (some .long) 1 := ⟨⟨by decide, by decide, by decide +kernel⟩, w_999, w_72, ⟨w_997, w_998⟩, by decide⟩
theorem dX9_arePlays_0 : decode cX9_arePlays 0 = .ok (.iload_n 0, 1) := by decide +kernel
theorem dX9_arePlays_1 : decode cX9_arePlays 1 = .ok (.iconst 1, 1) := by decide +kernel
theorem dX9_arePlays_2 : decode cX9_arePlays 2 = .ok (.if_icmp .lt 25, 3) := by decide +kernel
theorem dX9_arePlays_5 : decode cX9_arePlays 5 = .ok (.iload_n 0, 1) := by decide +kernel
theorem dX9_arePlays_6 : decode cX9_arePlays 6 = .ok (.bipush 20, 2) := by decide +kernel
theorem dX9_arePlays_8 : decode cX9_arePlays 8 = .ok (.if_icmp .gt 19, 3) := by decide +kernel
theorem dX9_arePlays_11 : decode cX9_arePlays 11 = .ok (.iload_n 1, 1) := by decide +kernel
theorem dX9_arePlays_12 : decode cX9_arePlays 12 = .ok (.iconst 1, 1) := by decide +kernel
theorem dX9_arePlays_13 : decode cX9_arePlays 13 = .ok (.if_icmp .lt 14, 3) := by decide +kernel
theorem dX9_arePlays_16 : decode cX9_arePlays 16 = .ok (.iload_n 1, 1) := by decide +kernel
theorem dX9_arePlays_17 : decode cX9_arePlays 17 = .ok (.sipush 999, 3) := by decide +kernel
theorem dX9_arePlays_20 : decode cX9_arePlays 20 = .ok (.if_icmp .gt 7, 3) := by decide +kernel
theorem dX9_arePlays_23 : decode cX9_arePlays 23 = .ok (.iconst 1, 1) := by decide +kernel
theorem dX9_arePlays_24 : decode cX9_arePlays 24 = .ok (.goto 4, 3) := by decide +kernel
theorem dX9_arePlays_27 : decode cX9_arePlays 27 = .ok (.iconst 0, 1) := by decide +kernel
theorem dX9_arePlays_28 : decode cX9_arePlays 28 = .ok (.ireturn, 1) := by decide +kernel
def f_X9_arePlays (x0 : Int32) (x1 : Int32) (M : Mm) : Option (Int32 × Mm) :=
  jn (fun (M1 : Mm) => some ((nI 0), M1)) fun j2 => if x0 < (nI 1) then (j2  M) else (if (nI 20) < x0 then (j2  M) else (if x1 < (nI 1) then (j2  M) else (if (nI 999) < x1 then (j2  M) else (some ((nI 1), M)))))
set_option maxHeartbeats 4000000 in
set_option maxRecDepth 100000 in
theorem s_X9_arePlays {l : Launch} {B : BT} (hA : bA B = false) {d : Nat} {r : Int32} {M' : Mm} {x0 : Int32} {x1 : Int32} {M : Mm}  (h : f_X9_arePlays x0 x1 M = some (r, M')) : Con l B LY (d + 0) yX9_arePlays cX9_arePlays 2 (some .boolean) 0 0 [.int x0, .int x1] 97 M (PI r M') := by
  refine con_of (by decide) (Nat.le_of_ble_eq_true rfl) ?_
  show GG l B LY (d + 0) yX9_arePlays cX9_arePlays 2 (some .boolean) 0 0 (PI r M') 97 0 0 0 [(0, .int x0), (1, .int x1)] [] M
  rw [f_X9_arePlays] at h
  refine g_iload_n dX9_arePlays_0 rfl 0 rfl ?_
  refine g_iconst (v := (nI 1)) dX9_arePlays_1 (by decide) ?_
  obtain ⟨j2, ej2, h⟩ := jn_e h
  have hj2 : ∀ (M1 : Mm), j2 M1 = some (r, M') → GG l B LY (d + 0) yX9_arePlays cX9_arePlays 2 (some .boolean) 0 0 (PI r M') 97 0 0 27 [] [] M1 := by
    intro M1 h
    rw [ej2] at h
    refine g_iconst (v := (nI 0)) dX9_arePlays_27 (by decide) ?_
    exact g_zret rfl rfl (pi_of h) dX9_arePlays_28
  refine g_icmp_lt (tgt := 27) dX9_arePlays_2 (by decide) (fun c6 => ?_) (fun c6 => ?_)
  · replace h := ite_p c6 h
    refine g_sub [] (lv' := []) rfl ?_
    exact hj2  _ h
  · replace h := ite_n c6 h
    refine g_iload_n dX9_arePlays_5 rfl 0 rfl ?_
    refine g_bipush (v := (nI 20)) dX9_arePlays_6 (by decide) ?_
    refine g_icmp_gt (tgt := 27) dX9_arePlays_8 (by decide) (fun c5 => ?_) (fun c5 => ?_)
    · replace h := ite_p c5 h
      refine g_sub [] (lv' := []) rfl ?_
      exact hj2  _ h
    · replace h := ite_n c5 h
      refine g_iload_n dX9_arePlays_11 rfl 1 rfl ?_
      refine g_iconst (v := (nI 1)) dX9_arePlays_12 (by decide) ?_
      refine g_icmp_lt (tgt := 27) dX9_arePlays_13 (by decide) (fun c4 => ?_) (fun c4 => ?_)
      · replace h := ite_p c4 h
        refine g_sub [] (lv' := []) rfl ?_
        exact hj2  _ h
      · replace h := ite_n c4 h
        refine g_iload_n dX9_arePlays_16 rfl 1 rfl ?_
        refine g_sipush (v := (nI 999)) dX9_arePlays_17 (by decide) ?_
        refine g_icmp_gt (tgt := 27) dX9_arePlays_20 (by decide) (fun c3 => ?_) (fun c3 => ?_)
        · replace h := ite_p c3 h
          refine g_sub [] (lv' := []) rfl ?_
          exact hj2  _ h
        · replace h := ite_n c3 h
          refine g_iconst (v := (nI 1)) dX9_arePlays_23 (by decide) ?_
          refine g_goto (tgt := 28) dX9_arePlays_24 (by decide) ?_
          exact g_zret rfl rfl (pi_of h) dX9_arePlays_28
theorem ck_X9_arePlays : CKS yX9_arePlays cX9_arePlays 2 (some .boolean) 2 := ⟨⟨by decide, by decide, by decide +kernel⟩, w_1007, w_72, w_1006, by decide⟩
theorem dX9_wins_0 : decode cX9_wins 0 = .ok (.aload_n 0, 1) := by decide +kernel
theorem dX9_wins_1 : decode cX9_wins 1 = .ok (.iload_n 1, 1) := by decide +kernel
theorem dX9_wins_2 : decode cX9_wins 2 = .ok (.invokevirtual 146, 3) := by decide +kernel
theorem dX9_wins_5 : decode cX9_wins 5 = .ok (.ifCond .ne 9, 3) := by decide +kernel
theorem dX9_wins_8 : decode cX9_wins 8 = .ok (.aload_n 0, 1) := by decide +kernel
theorem dX9_wins_9 : decode cX9_wins 9 = .ok (.iconst 1, 1) := by decide +kernel
theorem dX9_wins_10 : decode cX9_wins 10 = .ok (.invokevirtual 82, 3) := by decide +kernel
theorem dX9_wins_13 : decode cX9_wins 13 = .ok (.ireturn, 1) := by decide +kernel
theorem dX9_wins_14 : decode cX9_wins 14 = .ok (.iload_n 2, 1) := by decide +kernel
theorem dX9_wins_15 : decode cX9_wins 15 = .ok (.iload_n 3, 1) := by decide +kernel
theorem dX9_wins_16 : decode cX9_wins 16 = .ok (.invokestatic 264, 3) := by decide +kernel
theorem dX9_wins_19 : decode cX9_wins 19 = .ok (.ifCond .ne 9, 3) := by decide +kernel
theorem dX9_wins_22 : decode cX9_wins 22 = .ok (.aload_n 0, 1) := by decide +kernel
theorem dX9_wins_23 : decode cX9_wins 23 = .ok (.iconst 2, 1) := by decide +kernel
theorem dX9_wins_24 : decode cX9_wins 24 = .ok (.invokevirtual 82, 3) := by decide +kernel
theorem dX9_wins_27 : decode cX9_wins 27 = .ok (.ireturn, 1) := by decide +kernel
theorem dX9_wins_28 : decode cX9_wins 28 = .ok (.aload_n 0, 1) := by decide +kernel
theorem dX9_wins_29 : decode cX9_wins 29 = .ok (.getfield 49, 3) := by decide +kernel
theorem dX9_wins_32 : decode cX9_wins 32 = .ok (.aload_n 0, 1) := by decide +kernel
theorem dX9_wins_33 : decode cX9_wins 33 = .ok (.getfield 10, 3) := by decide +kernel
theorem dX9_wins_36 : decode cX9_wins 36 = .ok (.aload_n 0, 1) := by decide +kernel
theorem dX9_wins_37 : decode cX9_wins 37 = .ok (.getfield 38, 3) := by decide +kernel
theorem dX9_wins_40 : decode cX9_wins 40 = .ok (.getfield 267, 3) := by decide +kernel
theorem dX9_wins_43 : decode cX9_wins 43 = .ok (.iload_n 2, 1) := by decide +kernel
theorem dX9_wins_44 : decode cX9_wins 44 = .ok (.iload_n 3, 1) := by decide +kernel
theorem dX9_wins_45 : decode cX9_wins 45 = .ok (.aload_n 0, 1) := by decide +kernel
theorem dX9_wins_46 : decode cX9_wins 46 = .ok (.getfield 10, 3) := by decide +kernel
theorem dX9_wins_49 : decode cX9_wins 49 = .ok (.invokevirtual 135, 3) := by decide +kernel
theorem dX9_wins_52 : decode cX9_wins 52 = .ok (.invokevirtual 270, 3) := by decide +kernel
theorem dX9_wins_55 : decode cX9_wins 55 = .ok (.aload_n 0, 1) := by decide +kernel
theorem dX9_wins_56 : decode cX9_wins 56 = .ok (.aload_n 0, 1) := by decide +kernel
theorem dX9_wins_57 : decode cX9_wins 57 = .ok (.getfield 49, 3) := by decide +kernel
theorem dX9_wins_60 : decode cX9_wins 60 = .ok (.getfield 274, 3) := by decide +kernel
theorem dX9_wins_63 : decode cX9_wins 63 = .ok (.iload_n 1, 1) := by decide +kernel
theorem dX9_wins_64 : decode cX9_wins 64 = .ok (.invokestatic 166, 3) := by decide +kernel
theorem dX9_wins_67 : decode cX9_wins 67 = .ok (.invokevirtual 114, 3) := by decide +kernel
theorem dX9_wins_70 : decode cX9_wins 70 = .ok (.ireturn, 1) := by decide +kernel
def f_X9_wins (x1 : Int32) (x2 : Int32) (x3 : Int32) (M : Mm) : Option (Int32 × Mm) :=
  bd (f_X9_isCreeper x1 M) fun v2_2 M2_1 => if v2_2 = 0 then (bd (f_X9_refused (nI 1) M2_1) fun v10_19 M10_18 => some (v10_19, M10_18)) else (bd (f_X9_arePlays x2 x3 M2_1) fun v16_4 M16_3 => if v16_4 = 0 then (bd (f_X9_refused (nI 2) M16_3) fun v24_16 M24_15 => some (v24_16, M24_15)) else (bg (M16_3 0 8) fun g5 => bg (M16_3 0 8) fun g6 => bd (f_X0_eyes g6 M16_3) fun v49_8 M49_7 => bv (f_X4_run g5 (M16_3 20 9) x2 x3 v49_8 M49_7) fun M52_9 => bd (f_X9_at 72 x1 M52_9) fun v64_12 M64_11 => bd (f_X9_well v64_12 M64_11) fun v67_14 M67_13 => some (v67_14, M67_13)))
set_option maxHeartbeats 4000000 in
set_option maxRecDepth 100000 in
theorem s_X9_wins {l : Launch} {B : BT} (hA : bA B = false) {d : Nat} {r : Int32} {M' : Mm} {x1 : Int32} {x2 : Int32} {x3 : Int32} {M : Mm}  (h : f_X9_wins x1 x2 x3 M = some (r, M')) : Con l B LY (d + 6) yX9_wins cX9_wins 4 (some .int) 0 0 [.ref 0, .int x1, .int x2, .int x3] 97 M (PI r M') := by
  refine con_of (by decide) (Nat.le_of_ble_eq_true rfl) ?_
  show GG l B LY (d + 6) yX9_wins cX9_wins 4 (some .int) 0 0 (PI r M') 97 0 0 0 [(0, .ref 0), (1, .int x1), (2, .int x2), (3, .int x3)] [] M
  rw [f_X9_wins] at h
  refine g_aload_n dX9_wins_0 rfl 0 rfl ?_
  refine g_iload_n dX9_wins_1 rfl 1 rfl ?_
  obtain ⟨v2_2, M2_1, eM2_1, h⟩ := bd_e h
  refine m_callVi (As := [.int x1]) (st := []) (s_X9_isCreeper (d := d + 5) hA  eM2_1) rfl okX9 ck_X9_isCreeper w_816 rfl (Nat.le_of_ble_eq_true rfl) dX9_wins_2 ?_
  refine g_if_ne (tgt := 14) dX9_wins_5 (by decide) (fun c20 => ?_) (fun c20 => ?_)
  · replace h := ite_n c20 h
    refine g_iload_n dX9_wins_14 rfl 2 rfl ?_
    refine g_iload_n dX9_wins_15 rfl 3 rfl ?_
    obtain ⟨v16_4, M16_3, eM16_3, h⟩ := bd_e h
    refine m_callSi (As := [.int x2, .int x3]) (st := []) (s_X9_arePlays (d := d + 5) hA  eM16_3) ck_X9_arePlays w_1005 rfl (Nat.le_of_ble_eq_true rfl) dX9_wins_16 ?_
    refine g_if_ne (tgt := 28) dX9_wins_19 (by decide) (fun c17 => ?_) (fun c17 => ?_)
    · replace h := ite_n c17 h
      refine g_aload_n dX9_wins_28 rfl 0 rfl ?_
      refine m_geta (k := 4) okX9 rfl rfl (by decide) w_417 rfl dX9_wins_29 ?_
      refine g_aload_n dX9_wins_32 rfl 0 rfl ?_
      obtain ⟨g5, eg5, hg5, h⟩ := bg_e h
      refine m_getm (k := 8) okX9 rfl rfl (by decide) w_421 rfl dX9_wins_33 eg5 hg5 ?_
      refine g_aload_n dX9_wins_36 rfl 0 rfl ?_
      refine m_geta (k := 2) okX9 rfl rfl (by decide) w_415 rfl dX9_wins_37 ?_
      refine m_geti (k := 9) okX3 rfl rfl (by decide) w_279 rfl dX9_wins_40 ?_
      refine g_iload_n dX9_wins_43 rfl 2 rfl ?_
      refine g_iload_n dX9_wins_44 rfl 3 rfl ?_
      refine g_aload_n dX9_wins_45 rfl 0 rfl ?_
      obtain ⟨g6, eg6, hg6, h⟩ := bg_e h
      refine m_getm (k := 8) okX9 rfl rfl (by decide) w_421 rfl dX9_wins_46 eg6 hg6 ?_
      obtain ⟨v49_8, M49_7, eM49_7, h⟩ := bd_e h
      refine m_callVi (As := []) (st := [.int x3, .int x2, .int (M16_3 20 9), .ref g5, .ref 61]) (s_X0_eyes (d := d + 4) hA hg6 eM49_7) hg6 okX0 ck_X0_eyes w_714 rfl (Nat.le_of_ble_eq_true rfl) dX9_wins_49 ?_
      obtain ⟨M52_9, eM52_9, h⟩ := bv_e h
      refine m_callVv (As := [.ref g5, .int (M16_3 20 9), .int x2, .int x3, .int v49_8]) (st := []) (s_X4_run (d := d + 0) hA hg5 eM52_9) rfl okX4 ck_X4_run w_1008 rfl (Nat.le_of_ble_eq_true rfl) dX9_wins_52 ?_
      refine g_aload_n dX9_wins_55 rfl 0 rfl ?_
      refine g_aload_n dX9_wins_56 rfl 0 rfl ?_
      refine m_geta (k := 4) okX9 rfl rfl (by decide) w_417 rfl dX9_wins_57 ?_
      refine m_getr (k := 1) okX4 rfl rfl (by decide) w_334 rfl dX9_wins_60 ?_
      refine g_iload_n dX9_wins_63 rfl 1 rfl ?_
      obtain ⟨v64_12, M64_11, eM64_11, h⟩ := bd_e h
      refine m_callSi (As := [.ref 72, .int x1]) (st := [.ref 0]) (s_X9_at (d := d + 5) hA (al_of rfl) eM64_11) ck_X9_at w_605 rfl (Nat.le_of_ble_eq_true rfl) dX9_wins_64 ?_
      obtain ⟨v67_14, M67_13, eM67_13, h⟩ := bd_e h
      refine m_callVi (As := [.int v64_12]) (st := []) (s_X9_well (d := d + 5) hA  eM67_13) rfl okX9 ck_X9_well w_677 rfl (Nat.le_of_ble_eq_true rfl) dX9_wins_67 ?_
      exact g_zret rfl rfl (pi_of h) dX9_wins_70
    · replace h := ite_p c17 h
      refine g_aload_n dX9_wins_22 rfl 0 rfl ?_
      refine g_iconst (v := (nI 2)) dX9_wins_23 (by decide) ?_
      obtain ⟨v24_16, M24_15, eM24_15, h⟩ := bd_e h
      refine m_callVi (As := [.int (nI 2)]) (st := []) (s_X9_refused (d := d + 5) hA  eM24_15) rfl okX9 ck_X9_refused w_468 rfl (Nat.le_of_ble_eq_true rfl) dX9_wins_24 ?_
      exact g_zret rfl rfl (pi_of h) dX9_wins_27
  · replace h := ite_p c20 h
    refine g_aload_n dX9_wins_8 rfl 0 rfl ?_
    refine g_iconst (v := (nI 1)) dX9_wins_9 (by decide) ?_
    obtain ⟨v10_19, M10_18, eM10_18, h⟩ := bd_e h
    refine m_callVi (As := [.int (nI 1)]) (st := []) (s_X9_refused (d := d + 5) hA  eM10_18) rfl okX9 ck_X9_refused w_468 rfl (Nat.le_of_ble_eq_true rfl) dX9_wins_10 ?_
    exact g_zret rfl rfl (pi_of h) dX9_wins_13
theorem ck_X9_wins : CKV yX9_wins cX9_wins 4 (some .int) 3 := ⟨⟨by decide, by decide, by decide +kernel⟩, w_1004, w_72, ⟨w_1002, w_1003⟩, by decide⟩
theorem dX9_lasts_0 : decode cX9_lasts 0 = .ok (.aload_n 0, 1) := by decide +kernel
theorem dX9_lasts_1 : decode cX9_lasts 1 = .ok (.invokevirtual 120, 3) := by decide +kernel
theorem dX9_lasts_4 : decode cX9_lasts 4 = .ok (.ifCond .ne 9, 3) := by decide +kernel
theorem dX9_lasts_7 : decode cX9_lasts 7 = .ok (.aload_n 0, 1) := by decide +kernel
theorem dX9_lasts_8 : decode cX9_lasts 8 = .ok (.iconst 1, 1) := by decide +kernel
theorem dX9_lasts_9 : decode cX9_lasts 9 = .ok (.invokevirtual 82, 3) := by decide +kernel
theorem dX9_lasts_12 : decode cX9_lasts 12 = .ok (.ireturn, 1) := by decide +kernel
theorem dX9_lasts_13 : decode cX9_lasts 13 = .ok (.iload_n 1, 1) := by decide +kernel
theorem dX9_lasts_14 : decode cX9_lasts 14 = .ok (.iload_n 2, 1) := by decide +kernel
theorem dX9_lasts_15 : decode cX9_lasts 15 = .ok (.invokestatic 264, 3) := by decide +kernel
theorem dX9_lasts_18 : decode cX9_lasts 18 = .ok (.ifCond .ne 9, 3) := by decide +kernel
theorem dX9_lasts_21 : decode cX9_lasts 21 = .ok (.aload_n 0, 1) := by decide +kernel
theorem dX9_lasts_22 : decode cX9_lasts 22 = .ok (.iconst 2, 1) := by decide +kernel
theorem dX9_lasts_23 : decode cX9_lasts 23 = .ok (.invokevirtual 82, 3) := by decide +kernel
theorem dX9_lasts_26 : decode cX9_lasts 26 = .ok (.ireturn, 1) := by decide +kernel
theorem dX9_lasts_27 : decode cX9_lasts 27 = .ok (.aload_n 0, 1) := by decide +kernel
theorem dX9_lasts_28 : decode cX9_lasts 28 = .ok (.getfield 49, 3) := by decide +kernel
theorem dX9_lasts_31 : decode cX9_lasts 31 = .ok (.aload_n 0, 1) := by decide +kernel
theorem dX9_lasts_32 : decode cX9_lasts 32 = .ok (.getfield 10, 3) := by decide +kernel
theorem dX9_lasts_35 : decode cX9_lasts 35 = .ok (.aload_n 0, 1) := by decide +kernel
theorem dX9_lasts_36 : decode cX9_lasts 36 = .ok (.getfield 38, 3) := by decide +kernel
theorem dX9_lasts_39 : decode cX9_lasts 39 = .ok (.getfield 267, 3) := by decide +kernel
theorem dX9_lasts_42 : decode cX9_lasts 42 = .ok (.iload_n 1, 1) := by decide +kernel
theorem dX9_lasts_43 : decode cX9_lasts 43 = .ok (.iload_n 2, 1) := by decide +kernel
theorem dX9_lasts_44 : decode cX9_lasts 44 = .ok (.aload_n 0, 1) := by decide +kernel
theorem dX9_lasts_45 : decode cX9_lasts 45 = .ok (.getfield 10, 3) := by decide +kernel
theorem dX9_lasts_48 : decode cX9_lasts 48 = .ok (.invokevirtual 135, 3) := by decide +kernel
theorem dX9_lasts_51 : decode cX9_lasts 51 = .ok (.invokevirtual 270, 3) := by decide +kernel
theorem dX9_lasts_54 : decode cX9_lasts 54 = .ok (.aload_n 0, 1) := by decide +kernel
theorem dX9_lasts_55 : decode cX9_lasts 55 = .ok (.aload_n 0, 1) := by decide +kernel
theorem dX9_lasts_56 : decode cX9_lasts 56 = .ok (.getfield 49, 3) := by decide +kernel
theorem dX9_lasts_59 : decode cX9_lasts 59 = .ok (.getfield 277, 3) := by decide +kernel
theorem dX9_lasts_62 : decode cX9_lasts 62 = .ok (.invokevirtual 114, 3) := by decide +kernel
theorem dX9_lasts_65 : decode cX9_lasts 65 = .ok (.ireturn, 1) := by decide +kernel
def f_X9_lasts (x1 : Int32) (x2 : Int32) (M : Mm) : Option (Int32 × Mm) :=
  bd (f_X9_hasGame  M) fun v1_2 M1_1 => if v1_2 = 0 then (bd (f_X9_refused (nI 1) M1_1) fun v9_17 M9_16 => some (v9_17, M9_16)) else (bd (f_X9_arePlays x1 x2 M1_1) fun v15_4 M15_3 => if v15_4 = 0 then (bd (f_X9_refused (nI 2) M15_3) fun v23_14 M23_13 => some (v23_14, M23_13)) else (bg (M15_3 0 8) fun g5 => bg (M15_3 0 8) fun g6 => bd (f_X0_eyes g6 M15_3) fun v48_8 M48_7 => bv (f_X4_run g5 (M15_3 20 9) x1 x2 v48_8 M48_7) fun M51_9 => bd (f_X9_well (M51_9 61 3) M51_9) fun v62_12 M62_11 => some (v62_12, M62_11)))
set_option maxHeartbeats 4000000 in
set_option maxRecDepth 100000 in
theorem s_X9_lasts {l : Launch} {B : BT} (hA : bA B = false) {d : Nat} {r : Int32} {M' : Mm} {x1 : Int32} {x2 : Int32} {M : Mm}  (h : f_X9_lasts x1 x2 M = some (r, M')) : Con l B LY (d + 6) yX9_lasts cX9_lasts 3 (some .int) 0 0 [.ref 0, .int x1, .int x2] 97 M (PI r M') := by
  refine con_of (by decide) (Nat.le_of_ble_eq_true rfl) ?_
  show GG l B LY (d + 6) yX9_lasts cX9_lasts 3 (some .int) 0 0 (PI r M') 97 0 0 0 [(0, .ref 0), (1, .int x1), (2, .int x2)] [] M
  rw [f_X9_lasts] at h
  refine g_aload_n dX9_lasts_0 rfl 0 rfl ?_
  obtain ⟨v1_2, M1_1, eM1_1, h⟩ := bd_e h
  refine m_callVi (As := []) (st := []) (s_X9_hasGame (d := d + 5) hA  eM1_1) rfl okX9 ck_X9_hasGame w_693 rfl (Nat.le_of_ble_eq_true rfl) dX9_lasts_1 ?_
  refine g_if_ne (tgt := 13) dX9_lasts_4 (by decide) (fun c18 => ?_) (fun c18 => ?_)
  · replace h := ite_n c18 h
    refine g_iload_n dX9_lasts_13 rfl 1 rfl ?_
    refine g_iload_n dX9_lasts_14 rfl 2 rfl ?_
    obtain ⟨v15_4, M15_3, eM15_3, h⟩ := bd_e h
    refine m_callSi (As := [.int x1, .int x2]) (st := []) (s_X9_arePlays (d := d + 5) hA  eM15_3) ck_X9_arePlays w_1005 rfl (Nat.le_of_ble_eq_true rfl) dX9_lasts_15 ?_
    refine g_if_ne (tgt := 27) dX9_lasts_18 (by decide) (fun c15 => ?_) (fun c15 => ?_)
    · replace h := ite_n c15 h
      refine g_aload_n dX9_lasts_27 rfl 0 rfl ?_
      refine m_geta (k := 4) okX9 rfl rfl (by decide) w_417 rfl dX9_lasts_28 ?_
      refine g_aload_n dX9_lasts_31 rfl 0 rfl ?_
      obtain ⟨g5, eg5, hg5, h⟩ := bg_e h
      refine m_getm (k := 8) okX9 rfl rfl (by decide) w_421 rfl dX9_lasts_32 eg5 hg5 ?_
      refine g_aload_n dX9_lasts_35 rfl 0 rfl ?_
      refine m_geta (k := 2) okX9 rfl rfl (by decide) w_415 rfl dX9_lasts_36 ?_
      refine m_geti (k := 9) okX3 rfl rfl (by decide) w_279 rfl dX9_lasts_39 ?_
      refine g_iload_n dX9_lasts_42 rfl 1 rfl ?_
      refine g_iload_n dX9_lasts_43 rfl 2 rfl ?_
      refine g_aload_n dX9_lasts_44 rfl 0 rfl ?_
      obtain ⟨g6, eg6, hg6, h⟩ := bg_e h
      refine m_getm (k := 8) okX9 rfl rfl (by decide) w_421 rfl dX9_lasts_45 eg6 hg6 ?_
      obtain ⟨v48_8, M48_7, eM48_7, h⟩ := bd_e h
      refine m_callVi (As := []) (st := [.int x2, .int x1, .int (M15_3 20 9), .ref g5, .ref 61]) (s_X0_eyes (d := d + 4) hA hg6 eM48_7) hg6 okX0 ck_X0_eyes w_714 rfl (Nat.le_of_ble_eq_true rfl) dX9_lasts_48 ?_
      obtain ⟨M51_9, eM51_9, h⟩ := bv_e h
      refine m_callVv (As := [.ref g5, .int (M15_3 20 9), .int x1, .int x2, .int v48_8]) (st := []) (s_X4_run (d := d + 0) hA hg5 eM51_9) rfl okX4 ck_X4_run w_1008 rfl (Nat.le_of_ble_eq_true rfl) dX9_lasts_51 ?_
      refine g_aload_n dX9_lasts_54 rfl 0 rfl ?_
      refine g_aload_n dX9_lasts_55 rfl 0 rfl ?_
      refine m_geta (k := 4) okX9 rfl rfl (by decide) w_417 rfl dX9_lasts_56 ?_
      refine m_geti (k := 3) okX4 rfl rfl (by decide) w_338 rfl dX9_lasts_59 ?_
      obtain ⟨v62_12, M62_11, eM62_11, h⟩ := bd_e h
      refine m_callVi (As := [.int (M51_9 61 3)]) (st := []) (s_X9_well (d := d + 5) hA  eM62_11) rfl okX9 ck_X9_well w_677 rfl (Nat.le_of_ble_eq_true rfl) dX9_lasts_62 ?_
      exact g_zret rfl rfl (pi_of h) dX9_lasts_65
    · replace h := ite_p c15 h
      refine g_aload_n dX9_lasts_21 rfl 0 rfl ?_
      refine g_iconst (v := (nI 2)) dX9_lasts_22 (by decide) ?_
      obtain ⟨v23_14, M23_13, eM23_13, h⟩ := bd_e h
      refine m_callVi (As := [.int (nI 2)]) (st := []) (s_X9_refused (d := d + 5) hA  eM23_13) rfl okX9 ck_X9_refused w_468 rfl (Nat.le_of_ble_eq_true rfl) dX9_lasts_23 ?_
      exact g_zret rfl rfl (pi_of h) dX9_lasts_26
  · replace h := ite_p c18 h
    refine g_aload_n dX9_lasts_7 rfl 0 rfl ?_
    refine g_iconst (v := (nI 1)) dX9_lasts_8 (by decide) ?_
    obtain ⟨v9_17, M9_16, eM9_16, h⟩ := bd_e h
    refine m_callVi (As := [.int (nI 1)]) (st := []) (s_X9_refused (d := d + 5) hA  eM9_16) rfl okX9 ck_X9_refused w_468 rfl (Nat.le_of_ble_eq_true rfl) dX9_lasts_9 ?_
    exact g_zret rfl rfl (pi_of h) dX9_lasts_12
theorem ck_X9_lasts : CKV yX9_lasts cX9_lasts 3 (some .int) 2 := ⟨⟨by decide, by decide, by decide +kernel⟩, w_1026, w_72, ⟨w_1024, w_1025⟩, by decide⟩
theorem dX9_sent_0 : decode cX9_sent 0 = .ok (.aload_n 0, 1) := by decide +kernel
theorem dX9_sent_1 : decode cX9_sent 1 = .ok (.invokevirtual 120, 3) := by decide +kernel
theorem dX9_sent_4 : decode cX9_sent 4 = .ok (.ifCond .ne 9, 3) := by decide +kernel
theorem dX9_sent_7 : decode cX9_sent 7 = .ok (.aload_n 0, 1) := by decide +kernel
theorem dX9_sent_8 : decode cX9_sent 8 = .ok (.iconst 1, 1) := by decide +kernel
theorem dX9_sent_9 : decode cX9_sent 9 = .ok (.invokevirtual 82, 3) := by decide +kernel
theorem dX9_sent_12 : decode cX9_sent 12 = .ok (.ireturn, 1) := by decide +kernel
theorem dX9_sent_13 : decode cX9_sent 13 = .ok (.iload_n 1, 1) := by decide +kernel
theorem dX9_sent_14 : decode cX9_sent 14 = .ok (.iload_n 2, 1) := by decide +kernel
theorem dX9_sent_15 : decode cX9_sent 15 = .ok (.invokestatic 264, 3) := by decide +kernel
theorem dX9_sent_18 : decode cX9_sent 18 = .ok (.ifCond .ne 9, 3) := by decide +kernel
theorem dX9_sent_21 : decode cX9_sent 21 = .ok (.aload_n 0, 1) := by decide +kernel
theorem dX9_sent_22 : decode cX9_sent 22 = .ok (.iconst 2, 1) := by decide +kernel
theorem dX9_sent_23 : decode cX9_sent 23 = .ok (.invokevirtual 82, 3) := by decide +kernel
theorem dX9_sent_26 : decode cX9_sent 26 = .ok (.ireturn, 1) := by decide +kernel
theorem dX9_sent_27 : decode cX9_sent 27 = .ok (.aload_n 0, 1) := by decide +kernel
theorem dX9_sent_28 : decode cX9_sent 28 = .ok (.getfield 49, 3) := by decide +kernel
theorem dX9_sent_31 : decode cX9_sent 31 = .ok (.aload_n 0, 1) := by decide +kernel
theorem dX9_sent_32 : decode cX9_sent 32 = .ok (.getfield 10, 3) := by decide +kernel
theorem dX9_sent_35 : decode cX9_sent 35 = .ok (.aload_n 0, 1) := by decide +kernel
theorem dX9_sent_36 : decode cX9_sent 36 = .ok (.getfield 38, 3) := by decide +kernel
theorem dX9_sent_39 : decode cX9_sent 39 = .ok (.getfield 267, 3) := by decide +kernel
theorem dX9_sent_42 : decode cX9_sent 42 = .ok (.iload_n 1, 1) := by decide +kernel
theorem dX9_sent_43 : decode cX9_sent 43 = .ok (.iload_n 2, 1) := by decide +kernel
theorem dX9_sent_44 : decode cX9_sent 44 = .ok (.aload_n 0, 1) := by decide +kernel
theorem dX9_sent_45 : decode cX9_sent 45 = .ok (.getfield 10, 3) := by decide +kernel
theorem dX9_sent_48 : decode cX9_sent 48 = .ok (.invokevirtual 135, 3) := by decide +kernel
theorem dX9_sent_51 : decode cX9_sent 51 = .ok (.invokevirtual 270, 3) := by decide +kernel
theorem dX9_sent_54 : decode cX9_sent 54 = .ok (.aload_n 0, 1) := by decide +kernel
theorem dX9_sent_55 : decode cX9_sent 55 = .ok (.aload_n 0, 1) := by decide +kernel
theorem dX9_sent_56 : decode cX9_sent 56 = .ok (.getfield 49, 3) := by decide +kernel
theorem dX9_sent_59 : decode cX9_sent 59 = .ok (.getfield 278, 3) := by decide +kernel
theorem dX9_sent_62 : decode cX9_sent 62 = .ok (.invokevirtual 114, 3) := by decide +kernel
theorem dX9_sent_65 : decode cX9_sent 65 = .ok (.ireturn, 1) := by decide +kernel
def f_X9_sent (x1 : Int32) (x2 : Int32) (M : Mm) : Option (Int32 × Mm) :=
  bd (f_X9_hasGame  M) fun v1_2 M1_1 => if v1_2 = 0 then (bd (f_X9_refused (nI 1) M1_1) fun v9_17 M9_16 => some (v9_17, M9_16)) else (bd (f_X9_arePlays x1 x2 M1_1) fun v15_4 M15_3 => if v15_4 = 0 then (bd (f_X9_refused (nI 2) M15_3) fun v23_14 M23_13 => some (v23_14, M23_13)) else (bg (M15_3 0 8) fun g5 => bg (M15_3 0 8) fun g6 => bd (f_X0_eyes g6 M15_3) fun v48_8 M48_7 => bv (f_X4_run g5 (M15_3 20 9) x1 x2 v48_8 M48_7) fun M51_9 => bd (f_X9_well (M51_9 61 4) M51_9) fun v62_12 M62_11 => some (v62_12, M62_11)))
set_option maxHeartbeats 4000000 in
set_option maxRecDepth 100000 in
theorem s_X9_sent {l : Launch} {B : BT} (hA : bA B = false) {d : Nat} {r : Int32} {M' : Mm} {x1 : Int32} {x2 : Int32} {M : Mm}  (h : f_X9_sent x1 x2 M = some (r, M')) : Con l B LY (d + 6) yX9_sent cX9_sent 3 (some .int) 0 0 [.ref 0, .int x1, .int x2] 97 M (PI r M') := by
  refine con_of (by decide) (Nat.le_of_ble_eq_true rfl) ?_
  show GG l B LY (d + 6) yX9_sent cX9_sent 3 (some .int) 0 0 (PI r M') 97 0 0 0 [(0, .ref 0), (1, .int x1), (2, .int x2)] [] M
  rw [f_X9_sent] at h
  refine g_aload_n dX9_sent_0 rfl 0 rfl ?_
  obtain ⟨v1_2, M1_1, eM1_1, h⟩ := bd_e h
  refine m_callVi (As := []) (st := []) (s_X9_hasGame (d := d + 5) hA  eM1_1) rfl okX9 ck_X9_hasGame w_693 rfl (Nat.le_of_ble_eq_true rfl) dX9_sent_1 ?_
  refine g_if_ne (tgt := 13) dX9_sent_4 (by decide) (fun c18 => ?_) (fun c18 => ?_)
  · replace h := ite_n c18 h
    refine g_iload_n dX9_sent_13 rfl 1 rfl ?_
    refine g_iload_n dX9_sent_14 rfl 2 rfl ?_
    obtain ⟨v15_4, M15_3, eM15_3, h⟩ := bd_e h
    refine m_callSi (As := [.int x1, .int x2]) (st := []) (s_X9_arePlays (d := d + 5) hA  eM15_3) ck_X9_arePlays w_1005 rfl (Nat.le_of_ble_eq_true rfl) dX9_sent_15 ?_
    refine g_if_ne (tgt := 27) dX9_sent_18 (by decide) (fun c15 => ?_) (fun c15 => ?_)
    · replace h := ite_n c15 h
      refine g_aload_n dX9_sent_27 rfl 0 rfl ?_
      refine m_geta (k := 4) okX9 rfl rfl (by decide) w_417 rfl dX9_sent_28 ?_
      refine g_aload_n dX9_sent_31 rfl 0 rfl ?_
      obtain ⟨g5, eg5, hg5, h⟩ := bg_e h
      refine m_getm (k := 8) okX9 rfl rfl (by decide) w_421 rfl dX9_sent_32 eg5 hg5 ?_
      refine g_aload_n dX9_sent_35 rfl 0 rfl ?_
      refine m_geta (k := 2) okX9 rfl rfl (by decide) w_415 rfl dX9_sent_36 ?_
      refine m_geti (k := 9) okX3 rfl rfl (by decide) w_279 rfl dX9_sent_39 ?_
      refine g_iload_n dX9_sent_42 rfl 1 rfl ?_
      refine g_iload_n dX9_sent_43 rfl 2 rfl ?_
      refine g_aload_n dX9_sent_44 rfl 0 rfl ?_
      obtain ⟨g6, eg6, hg6, h⟩ := bg_e h
      refine m_getm (k := 8) okX9 rfl rfl (by decide) w_421 rfl dX9_sent_45 eg6 hg6 ?_
      obtain ⟨v48_8, M48_7, eM48_7, h⟩ := bd_e h
      refine m_callVi (As := []) (st := [.int x2, .int x1, .int (M15_3 20 9), .ref g5, .ref 61]) (s_X0_eyes (d := d + 4) hA hg6 eM48_7) hg6 okX0 ck_X0_eyes w_714 rfl (Nat.le_of_ble_eq_true rfl) dX9_sent_48 ?_
      obtain ⟨M51_9, eM51_9, h⟩ := bv_e h
      refine m_callVv (As := [.ref g5, .int (M15_3 20 9), .int x1, .int x2, .int v48_8]) (st := []) (s_X4_run (d := d + 0) hA hg5 eM51_9) rfl okX4 ck_X4_run w_1008 rfl (Nat.le_of_ble_eq_true rfl) dX9_sent_51 ?_
      refine g_aload_n dX9_sent_54 rfl 0 rfl ?_
      refine g_aload_n dX9_sent_55 rfl 0 rfl ?_
      refine m_geta (k := 4) okX9 rfl rfl (by decide) w_417 rfl dX9_sent_56 ?_
      refine m_geti (k := 4) okX4 rfl rfl (by decide) w_340 rfl dX9_sent_59 ?_
      obtain ⟨v62_12, M62_11, eM62_11, h⟩ := bd_e h
      refine m_callVi (As := [.int (M51_9 61 4)]) (st := []) (s_X9_well (d := d + 5) hA  eM62_11) rfl okX9 ck_X9_well w_677 rfl (Nat.le_of_ble_eq_true rfl) dX9_sent_62 ?_
      exact g_zret rfl rfl (pi_of h) dX9_sent_65
    · replace h := ite_p c15 h
      refine g_aload_n dX9_sent_21 rfl 0 rfl ?_
      refine g_iconst (v := (nI 2)) dX9_sent_22 (by decide) ?_
      obtain ⟨v23_14, M23_13, eM23_13, h⟩ := bd_e h
      refine m_callVi (As := [.int (nI 2)]) (st := []) (s_X9_refused (d := d + 5) hA  eM23_13) rfl okX9 ck_X9_refused w_468 rfl (Nat.le_of_ble_eq_true rfl) dX9_sent_23 ?_
      exact g_zret rfl rfl (pi_of h) dX9_sent_26
  · replace h := ite_p c18 h
    refine g_aload_n dX9_sent_7 rfl 0 rfl ?_
    refine g_iconst (v := (nI 1)) dX9_sent_8 (by decide) ?_
    obtain ⟨v9_17, M9_16, eM9_16, h⟩ := bd_e h
    refine m_callVi (As := [.int (nI 1)]) (st := []) (s_X9_refused (d := d + 5) hA  eM9_16) rfl okX9 ck_X9_refused w_468 rfl (Nat.le_of_ble_eq_true rfl) dX9_sent_9 ?_
    exact g_zret rfl rfl (pi_of h) dX9_sent_12
theorem ck_X9_sent : CKV yX9_sent cX9_sent 3 (some .int) 2 := ⟨⟨by decide, by decide, by decide +kernel⟩, w_1030, w_72, ⟨w_1028, w_1029⟩, by decide⟩
theorem dX9_looking_0 : decode cX9_looking 0 = .ok (.aload_n 0, 1) := by decide +kernel
theorem dX9_looking_1 : decode cX9_looking 1 = .ok (.invokevirtual 120, 3) := by decide +kernel
theorem dX9_looking_4 : decode cX9_looking 4 = .ok (.ifCond .ne 9, 3) := by decide +kernel
theorem dX9_looking_7 : decode cX9_looking 7 = .ok (.aload_n 0, 1) := by decide +kernel
theorem dX9_looking_8 : decode cX9_looking 8 = .ok (.iconst 1, 1) := by decide +kernel
theorem dX9_looking_9 : decode cX9_looking 9 = .ok (.invokevirtual 82, 3) := by decide +kernel
theorem dX9_looking_12 : decode cX9_looking 12 = .ok (.ireturn, 1) := by decide +kernel
theorem dX9_looking_13 : decode cX9_looking 13 = .ok (.iload_n 1, 1) := by decide +kernel
theorem dX9_looking_14 : decode cX9_looking 14 = .ok (.iload_n 2, 1) := by decide +kernel
theorem dX9_looking_15 : decode cX9_looking 15 = .ok (.invokestatic 264, 3) := by decide +kernel
theorem dX9_looking_18 : decode cX9_looking 18 = .ok (.ifCond .ne 9, 3) := by decide +kernel
theorem dX9_looking_21 : decode cX9_looking 21 = .ok (.aload_n 0, 1) := by decide +kernel
theorem dX9_looking_22 : decode cX9_looking 22 = .ok (.iconst 2, 1) := by decide +kernel
theorem dX9_looking_23 : decode cX9_looking 23 = .ok (.invokevirtual 82, 3) := by decide +kernel
theorem dX9_looking_26 : decode cX9_looking 26 = .ok (.ireturn, 1) := by decide +kernel
theorem dX9_looking_27 : decode cX9_looking 27 = .ok (.iconst 0, 1) := by decide +kernel
theorem dX9_looking_28 : decode cX9_looking 28 = .ok (.istore_n 3, 1) := by decide +kernel
theorem dX9_looking_29 : decode cX9_looking 29 = .ok (.bipush 21, 2) := by decide +kernel
theorem dX9_looking_31 : decode cX9_looking 31 = .ok (.istore 4, 2) := by decide +kernel
theorem dX9_looking_33 : decode cX9_looking 33 = .ok (.iconst 0, 1) := by decide +kernel
theorem dX9_looking_34 : decode cX9_looking 34 = .ok (.istore 5, 2) := by decide +kernel
theorem dX9_looking_36 : decode cX9_looking 36 = .ok (.iload 5, 2) := by decide +kernel
theorem dX9_looking_38 : decode cX9_looking 38 = .ok (.aload_n 0, 1) := by decide +kernel
theorem dX9_looking_39 : decode cX9_looking 39 = .ok (.getfield 10, 3) := by decide +kernel
theorem dX9_looking_42 : decode cX9_looking 42 = .ok (.getfield 111, 3) := by decide +kernel
theorem dX9_looking_45 : decode cX9_looking 45 = .ok (.if_icmp .gt 55, 3) := by decide +kernel
theorem dX9_looking_48 : decode cX9_looking 48 = .ok (.aload_n 0, 1) := by decide +kernel
theorem dX9_looking_49 : decode cX9_looking 49 = .ok (.getfield 49, 3) := by decide +kernel
theorem dX9_looking_52 : decode cX9_looking 52 = .ok (.aload_n 0, 1) := by decide +kernel
theorem dX9_looking_53 : decode cX9_looking 53 = .ok (.getfield 10, 3) := by decide +kernel
theorem dX9_looking_56 : decode cX9_looking 56 = .ok (.aload_n 0, 1) := by decide +kernel
theorem dX9_looking_57 : decode cX9_looking 57 = .ok (.getfield 38, 3) := by decide +kernel
theorem dX9_looking_60 : decode cX9_looking 60 = .ok (.getfield 267, 3) := by decide +kernel
theorem dX9_looking_63 : decode cX9_looking 63 = .ok (.iload_n 1, 1) := by decide +kernel
theorem dX9_looking_64 : decode cX9_looking 64 = .ok (.iload_n 2, 1) := by decide +kernel
theorem dX9_looking_65 : decode cX9_looking 65 = .ok (.iload 5, 2) := by decide +kernel
theorem dX9_looking_67 : decode cX9_looking 67 = .ok (.invokevirtual 270, 3) := by decide +kernel
theorem dX9_looking_70 : decode cX9_looking 70 = .ok (.aload_n 0, 1) := by decide +kernel
theorem dX9_looking_71 : decode cX9_looking 71 = .ok (.getfield 49, 3) := by decide +kernel
theorem dX9_looking_74 : decode cX9_looking 74 = .ok (.getfield 281, 3) := by decide +kernel
theorem dX9_looking_77 : decode cX9_looking 77 = .ok (.iload 4, 2) := by decide +kernel
theorem dX9_looking_79 : decode cX9_looking 79 = .ok (.if_icmp .ge 15, 3) := by decide +kernel
theorem dX9_looking_82 : decode cX9_looking 82 = .ok (.aload_n 0, 1) := by decide +kernel
theorem dX9_looking_83 : decode cX9_looking 83 = .ok (.getfield 49, 3) := by decide +kernel
theorem dX9_looking_86 : decode cX9_looking 86 = .ok (.getfield 281, 3) := by decide +kernel
theorem dX9_looking_89 : decode cX9_looking 89 = .ok (.istore 4, 2) := by decide +kernel
theorem dX9_looking_91 : decode cX9_looking 91 = .ok (.iload 5, 2) := by decide +kernel
theorem dX9_looking_93 : decode cX9_looking 93 = .ok (.istore_n 3, 1) := by decide +kernel
theorem dX9_looking_94 : decode cX9_looking 94 = .ok (.iinc 5 1, 3) := by decide +kernel
theorem dX9_looking_97 : decode cX9_looking 97 = .ok (.goto (-61), 3) := by decide +kernel
theorem dX9_looking_100 : decode cX9_looking 100 = .ok (.aload_n 0, 1) := by decide +kernel
theorem dX9_looking_101 : decode cX9_looking 101 = .ok (.iload_n 3, 1) := by decide +kernel
theorem dX9_looking_102 : decode cX9_looking 102 = .ok (.invokevirtual 114, 3) := by decide +kernel
theorem dX9_looking_105 : decode cX9_looking 105 = .ok (.ireturn, 1) := by decide +kernel
def lp_X9_looking_36 (y1 : Int32) (y2 : Int32) (k100 : Int32 → Mm → Option (Int32 × Mm)) : Nat → Int32 → Int32 → Int32 → Mm → Option (Int32 × Mm)
  | 0, _, _, _, _ => none
  | n + 1, y3, y4, y5, M =>
    bg (M 0 8) fun g5 => if (M g5 14) < y5 then (k100 y3 M) else (bg (M 0 8) fun g6 => bv (f_X4_run g6 (M 20 9) y1 y2 y5 M) fun M67_7 => jn (fun (u9 : Int32) (u10 : Int32) (M11 : Mm) => lp_X9_looking_36 y1 y2 k100 n u9 u10 (y5 + (nI 1)) M11) fun j12 => if y4 ≤ (M67_7 61 2) then (j12 y3 y4 M67_7) else (j12 y5 (M67_7 61 2) M67_7))
def f_X9_looking (x1 : Int32) (x2 : Int32) (M : Mm) : Option (Int32 × Mm) :=
  bd (f_X9_hasGame  M) fun v1_2 M1_1 => if v1_2 = 0 then (bd (f_X9_refused (nI 1) M1_1) fun v9_23 M9_22 => some (v9_23, M9_22)) else (bd (f_X9_arePlays x1 x2 M1_1) fun v15_4 M15_3 => if v15_4 = 0 then (bd (f_X9_refused (nI 2) M15_3) fun v23_20 M23_19 => some (v23_20, M23_19)) else (lp_X9_looking_36 x1 x2 (fun (u15 : Int32) (M16 : Mm) => bd (f_X9_well u15 M16) fun v102_18 M102_17 => some (v102_18, M102_17)) N0 (nI 0) (nI 21) (nI 0) M15_3))
set_option maxHeartbeats 4000000 in
set_option maxRecDepth 100000 in
theorem sl_X9_looking_36 {l : Launch} {B : BT} (hA : bA B = false) {d : Nat} {r : Int32} {M' : Mm} {y1 : Int32} {y2 : Int32}  {k100 : Int32 → Mm → Option (Int32 × Mm)} (hk100 : ∀ (z3 : Int32) (M9 : Mm), k100 z3 M9 = some (r, M') → GG l B LY (d + 6) yX9_looking cX9_looking 6 (some .int) 0 0 (PI r M') 97 0 0 100 [(0, .ref 0), (3, .int z3)] [] M9) :
    ∀ (n : Nat) (y3 : Int32) (y4 : Int32) (y5 : Int32) (M : Mm), lp_X9_looking_36 y1 y2 k100 n y3 y4 y5 M = some (r, M') → GG l B LY (d + 6) yX9_looking cX9_looking 6 (some .int) 0 0 (PI r M') 97 0 0 36 [(0, .ref 0), (1, .int y1), (2, .int y2), (3, .int y3), (4, .int y4), (5, .int y5)] [] M := by
  intro n
  induction n with
  | zero => intro y3 y4 y5 M h; cases h
  | succ n ih =>
    intro y3 y4 y5 M h
    rw [lp_X9_looking_36] at h
    refine g_iload dX9_looking_36 5 rfl ?_
    refine g_aload_n dX9_looking_38 rfl 0 rfl ?_
    obtain ⟨g5, eg5, hg5, h⟩ := bg_e h
    refine m_getm (k := 8) okX9 rfl rfl (by decide) w_421 rfl dX9_looking_39 eg5 hg5 ?_
    refine m_geti (k := 14) okX0 hg5 rfl (by decide) w_152 rfl dX9_looking_42 ?_
    refine g_icmp_gt (tgt := 100) dX9_looking_45 (by decide) (fun c14 => ?_) (fun c14 => ?_)
    · replace h := ite_p c14 h
      refine g_sub [0, 3] (lv' := [(0, .ref 0), (3, .int y3)]) rfl ?_
      exact hk100 _ _ h
    · replace h := ite_n c14 h
      refine g_aload_n dX9_looking_48 rfl 0 rfl ?_
      refine m_geta (k := 4) okX9 rfl rfl (by decide) w_417 rfl dX9_looking_49 ?_
      refine g_aload_n dX9_looking_52 rfl 0 rfl ?_
      obtain ⟨g6, eg6, hg6, h⟩ := bg_e h
      refine m_getm (k := 8) okX9 rfl rfl (by decide) w_421 rfl dX9_looking_53 eg6 hg6 ?_
      refine g_aload_n dX9_looking_56 rfl 0 rfl ?_
      refine m_geta (k := 2) okX9 rfl rfl (by decide) w_415 rfl dX9_looking_57 ?_
      refine m_geti (k := 9) okX3 rfl rfl (by decide) w_279 rfl dX9_looking_60 ?_
      refine g_iload_n dX9_looking_63 rfl 1 rfl ?_
      refine g_iload_n dX9_looking_64 rfl 2 rfl ?_
      refine g_iload dX9_looking_65 5 rfl ?_
      obtain ⟨M67_7, eM67_7, h⟩ := bv_e h
      refine m_callVv (As := [.ref g6, .int (M 20 9), .int y1, .int y2, .int y5]) (st := []) (s_X4_run (d := d + 0) hA hg6 eM67_7) rfl okX4 ck_X4_run w_1008 rfl (Nat.le_of_ble_eq_true rfl) dX9_looking_67 ?_
      refine g_aload_n dX9_looking_70 rfl 0 rfl ?_
      refine m_geta (k := 4) okX9 rfl rfl (by decide) w_417 rfl dX9_looking_71 ?_
      refine m_geti (k := 2) okX4 rfl rfl (by decide) w_336 rfl dX9_looking_74 ?_
      refine g_iload dX9_looking_77 4 rfl ?_
      obtain ⟨j12, ej12, h⟩ := jn_e h
      have hj12 : ∀ (u9 : Int32) (u10 : Int32) (M11 : Mm), j12 u9 u10 M11 = some (r, M') → GG l B LY (d + 6) yX9_looking cX9_looking 6 (some .int) 0 0 (PI r M') 97 0 0 94 [(0, .ref 0), (1, .int y1), (2, .int y2), (3, .int u9), (4, .int u10), (5, .int y5)] [] M11 := by
        intro u9 u10 M11 h
        rw [ej12] at h
        refine g_iinc (v := (y5 + (nI 1))) (lv' := [(5, .int (y5 + (nI 1))), (0, .ref 0), (1, .int y1), (2, .int y2), (3, .int u9), (4, .int u10)]) dX9_looking_94 5 rfl rfl (by decide) rfl ?_
        refine g_goto (tgt := 36) dX9_looking_97 (by decide) ?_
        refine g_sub [1, 2, 3, 4, 5, 0] (lv' := [(0, .ref 0), (1, .int y1), (2, .int y2), (3, .int u9), (4, .int u10), (5, .int (y5 + (nI 1)))]) rfl ?_
        exact ih _ _ _  _ h
      refine g_icmp_ge (tgt := 94) dX9_looking_79 (by decide) (fun c13 => ?_) (fun c13 => ?_)
      · replace h := ite_p c13 h
        refine g_sub [0, 1, 2, 3, 4, 5] (lv' := [(0, .ref 0), (1, .int y1), (2, .int y2), (3, .int y3), (4, .int y4), (5, .int y5)]) rfl ?_
        exact hj12 _ _ _ h
      · replace h := ite_n c13 h
        refine g_aload_n dX9_looking_82 rfl 0 rfl ?_
        refine m_geta (k := 4) okX9 rfl rfl (by decide) w_417 rfl dX9_looking_83 ?_
        refine m_geti (k := 2) okX4 rfl rfl (by decide) w_336 rfl dX9_looking_86 ?_
        refine g_istore (lv' := [(4, .int (M67_7 61 2)), (0, .ref 0), (1, .int y1), (2, .int y2), (3, .int y3), (5, .int y5)]) dX9_looking_89 (by decide) rfl ?_
        refine g_iload dX9_looking_91 5 rfl ?_
        refine g_istore_n (lv' := [(3, .int y5), (4, .int (M67_7 61 2)), (0, .ref 0), (1, .int y1), (2, .int y2), (5, .int y5)]) dX9_looking_93 rfl (by decide) rfl ?_
        refine g_sub [2, 3, 4, 0, 1, 5] (lv' := [(0, .ref 0), (1, .int y1), (2, .int y2), (3, .int y5), (4, .int (M67_7 61 2)), (5, .int y5)]) rfl ?_
        exact hj12 _ _ _ h
set_option maxHeartbeats 4000000 in
set_option maxRecDepth 100000 in
theorem s_X9_looking {l : Launch} {B : BT} (hA : bA B = false) {d : Nat} {r : Int32} {M' : Mm} {x1 : Int32} {x2 : Int32} {M : Mm}  (h : f_X9_looking x1 x2 M = some (r, M')) : Con l B LY (d + 6) yX9_looking cX9_looking 6 (some .int) 0 0 [.ref 0, .int x1, .int x2] 97 M (PI r M') := by
  refine con_of (by decide) (Nat.le_of_ble_eq_true rfl) ?_
  show GG l B LY (d + 6) yX9_looking cX9_looking 6 (some .int) 0 0 (PI r M') 97 0 0 0 [(0, .ref 0), (1, .int x1), (2, .int x2)] [] M
  rw [f_X9_looking] at h
  refine g_aload_n dX9_looking_0 rfl 0 rfl ?_
  obtain ⟨v1_2, M1_1, eM1_1, h⟩ := bd_e h
  refine m_callVi (As := []) (st := []) (s_X9_hasGame (d := d + 5) hA  eM1_1) rfl okX9 ck_X9_hasGame w_693 rfl (Nat.le_of_ble_eq_true rfl) dX9_looking_1 ?_
  refine g_if_ne (tgt := 13) dX9_looking_4 (by decide) (fun c24 => ?_) (fun c24 => ?_)
  · replace h := ite_n c24 h
    refine g_iload_n dX9_looking_13 rfl 1 rfl ?_
    refine g_iload_n dX9_looking_14 rfl 2 rfl ?_
    obtain ⟨v15_4, M15_3, eM15_3, h⟩ := bd_e h
    refine m_callSi (As := [.int x1, .int x2]) (st := []) (s_X9_arePlays (d := d + 5) hA  eM15_3) ck_X9_arePlays w_1005 rfl (Nat.le_of_ble_eq_true rfl) dX9_looking_15 ?_
    refine g_if_ne (tgt := 27) dX9_looking_18 (by decide) (fun c21 => ?_) (fun c21 => ?_)
    · replace h := ite_n c21 h
      refine g_iconst (v := (nI 0)) dX9_looking_27 (by decide) ?_
      refine g_istore_n (lv' := [(3, .int (nI 0)), (0, .ref 0), (1, .int x1), (2, .int x2)]) dX9_looking_28 rfl (by decide) rfl ?_
      refine g_bipush (v := (nI 21)) dX9_looking_29 (by decide) ?_
      refine g_istore (lv' := [(4, .int (nI 21)), (3, .int (nI 0)), (0, .ref 0), (1, .int x1), (2, .int x2)]) dX9_looking_31 (by decide) rfl ?_
      refine g_iconst (v := (nI 0)) dX9_looking_33 (by decide) ?_
      refine g_istore (lv' := [(5, .int (nI 0)), (4, .int (nI 21)), (3, .int (nI 0)), (0, .ref 0), (1, .int x1), (2, .int x2)]) dX9_looking_34 (by decide) rfl ?_
      refine g_sub [3, 4, 5, 2, 1, 0] (lv' := [(0, .ref 0), (1, .int x1), (2, .int x2), (3, .int (nI 0)), (4, .int (nI 21)), (5, .int (nI 0))]) rfl ?_
      refine sl_X9_looking_36 hA  ?_ _ _ _ _ _ h
      · intro u15 M16 h
        refine g_aload_n dX9_looking_100 rfl 0 rfl ?_
        refine g_iload_n dX9_looking_101 rfl 1 rfl ?_
        obtain ⟨v102_18, M102_17, eM102_17, h⟩ := bd_e h
        refine m_callVi (As := [.int u15]) (st := []) (s_X9_well (d := d + 5) hA  eM102_17) rfl okX9 ck_X9_well w_677 rfl (Nat.le_of_ble_eq_true rfl) dX9_looking_102 ?_
        exact g_zret rfl rfl (pi_of h) dX9_looking_105
    · replace h := ite_p c21 h
      refine g_aload_n dX9_looking_21 rfl 0 rfl ?_
      refine g_iconst (v := (nI 2)) dX9_looking_22 (by decide) ?_
      obtain ⟨v23_20, M23_19, eM23_19, h⟩ := bd_e h
      refine m_callVi (As := [.int (nI 2)]) (st := []) (s_X9_refused (d := d + 5) hA  eM23_19) rfl okX9 ck_X9_refused w_468 rfl (Nat.le_of_ble_eq_true rfl) dX9_looking_23 ?_
      exact g_zret rfl rfl (pi_of h) dX9_looking_26
  · replace h := ite_p c24 h
    refine g_aload_n dX9_looking_7 rfl 0 rfl ?_
    refine g_iconst (v := (nI 1)) dX9_looking_8 (by decide) ?_
    obtain ⟨v9_23, M9_22, eM9_22, h⟩ := bd_e h
    refine m_callVi (As := [.int (nI 1)]) (st := []) (s_X9_refused (d := d + 5) hA  eM9_22) rfl okX9 ck_X9_refused w_468 rfl (Nat.le_of_ble_eq_true rfl) dX9_looking_9 ?_
    exact g_zret rfl rfl (pi_of h) dX9_looking_12
theorem ck_X9_looking : CKV yX9_looking cX9_looking 6 (some .int) 2 := ⟨⟨by decide, by decide, by decide +kernel⟩, w_1034, w_72, ⟨w_1032, w_1033⟩, by decide⟩
theorem dX9_isFilmed_0 : decode cX9_isFilmed 0 = .ok (.iload_n 1, 1) := by decide +kernel
theorem dX9_isFilmed_1 : decode cX9_isFilmed 1 = .ok (.ifCond .lt 20, 3) := by decide +kernel
theorem dX9_isFilmed_4 : decode cX9_isFilmed 4 = .ok (.iload_n 1, 1) := by decide +kernel
theorem dX9_isFilmed_5 : decode cX9_isFilmed 5 = .ok (.aload_n 0, 1) := by decide +kernel
theorem dX9_isFilmed_6 : decode cX9_isFilmed 6 = .ok (.getfield 10, 3) := by decide +kernel
theorem dX9_isFilmed_9 : decode cX9_isFilmed 9 = .ok (.getfield 219, 3) := by decide +kernel
theorem dX9_isFilmed_12 : decode cX9_isFilmed 12 = .ok (.iconst 1, 1) := by decide +kernel
theorem dX9_isFilmed_13 : decode cX9_isFilmed 13 = .ok (.isub, 1) := by decide +kernel
theorem dX9_isFilmed_14 : decode cX9_isFilmed 14 = .ok (.if_icmp .ge 7, 3) := by decide +kernel
theorem dX9_isFilmed_17 : decode cX9_isFilmed 17 = .ok (.iconst 1, 1) := by decide +kernel
theorem dX9_isFilmed_18 : decode cX9_isFilmed 18 = .ok (.goto 4, 3) := by decide +kernel
theorem dX9_isFilmed_21 : decode cX9_isFilmed 21 = .ok (.iconst 0, 1) := by decide +kernel
theorem dX9_isFilmed_22 : decode cX9_isFilmed 22 = .ok (.ireturn, 1) := by decide +kernel
def f_X9_isFilmed (x1 : Int32) (M : Mm) : Option (Int32 × Mm) :=
  jn (fun (M1 : Mm) => some ((nI 0), M1)) fun j2 => if x1 < 0 then (j2  M) else (bg (M 0 8) fun g3 => if ((M g3 9) - (nI 1)) ≤ x1 then (j2  M) else (some ((nI 1), M)))
set_option maxHeartbeats 4000000 in
set_option maxRecDepth 100000 in
theorem s_X9_isFilmed {l : Launch} {B : BT} (hA : bA B = false) {d : Nat} {r : Int32} {M' : Mm} {x1 : Int32} {M : Mm}  (h : f_X9_isFilmed x1 M = some (r, M')) : Con l B LY (d + 0) yX9_isFilmed cX9_isFilmed 2 (some .boolean) 0 0 [.ref 0, .int x1] 97 M (PI r M') := by
  refine con_of (by decide) (Nat.le_of_ble_eq_true rfl) ?_
  show GG l B LY (d + 0) yX9_isFilmed cX9_isFilmed 2 (some .boolean) 0 0 (PI r M') 97 0 0 0 [(0, .ref 0), (1, .int x1)] [] M
  rw [f_X9_isFilmed] at h
  refine g_iload_n dX9_isFilmed_0 rfl 1 rfl ?_
  obtain ⟨j2, ej2, h⟩ := jn_e h
  have hj2 : ∀ (M1 : Mm), j2 M1 = some (r, M') → GG l B LY (d + 0) yX9_isFilmed cX9_isFilmed 2 (some .boolean) 0 0 (PI r M') 97 0 0 21 [] [] M1 := by
    intro M1 h
    rw [ej2] at h
    refine g_iconst (v := (nI 0)) dX9_isFilmed_21 (by decide) ?_
    exact g_zret rfl rfl (pi_of h) dX9_isFilmed_22
  refine g_if_lt (tgt := 21) dX9_isFilmed_1 (by decide) (fun c5 => ?_) (fun c5 => ?_)
  · replace h := ite_p c5 h
    refine g_sub [] (lv' := []) rfl ?_
    exact hj2  _ h
  · replace h := ite_n c5 h
    refine g_iload_n dX9_isFilmed_4 rfl 1 rfl ?_
    refine g_aload_n dX9_isFilmed_5 rfl 0 rfl ?_
    obtain ⟨g3, eg3, hg3, h⟩ := bg_e h
    refine m_getm (k := 8) okX9 rfl rfl (by decide) w_421 rfl dX9_isFilmed_6 eg3 hg3 ?_
    refine m_geti (k := 9) okX0 hg3 rfl (by decide) w_137 rfl dX9_isFilmed_9 ?_
    refine g_iconst (v := (nI 1)) dX9_isFilmed_12 (by decide) ?_
    refine g_isub dX9_isFilmed_13 ?_
    refine g_icmp_ge (tgt := 21) dX9_isFilmed_14 (by decide) (fun c4 => ?_) (fun c4 => ?_)
    · replace h := ite_p c4 h
      refine g_sub [] (lv' := []) rfl ?_
      exact hj2  _ h
    · replace h := ite_n c4 h
      refine g_iconst (v := (nI 1)) dX9_isFilmed_17 (by decide) ?_
      refine g_goto (tgt := 22) dX9_isFilmed_18 (by decide) ?_
      exact g_zret rfl rfl (pi_of h) dX9_isFilmed_22
theorem ck_X9_isFilmed : CKV yX9_isFilmed cX9_isFilmed 2 (some .boolean) 1 := ⟨⟨by decide, by decide, by decide +kernel⟩, w_1042, w_72, ⟨w_1041, w_8⟩, by decide⟩
theorem dX9_film_0 : decode cX9_film 0 = .ok (.aload_n 0, 1) := by decide +kernel
theorem dX9_film_1 : decode cX9_film 1 = .ok (.iload_n 1, 1) := by decide +kernel
theorem dX9_film_2 : decode cX9_film 2 = .ok (.invokevirtual 284, 3) := by decide +kernel
theorem dX9_film_5 : decode cX9_film 5 = .ok (.ifCond .ne 9, 3) := by decide +kernel
theorem dX9_film_8 : decode cX9_film 8 = .ok (.aload_n 0, 1) := by decide +kernel
theorem dX9_film_9 : decode cX9_film 9 = .ok (.iconst 1, 1) := by decide +kernel
theorem dX9_film_10 : decode cX9_film 10 = .ok (.invokevirtual 82, 3) := by decide +kernel
theorem dX9_film_13 : decode cX9_film 13 = .ok (.ireturn, 1) := by decide +kernel
theorem dX9_film_14 : decode cX9_film 14 = .ok (.aload_n 0, 1) := by decide +kernel
theorem dX9_film_15 : decode cX9_film 15 = .ok (.getfield 56, 3) := by decide +kernel
theorem dX9_film_18 : decode cX9_film 18 = .ok (.getfield 287, 3) := by decide +kernel
theorem dX9_film_21 : decode cX9_film 21 = .ok (.bipush 30, 2) := by decide +kernel
theorem dX9_film_23 : decode cX9_film 23 = .ok (.if_icmp .lt 9, 3) := by decide +kernel
theorem dX9_film_26 : decode cX9_film 26 = .ok (.aload_n 0, 1) := by decide +kernel
theorem dX9_film_27 : decode cX9_film 27 = .ok (.iconst 3, 1) := by decide +kernel
theorem dX9_film_28 : decode cX9_film 28 = .ok (.invokevirtual 82, 3) := by decide +kernel
theorem dX9_film_31 : decode cX9_film 31 = .ok (.ireturn, 1) := by decide +kernel
theorem dX9_film_32 : decode cX9_film 32 = .ok (.aload_n 0, 1) := by decide +kernel
theorem dX9_film_33 : decode cX9_film 33 = .ok (.getfield 56, 3) := by decide +kernel
theorem dX9_film_36 : decode cX9_film 36 = .ok (.iload_n 1, 1) := by decide +kernel
theorem dX9_film_37 : decode cX9_film 37 = .ok (.iload_n 2, 1) := by decide +kernel
theorem dX9_film_38 : decode cX9_film 38 = .ok (.iload_n 3, 1) := by decide +kernel
theorem dX9_film_39 : decode cX9_film 39 = .ok (.invokevirtual 290, 3) := by decide +kernel
theorem dX9_film_42 : decode cX9_film 42 = .ok (.aload_n 0, 1) := by decide +kernel
theorem dX9_film_43 : decode cX9_film 43 = .ok (.aload_n 0, 1) := by decide +kernel
theorem dX9_film_44 : decode cX9_film 44 = .ok (.getfield 56, 3) := by decide +kernel
theorem dX9_film_47 : decode cX9_film 47 = .ok (.getfield 287, 3) := by decide +kernel
theorem dX9_film_50 : decode cX9_film 50 = .ok (.invokevirtual 114, 3) := by decide +kernel
theorem dX9_film_53 : decode cX9_film 53 = .ok (.ireturn, 1) := by decide +kernel
def f_X9_film (x1 : Int32) (x2 : Int32) (x3 : Int32) (M : Mm) : Option (Int32 × Mm) :=
  bd (f_X9_isFilmed x1 M) fun v2_2 M2_1 => if v2_2 = 0 then (bd (f_X9_refused (nI 1) M2_1) fun v10_11 M10_10 => some (v10_11, M10_10)) else (if (M2_1 73 3) < (nI 30) then (bv (f_X1_addFilm x1 x2 x3 M2_1) fun M39_3 => bd (f_X9_well (M39_3 73 3) M39_3) fun v50_6 M50_5 => some (v50_6, M50_5)) else (bd (f_X9_refused (nI 3) M2_1) fun v28_8 M28_7 => some (v28_8, M28_7)))
set_option maxHeartbeats 4000000 in
set_option maxRecDepth 100000 in
theorem s_X9_film {l : Launch} {B : BT} (hA : bA B = false) {d : Nat} {r : Int32} {M' : Mm} {x1 : Int32} {x2 : Int32} {x3 : Int32} {M : Mm}  (h : f_X9_film x1 x2 x3 M = some (r, M')) : Con l B LY (d + 3) yX9_film cX9_film 4 (some .int) 0 0 [.ref 0, .int x1, .int x2, .int x3] 97 M (PI r M') := by
  refine con_of (by decide) (Nat.le_of_ble_eq_true rfl) ?_
  show GG l B LY (d + 3) yX9_film cX9_film 4 (some .int) 0 0 (PI r M') 97 0 0 0 [(0, .ref 0), (1, .int x1), (2, .int x2), (3, .int x3)] [] M
  rw [f_X9_film] at h
  refine g_aload_n dX9_film_0 rfl 0 rfl ?_
  refine g_iload_n dX9_film_1 rfl 1 rfl ?_
  obtain ⟨v2_2, M2_1, eM2_1, h⟩ := bd_e h
  refine m_callVi (As := [.int x1]) (st := []) (s_X9_isFilmed (d := d + 2) hA  eM2_1) rfl okX9 ck_X9_isFilmed w_1039 rfl (Nat.le_of_ble_eq_true rfl) dX9_film_2 ?_
  refine g_if_ne (tgt := 14) dX9_film_5 (by decide) (fun c12 => ?_) (fun c12 => ?_)
  · replace h := ite_n c12 h
    refine g_aload_n dX9_film_14 rfl 0 rfl ?_
    refine m_geta (k := 5) okX9 rfl rfl (by decide) w_418 rfl dX9_film_15 ?_
    refine m_geti (k := 3) okX1 rfl rfl (by decide) w_363 rfl dX9_film_18 ?_
    refine g_bipush (v := (nI 30)) dX9_film_21 (by decide) ?_
    refine g_icmp_lt (tgt := 32) dX9_film_23 (by decide) (fun c9 => ?_) (fun c9 => ?_)
    · replace h := ite_p c9 h
      refine g_aload_n dX9_film_32 rfl 0 rfl ?_
      refine m_geta (k := 5) okX9 rfl rfl (by decide) w_418 rfl dX9_film_33 ?_
      refine g_iload_n dX9_film_36 rfl 1 rfl ?_
      refine g_iload_n dX9_film_37 rfl 2 rfl ?_
      refine g_iload_n dX9_film_38 rfl 3 rfl ?_
      obtain ⟨M39_3, eM39_3, h⟩ := bv_e h
      refine m_callVv (As := [.int x1, .int x2, .int x3]) (st := []) (s_X1_addFilm (d := d + 0) hA  eM39_3) rfl okX1 ck_X1_addFilm w_1043 rfl (Nat.le_of_ble_eq_true rfl) dX9_film_39 ?_
      refine g_aload_n dX9_film_42 rfl 0 rfl ?_
      refine g_aload_n dX9_film_43 rfl 0 rfl ?_
      refine m_geta (k := 5) okX9 rfl rfl (by decide) w_418 rfl dX9_film_44 ?_
      refine m_geti (k := 3) okX1 rfl rfl (by decide) w_363 rfl dX9_film_47 ?_
      obtain ⟨v50_6, M50_5, eM50_5, h⟩ := bd_e h
      refine m_callVi (As := [.int (M39_3 73 3)]) (st := []) (s_X9_well (d := d + 2) hA  eM50_5) rfl okX9 ck_X9_well w_677 rfl (Nat.le_of_ble_eq_true rfl) dX9_film_50 ?_
      exact g_zret rfl rfl (pi_of h) dX9_film_53
    · replace h := ite_n c9 h
      refine g_aload_n dX9_film_26 rfl 0 rfl ?_
      refine g_iconst (v := (nI 3)) dX9_film_27 (by decide) ?_
      obtain ⟨v28_8, M28_7, eM28_7, h⟩ := bd_e h
      refine m_callVi (As := [.int (nI 3)]) (st := []) (s_X9_refused (d := d + 2) hA  eM28_7) rfl okX9 ck_X9_refused w_468 rfl (Nat.le_of_ble_eq_true rfl) dX9_film_28 ?_
      exact g_zret rfl rfl (pi_of h) dX9_film_31
  · replace h := ite_p c12 h
    refine g_aload_n dX9_film_8 rfl 0 rfl ?_
    refine g_iconst (v := (nI 1)) dX9_film_9 (by decide) ?_
    obtain ⟨v10_11, M10_10, eM10_10, h⟩ := bd_e h
    refine m_callVi (As := [.int (nI 1)]) (st := []) (s_X9_refused (d := d + 2) hA  eM10_10) rfl okX9 ck_X9_refused w_468 rfl (Nat.le_of_ble_eq_true rfl) dX9_film_10 ?_
    exact g_zret rfl rfl (pi_of h) dX9_film_13
theorem ck_X9_film : CKV yX9_film cX9_film 4 (some .int) 3 := ⟨⟨by decide, by decide, by decide +kernel⟩, w_1038, w_72, ⟨w_1036, w_1037⟩, by decide⟩
theorem dX9_law_0 : decode cX9_law 0 = .ok (.aload_n 0, 1) := by decide +kernel
theorem dX9_law_1 : decode cX9_law 1 = .ok (.iload_n 1, 1) := by decide +kernel
theorem dX9_law_2 : decode cX9_law 2 = .ok (.invokevirtual 284, 3) := by decide +kernel
theorem dX9_law_5 : decode cX9_law 5 = .ok (.ifCond .ne 9, 3) := by decide +kernel
theorem dX9_law_8 : decode cX9_law 8 = .ok (.aload_n 0, 1) := by decide +kernel
theorem dX9_law_9 : decode cX9_law 9 = .ok (.iconst 1, 1) := by decide +kernel
theorem dX9_law_10 : decode cX9_law 10 = .ok (.invokevirtual 82, 3) := by decide +kernel
theorem dX9_law_13 : decode cX9_law 13 = .ok (.ireturn, 1) := by decide +kernel
theorem dX9_law_14 : decode cX9_law 14 = .ok (.aload_n 0, 1) := by decide +kernel
theorem dX9_law_15 : decode cX9_law 15 = .ok (.getfield 56, 3) := by decide +kernel
theorem dX9_law_18 : decode cX9_law 18 = .ok (.iload_n 1, 1) := by decide +kernel
theorem dX9_law_19 : decode cX9_law 19 = .ok (.invokevirtual 294, 3) := by decide +kernel
theorem dX9_law_22 : decode cX9_law 22 = .ok (.istore_n 2, 1) := by decide +kernel
theorem dX9_law_23 : decode cX9_law 23 = .ok (.iload_n 2, 1) := by decide +kernel
theorem dX9_law_24 : decode cX9_law 24 = .ok (.iconst (-1), 1) := by decide +kernel
theorem dX9_law_25 : decode cX9_law 25 = .ok (.if_icmp .ne 12, 3) := by decide +kernel
theorem dX9_law_28 : decode cX9_law 28 = .ok (.aload_n 0, 1) := by decide +kernel
theorem dX9_law_29 : decode cX9_law 29 = .ok (.bipush 6, 2) := by decide +kernel
theorem dX9_law_31 : decode cX9_law 31 = .ok (.invokevirtual 82, 3) := by decide +kernel
theorem dX9_law_34 : decode cX9_law 34 = .ok (.goto 8, 3) := by decide +kernel
theorem dX9_law_37 : decode cX9_law 37 = .ok (.aload_n 0, 1) := by decide +kernel
theorem dX9_law_38 : decode cX9_law 38 = .ok (.iload_n 2, 1) := by decide +kernel
theorem dX9_law_39 : decode cX9_law 39 = .ok (.invokevirtual 114, 3) := by decide +kernel
theorem dX9_law_42 : decode cX9_law 42 = .ok (.ireturn, 1) := by decide +kernel
def f_X9_law (x1 : Int32) (M : Mm) : Option (Int32 × Mm) :=
  bd (f_X9_isFilmed x1 M) fun v2_2 M2_1 => if v2_2 = 0 then (bd (f_X9_refused (nI 1) M2_1) fun v10_11 M10_10 => some (v10_11, M10_10)) else (bd (f_X1_lawOf x1 M2_1) fun v19_4 M19_3 => if v19_4 = (-1 : Int32) then (bd (f_X9_refused (nI 6) M19_3) fun v31_8 M31_7 => some (v31_8, M31_7)) else (bd (f_X9_well v19_4 M19_3) fun v39_6 M39_5 => some (v39_6, M39_5)))
set_option maxHeartbeats 4000000 in
set_option maxRecDepth 100000 in
theorem s_X9_law {l : Launch} {B : BT} (hA : bA B = false) {d : Nat} {r : Int32} {M' : Mm} {x1 : Int32} {M : Mm}  (h : f_X9_law x1 M = some (r, M')) : Con l B LY (d + 3) yX9_law cX9_law 3 (some .int) 0 0 [.ref 0, .int x1] 97 M (PI r M') := by
  refine con_of (by decide) (Nat.le_of_ble_eq_true rfl) ?_
  show GG l B LY (d + 3) yX9_law cX9_law 3 (some .int) 0 0 (PI r M') 97 0 0 0 [(0, .ref 0), (1, .int x1)] [] M
  rw [f_X9_law] at h
  refine g_aload_n dX9_law_0 rfl 0 rfl ?_
  refine g_iload_n dX9_law_1 rfl 1 rfl ?_
  obtain ⟨v2_2, M2_1, eM2_1, h⟩ := bd_e h
  refine m_callVi (As := [.int x1]) (st := []) (s_X9_isFilmed (d := d + 2) hA  eM2_1) rfl okX9 ck_X9_isFilmed w_1039 rfl (Nat.le_of_ble_eq_true rfl) dX9_law_2 ?_
  refine g_if_ne (tgt := 14) dX9_law_5 (by decide) (fun c12 => ?_) (fun c12 => ?_)
  · replace h := ite_n c12 h
    refine g_aload_n dX9_law_14 rfl 0 rfl ?_
    refine m_geta (k := 5) okX9 rfl rfl (by decide) w_418 rfl dX9_law_15 ?_
    refine g_iload_n dX9_law_18 rfl 1 rfl ?_
    obtain ⟨v19_4, M19_3, eM19_3, h⟩ := bd_e h
    refine m_callVi (As := [.int x1]) (st := []) (s_X1_lawOf (d := d + 0) hA  eM19_3) rfl okX1 ck_X1_lawOf w_1052 rfl (Nat.le_of_ble_eq_true rfl) dX9_law_19 ?_
    refine g_istore_n (lv' := [(2, .int v19_4), (0, .ref 0), (1, .int x1)]) dX9_law_22 rfl (by decide) rfl ?_
    refine g_iload_n dX9_law_23 rfl 0 rfl ?_
    refine g_iconst (v := (-1 : Int32)) dX9_law_24 (by decide) ?_
    refine g_icmp_ne (tgt := 37) dX9_law_25 (by decide) (fun c9 => ?_) (fun c9 => ?_)
    · replace h := ite_n c9 h
      refine g_aload_n dX9_law_37 rfl 1 rfl ?_
      refine g_iload_n dX9_law_38 rfl 0 rfl ?_
      obtain ⟨v39_6, M39_5, eM39_5, h⟩ := bd_e h
      refine m_callVi (As := [.int v19_4]) (st := []) (s_X9_well (d := d + 2) hA  eM39_5) rfl okX9 ck_X9_well w_677 rfl (Nat.le_of_ble_eq_true rfl) dX9_law_39 ?_
      exact g_zret rfl rfl (pi_of h) dX9_law_42
    · replace h := ite_p c9 h
      refine g_aload_n dX9_law_28 rfl 1 rfl ?_
      refine g_bipush (v := (nI 6)) dX9_law_29 (by decide) ?_
      obtain ⟨v31_8, M31_7, eM31_7, h⟩ := bd_e h
      refine m_callVi (As := [.int (nI 6)]) (st := []) (s_X9_refused (d := d + 2) hA  eM31_7) rfl okX9 ck_X9_refused w_468 rfl (Nat.le_of_ble_eq_true rfl) dX9_law_31 ?_
      refine g_goto (tgt := 42) dX9_law_34 (by decide) ?_
      exact g_zret rfl rfl (pi_of h) dX9_law_42
  · replace h := ite_p c12 h
    refine g_aload_n dX9_law_8 rfl 0 rfl ?_
    refine g_iconst (v := (nI 1)) dX9_law_9 (by decide) ?_
    obtain ⟨v10_11, M10_10, eM10_10, h⟩ := bd_e h
    refine m_callVi (As := [.int (nI 1)]) (st := []) (s_X9_refused (d := d + 2) hA  eM10_10) rfl okX9 ck_X9_refused w_468 rfl (Nat.le_of_ble_eq_true rfl) dX9_law_10 ?_
    exact g_zret rfl rfl (pi_of h) dX9_law_13
theorem ck_X9_law : CKV yX9_law cX9_law 3 (some .int) 1 := ⟨⟨by decide, by decide, by decide +kernel⟩, w_1051, w_72, ⟨w_1049, w_1050⟩, by decide⟩
theorem dX9_says_0 : decode cX9_says 0 = .ok (.aload_n 0, 1) := by decide +kernel
theorem dX9_says_1 : decode cX9_says 1 = .ok (.iload_n 1, 1) := by decide +kernel
theorem dX9_says_2 : decode cX9_says 2 = .ok (.invokevirtual 284, 3) := by decide +kernel
theorem dX9_says_5 : decode cX9_says 5 = .ok (.ifCond .ne 9, 3) := by decide +kernel
theorem dX9_says_8 : decode cX9_says 8 = .ok (.aload_n 0, 1) := by decide +kernel
theorem dX9_says_9 : decode cX9_says 9 = .ok (.iconst 1, 1) := by decide +kernel
theorem dX9_says_10 : decode cX9_says 10 = .ok (.invokevirtual 82, 3) := by decide +kernel
theorem dX9_says_13 : decode cX9_says 13 = .ok (.ireturn, 1) := by decide +kernel
theorem dX9_says_14 : decode cX9_says 14 = .ok (.aload_n 0, 1) := by decide +kernel
theorem dX9_says_15 : decode cX9_says 15 = .ok (.getfield 56, 3) := by decide +kernel
theorem dX9_says_18 : decode cX9_says 18 = .ok (.iload_n 1, 1) := by decide +kernel
theorem dX9_says_19 : decode cX9_says 19 = .ok (.iload_n 2, 1) := by decide +kernel
theorem dX9_says_20 : decode cX9_says 20 = .ok (.invokevirtual 297, 3) := by decide +kernel
theorem dX9_says_23 : decode cX9_says 23 = .ok (.istore_n 3, 1) := by decide +kernel
theorem dX9_says_24 : decode cX9_says 24 = .ok (.iload_n 3, 1) := by decide +kernel
theorem dX9_says_25 : decode cX9_says 25 = .ok (.iconst (-1), 1) := by decide +kernel
theorem dX9_says_26 : decode cX9_says 26 = .ok (.if_icmp .ne 12, 3) := by decide +kernel
theorem dX9_says_29 : decode cX9_says 29 = .ok (.aload_n 0, 1) := by decide +kernel
theorem dX9_says_30 : decode cX9_says 30 = .ok (.bipush 6, 2) := by decide +kernel
theorem dX9_says_32 : decode cX9_says 32 = .ok (.invokevirtual 82, 3) := by decide +kernel
theorem dX9_says_35 : decode cX9_says 35 = .ok (.goto 8, 3) := by decide +kernel
theorem dX9_says_38 : decode cX9_says 38 = .ok (.aload_n 0, 1) := by decide +kernel
theorem dX9_says_39 : decode cX9_says 39 = .ok (.iload_n 3, 1) := by decide +kernel
theorem dX9_says_40 : decode cX9_says 40 = .ok (.invokevirtual 114, 3) := by decide +kernel
theorem dX9_says_43 : decode cX9_says 43 = .ok (.ireturn, 1) := by decide +kernel
def f_X9_says (x1 : Int32) (x2 : Int32) (M : Mm) : Option (Int32 × Mm) :=
  bd (f_X9_isFilmed x1 M) fun v2_2 M2_1 => if v2_2 = 0 then (bd (f_X9_refused (nI 1) M2_1) fun v10_11 M10_10 => some (v10_11, M10_10)) else (bd (f_X1_lawBy x1 x2 M2_1) fun v20_4 M20_3 => if v20_4 = (-1 : Int32) then (bd (f_X9_refused (nI 6) M20_3) fun v32_8 M32_7 => some (v32_8, M32_7)) else (bd (f_X9_well v20_4 M20_3) fun v40_6 M40_5 => some (v40_6, M40_5)))
set_option maxHeartbeats 4000000 in
set_option maxRecDepth 100000 in
theorem s_X9_says {l : Launch} {B : BT} (hA : bA B = false) {d : Nat} {r : Int32} {M' : Mm} {x1 : Int32} {x2 : Int32} {M : Mm}  (h : f_X9_says x1 x2 M = some (r, M')) : Con l B LY (d + 3) yX9_says cX9_says 4 (some .int) 0 0 [.ref 0, .int x1, .int x2] 97 M (PI r M') := by
  refine con_of (by decide) (Nat.le_of_ble_eq_true rfl) ?_
  show GG l B LY (d + 3) yX9_says cX9_says 4 (some .int) 0 0 (PI r M') 97 0 0 0 [(0, .ref 0), (1, .int x1), (2, .int x2)] [] M
  rw [f_X9_says] at h
  refine g_aload_n dX9_says_0 rfl 0 rfl ?_
  refine g_iload_n dX9_says_1 rfl 1 rfl ?_
  obtain ⟨v2_2, M2_1, eM2_1, h⟩ := bd_e h
  refine m_callVi (As := [.int x1]) (st := []) (s_X9_isFilmed (d := d + 2) hA  eM2_1) rfl okX9 ck_X9_isFilmed w_1039 rfl (Nat.le_of_ble_eq_true rfl) dX9_says_2 ?_
  refine g_if_ne (tgt := 14) dX9_says_5 (by decide) (fun c12 => ?_) (fun c12 => ?_)
  · replace h := ite_n c12 h
    refine g_aload_n dX9_says_14 rfl 0 rfl ?_
    refine m_geta (k := 5) okX9 rfl rfl (by decide) w_418 rfl dX9_says_15 ?_
    refine g_iload_n dX9_says_18 rfl 1 rfl ?_
    refine g_iload_n dX9_says_19 rfl 2 rfl ?_
    obtain ⟨v20_4, M20_3, eM20_3, h⟩ := bd_e h
    refine m_callVi (As := [.int x1, .int x2]) (st := []) (s_X1_lawBy (d := d + 0) hA  eM20_3) rfl okX1 ck_X1_lawBy w_1066 rfl (Nat.le_of_ble_eq_true rfl) dX9_says_20 ?_
    refine g_istore_n (lv' := [(3, .int v20_4), (0, .ref 0), (1, .int x1), (2, .int x2)]) dX9_says_23 rfl (by decide) rfl ?_
    refine g_iload_n dX9_says_24 rfl 0 rfl ?_
    refine g_iconst (v := (-1 : Int32)) dX9_says_25 (by decide) ?_
    refine g_icmp_ne (tgt := 38) dX9_says_26 (by decide) (fun c9 => ?_) (fun c9 => ?_)
    · replace h := ite_n c9 h
      refine g_aload_n dX9_says_38 rfl 1 rfl ?_
      refine g_iload_n dX9_says_39 rfl 0 rfl ?_
      obtain ⟨v40_6, M40_5, eM40_5, h⟩ := bd_e h
      refine m_callVi (As := [.int v20_4]) (st := []) (s_X9_well (d := d + 2) hA  eM40_5) rfl okX9 ck_X9_well w_677 rfl (Nat.le_of_ble_eq_true rfl) dX9_says_40 ?_
      exact g_zret rfl rfl (pi_of h) dX9_says_43
    · replace h := ite_p c9 h
      refine g_aload_n dX9_says_29 rfl 1 rfl ?_
      refine g_bipush (v := (nI 6)) dX9_says_30 (by decide) ?_
      obtain ⟨v32_8, M32_7, eM32_7, h⟩ := bd_e h
      refine m_callVi (As := [.int (nI 6)]) (st := []) (s_X9_refused (d := d + 2) hA  eM32_7) rfl okX9 ck_X9_refused w_468 rfl (Nat.le_of_ble_eq_true rfl) dX9_says_32 ?_
      refine g_goto (tgt := 43) dX9_says_35 (by decide) ?_
      exact g_zret rfl rfl (pi_of h) dX9_says_43
  · replace h := ite_p c12 h
    refine g_aload_n dX9_says_8 rfl 0 rfl ?_
    refine g_iconst (v := (nI 1)) dX9_says_9 (by decide) ?_
    obtain ⟨v10_11, M10_10, eM10_10, h⟩ := bd_e h
    refine m_callVi (As := [.int (nI 1)]) (st := []) (s_X9_refused (d := d + 2) hA  eM10_10) rfl okX9 ck_X9_refused w_468 rfl (Nat.le_of_ble_eq_true rfl) dX9_says_10 ?_
    exact g_zret rfl rfl (pi_of h) dX9_says_13
theorem ck_X9_says : CKV yX9_says cX9_says 4 (some .int) 2 := ⟨⟨by decide, by decide, by decide +kernel⟩, w_1065, w_72, ⟨w_1063, w_1064⟩, by decide⟩
theorem dX9_off_0 : decode cX9_off 0 = .ok (.aload_n 0, 1) := by decide +kernel
theorem dX9_off_1 : decode cX9_off 1 = .ok (.invokevirtual 120, 3) := by decide +kernel
theorem dX9_off_4 : decode cX9_off 4 = .ok (.ifCond .ne 9, 3) := by decide +kernel
theorem dX9_off_7 : decode cX9_off 7 = .ok (.aload_n 0, 1) := by decide +kernel
theorem dX9_off_8 : decode cX9_off 8 = .ok (.iconst 1, 1) := by decide +kernel
theorem dX9_off_9 : decode cX9_off 9 = .ok (.invokevirtual 82, 3) := by decide +kernel
theorem dX9_off_12 : decode cX9_off 12 = .ok (.ireturn, 1) := by decide +kernel
theorem dX9_off_13 : decode cX9_off 13 = .ok (.iconst 0, 1) := by decide +kernel
theorem dX9_off_14 : decode cX9_off 14 = .ok (.istore_n 1, 1) := by decide +kernel
theorem dX9_off_15 : decode cX9_off 15 = .ok (.iconst 0, 1) := by decide +kernel
theorem dX9_off_16 : decode cX9_off 16 = .ok (.istore_n 2, 1) := by decide +kernel
theorem dX9_off_17 : decode cX9_off 17 = .ok (.iload_n 2, 1) := by decide +kernel
theorem dX9_off_18 : decode cX9_off 18 = .ok (.aload_n 0, 1) := by decide +kernel
theorem dX9_off_19 : decode cX9_off 19 = .ok (.getfield 10, 3) := by decide +kernel
theorem dX9_off_22 : decode cX9_off 22 = .ok (.getfield 219, 3) := by decide +kernel
theorem dX9_off_25 : decode cX9_off 25 = .ok (.iconst 1, 1) := by decide +kernel
theorem dX9_off_26 : decode cX9_off 26 = .ok (.isub, 1) := by decide +kernel
theorem dX9_off_27 : decode cX9_off 27 = .ok (.if_icmp .ge 42, 3) := by decide +kernel
theorem dX9_off_30 : decode cX9_off 30 = .ok (.aload_n 0, 1) := by decide +kernel
theorem dX9_off_31 : decode cX9_off 31 = .ok (.getfield 56, 3) := by decide +kernel
theorem dX9_off_34 : decode cX9_off 34 = .ok (.iload_n 2, 1) := by decide +kernel
theorem dX9_off_35 : decode cX9_off 35 = .ok (.invokevirtual 294, 3) := by decide +kernel
theorem dX9_off_38 : decode cX9_off 38 = .ok (.istore_n 3, 1) := by decide +kernel
theorem dX9_off_39 : decode cX9_off 39 = .ok (.iload_n 3, 1) := by decide +kernel
theorem dX9_off_40 : decode cX9_off 40 = .ok (.iconst (-1), 1) := by decide +kernel
theorem dX9_off_41 : decode cX9_off 41 = .ok (.if_icmp .eq 22, 3) := by decide +kernel
theorem dX9_off_44 : decode cX9_off 44 = .ok (.iload_n 1, 1) := by decide +kernel
theorem dX9_off_45 : decode cX9_off 45 = .ok (.iload_n 3, 1) := by decide +kernel
theorem dX9_off_46 : decode cX9_off 46 = .ok (.aload_n 0, 1) := by decide +kernel
theorem dX9_off_47 : decode cX9_off 47 = .ok (.getfield 10, 3) := by decide +kernel
theorem dX9_off_50 : decode cX9_off 50 = .ok (.getfield 301, 3) := by decide +kernel
theorem dX9_off_53 : decode cX9_off 53 = .ok (.iload_n 2, 1) := by decide +kernel
theorem dX9_off_54 : decode cX9_off 54 = .ok (.invokestatic 166, 3) := by decide +kernel
theorem dX9_off_57 : decode cX9_off 57 = .ok (.isub, 1) := by decide +kernel
theorem dX9_off_58 : decode cX9_off 58 = .ok (.invokestatic 304, 3) := by decide +kernel
theorem dX9_off_61 : decode cX9_off 61 = .ok (.iadd, 1) := by decide +kernel
theorem dX9_off_62 : decode cX9_off 62 = .ok (.istore_n 1, 1) := by decide +kernel
theorem dX9_off_63 : decode cX9_off 63 = .ok (.iinc 2 1, 3) := by decide +kernel
theorem dX9_off_66 : decode cX9_off 66 = .ok (.goto (-49), 3) := by decide +kernel
theorem dX9_off_69 : decode cX9_off 69 = .ok (.aload_n 0, 1) := by decide +kernel
theorem dX9_off_70 : decode cX9_off 70 = .ok (.iload_n 1, 1) := by decide +kernel
theorem dX9_off_71 : decode cX9_off 71 = .ok (.invokevirtual 114, 3) := by decide +kernel
theorem dX9_off_74 : decode cX9_off 74 = .ok (.ireturn, 1) := by decide +kernel
def lp_X9_off_17  (k69 : Int32 → Mm → Option (Int32 × Mm)) : Nat → Int32 → Int32 → Mm → Option (Int32 × Mm)
  | 0, _, _, _ => none
  | n + 1, y1, y2, M =>
    bg (M 0 8) fun g3 => if ((M g3 9) - (nI 1)) ≤ y2 then (k69 y1 M) else (bd (f_X1_lawOf y2 M) fun v35_5 M35_4 => jn (fun (u6 : Int32) (M7 : Mm) => lp_X9_off_17 k69 n u6 (y2 + (nI 1)) M7) fun j8 => if v35_5 = (-1 : Int32) then (j8 y1 M35_4) else (bg (M35_4 0 8) fun g9 => bd (f_X9_at (g9 + 4) y2 M35_4) fun v54_11 M54_10 => lt ((y1 + (if 0 ≤ (v35_5 - v54_11) then (v35_5 - v54_11) else 0 - (v35_5 - v54_11)))) fun t12 => j8 t12 M54_10))
def f_X9_off  (M : Mm) : Option (Int32 × Mm) :=
  bd (f_X9_hasGame  M) fun v1_2 M1_1 => if v1_2 = 0 then (bd (f_X9_refused (nI 1) M1_1) fun v9_20 M9_19 => some (v9_20, M9_19)) else (lp_X9_off_17  (fun (u15 : Int32) (M16 : Mm) => bd (f_X9_well u15 M16) fun v71_18 M71_17 => some (v71_18, M71_17)) N0 (nI 0) (nI 0) M1_1)
set_option maxHeartbeats 4000000 in
set_option maxRecDepth 100000 in
theorem sl_X9_off_17 {l : Launch} {B : BT} (hA : bA B = false) {d : Nat} {r : Int32} {M' : Mm}   {k69 : Int32 → Mm → Option (Int32 × Mm)} (hk69 : ∀ (z1 : Int32) (M9 : Mm), k69 z1 M9 = some (r, M') → GG l B LY (d + 3) yX9_off cX9_off 4 (some .int) 0 0 (PI r M') 97 0 0 69 [(0, .ref 0), (1, .int z1)] [] M9) :
    ∀ (n : Nat) (y1 : Int32) (y2 : Int32) (M : Mm), lp_X9_off_17 k69 n y1 y2 M = some (r, M') → GG l B LY (d + 3) yX9_off cX9_off 4 (some .int) 0 0 (PI r M') 97 0 0 17 [(0, .ref 0), (1, .int y1), (2, .int y2)] [] M := by
  intro n
  induction n with
  | zero => intro y1 y2 M h; cases h
  | succ n ih =>
    intro y1 y2 M h
    rw [lp_X9_off_17] at h
    refine g_iload_n dX9_off_17 rfl 2 rfl ?_
    refine g_aload_n dX9_off_18 rfl 0 rfl ?_
    obtain ⟨g3, eg3, hg3, h⟩ := bg_e h
    refine m_getm (k := 8) okX9 rfl rfl (by decide) w_421 rfl dX9_off_19 eg3 hg3 ?_
    refine m_geti (k := 9) okX0 hg3 rfl (by decide) w_137 rfl dX9_off_22 ?_
    refine g_iconst (v := (nI 1)) dX9_off_25 (by decide) ?_
    refine g_isub dX9_off_26 ?_
    refine g_icmp_ge (tgt := 69) dX9_off_27 (by decide) (fun c14 => ?_) (fun c14 => ?_)
    · replace h := ite_p c14 h
      refine g_sub [0, 1] (lv' := [(0, .ref 0), (1, .int y1)]) rfl ?_
      exact hk69 _ _ h
    · replace h := ite_n c14 h
      refine g_aload_n dX9_off_30 rfl 0 rfl ?_
      refine m_geta (k := 5) okX9 rfl rfl (by decide) w_418 rfl dX9_off_31 ?_
      refine g_iload_n dX9_off_34 rfl 2 rfl ?_
      obtain ⟨v35_5, M35_4, eM35_4, h⟩ := bd_e h
      refine m_callVi (As := [.int y2]) (st := []) (s_X1_lawOf (d := d + 0) hA  eM35_4) rfl okX1 ck_X1_lawOf w_1052 rfl (Nat.le_of_ble_eq_true rfl) dX9_off_35 ?_
      refine g_istore_n (lv' := [(3, .int v35_5), (0, .ref 0), (1, .int y1), (2, .int y2)]) dX9_off_38 rfl (by decide) rfl ?_
      refine g_iload_n dX9_off_39 rfl 0 rfl ?_
      refine g_iconst (v := (-1 : Int32)) dX9_off_40 (by decide) ?_
      obtain ⟨j8, ej8, h⟩ := jn_e h
      have hj8 : ∀ (u6 : Int32) (M7 : Mm), j8 u6 M7 = some (r, M') → GG l B LY (d + 3) yX9_off cX9_off 4 (some .int) 0 0 (PI r M') 97 0 0 63 [(0, .ref 0), (1, .int u6), (2, .int y2)] [] M7 := by
        intro u6 M7 h
        rw [ej8] at h
        refine g_iinc (v := (y2 + (nI 1))) (lv' := [(2, .int (y2 + (nI 1))), (0, .ref 0), (1, .int u6)]) dX9_off_63 2 rfl rfl (by decide) rfl ?_
        refine g_goto (tgt := 17) dX9_off_66 (by decide) ?_
        refine g_sub [1, 2, 0] (lv' := [(0, .ref 0), (1, .int u6), (2, .int (y2 + (nI 1)))]) rfl ?_
        exact ih _ _  _ h
      refine g_icmp_eq (tgt := 63) dX9_off_41 (by decide) (fun c13 => ?_) (fun c13 => ?_)
      · replace h := ite_p c13 h
        refine g_sub [1, 2, 3] (lv' := [(0, .ref 0), (1, .int y1), (2, .int y2)]) rfl ?_
        exact hj8 _ _ h
      · replace h := ite_n c13 h
        refine g_iload_n dX9_off_44 rfl 2 rfl ?_
        refine g_iload_n dX9_off_45 rfl 0 rfl ?_
        refine g_aload_n dX9_off_46 rfl 1 rfl ?_
        obtain ⟨g9, eg9, hg9, h⟩ := bg_e h
        refine m_getm (k := 8) okX9 rfl rfl (by decide) w_421 rfl dX9_off_47 eg9 hg9 ?_
        refine m_getr (k := 3) okX0 hg9 rfl (by decide) w_115 rfl dX9_off_50 ?_
        refine g_iload_n dX9_off_53 rfl 3 rfl ?_
        obtain ⟨v54_11, M54_10, eM54_10, h⟩ := bd_e h
        refine m_callSi (As := [.ref (g9 + 4), .int y2]) (st := [.int v35_5, .int y1]) (s_X9_at (d := d + 2) hA (al_of (aX0_4 hg9)) eM54_10) ck_X9_at w_605 rfl (Nat.le_of_ble_eq_true rfl) dX9_off_54 ?_
        refine g_isub dX9_off_57 ?_
        refine m_mabs (st := [.int y1]) w_1074 w_1075 w_86 w_1076 (Nat.le_of_ble_eq_true rfl) dX9_off_58 ?_
        refine g_iadd dX9_off_61 ?_
        obtain ⟨t12, et12, h⟩ := lt_e h
        refine g_cuti et12 ?_
        refine g_istore_n (lv' := [(1, .int t12), (3, .int v35_5), (0, .ref 0), (2, .int y2)]) dX9_off_62 rfl (by decide) rfl ?_
        refine g_sub [2, 0, 3] (lv' := [(0, .ref 0), (1, .int t12), (2, .int y2)]) rfl ?_
        exact hj8 _ _ h
set_option maxHeartbeats 4000000 in
set_option maxRecDepth 100000 in
theorem s_X9_off {l : Launch} {B : BT} (hA : bA B = false) {d : Nat} {r : Int32} {M' : Mm}  {M : Mm}  (h : f_X9_off  M = some (r, M')) : Con l B LY (d + 3) yX9_off cX9_off 4 (some .int) 0 0 [.ref 0] 97 M (PI r M') := by
  refine con_of (by decide) (Nat.le_of_ble_eq_true rfl) ?_
  show GG l B LY (d + 3) yX9_off cX9_off 4 (some .int) 0 0 (PI r M') 97 0 0 0 [(0, .ref 0)] [] M
  rw [f_X9_off] at h
  refine g_aload_n dX9_off_0 rfl 0 rfl ?_
  obtain ⟨v1_2, M1_1, eM1_1, h⟩ := bd_e h
  refine m_callVi (As := []) (st := []) (s_X9_hasGame (d := d + 2) hA  eM1_1) rfl okX9 ck_X9_hasGame w_693 rfl (Nat.le_of_ble_eq_true rfl) dX9_off_1 ?_
  refine g_if_ne (tgt := 13) dX9_off_4 (by decide) (fun c21 => ?_) (fun c21 => ?_)
  · replace h := ite_n c21 h
    refine g_iconst (v := (nI 0)) dX9_off_13 (by decide) ?_
    refine g_istore_n (lv' := [(1, .int (nI 0)), (0, .ref 0)]) dX9_off_14 rfl (by decide) rfl ?_
    refine g_iconst (v := (nI 0)) dX9_off_15 (by decide) ?_
    refine g_istore_n (lv' := [(2, .int (nI 0)), (1, .int (nI 0)), (0, .ref 0)]) dX9_off_16 rfl (by decide) rfl ?_
    refine g_sub [2, 1, 0] (lv' := [(0, .ref 0), (1, .int (nI 0)), (2, .int (nI 0))]) rfl ?_
    refine sl_X9_off_17 hA  ?_ _ _ _ _ h
    · intro u15 M16 h
      refine g_aload_n dX9_off_69 rfl 0 rfl ?_
      refine g_iload_n dX9_off_70 rfl 1 rfl ?_
      obtain ⟨v71_18, M71_17, eM71_17, h⟩ := bd_e h
      refine m_callVi (As := [.int u15]) (st := []) (s_X9_well (d := d + 2) hA  eM71_17) rfl okX9 ck_X9_well w_677 rfl (Nat.le_of_ble_eq_true rfl) dX9_off_71 ?_
      exact g_zret rfl rfl (pi_of h) dX9_off_74
  · replace h := ite_p c21 h
    refine g_aload_n dX9_off_7 rfl 0 rfl ?_
    refine g_iconst (v := (nI 1)) dX9_off_8 (by decide) ?_
    obtain ⟨v9_20, M9_19, eM9_19, h⟩ := bd_e h
    refine m_callVi (As := [.int (nI 1)]) (st := []) (s_X9_refused (d := d + 2) hA  eM9_19) rfl okX9 ck_X9_refused w_468 rfl (Nat.le_of_ble_eq_true rfl) dX9_off_9 ?_
    exact g_zret rfl rfl (pi_of h) dX9_off_12
theorem ck_X9_off : CKV yX9_off cX9_off 4 (some .int) 0 := ⟨⟨by decide, by decide, by decide +kernel⟩, w_1073, w_72, ⟨w_1071, w_1072⟩, by decide⟩
theorem dX9_stop_0 : decode cX9_stop 0 = .ok (.aload_n 0, 1) := by decide +kernel
theorem dX9_stop_1 : decode cX9_stop 1 = .ok (.iload_n 1, 1) := by decide +kernel
theorem dX9_stop_2 : decode cX9_stop 2 = .ok (.invokevirtual 146, 3) := by decide +kernel
theorem dX9_stop_5 : decode cX9_stop 5 = .ok (.ifCond .ne 9, 3) := by decide +kernel
theorem dX9_stop_8 : decode cX9_stop 8 = .ok (.aload_n 0, 1) := by decide +kernel
theorem dX9_stop_9 : decode cX9_stop 9 = .ok (.iconst 1, 1) := by decide +kernel
theorem dX9_stop_10 : decode cX9_stop 10 = .ok (.invokevirtual 82, 3) := by decide +kernel
theorem dX9_stop_13 : decode cX9_stop 13 = .ok (.ireturn, 1) := by decide +kernel
theorem dX9_stop_14 : decode cX9_stop 14 = .ok (.aload_n 0, 1) := by decide +kernel
theorem dX9_stop_15 : decode cX9_stop 15 = .ok (.getfield 56, 3) := by decide +kernel
theorem dX9_stop_18 : decode cX9_stop 18 = .ok (.getfield 309, 3) := by decide +kernel
theorem dX9_stop_21 : decode cX9_stop 21 = .ok (.iload_n 1, 1) := by decide +kernel
theorem dX9_stop_22 : decode cX9_stop 22 = .ok (.invokestatic 166, 3) := by decide +kernel
theorem dX9_stop_25 : decode cX9_stop 25 = .ok (.bipush 9, 2) := by decide +kernel
theorem dX9_stop_27 : decode cX9_stop 27 = .ok (.if_icmp .lt 9, 3) := by decide +kernel
theorem dX9_stop_30 : decode cX9_stop 30 = .ok (.aload_n 0, 1) := by decide +kernel
theorem dX9_stop_31 : decode cX9_stop 31 = .ok (.iconst 3, 1) := by decide +kernel
theorem dX9_stop_32 : decode cX9_stop 32 = .ok (.invokevirtual 82, 3) := by decide +kernel
theorem dX9_stop_35 : decode cX9_stop 35 = .ok (.ireturn, 1) := by decide +kernel
theorem dX9_stop_36 : decode cX9_stop 36 = .ok (.aload_n 0, 1) := by decide +kernel
theorem dX9_stop_37 : decode cX9_stop 37 = .ok (.getfield 56, 3) := by decide +kernel
theorem dX9_stop_40 : decode cX9_stop 40 = .ok (.iload_n 1, 1) := by decide +kernel
theorem dX9_stop_41 : decode cX9_stop 41 = .ok (.iload_n 2, 1) := by decide +kernel
theorem dX9_stop_42 : decode cX9_stop 42 = .ok (.invokevirtual 312, 3) := by decide +kernel
theorem dX9_stop_45 : decode cX9_stop 45 = .ok (.aload_n 0, 1) := by decide +kernel
theorem dX9_stop_46 : decode cX9_stop 46 = .ok (.aload_n 0, 1) := by decide +kernel
theorem dX9_stop_47 : decode cX9_stop 47 = .ok (.getfield 56, 3) := by decide +kernel
theorem dX9_stop_50 : decode cX9_stop 50 = .ok (.getfield 309, 3) := by decide +kernel
theorem dX9_stop_53 : decode cX9_stop 53 = .ok (.iload_n 1, 1) := by decide +kernel
theorem dX9_stop_54 : decode cX9_stop 54 = .ok (.invokestatic 166, 3) := by decide +kernel
theorem dX9_stop_57 : decode cX9_stop 57 = .ok (.invokevirtual 114, 3) := by decide +kernel
theorem dX9_stop_60 : decode cX9_stop 60 = .ok (.ireturn, 1) := by decide +kernel
def f_X9_stop (x1 : Int32) (x2 : Int32) (M : Mm) : Option (Int32 × Mm) :=
  bd (f_X9_isCreeper x1 M) fun v2_2 M2_1 => if v2_2 = 0 then (bd (f_X9_refused (nI 1) M2_1) fun v10_15 M10_14 => some (v10_15, M10_14)) else (bd (f_X9_at 75 x1 M2_1) fun v22_4 M22_3 => if v22_4 < (nI 9) then (bv (f_X1_addStop x1 x2 M22_3) fun M42_5 => bd (f_X9_at 75 x1 M42_5) fun v54_8 M54_7 => bd (f_X9_well v54_8 M54_7) fun v57_10 M57_9 => some (v57_10, M57_9)) else (bd (f_X9_refused (nI 3) M22_3) fun v32_12 M32_11 => some (v32_12, M32_11)))
set_option maxHeartbeats 4000000 in
set_option maxRecDepth 100000 in
theorem s_X9_stop {l : Launch} {B : BT} (hA : bA B = false) {d : Nat} {r : Int32} {M' : Mm} {x1 : Int32} {x2 : Int32} {M : Mm}  (h : f_X9_stop x1 x2 M = some (r, M')) : Con l B LY (d + 3) yX9_stop cX9_stop 3 (some .int) 0 0 [.ref 0, .int x1, .int x2] 97 M (PI r M') := by
  refine con_of (by decide) (Nat.le_of_ble_eq_true rfl) ?_
  show GG l B LY (d + 3) yX9_stop cX9_stop 3 (some .int) 0 0 (PI r M') 97 0 0 0 [(0, .ref 0), (1, .int x1), (2, .int x2)] [] M
  rw [f_X9_stop] at h
  refine g_aload_n dX9_stop_0 rfl 0 rfl ?_
  refine g_iload_n dX9_stop_1 rfl 1 rfl ?_
  obtain ⟨v2_2, M2_1, eM2_1, h⟩ := bd_e h
  refine m_callVi (As := [.int x1]) (st := []) (s_X9_isCreeper (d := d + 2) hA  eM2_1) rfl okX9 ck_X9_isCreeper w_816 rfl (Nat.le_of_ble_eq_true rfl) dX9_stop_2 ?_
  refine g_if_ne (tgt := 14) dX9_stop_5 (by decide) (fun c16 => ?_) (fun c16 => ?_)
  · replace h := ite_n c16 h
    refine g_aload_n dX9_stop_14 rfl 0 rfl ?_
    refine m_geta (k := 5) okX9 rfl rfl (by decide) w_418 rfl dX9_stop_15 ?_
    refine m_getr (k := 1) okX1 rfl rfl (by decide) w_360 rfl dX9_stop_18 ?_
    refine g_iload_n dX9_stop_21 rfl 1 rfl ?_
    obtain ⟨v22_4, M22_3, eM22_3, h⟩ := bd_e h
    refine m_callSi (As := [.ref 75, .int x1]) (st := []) (s_X9_at (d := d + 2) hA (al_of rfl) eM22_3) ck_X9_at w_605 rfl (Nat.le_of_ble_eq_true rfl) dX9_stop_22 ?_
    refine g_bipush (v := (nI 9)) dX9_stop_25 (by decide) ?_
    refine g_icmp_lt (tgt := 36) dX9_stop_27 (by decide) (fun c13 => ?_) (fun c13 => ?_)
    · replace h := ite_p c13 h
      refine g_aload_n dX9_stop_36 rfl 0 rfl ?_
      refine m_geta (k := 5) okX9 rfl rfl (by decide) w_418 rfl dX9_stop_37 ?_
      refine g_iload_n dX9_stop_40 rfl 1 rfl ?_
      refine g_iload_n dX9_stop_41 rfl 2 rfl ?_
      obtain ⟨M42_5, eM42_5, h⟩ := bv_e h
      refine m_callVv (As := [.int x1, .int x2]) (st := []) (s_X1_addStop (d := d + 0) hA  eM42_5) rfl okX1 ck_X1_addStop w_1081 rfl (Nat.le_of_ble_eq_true rfl) dX9_stop_42 ?_
      refine g_aload_n dX9_stop_45 rfl 0 rfl ?_
      refine g_aload_n dX9_stop_46 rfl 0 rfl ?_
      refine m_geta (k := 5) okX9 rfl rfl (by decide) w_418 rfl dX9_stop_47 ?_
      refine m_getr (k := 1) okX1 rfl rfl (by decide) w_360 rfl dX9_stop_50 ?_
      refine g_iload_n dX9_stop_53 rfl 1 rfl ?_
      obtain ⟨v54_8, M54_7, eM54_7, h⟩ := bd_e h
      refine m_callSi (As := [.ref 75, .int x1]) (st := [.ref 0]) (s_X9_at (d := d + 2) hA (al_of rfl) eM54_7) ck_X9_at w_605 rfl (Nat.le_of_ble_eq_true rfl) dX9_stop_54 ?_
      obtain ⟨v57_10, M57_9, eM57_9, h⟩ := bd_e h
      refine m_callVi (As := [.int v54_8]) (st := []) (s_X9_well (d := d + 2) hA  eM57_9) rfl okX9 ck_X9_well w_677 rfl (Nat.le_of_ble_eq_true rfl) dX9_stop_57 ?_
      exact g_zret rfl rfl (pi_of h) dX9_stop_60
    · replace h := ite_n c13 h
      refine g_aload_n dX9_stop_30 rfl 0 rfl ?_
      refine g_iconst (v := (nI 3)) dX9_stop_31 (by decide) ?_
      obtain ⟨v32_12, M32_11, eM32_11, h⟩ := bd_e h
      refine m_callVi (As := [.int (nI 3)]) (st := []) (s_X9_refused (d := d + 2) hA  eM32_11) rfl okX9 ck_X9_refused w_468 rfl (Nat.le_of_ble_eq_true rfl) dX9_stop_32 ?_
      exact g_zret rfl rfl (pi_of h) dX9_stop_35
  · replace h := ite_p c16 h
    refine g_aload_n dX9_stop_8 rfl 0 rfl ?_
    refine g_iconst (v := (nI 1)) dX9_stop_9 (by decide) ?_
    obtain ⟨v10_15, M10_14, eM10_14, h⟩ := bd_e h
    refine m_callVi (As := [.int (nI 1)]) (st := []) (s_X9_refused (d := d + 2) hA  eM10_14) rfl okX9 ck_X9_refused w_468 rfl (Nat.le_of_ble_eq_true rfl) dX9_stop_10 ?_
    exact g_zret rfl rfl (pi_of h) dX9_stop_13
theorem ck_X9_stop : CKV yX9_stop cX9_stop 3 (some .int) 2 := ⟨⟨by decide, by decide, by decide +kernel⟩, w_1080, w_72, ⟨w_1078, w_1079⟩, by decide⟩
theorem dX9_span_0 : decode cX9_span 0 = .ok (.aload_n 0, 1) := by decide +kernel
theorem dX9_span_1 : decode cX9_span 1 = .ok (.iload_n 1, 1) := by decide +kernel
theorem dX9_span_2 : decode cX9_span 2 = .ok (.invokevirtual 146, 3) := by decide +kernel
theorem dX9_span_5 : decode cX9_span 5 = .ok (.ifCond .ne 9, 3) := by decide +kernel
theorem dX9_span_8 : decode cX9_span 8 = .ok (.aload_n 0, 1) := by decide +kernel
theorem dX9_span_9 : decode cX9_span 9 = .ok (.iconst 1, 1) := by decide +kernel
theorem dX9_span_10 : decode cX9_span 10 = .ok (.invokevirtual 82, 3) := by decide +kernel
theorem dX9_span_13 : decode cX9_span 13 = .ok (.ireturn, 1) := by decide +kernel
theorem dX9_span_14 : decode cX9_span 14 = .ok (.aload_n 0, 1) := by decide +kernel
theorem dX9_span_15 : decode cX9_span 15 = .ok (.getfield 56, 3) := by decide +kernel
theorem dX9_span_18 : decode cX9_span 18 = .ok (.getfield 309, 3) := by decide +kernel
theorem dX9_span_21 : decode cX9_span 21 = .ok (.iload_n 1, 1) := by decide +kernel
theorem dX9_span_22 : decode cX9_span 22 = .ok (.invokestatic 166, 3) := by decide +kernel
theorem dX9_span_25 : decode cX9_span 25 = .ok (.ifCond .ne 10, 3) := by decide +kernel
theorem dX9_span_28 : decode cX9_span 28 = .ok (.aload_n 0, 1) := by decide +kernel
theorem dX9_span_29 : decode cX9_span 29 = .ok (.bipush 6, 2) := by decide +kernel
theorem dX9_span_31 : decode cX9_span 31 = .ok (.invokevirtual 82, 3) := by decide +kernel
theorem dX9_span_34 : decode cX9_span 34 = .ok (.ireturn, 1) := by decide +kernel
theorem dX9_span_35 : decode cX9_span 35 = .ok (.aload_n 0, 1) := by decide +kernel
theorem dX9_span_36 : decode cX9_span 36 = .ok (.iload_n 2, 1) := by decide +kernel
theorem dX9_span_37 : decode cX9_span 37 = .ok (.ifCond .eq 14, 3) := by decide +kernel
theorem dX9_span_40 : decode cX9_span 40 = .ok (.aload_n 0, 1) := by decide +kernel
theorem dX9_span_41 : decode cX9_span 41 = .ok (.getfield 56, 3) := by decide +kernel
theorem dX9_span_44 : decode cX9_span 44 = .ok (.iload_n 1, 1) := by decide +kernel
theorem dX9_span_45 : decode cX9_span 45 = .ok (.invokevirtual 316, 3) := by decide +kernel
theorem dX9_span_48 : decode cX9_span 48 = .ok (.goto 11, 3) := by decide +kernel
theorem dX9_span_51 : decode cX9_span 51 = .ok (.aload_n 0, 1) := by decide +kernel
theorem dX9_span_52 : decode cX9_span 52 = .ok (.getfield 56, 3) := by decide +kernel
theorem dX9_span_55 : decode cX9_span 55 = .ok (.iload_n 1, 1) := by decide +kernel
theorem dX9_span_56 : decode cX9_span 56 = .ok (.invokevirtual 319, 3) := by decide +kernel
theorem dX9_span_59 : decode cX9_span 59 = .ok (.invokevirtual 114, 3) := by decide +kernel
theorem dX9_span_62 : decode cX9_span 62 = .ok (.ireturn, 1) := by decide +kernel
def f_X9_span (x1 : Int32) (x2 : Int32) (M : Mm) : Option (Int32 × Mm) :=
  bd (f_X9_isCreeper x1 M) fun v2_2 M2_1 => if v2_2 = 0 then (bd (f_X9_refused (nI 1) M2_1) fun v10_19 M10_18 => some (v10_19, M10_18)) else (bd (f_X9_at 75 x1 M2_1) fun v22_4 M22_3 => if v22_4 = 0 then (bd (f_X9_refused (nI 6) M22_3) fun v31_16 M31_15 => some (v31_16, M31_15)) else (jn (fun (s5 : Int32) (M6 : Mm) => bd (f_X9_well s5 M6) fun v59_9 M59_8 => some (v59_9, M59_8)) fun j7 => if x2 = 0 then (bd (f_X1_leastWobble x1 M22_3) fun v56_11 M56_10 => j7 v56_11 M56_10) else (bd (f_X1_greatestWobble x1 M22_3) fun v45_13 M45_12 => j7 v45_13 M45_12)))
set_option maxHeartbeats 4000000 in
set_option maxRecDepth 100000 in
theorem s_X9_span {l : Launch} {B : BT} (hA : bA B = false) {d : Nat} {r : Int32} {M' : Mm} {x1 : Int32} {x2 : Int32} {M : Mm}  (h : f_X9_span x1 x2 M = some (r, M')) : Con l B LY (d + 5) yX9_span cX9_span 3 (some .int) 0 0 [.ref 0, .int x1, .int x2] 97 M (PI r M') := by
  refine con_of (by decide) (Nat.le_of_ble_eq_true rfl) ?_
  show GG l B LY (d + 5) yX9_span cX9_span 3 (some .int) 0 0 (PI r M') 97 0 0 0 [(0, .ref 0), (1, .int x1), (2, .int x2)] [] M
  rw [f_X9_span] at h
  refine g_aload_n dX9_span_0 rfl 0 rfl ?_
  refine g_iload_n dX9_span_1 rfl 1 rfl ?_
  obtain ⟨v2_2, M2_1, eM2_1, h⟩ := bd_e h
  refine m_callVi (As := [.int x1]) (st := []) (s_X9_isCreeper (d := d + 4) hA  eM2_1) rfl okX9 ck_X9_isCreeper w_816 rfl (Nat.le_of_ble_eq_true rfl) dX9_span_2 ?_
  refine g_if_ne (tgt := 14) dX9_span_5 (by decide) (fun c20 => ?_) (fun c20 => ?_)
  · replace h := ite_n c20 h
    refine g_aload_n dX9_span_14 rfl 0 rfl ?_
    refine m_geta (k := 5) okX9 rfl rfl (by decide) w_418 rfl dX9_span_15 ?_
    refine m_getr (k := 1) okX1 rfl rfl (by decide) w_360 rfl dX9_span_18 ?_
    refine g_iload_n dX9_span_21 rfl 1 rfl ?_
    obtain ⟨v22_4, M22_3, eM22_3, h⟩ := bd_e h
    refine m_callSi (As := [.ref 75, .int x1]) (st := []) (s_X9_at (d := d + 4) hA (al_of rfl) eM22_3) ck_X9_at w_605 rfl (Nat.le_of_ble_eq_true rfl) dX9_span_22 ?_
    refine g_if_ne (tgt := 35) dX9_span_25 (by decide) (fun c17 => ?_) (fun c17 => ?_)
    · replace h := ite_n c17 h
      refine g_aload_n dX9_span_35 rfl 0 rfl ?_
      refine g_iload_n dX9_span_36 rfl 2 rfl ?_
      obtain ⟨j7, ej7, h⟩ := jn_e h
      have hj7 : ∀ (s5 : Int32) (M6 : Mm), j7 s5 M6 = some (r, M') → GG l B LY (d + 5) yX9_span cX9_span 3 (some .int) 0 0 (PI r M') 97 0 0 59 [] [.int s5, .ref 0] M6 := by
        intro s5 M6 h
        rw [ej7] at h
        obtain ⟨v59_9, M59_8, eM59_8, h⟩ := bd_e h
        refine m_callVi (As := [.int s5]) (st := []) (s_X9_well (d := d + 4) hA  eM59_8) rfl okX9 ck_X9_well w_677 rfl (Nat.le_of_ble_eq_true rfl) dX9_span_59 ?_
        exact g_zret rfl rfl (pi_of h) dX9_span_62
      refine g_if_eq (tgt := 51) dX9_span_37 (by decide) (fun c14 => ?_) (fun c14 => ?_)
      · replace h := ite_p c14 h
        refine g_aload_n dX9_span_51 rfl 0 rfl ?_
        refine m_geta (k := 5) okX9 rfl rfl (by decide) w_418 rfl dX9_span_52 ?_
        refine g_iload_n dX9_span_55 rfl 1 rfl ?_
        obtain ⟨v56_11, M56_10, eM56_10, h⟩ := bd_e h
        refine m_callVi (As := [.int x1]) (st := [.ref 0]) (s_X1_leastWobble (d := d + 0) hA  eM56_10) rfl okX1 ck_X1_leastWobble w_1108 rfl (Nat.le_of_ble_eq_true rfl) dX9_span_56 ?_
        refine g_sub [] (lv' := []) rfl ?_
        exact hj7 _ _ h
      · replace h := ite_n c14 h
        refine g_aload_n dX9_span_40 rfl 0 rfl ?_
        refine m_geta (k := 5) okX9 rfl rfl (by decide) w_418 rfl dX9_span_41 ?_
        refine g_iload_n dX9_span_44 rfl 1 rfl ?_
        obtain ⟨v45_13, M45_12, eM45_12, h⟩ := bd_e h
        refine m_callVi (As := [.int x1]) (st := [.ref 0]) (s_X1_greatestWobble (d := d + 0) hA  eM45_12) rfl okX1 ck_X1_greatestWobble w_1089 rfl (Nat.le_of_ble_eq_true rfl) dX9_span_45 ?_
        refine g_goto (tgt := 59) dX9_span_48 (by decide) ?_
        refine g_sub [] (lv' := []) rfl ?_
        exact hj7 _ _ h
    · replace h := ite_p c17 h
      refine g_aload_n dX9_span_28 rfl 0 rfl ?_
      refine g_bipush (v := (nI 6)) dX9_span_29 (by decide) ?_
      obtain ⟨v31_16, M31_15, eM31_15, h⟩ := bd_e h
      refine m_callVi (As := [.int (nI 6)]) (st := []) (s_X9_refused (d := d + 4) hA  eM31_15) rfl okX9 ck_X9_refused w_468 rfl (Nat.le_of_ble_eq_true rfl) dX9_span_31 ?_
      exact g_zret rfl rfl (pi_of h) dX9_span_34
  · replace h := ite_p c20 h
    refine g_aload_n dX9_span_8 rfl 0 rfl ?_
    refine g_iconst (v := (nI 1)) dX9_span_9 (by decide) ?_
    obtain ⟨v10_19, M10_18, eM10_18, h⟩ := bd_e h
    refine m_callVi (As := [.int (nI 1)]) (st := []) (s_X9_refused (d := d + 4) hA  eM10_18) rfl okX9 ck_X9_refused w_468 rfl (Nat.le_of_ble_eq_true rfl) dX9_span_10 ?_
    exact g_zret rfl rfl (pi_of h) dX9_span_13
theorem ck_X9_span : CKV yX9_span cX9_span 3 (some .int) 2 := ⟨⟨by decide, by decide, by decide +kernel⟩, w_1088, w_72, ⟨w_1086, w_1087⟩, by decide⟩
theorem dX9_fits_0 : decode cX9_fits 0 = .ok (.aload_n 0, 1) := by decide +kernel
theorem dX9_fits_1 : decode cX9_fits 1 = .ok (.iload_n 1, 1) := by decide +kernel
theorem dX9_fits_2 : decode cX9_fits 2 = .ok (.invokevirtual 146, 3) := by decide +kernel
theorem dX9_fits_5 : decode cX9_fits 5 = .ok (.ifCond .ne 9, 3) := by decide +kernel
theorem dX9_fits_8 : decode cX9_fits 8 = .ok (.aload_n 0, 1) := by decide +kernel
theorem dX9_fits_9 : decode cX9_fits 9 = .ok (.iconst 1, 1) := by decide +kernel
theorem dX9_fits_10 : decode cX9_fits 10 = .ok (.invokevirtual 82, 3) := by decide +kernel
theorem dX9_fits_13 : decode cX9_fits 13 = .ok (.ireturn, 1) := by decide +kernel
theorem dX9_fits_14 : decode cX9_fits 14 = .ok (.aload_n 0, 1) := by decide +kernel
theorem dX9_fits_15 : decode cX9_fits 15 = .ok (.getfield 56, 3) := by decide +kernel
theorem dX9_fits_18 : decode cX9_fits 18 = .ok (.getfield 309, 3) := by decide +kernel
theorem dX9_fits_21 : decode cX9_fits 21 = .ok (.iload_n 1, 1) := by decide +kernel
theorem dX9_fits_22 : decode cX9_fits 22 = .ok (.invokestatic 166, 3) := by decide +kernel
theorem dX9_fits_25 : decode cX9_fits 25 = .ok (.ifCond .ne 10, 3) := by decide +kernel
theorem dX9_fits_28 : decode cX9_fits 28 = .ok (.aload_n 0, 1) := by decide +kernel
theorem dX9_fits_29 : decode cX9_fits 29 = .ok (.bipush 6, 2) := by decide +kernel
theorem dX9_fits_31 : decode cX9_fits 31 = .ok (.invokevirtual 82, 3) := by decide +kernel
theorem dX9_fits_34 : decode cX9_fits 34 = .ok (.ireturn, 1) := by decide +kernel
theorem dX9_fits_35 : decode cX9_fits 35 = .ok (.aload_n 0, 1) := by decide +kernel
theorem dX9_fits_36 : decode cX9_fits 36 = .ok (.aload_n 0, 1) := by decide +kernel
theorem dX9_fits_37 : decode cX9_fits 37 = .ok (.getfield 56, 3) := by decide +kernel
theorem dX9_fits_40 : decode cX9_fits 40 = .ok (.iload_n 1, 1) := by decide +kernel
theorem dX9_fits_41 : decode cX9_fits 41 = .ok (.aload_n 0, 1) := by decide +kernel
theorem dX9_fits_42 : decode cX9_fits 42 = .ok (.getfield 10, 3) := by decide +kernel
theorem dX9_fits_45 : decode cX9_fits 45 = .ok (.iload_n 1, 1) := by decide +kernel
theorem dX9_fits_46 : decode cX9_fits 46 = .ok (.iconst 2, 1) := by decide +kernel
theorem dX9_fits_47 : decode cX9_fits 47 = .ok (.invokevirtual 322, 3) := by decide +kernel
theorem dX9_fits_50 : decode cX9_fits 50 = .ok (.invokevirtual 325, 3) := by decide +kernel
theorem dX9_fits_53 : decode cX9_fits 53 = .ok (.ifCond .eq 7, 3) := by decide +kernel
theorem dX9_fits_56 : decode cX9_fits 56 = .ok (.iconst 1, 1) := by decide +kernel
theorem dX9_fits_57 : decode cX9_fits 57 = .ok (.goto 4, 3) := by decide +kernel
theorem dX9_fits_60 : decode cX9_fits 60 = .ok (.iconst 0, 1) := by decide +kernel
theorem dX9_fits_61 : decode cX9_fits 61 = .ok (.invokevirtual 114, 3) := by decide +kernel
theorem dX9_fits_64 : decode cX9_fits 64 = .ok (.ireturn, 1) := by decide +kernel
def f_X9_fits (x1 : Int32) (M : Mm) : Option (Int32 × Mm) :=
  bd (f_X9_isCreeper x1 M) fun v2_2 M2_1 => if v2_2 = 0 then (bd (f_X9_refused (nI 1) M2_1) fun v10_20 M10_19 => some (v10_20, M10_19)) else (bd (f_X9_at 75 x1 M2_1) fun v22_4 M22_3 => if v22_4 = 0 then (bd (f_X9_refused (nI 6) M22_3) fun v31_17 M31_16 => some (v31_17, M31_16)) else (bg (M22_3 0 8) fun g5 => bd (f_X0_trait g5 x1 (nI 2) M22_3) fun v47_7 M47_6 => bd (f_X1_isInSpan x1 v47_7 M47_6) fun v50_9 M50_8 => jn (fun (s10 : Int32) (M11 : Mm) => bd (f_X9_well s10 M11) fun v61_14 M61_13 => some (v61_14, M61_13)) fun j12 => if v50_9 = 0 then (j12 (nI 0) M50_8) else (j12 (nI 1) M50_8)))
set_option maxHeartbeats 4000000 in
set_option maxRecDepth 100000 in
theorem s_X9_fits {l : Launch} {B : BT} (hA : bA B = false) {d : Nat} {r : Int32} {M' : Mm} {x1 : Int32} {M : Mm}  (h : f_X9_fits x1 M = some (r, M')) : Con l B LY (d + 4) yX9_fits cX9_fits 2 (some .int) 0 0 [.ref 0, .int x1] 97 M (PI r M') := by
  refine con_of (by decide) (Nat.le_of_ble_eq_true rfl) ?_
  show GG l B LY (d + 4) yX9_fits cX9_fits 2 (some .int) 0 0 (PI r M') 97 0 0 0 [(0, .ref 0), (1, .int x1)] [] M
  rw [f_X9_fits] at h
  refine g_aload_n dX9_fits_0 rfl 0 rfl ?_
  refine g_iload_n dX9_fits_1 rfl 1 rfl ?_
  obtain ⟨v2_2, M2_1, eM2_1, h⟩ := bd_e h
  refine m_callVi (As := [.int x1]) (st := []) (s_X9_isCreeper (d := d + 3) hA  eM2_1) rfl okX9 ck_X9_isCreeper w_816 rfl (Nat.le_of_ble_eq_true rfl) dX9_fits_2 ?_
  refine g_if_ne (tgt := 14) dX9_fits_5 (by decide) (fun c21 => ?_) (fun c21 => ?_)
  · replace h := ite_n c21 h
    refine g_aload_n dX9_fits_14 rfl 0 rfl ?_
    refine m_geta (k := 5) okX9 rfl rfl (by decide) w_418 rfl dX9_fits_15 ?_
    refine m_getr (k := 1) okX1 rfl rfl (by decide) w_360 rfl dX9_fits_18 ?_
    refine g_iload_n dX9_fits_21 rfl 1 rfl ?_
    obtain ⟨v22_4, M22_3, eM22_3, h⟩ := bd_e h
    refine m_callSi (As := [.ref 75, .int x1]) (st := []) (s_X9_at (d := d + 3) hA (al_of rfl) eM22_3) ck_X9_at w_605 rfl (Nat.le_of_ble_eq_true rfl) dX9_fits_22 ?_
    refine g_if_ne (tgt := 35) dX9_fits_25 (by decide) (fun c18 => ?_) (fun c18 => ?_)
    · replace h := ite_n c18 h
      refine g_aload_n dX9_fits_35 rfl 0 rfl ?_
      refine g_aload_n dX9_fits_36 rfl 0 rfl ?_
      refine m_geta (k := 5) okX9 rfl rfl (by decide) w_418 rfl dX9_fits_37 ?_
      refine g_iload_n dX9_fits_40 rfl 1 rfl ?_
      refine g_aload_n dX9_fits_41 rfl 0 rfl ?_
      obtain ⟨g5, eg5, hg5, h⟩ := bg_e h
      refine m_getm (k := 8) okX9 rfl rfl (by decide) w_421 rfl dX9_fits_42 eg5 hg5 ?_
      refine g_iload_n dX9_fits_45 rfl 1 rfl ?_
      refine g_iconst (v := (nI 2)) dX9_fits_46 (by decide) ?_
      obtain ⟨v47_7, M47_6, eM47_6, h⟩ := bd_e h
      refine m_callVi (As := [.int x1, .int (nI 2)]) (st := [.int x1, .ref 73, .ref 0]) (s_X0_trait (d := d + 3) hA hg5 eM47_6) hg5 okX0 ck_X0_trait w_1116 rfl (Nat.le_of_ble_eq_true rfl) dX9_fits_47 ?_
      obtain ⟨v50_9, M50_8, eM50_8, h⟩ := bd_e h
      refine m_callVi (As := [.int x1, .int v47_7]) (st := [.ref 0]) (s_X1_isInSpan (d := d + 0) hA  eM50_8) rfl okX1 ck_X1_isInSpan w_1117 rfl (Nat.le_of_ble_eq_true rfl) dX9_fits_50 ?_
      obtain ⟨j12, ej12, h⟩ := jn_e h
      have hj12 : ∀ (s10 : Int32) (M11 : Mm), j12 s10 M11 = some (r, M') → GG l B LY (d + 4) yX9_fits cX9_fits 2 (some .int) 0 0 (PI r M') 97 0 0 61 [] [.int s10, .ref 0] M11 := by
        intro s10 M11 h
        rw [ej12] at h
        obtain ⟨v61_14, M61_13, eM61_13, h⟩ := bd_e h
        refine m_callVi (As := [.int s10]) (st := []) (s_X9_well (d := d + 3) hA  eM61_13) rfl okX9 ck_X9_well w_677 rfl (Nat.le_of_ble_eq_true rfl) dX9_fits_61 ?_
        exact g_zret rfl rfl (pi_of h) dX9_fits_64
      refine g_if_eq (tgt := 60) dX9_fits_53 (by decide) (fun c15 => ?_) (fun c15 => ?_)
      · replace h := ite_p c15 h
        refine g_iconst (v := (nI 0)) dX9_fits_60 (by decide) ?_
        refine g_sub [] (lv' := []) rfl ?_
        exact hj12 _ _ h
      · replace h := ite_n c15 h
        refine g_iconst (v := (nI 1)) dX9_fits_56 (by decide) ?_
        refine g_goto (tgt := 61) dX9_fits_57 (by decide) ?_
        refine g_sub [] (lv' := []) rfl ?_
        exact hj12 _ _ h
    · replace h := ite_p c18 h
      refine g_aload_n dX9_fits_28 rfl 0 rfl ?_
      refine g_bipush (v := (nI 6)) dX9_fits_29 (by decide) ?_
      obtain ⟨v31_17, M31_16, eM31_16, h⟩ := bd_e h
      refine m_callVi (As := [.int (nI 6)]) (st := []) (s_X9_refused (d := d + 3) hA  eM31_16) rfl okX9 ck_X9_refused w_468 rfl (Nat.le_of_ble_eq_true rfl) dX9_fits_31 ?_
      exact g_zret rfl rfl (pi_of h) dX9_fits_34
  · replace h := ite_p c21 h
    refine g_aload_n dX9_fits_8 rfl 0 rfl ?_
    refine g_iconst (v := (nI 1)) dX9_fits_9 (by decide) ?_
    obtain ⟨v10_20, M10_19, eM10_19, h⟩ := bd_e h
    refine m_callVi (As := [.int (nI 1)]) (st := []) (s_X9_refused (d := d + 3) hA  eM10_19) rfl okX9 ck_X9_refused w_468 rfl (Nat.le_of_ble_eq_true rfl) dX9_fits_10 ?_
    exact g_zret rfl rfl (pi_of h) dX9_fits_13
theorem ck_X9_fits : CKV yX9_fits cX9_fits 2 (some .int) 1 := ⟨⟨by decide, by decide, by decide +kernel⟩, w_1115, w_72, ⟨w_1113, w_1114⟩, by decide⟩
theorem dX9_home_0 : decode cX9_home 0 = .ok (.aload_n 0, 1) := by decide +kernel
theorem dX9_home_1 : decode cX9_home 1 = .ok (.iload_n 1, 1) := by decide +kernel
theorem dX9_home_2 : decode cX9_home 2 = .ok (.invokevirtual 146, 3) := by decide +kernel
theorem dX9_home_5 : decode cX9_home 5 = .ok (.ifCond .ne 9, 3) := by decide +kernel
theorem dX9_home_8 : decode cX9_home 8 = .ok (.aload_n 0, 1) := by decide +kernel
theorem dX9_home_9 : decode cX9_home 9 = .ok (.iconst 1, 1) := by decide +kernel
theorem dX9_home_10 : decode cX9_home 10 = .ok (.invokevirtual 82, 3) := by decide +kernel
theorem dX9_home_13 : decode cX9_home 13 = .ok (.ireturn, 1) := by decide +kernel
theorem dX9_home_14 : decode cX9_home 14 = .ok (.iload_n 2, 1) := by decide +kernel
theorem dX9_home_15 : decode cX9_home 15 = .ok (.ifCond .lt 14, 3) := by decide +kernel
theorem dX9_home_18 : decode cX9_home 18 = .ok (.iload_n 2, 1) := by decide +kernel
theorem dX9_home_19 : decode cX9_home 19 = .ok (.aload_n 0, 1) := by decide +kernel
theorem dX9_home_20 : decode cX9_home 20 = .ok (.getfield 10, 3) := by decide +kernel
theorem dX9_home_23 : decode cX9_home 23 = .ok (.getfield 328, 3) := by decide +kernel
theorem dX9_home_26 : decode cX9_home 26 = .ok (.if_icmp .le 9, 3) := by decide +kernel
theorem dX9_home_29 : decode cX9_home 29 = .ok (.aload_n 0, 1) := by decide +kernel
theorem dX9_home_30 : decode cX9_home 30 = .ok (.iconst 2, 1) := by decide +kernel
theorem dX9_home_31 : decode cX9_home 31 = .ok (.invokevirtual 82, 3) := by decide +kernel
theorem dX9_home_34 : decode cX9_home 34 = .ok (.ireturn, 1) := by decide +kernel
theorem dX9_home_35 : decode cX9_home 35 = .ok (.aload_n 0, 1) := by decide +kernel
theorem dX9_home_36 : decode cX9_home 36 = .ok (.aload_n 0, 1) := by decide +kernel
theorem dX9_home_37 : decode cX9_home 37 = .ok (.getfield 10, 3) := by decide +kernel
theorem dX9_home_40 : decode cX9_home 40 = .ok (.iload_n 1, 1) := by decide +kernel
theorem dX9_home_41 : decode cX9_home 41 = .ok (.iload_n 2, 1) := by decide +kernel
theorem dX9_home_42 : decode cX9_home 42 = .ok (.invokevirtual 329, 3) := by decide +kernel
theorem dX9_home_45 : decode cX9_home 45 = .ok (.ifCond .eq 7, 3) := by decide +kernel
theorem dX9_home_48 : decode cX9_home 48 = .ok (.iconst 1, 1) := by decide +kernel
theorem dX9_home_49 : decode cX9_home 49 = .ok (.goto 4, 3) := by decide +kernel
theorem dX9_home_52 : decode cX9_home 52 = .ok (.iconst 0, 1) := by decide +kernel
theorem dX9_home_53 : decode cX9_home 53 = .ok (.invokevirtual 114, 3) := by decide +kernel
theorem dX9_home_56 : decode cX9_home 56 = .ok (.ireturn, 1) := by decide +kernel
def f_X9_home (x1 : Int32) (x2 : Int32) (M : Mm) : Option (Int32 × Mm) :=
  bd (f_X9_isCreeper x1 M) fun v2_2 M2_1 => if v2_2 = 0 then (bd (f_X9_refused (nI 1) M2_1) fun v10_20 M10_19 => some (v10_20, M10_19)) else (jn (fun (M3 : Mm) => bd (f_X9_refused (nI 2) M3) fun v31_6 M31_5 => some (v31_6, M31_5)) fun j4 => if x2 < 0 then (j4  M2_1) else (bg (M2_1 0 8) fun g7 => if x2 ≤ (M2_1 g7 6) then (bg (M2_1 0 8) fun g8 => bd (f_X0_isCaughtFrom g8 x1 x2 M2_1) fun v42_10 M42_9 => jn (fun (s11 : Int32) (M12 : Mm) => bd (f_X9_well s11 M12) fun v53_15 M53_14 => some (v53_15, M53_14)) fun j13 => if v42_10 = 0 then (j13 (nI 0) M42_9) else (j13 (nI 1) M42_9)) else (j4  M2_1)))
set_option maxHeartbeats 4000000 in
set_option maxRecDepth 100000 in
theorem s_X9_home {l : Launch} {B : BT} (hA : bA B = false) {d : Nat} {r : Int32} {M' : Mm} {x1 : Int32} {x2 : Int32} {M : Mm}  (h : f_X9_home x1 x2 M = some (r, M')) : Con l B LY (d + 2) yX9_home cX9_home 3 (some .int) 0 0 [.ref 0, .int x1, .int x2] 97 M (PI r M') := by
  refine con_of (by decide) (Nat.le_of_ble_eq_true rfl) ?_
  show GG l B LY (d + 2) yX9_home cX9_home 3 (some .int) 0 0 (PI r M') 97 0 0 0 [(0, .ref 0), (1, .int x1), (2, .int x2)] [] M
  rw [f_X9_home] at h
  refine g_aload_n dX9_home_0 rfl 0 rfl ?_
  refine g_iload_n dX9_home_1 rfl 1 rfl ?_
  obtain ⟨v2_2, M2_1, eM2_1, h⟩ := bd_e h
  refine m_callVi (As := [.int x1]) (st := []) (s_X9_isCreeper (d := d + 1) hA  eM2_1) rfl okX9 ck_X9_isCreeper w_816 rfl (Nat.le_of_ble_eq_true rfl) dX9_home_2 ?_
  refine g_if_ne (tgt := 14) dX9_home_5 (by decide) (fun c21 => ?_) (fun c21 => ?_)
  · replace h := ite_n c21 h
    refine g_iload_n dX9_home_14 rfl 2 rfl ?_
    obtain ⟨j4, ej4, h⟩ := jn_e h
    have hj4 : ∀ (M3 : Mm), j4 M3 = some (r, M') → GG l B LY (d + 2) yX9_home cX9_home 3 (some .int) 0 0 (PI r M') 97 0 0 29 [(0, .ref 0)] [] M3 := by
      intro M3 h
      rw [ej4] at h
      refine g_aload_n dX9_home_29 rfl 0 rfl ?_
      refine g_iconst (v := (nI 2)) dX9_home_30 (by decide) ?_
      obtain ⟨v31_6, M31_5, eM31_5, h⟩ := bd_e h
      refine m_callVi (As := [.int (nI 2)]) (st := []) (s_X9_refused (d := d + 1) hA  eM31_5) rfl okX9 ck_X9_refused w_468 rfl (Nat.le_of_ble_eq_true rfl) dX9_home_31 ?_
      exact g_zret rfl rfl (pi_of h) dX9_home_34
    refine g_if_lt (tgt := 29) dX9_home_15 (by decide) (fun c18 => ?_) (fun c18 => ?_)
    · replace h := ite_p c18 h
      refine g_sub [0] (lv' := [(0, .ref 0)]) rfl ?_
      exact hj4  _ h
    · replace h := ite_n c18 h
      refine g_iload_n dX9_home_18 rfl 2 rfl ?_
      refine g_aload_n dX9_home_19 rfl 0 rfl ?_
      obtain ⟨g7, eg7, hg7, h⟩ := bg_e h
      refine m_getm (k := 8) okX9 rfl rfl (by decide) w_421 rfl dX9_home_20 eg7 hg7 ?_
      refine m_geti (k := 6) okX0 hg7 rfl (by decide) w_126 rfl dX9_home_23 ?_
      refine g_icmp_le (tgt := 35) dX9_home_26 (by decide) (fun c17 => ?_) (fun c17 => ?_)
      · replace h := ite_p c17 h
        refine g_aload_n dX9_home_35 rfl 0 rfl ?_
        refine g_aload_n dX9_home_36 rfl 0 rfl ?_
        obtain ⟨g8, eg8, hg8, h⟩ := bg_e h
        refine m_getm (k := 8) okX9 rfl rfl (by decide) w_421 rfl dX9_home_37 eg8 hg8 ?_
        refine g_iload_n dX9_home_40 rfl 1 rfl ?_
        refine g_iload_n dX9_home_41 rfl 2 rfl ?_
        obtain ⟨v42_10, M42_9, eM42_9, h⟩ := bd_e h
        refine m_callVi (As := [.int x1, .int x2]) (st := [.ref 0]) (s_X0_isCaughtFrom (d := d + 0) hA hg8 eM42_9) hg8 okX0 ck_X0_isCaughtFrom w_1122 rfl (Nat.le_of_ble_eq_true rfl) dX9_home_42 ?_
        obtain ⟨j13, ej13, h⟩ := jn_e h
        have hj13 : ∀ (s11 : Int32) (M12 : Mm), j13 s11 M12 = some (r, M') → GG l B LY (d + 2) yX9_home cX9_home 3 (some .int) 0 0 (PI r M') 97 0 0 53 [] [.int s11, .ref 0] M12 := by
          intro s11 M12 h
          rw [ej13] at h
          obtain ⟨v53_15, M53_14, eM53_14, h⟩ := bd_e h
          refine m_callVi (As := [.int s11]) (st := []) (s_X9_well (d := d + 1) hA  eM53_14) rfl okX9 ck_X9_well w_677 rfl (Nat.le_of_ble_eq_true rfl) dX9_home_53 ?_
          exact g_zret rfl rfl (pi_of h) dX9_home_56
        refine g_if_eq (tgt := 52) dX9_home_45 (by decide) (fun c16 => ?_) (fun c16 => ?_)
        · replace h := ite_p c16 h
          refine g_iconst (v := (nI 0)) dX9_home_52 (by decide) ?_
          refine g_sub [] (lv' := []) rfl ?_
          exact hj13 _ _ h
        · replace h := ite_n c16 h
          refine g_iconst (v := (nI 1)) dX9_home_48 (by decide) ?_
          refine g_goto (tgt := 53) dX9_home_49 (by decide) ?_
          refine g_sub [] (lv' := []) rfl ?_
          exact hj13 _ _ h
      · replace h := ite_n c17 h
        refine g_sub [0] (lv' := [(0, .ref 0)]) rfl ?_
        exact hj4  _ h
  · replace h := ite_p c21 h
    refine g_aload_n dX9_home_8 rfl 0 rfl ?_
    refine g_iconst (v := (nI 1)) dX9_home_9 (by decide) ?_
    obtain ⟨v10_20, M10_19, eM10_19, h⟩ := bd_e h
    refine m_callVi (As := [.int (nI 1)]) (st := []) (s_X9_refused (d := d + 1) hA  eM10_19) rfl okX9 ck_X9_refused w_468 rfl (Nat.le_of_ble_eq_true rfl) dX9_home_10 ?_
    exact g_zret rfl rfl (pi_of h) dX9_home_13
theorem ck_X9_home : CKV yX9_home cX9_home 3 (some .int) 2 := ⟨⟨by decide, by decide, by decide +kernel⟩, w_1121, w_72, ⟨w_1119, w_1120⟩, by decide⟩
theorem dX9_far_0 : decode cX9_far 0 = .ok (.aload_n 0, 1) := by decide +kernel
theorem dX9_far_1 : decode cX9_far 1 = .ok (.iload_n 1, 1) := by decide +kernel
theorem dX9_far_2 : decode cX9_far 2 = .ok (.invokevirtual 146, 3) := by decide +kernel
theorem dX9_far_5 : decode cX9_far 5 = .ok (.ifCond .ne 9, 3) := by decide +kernel
theorem dX9_far_8 : decode cX9_far 8 = .ok (.aload_n 0, 1) := by decide +kernel
theorem dX9_far_9 : decode cX9_far 9 = .ok (.iconst 1, 1) := by decide +kernel
theorem dX9_far_10 : decode cX9_far 10 = .ok (.invokevirtual 82, 3) := by decide +kernel
theorem dX9_far_13 : decode cX9_far 13 = .ok (.ireturn, 1) := by decide +kernel
theorem dX9_far_14 : decode cX9_far 14 = .ok (.aload_n 0, 1) := by decide +kernel
theorem dX9_far_15 : decode cX9_far 15 = .ok (.getfield 10, 3) := by decide +kernel
theorem dX9_far_18 : decode cX9_far 18 = .ok (.getfield 328, 3) := by decide +kernel
theorem dX9_far_21 : decode cX9_far 21 = .ok (.istore_n 2, 1) := by decide +kernel
theorem dX9_far_22 : decode cX9_far 22 = .ok (.iload_n 2, 1) := by decide +kernel
theorem dX9_far_23 : decode cX9_far 23 = .ok (.ifCond .le 21, 3) := by decide +kernel
theorem dX9_far_26 : decode cX9_far 26 = .ok (.aload_n 0, 1) := by decide +kernel
theorem dX9_far_27 : decode cX9_far 27 = .ok (.getfield 10, 3) := by decide +kernel
theorem dX9_far_30 : decode cX9_far 30 = .ok (.iload_n 1, 1) := by decide +kernel
theorem dX9_far_31 : decode cX9_far 31 = .ok (.iload_n 2, 1) := by decide +kernel
theorem dX9_far_32 : decode cX9_far 32 = .ok (.invokevirtual 329, 3) := by decide +kernel
theorem dX9_far_35 : decode cX9_far 35 = .ok (.ifCond .eq 9, 3) := by decide +kernel
theorem dX9_far_38 : decode cX9_far 38 = .ok (.iinc 2 (-1), 3) := by decide +kernel
theorem dX9_far_41 : decode cX9_far 41 = .ok (.goto (-19), 3) := by decide +kernel
theorem dX9_far_44 : decode cX9_far 44 = .ok (.aload_n 0, 1) := by decide +kernel
theorem dX9_far_45 : decode cX9_far 45 = .ok (.iload_n 2, 1) := by decide +kernel
theorem dX9_far_46 : decode cX9_far 46 = .ok (.invokevirtual 114, 3) := by decide +kernel
theorem dX9_far_49 : decode cX9_far 49 = .ok (.ireturn, 1) := by decide +kernel
def lp_X9_far_22 (y1 : Int32) (k44 : Int32 → Mm → Option (Int32 × Mm)) : Nat → Int32 → Mm → Option (Int32 × Mm)
  | 0, _, _ => none
  | n + 1, y2, M =>
    if y2 ≤ 0 then (k44 y2 M) else (bg (M 0 8) fun g4 => bd (f_X0_isCaughtFrom g4 y1 y2 M) fun v32_6 M32_5 => if v32_6 = 0 then (k44 y2 M32_5) else (lp_X9_far_22 y1 k44 n (y2 + (-1 : Int32)) M32_5))
def f_X9_far (x1 : Int32) (M : Mm) : Option (Int32 × Mm) :=
  bd (f_X9_isCreeper x1 M) fun v2_2 M2_1 => if v2_2 = 0 then (bd (f_X9_refused (nI 1) M2_1) fun v10_14 M10_13 => some (v10_14, M10_13)) else (bg (M2_1 0 8) fun g3 => lp_X9_far_22 x1 (fun (u9 : Int32) (M10 : Mm) => bd (f_X9_well u9 M10) fun v46_12 M46_11 => some (v46_12, M46_11)) N0 (M2_1 g3 6) M2_1)
set_option maxHeartbeats 4000000 in
set_option maxRecDepth 100000 in
theorem sl_X9_far_22 {l : Launch} {B : BT} (hA : bA B = false) {d : Nat} {r : Int32} {M' : Mm} {y1 : Int32}  {k44 : Int32 → Mm → Option (Int32 × Mm)} (hk44 : ∀ (z2 : Int32) (M9 : Mm), k44 z2 M9 = some (r, M') → GG l B LY (d + 2) yX9_far cX9_far 3 (some .int) 0 0 (PI r M') 97 0 0 44 [(0, .ref 0), (2, .int z2)] [] M9) :
    ∀ (n : Nat) (y2 : Int32) (M : Mm), lp_X9_far_22 y1 k44 n y2 M = some (r, M') → GG l B LY (d + 2) yX9_far cX9_far 3 (some .int) 0 0 (PI r M') 97 0 0 22 [(0, .ref 0), (1, .int y1), (2, .int y2)] [] M := by
  intro n
  induction n with
  | zero => intro y2 M h; cases h
  | succ n ih =>
    intro y2 M h
    rw [lp_X9_far_22] at h
    refine g_iload_n dX9_far_22 rfl 2 rfl ?_
    refine g_if_le (tgt := 44) dX9_far_23 (by decide) (fun c8 => ?_) (fun c8 => ?_)
    · replace h := ite_p c8 h
      refine g_sub [0, 2] (lv' := [(0, .ref 0), (2, .int y2)]) rfl ?_
      exact hk44 _ _ h
    · replace h := ite_n c8 h
      refine g_aload_n dX9_far_26 rfl 0 rfl ?_
      obtain ⟨g4, eg4, hg4, h⟩ := bg_e h
      refine m_getm (k := 8) okX9 rfl rfl (by decide) w_421 rfl dX9_far_27 eg4 hg4 ?_
      refine g_iload_n dX9_far_30 rfl 1 rfl ?_
      refine g_iload_n dX9_far_31 rfl 2 rfl ?_
      obtain ⟨v32_6, M32_5, eM32_5, h⟩ := bd_e h
      refine m_callVi (As := [.int y1, .int y2]) (st := []) (s_X0_isCaughtFrom (d := d + 0) hA hg4 eM32_5) hg4 okX0 ck_X0_isCaughtFrom w_1122 rfl (Nat.le_of_ble_eq_true rfl) dX9_far_32 ?_
      refine g_if_eq (tgt := 44) dX9_far_35 (by decide) (fun c7 => ?_) (fun c7 => ?_)
      · replace h := ite_p c7 h
        refine g_sub [0, 2] (lv' := [(0, .ref 0), (2, .int y2)]) rfl ?_
        exact hk44 _ _ h
      · replace h := ite_n c7 h
        refine g_iinc (v := (y2 + (-1 : Int32))) (lv' := [(2, .int (y2 + (-1 : Int32))), (0, .ref 0), (1, .int y1)]) dX9_far_38 2 rfl rfl (by decide) rfl ?_
        refine g_goto (tgt := 22) dX9_far_41 (by decide) ?_
        refine g_sub [1, 2, 0] (lv' := [(0, .ref 0), (1, .int y1), (2, .int (y2 + (-1 : Int32)))]) rfl ?_
        exact ih _  _ h
set_option maxHeartbeats 4000000 in
set_option maxRecDepth 100000 in
theorem s_X9_far {l : Launch} {B : BT} (hA : bA B = false) {d : Nat} {r : Int32} {M' : Mm} {x1 : Int32} {M : Mm}  (h : f_X9_far x1 M = some (r, M')) : Con l B LY (d + 2) yX9_far cX9_far 3 (some .int) 0 0 [.ref 0, .int x1] 97 M (PI r M') := by
  refine con_of (by decide) (Nat.le_of_ble_eq_true rfl) ?_
  show GG l B LY (d + 2) yX9_far cX9_far 3 (some .int) 0 0 (PI r M') 97 0 0 0 [(0, .ref 0), (1, .int x1)] [] M
  rw [f_X9_far] at h
  refine g_aload_n dX9_far_0 rfl 0 rfl ?_
  refine g_iload_n dX9_far_1 rfl 1 rfl ?_
  obtain ⟨v2_2, M2_1, eM2_1, h⟩ := bd_e h
  refine m_callVi (As := [.int x1]) (st := []) (s_X9_isCreeper (d := d + 1) hA  eM2_1) rfl okX9 ck_X9_isCreeper w_816 rfl (Nat.le_of_ble_eq_true rfl) dX9_far_2 ?_
  refine g_if_ne (tgt := 14) dX9_far_5 (by decide) (fun c15 => ?_) (fun c15 => ?_)
  · replace h := ite_n c15 h
    refine g_aload_n dX9_far_14 rfl 0 rfl ?_
    obtain ⟨g3, eg3, hg3, h⟩ := bg_e h
    refine m_getm (k := 8) okX9 rfl rfl (by decide) w_421 rfl dX9_far_15 eg3 hg3 ?_
    refine m_geti (k := 6) okX0 hg3 rfl (by decide) w_126 rfl dX9_far_18 ?_
    refine g_istore_n (lv' := [(2, .int (M2_1 g3 6)), (0, .ref 0), (1, .int x1)]) dX9_far_21 rfl (by decide) rfl ?_
    refine g_sub [1, 2, 0] (lv' := [(0, .ref 0), (1, .int x1), (2, .int (M2_1 g3 6))]) rfl ?_
    refine sl_X9_far_22 hA  ?_ _ _ _ h
    · intro u9 M10 h
      refine g_aload_n dX9_far_44 rfl 0 rfl ?_
      refine g_iload_n dX9_far_45 rfl 1 rfl ?_
      obtain ⟨v46_12, M46_11, eM46_11, h⟩ := bd_e h
      refine m_callVi (As := [.int u9]) (st := []) (s_X9_well (d := d + 1) hA  eM46_11) rfl okX9 ck_X9_well w_677 rfl (Nat.le_of_ble_eq_true rfl) dX9_far_46 ?_
      exact g_zret rfl rfl (pi_of h) dX9_far_49
  · replace h := ite_p c15 h
    refine g_aload_n dX9_far_8 rfl 0 rfl ?_
    refine g_iconst (v := (nI 1)) dX9_far_9 (by decide) ?_
    obtain ⟨v10_14, M10_13, eM10_13, h⟩ := bd_e h
    refine m_callVi (As := [.int (nI 1)]) (st := []) (s_X9_refused (d := d + 1) hA  eM10_13) rfl okX9 ck_X9_refused w_468 rfl (Nat.le_of_ble_eq_true rfl) dX9_far_10 ?_
    exact g_zret rfl rfl (pi_of h) dX9_far_13
theorem ck_X9_far : CKV yX9_far cX9_far 3 (some .int) 1 := ⟨⟨by decide, by decide, by decide +kernel⟩, w_1126, w_72, ⟨w_1124, w_1125⟩, by decide⟩
