/-! walks: X9_fair X9_from X9_lay X9_heard X9_loud X9_size X9_creeper X9_trouble X10_thrown X10_good X10_no X10_isNot X10_within X10_less X10_feed X10_see X10_isSmall X10_isDigit X10_next X10_wrong X10_isWord X10_takes X10_must. Written by wip/programs/parts.py. -/
theorem dX9_fair_0 : decode cX9_fair 0 = .ok (.aload_n 0, 1) := by decide +kernel
theorem dX9_fair_1 : decode cX9_fair 1 = .ok (.invokevirtual 120, 3) := by decide +kernel
theorem dX9_fair_4 : decode cX9_fair 4 = .ok (.ifCond .ne 9, 3) := by decide +kernel
theorem dX9_fair_7 : decode cX9_fair 7 = .ok (.aload_n 0, 1) := by decide +kernel
theorem dX9_fair_8 : decode cX9_fair 8 = .ok (.iconst 1, 1) := by decide +kernel
theorem dX9_fair_9 : decode cX9_fair 9 = .ok (.invokevirtual 82, 3) := by decide +kernel
theorem dX9_fair_12 : decode cX9_fair 12 = .ok (.ireturn, 1) := by decide +kernel
theorem dX9_fair_13 : decode cX9_fair 13 = .ok (.aload_n 0, 1) := by decide +kernel
theorem dX9_fair_14 : decode cX9_fair 14 = .ok (.getfield 63, 3) := by decide +kernel
theorem dX9_fair_17 : decode cX9_fair 17 = .ok (.aload_n 0, 1) := by decide +kernel
theorem dX9_fair_18 : decode cX9_fair 18 = .ok (.getfield 10, 3) := by decide +kernel
theorem dX9_fair_21 : decode cX9_fair 21 = .ok (.invokevirtual 332, 3) := by decide +kernel
theorem dX9_fair_24 : decode cX9_fair 24 = .ok (.aload_n 0, 1) := by decide +kernel
theorem dX9_fair_25 : decode cX9_fair 25 = .ok (.aload_n 0, 1) := by decide +kernel
theorem dX9_fair_26 : decode cX9_fair 26 = .ok (.getfield 63, 3) := by decide +kernel
theorem dX9_fair_29 : decode cX9_fair 29 = .ok (.getfield 336, 3) := by decide +kernel
theorem dX9_fair_32 : decode cX9_fair 32 = .ok (.invokevirtual 114, 3) := by decide +kernel
theorem dX9_fair_35 : decode cX9_fair 35 = .ok (.ireturn, 1) := by decide +kernel
def f_X9_fair  (M : Mm) : Option (Int32 × Mm) :=
  bd (f_X9_hasGame  M) fun v1_2 M1_1 => if v1_2 = 0 then (bd (f_X9_refused (nI 1) M1_1) fun v9_9 M9_8 => some (v9_9, M9_8)) else (bg (M1_1 0 8) fun g3 => bv (f_X6_find g3 M1_1) fun M21_4 => bd (f_X9_well (M21_4 77 2) M21_4) fun v32_7 M32_6 => some (v32_7, M32_6))
set_option maxHeartbeats 4000000 in
set_option maxRecDepth 100000 in
theorem s_X9_fair {l : Launch} {B : BT} (hA : bA B = false) {d : Nat} {r : Int32} {M' : Mm}  {M : Mm}  (h : f_X9_fair  M = some (r, M')) : Con l B LY (d + 4) yX9_fair cX9_fair 1 (some .int) 0 0 [.ref 0] 97 M (PI r M') := by
  refine con_of (by decide) (Nat.le_of_ble_eq_true rfl) ?_
  show GG l B LY (d + 4) yX9_fair cX9_fair 1 (some .int) 0 0 (PI r M') 97 0 0 0 [(0, .ref 0)] [] M
  rw [f_X9_fair] at h
  refine g_aload_n dX9_fair_0 rfl 0 rfl ?_
  obtain ⟨v1_2, M1_1, eM1_1, h⟩ := bd_e h
  refine m_callVi (As := []) (st := []) (s_X9_hasGame (d := d + 3) hA  eM1_1) rfl okX9 ck_X9_hasGame w_693 rfl (Nat.le_of_ble_eq_true rfl) dX9_fair_1 ?_
  refine g_if_ne (tgt := 13) dX9_fair_4 (by decide) (fun c10 => ?_) (fun c10 => ?_)
  · replace h := ite_n c10 h
    refine g_aload_n dX9_fair_13 rfl 0 rfl ?_
    refine m_geta (k := 6) okX9 rfl rfl (by decide) w_419 rfl dX9_fair_14 ?_
    refine g_aload_n dX9_fair_17 rfl 0 rfl ?_
    obtain ⟨g3, eg3, hg3, h⟩ := bg_e h
    refine m_getm (k := 8) okX9 rfl rfl (by decide) w_421 rfl dX9_fair_18 eg3 hg3 ?_
    obtain ⟨M21_4, eM21_4, h⟩ := bv_e h
    refine m_callVv (As := [.ref g3]) (st := []) (s_X6_find (d := d + 0) hA hg3 eM21_4) rfl okX6 ck_X6_find w_1131 rfl (Nat.le_of_ble_eq_true rfl) dX9_fair_21 ?_
    refine g_aload_n dX9_fair_24 rfl 0 rfl ?_
    refine g_aload_n dX9_fair_25 rfl 0 rfl ?_
    refine m_geta (k := 6) okX9 rfl rfl (by decide) w_419 rfl dX9_fair_26 ?_
    refine m_geti (k := 2) okX6 rfl rfl (by decide) w_383 rfl dX9_fair_29 ?_
    obtain ⟨v32_7, M32_6, eM32_6, h⟩ := bd_e h
    refine m_callVi (As := [.int (M21_4 77 2)]) (st := []) (s_X9_well (d := d + 3) hA  eM32_6) rfl okX9 ck_X9_well w_677 rfl (Nat.le_of_ble_eq_true rfl) dX9_fair_32 ?_
    exact g_zret rfl rfl (pi_of h) dX9_fair_35
  · replace h := ite_p c10 h
    refine g_aload_n dX9_fair_7 rfl 0 rfl ?_
    refine g_iconst (v := (nI 1)) dX9_fair_8 (by decide) ?_
    obtain ⟨v9_9, M9_8, eM9_8, h⟩ := bd_e h
    refine m_callVi (As := [.int (nI 1)]) (st := []) (s_X9_refused (d := d + 3) hA  eM9_8) rfl okX9 ck_X9_refused w_468 rfl (Nat.le_of_ble_eq_true rfl) dX9_fair_9 ?_
    exact g_zret rfl rfl (pi_of h) dX9_fair_12
theorem ck_X9_fair : CKV yX9_fair cX9_fair 1 (some .int) 0 := ⟨⟨by decide, by decide, by decide +kernel⟩, w_1130, w_72, ⟨w_1128, w_1129⟩, by decide⟩
theorem dX9_from_0 : decode cX9_from 0 = .ok (.aload_n 0, 1) := by decide +kernel
theorem dX9_from_1 : decode cX9_from 1 = .ok (.iload_n 1, 1) := by decide +kernel
theorem dX9_from_2 : decode cX9_from 2 = .ok (.invokevirtual 146, 3) := by decide +kernel
theorem dX9_from_5 : decode cX9_from 5 = .ok (.ifCond .ne 9, 3) := by decide +kernel
theorem dX9_from_8 : decode cX9_from 8 = .ok (.aload_n 0, 1) := by decide +kernel
theorem dX9_from_9 : decode cX9_from 9 = .ok (.iconst 1, 1) := by decide +kernel
theorem dX9_from_10 : decode cX9_from 10 = .ok (.invokevirtual 82, 3) := by decide +kernel
theorem dX9_from_13 : decode cX9_from 13 = .ok (.ireturn, 1) := by decide +kernel
theorem dX9_from_14 : decode cX9_from 14 = .ok (.aload_n 0, 1) := by decide +kernel
theorem dX9_from_15 : decode cX9_from 15 = .ok (.getfield 63, 3) := by decide +kernel
theorem dX9_from_18 : decode cX9_from 18 = .ok (.aload_n 0, 1) := by decide +kernel
theorem dX9_from_19 : decode cX9_from 19 = .ok (.getfield 10, 3) := by decide +kernel
theorem dX9_from_22 : decode cX9_from 22 = .ok (.invokevirtual 332, 3) := by decide +kernel
theorem dX9_from_25 : decode cX9_from 25 = .ok (.aload_n 0, 1) := by decide +kernel
theorem dX9_from_26 : decode cX9_from 26 = .ok (.aload_n 0, 1) := by decide +kernel
theorem dX9_from_27 : decode cX9_from 27 = .ok (.getfield 63, 3) := by decide +kernel
theorem dX9_from_30 : decode cX9_from 30 = .ok (.getfield 339, 3) := by decide +kernel
theorem dX9_from_33 : decode cX9_from 33 = .ok (.iload_n 1, 1) := by decide +kernel
theorem dX9_from_34 : decode cX9_from 34 = .ok (.invokestatic 166, 3) := by decide +kernel
theorem dX9_from_37 : decode cX9_from 37 = .ok (.invokevirtual 114, 3) := by decide +kernel
theorem dX9_from_40 : decode cX9_from 40 = .ok (.ireturn, 1) := by decide +kernel
def f_X9_from (x1 : Int32) (M : Mm) : Option (Int32 × Mm) :=
  bd (f_X9_isCreeper x1 M) fun v2_2 M2_1 => if v2_2 = 0 then (bd (f_X9_refused (nI 1) M2_1) fun v10_11 M10_10 => some (v10_11, M10_10)) else (bg (M2_1 0 8) fun g3 => bv (f_X6_find g3 M2_1) fun M22_4 => bd (f_X9_at 79 x1 M22_4) fun v34_7 M34_6 => bd (f_X9_well v34_7 M34_6) fun v37_9 M37_8 => some (v37_9, M37_8))
set_option maxHeartbeats 4000000 in
set_option maxRecDepth 100000 in
theorem s_X9_from {l : Launch} {B : BT} (hA : bA B = false) {d : Nat} {r : Int32} {M' : Mm} {x1 : Int32} {M : Mm}  (h : f_X9_from x1 M = some (r, M')) : Con l B LY (d + 4) yX9_from cX9_from 2 (some .int) 0 0 [.ref 0, .int x1] 97 M (PI r M') := by
  refine con_of (by decide) (Nat.le_of_ble_eq_true rfl) ?_
  show GG l B LY (d + 4) yX9_from cX9_from 2 (some .int) 0 0 (PI r M') 97 0 0 0 [(0, .ref 0), (1, .int x1)] [] M
  rw [f_X9_from] at h
  refine g_aload_n dX9_from_0 rfl 0 rfl ?_
  refine g_iload_n dX9_from_1 rfl 1 rfl ?_
  obtain ⟨v2_2, M2_1, eM2_1, h⟩ := bd_e h
  refine m_callVi (As := [.int x1]) (st := []) (s_X9_isCreeper (d := d + 3) hA  eM2_1) rfl okX9 ck_X9_isCreeper w_816 rfl (Nat.le_of_ble_eq_true rfl) dX9_from_2 ?_
  refine g_if_ne (tgt := 14) dX9_from_5 (by decide) (fun c12 => ?_) (fun c12 => ?_)
  · replace h := ite_n c12 h
    refine g_aload_n dX9_from_14 rfl 0 rfl ?_
    refine m_geta (k := 6) okX9 rfl rfl (by decide) w_419 rfl dX9_from_15 ?_
    refine g_aload_n dX9_from_18 rfl 0 rfl ?_
    obtain ⟨g3, eg3, hg3, h⟩ := bg_e h
    refine m_getm (k := 8) okX9 rfl rfl (by decide) w_421 rfl dX9_from_19 eg3 hg3 ?_
    obtain ⟨M22_4, eM22_4, h⟩ := bv_e h
    refine m_callVv (As := [.ref g3]) (st := []) (s_X6_find (d := d + 0) hA hg3 eM22_4) rfl okX6 ck_X6_find w_1131 rfl (Nat.le_of_ble_eq_true rfl) dX9_from_22 ?_
    refine g_aload_n dX9_from_25 rfl 0 rfl ?_
    refine g_aload_n dX9_from_26 rfl 0 rfl ?_
    refine m_geta (k := 6) okX9 rfl rfl (by decide) w_419 rfl dX9_from_27 ?_
    refine m_getr (k := 1) okX6 rfl rfl (by decide) w_381 rfl dX9_from_30 ?_
    refine g_iload_n dX9_from_33 rfl 1 rfl ?_
    obtain ⟨v34_7, M34_6, eM34_6, h⟩ := bd_e h
    refine m_callSi (As := [.ref 79, .int x1]) (st := [.ref 0]) (s_X9_at (d := d + 3) hA (al_of rfl) eM34_6) ck_X9_at w_605 rfl (Nat.le_of_ble_eq_true rfl) dX9_from_34 ?_
    obtain ⟨v37_9, M37_8, eM37_8, h⟩ := bd_e h
    refine m_callVi (As := [.int v34_7]) (st := []) (s_X9_well (d := d + 3) hA  eM37_8) rfl okX9 ck_X9_well w_677 rfl (Nat.le_of_ble_eq_true rfl) dX9_from_37 ?_
    exact g_zret rfl rfl (pi_of h) dX9_from_40
  · replace h := ite_p c12 h
    refine g_aload_n dX9_from_8 rfl 0 rfl ?_
    refine g_iconst (v := (nI 1)) dX9_from_9 (by decide) ?_
    obtain ⟨v10_11, M10_10, eM10_10, h⟩ := bd_e h
    refine m_callVi (As := [.int (nI 1)]) (st := []) (s_X9_refused (d := d + 3) hA  eM10_10) rfl okX9 ck_X9_refused w_468 rfl (Nat.le_of_ble_eq_true rfl) dX9_from_10 ?_
    exact g_zret rfl rfl (pi_of h) dX9_from_13
theorem ck_X9_from : CKV yX9_from cX9_from 2 (some .int) 1 := ⟨⟨by decide, by decide, by decide +kernel⟩, w_1154, w_72, ⟨w_1152, w_1153⟩, by decide⟩
theorem dX9_lay_0 : decode cX9_lay 0 = .ok (.aload_n 0, 1) := by decide +kernel
theorem dX9_lay_1 : decode cX9_lay 1 = .ok (.invokevirtual 120, 3) := by decide +kernel
theorem dX9_lay_4 : decode cX9_lay 4 = .ok (.ifCond .ne 9, 3) := by decide +kernel
theorem dX9_lay_7 : decode cX9_lay 7 = .ok (.aload_n 0, 1) := by decide +kernel
theorem dX9_lay_8 : decode cX9_lay 8 = .ok (.iconst 1, 1) := by decide +kernel
theorem dX9_lay_9 : decode cX9_lay 9 = .ok (.invokevirtual 82, 3) := by decide +kernel
theorem dX9_lay_12 : decode cX9_lay 12 = .ok (.ireturn, 1) := by decide +kernel
theorem dX9_lay_13 : decode cX9_lay 13 = .ok (.iload_n 1, 1) := by decide +kernel
theorem dX9_lay_14 : decode cX9_lay 14 = .ok (.iconst 1, 1) := by decide +kernel
theorem dX9_lay_15 : decode cX9_lay 15 = .ok (.if_icmp .lt 14, 3) := by decide +kernel
theorem dX9_lay_18 : decode cX9_lay 18 = .ok (.iload_n 1, 1) := by decide +kernel
theorem dX9_lay_19 : decode cX9_lay 19 = .ok (.aload_n 0, 1) := by decide +kernel
theorem dX9_lay_20 : decode cX9_lay 20 = .ok (.getfield 10, 3) := by decide +kernel
theorem dX9_lay_23 : decode cX9_lay 23 = .ok (.getfield 328, 3) := by decide +kernel
theorem dX9_lay_26 : decode cX9_lay 26 = .ok (.if_icmp .le 9, 3) := by decide +kernel
theorem dX9_lay_29 : decode cX9_lay 29 = .ok (.aload_n 0, 1) := by decide +kernel
theorem dX9_lay_30 : decode cX9_lay 30 = .ok (.iconst 2, 1) := by decide +kernel
theorem dX9_lay_31 : decode cX9_lay 31 = .ok (.invokevirtual 82, 3) := by decide +kernel
theorem dX9_lay_34 : decode cX9_lay 34 = .ok (.ireturn, 1) := by decide +kernel
theorem dX9_lay_35 : decode cX9_lay 35 = .ok (.aload_n 0, 1) := by decide +kernel
theorem dX9_lay_36 : decode cX9_lay 36 = .ok (.getfield 70, 3) := by decide +kernel
theorem dX9_lay_39 : decode cX9_lay 39 = .ok (.aload_n 0, 1) := by decide +kernel
theorem dX9_lay_40 : decode cX9_lay 40 = .ok (.getfield 10, 3) := by decide +kernel
theorem dX9_lay_43 : decode cX9_lay 43 = .ok (.aload_n 0, 1) := by decide +kernel
theorem dX9_lay_44 : decode cX9_lay 44 = .ok (.getfield 38, 3) := by decide +kernel
theorem dX9_lay_47 : decode cX9_lay 47 = .ok (.iload_n 1, 1) := by decide +kernel
theorem dX9_lay_48 : decode cX9_lay 48 = .ok (.invokevirtual 342, 3) := by decide +kernel
theorem dX9_lay_51 : decode cX9_lay 51 = .ok (.aload_n 0, 1) := by decide +kernel
theorem dX9_lay_52 : decode cX9_lay 52 = .ok (.aload_n 0, 1) := by decide +kernel
theorem dX9_lay_53 : decode cX9_lay 53 = .ok (.getfield 70, 3) := by decide +kernel
theorem dX9_lay_56 : decode cX9_lay 56 = .ok (.getfield 345, 3) := by decide +kernel
theorem dX9_lay_59 : decode cX9_lay 59 = .ok (.bipush 100, 2) := by decide +kernel
theorem dX9_lay_61 : decode cX9_lay 61 = .ok (.imul, 1) := by decide +kernel
theorem dX9_lay_62 : decode cX9_lay 62 = .ok (.aload_n 0, 1) := by decide +kernel
theorem dX9_lay_63 : decode cX9_lay 63 = .ok (.getfield 70, 3) := by decide +kernel
theorem dX9_lay_66 : decode cX9_lay 66 = .ok (.getfield 348, 3) := by decide +kernel
theorem dX9_lay_69 : decode cX9_lay 69 = .ok (.iadd, 1) := by decide +kernel
theorem dX9_lay_70 : decode cX9_lay 70 = .ok (.invokevirtual 114, 3) := by decide +kernel
theorem dX9_lay_73 : decode cX9_lay 73 = .ok (.ireturn, 1) := by decide +kernel
def f_X9_lay (x1 : Int32) (M : Mm) : Option (Int32 × Mm) :=
  bd (f_X9_hasGame  M) fun v1_2 M1_1 => if v1_2 = 0 then (bd (f_X9_refused (nI 1) M1_1) fun v9_16 M9_15 => some (v9_16, M9_15)) else (jn (fun (M3 : Mm) => bd (f_X9_refused (nI 2) M3) fun v31_6 M31_5 => some (v31_6, M31_5)) fun j4 => if x1 < (nI 1) then (j4  M1_1) else (bg (M1_1 0 8) fun g7 => if x1 ≤ (M1_1 g7 6) then (bg (M1_1 0 8) fun g8 => bv (f_X7_find g8 20 x1 M1_1) fun M48_9 => bd (f_X9_well (((M48_9 80 0) * (nI 100)) + (M48_9 80 1)) M48_9) fun v70_12 M70_11 => some (v70_12, M70_11)) else (j4  M1_1)))
set_option maxHeartbeats 4000000 in
set_option maxRecDepth 100000 in
theorem s_X9_lay {l : Launch} {B : BT} (hA : bA B = false) {d : Nat} {r : Int32} {M' : Mm} {x1 : Int32} {M : Mm}  (h : f_X9_lay x1 M = some (r, M')) : Con l B LY (d + 4) yX9_lay cX9_lay 2 (some .int) 0 0 [.ref 0, .int x1] 97 M (PI r M') := by
  refine con_of (by decide) (Nat.le_of_ble_eq_true rfl) ?_
  show GG l B LY (d + 4) yX9_lay cX9_lay 2 (some .int) 0 0 (PI r M') 97 0 0 0 [(0, .ref 0), (1, .int x1)] [] M
  rw [f_X9_lay] at h
  refine g_aload_n dX9_lay_0 rfl 0 rfl ?_
  obtain ⟨v1_2, M1_1, eM1_1, h⟩ := bd_e h
  refine m_callVi (As := []) (st := []) (s_X9_hasGame (d := d + 3) hA  eM1_1) rfl okX9 ck_X9_hasGame w_693 rfl (Nat.le_of_ble_eq_true rfl) dX9_lay_1 ?_
  refine g_if_ne (tgt := 13) dX9_lay_4 (by decide) (fun c17 => ?_) (fun c17 => ?_)
  · replace h := ite_n c17 h
    refine g_iload_n dX9_lay_13 rfl 1 rfl ?_
    refine g_iconst (v := (nI 1)) dX9_lay_14 (by decide) ?_
    obtain ⟨j4, ej4, h⟩ := jn_e h
    have hj4 : ∀ (M3 : Mm), j4 M3 = some (r, M') → GG l B LY (d + 4) yX9_lay cX9_lay 2 (some .int) 0 0 (PI r M') 97 0 0 29 [(0, .ref 0)] [] M3 := by
      intro M3 h
      rw [ej4] at h
      refine g_aload_n dX9_lay_29 rfl 0 rfl ?_
      refine g_iconst (v := (nI 2)) dX9_lay_30 (by decide) ?_
      obtain ⟨v31_6, M31_5, eM31_5, h⟩ := bd_e h
      refine m_callVi (As := [.int (nI 2)]) (st := []) (s_X9_refused (d := d + 3) hA  eM31_5) rfl okX9 ck_X9_refused w_468 rfl (Nat.le_of_ble_eq_true rfl) dX9_lay_31 ?_
      exact g_zret rfl rfl (pi_of h) dX9_lay_34
    refine g_icmp_lt (tgt := 29) dX9_lay_15 (by decide) (fun c14 => ?_) (fun c14 => ?_)
    · replace h := ite_p c14 h
      refine g_sub [0] (lv' := [(0, .ref 0)]) rfl ?_
      exact hj4  _ h
    · replace h := ite_n c14 h
      refine g_iload_n dX9_lay_18 rfl 1 rfl ?_
      refine g_aload_n dX9_lay_19 rfl 0 rfl ?_
      obtain ⟨g7, eg7, hg7, h⟩ := bg_e h
      refine m_getm (k := 8) okX9 rfl rfl (by decide) w_421 rfl dX9_lay_20 eg7 hg7 ?_
      refine m_geti (k := 6) okX0 hg7 rfl (by decide) w_126 rfl dX9_lay_23 ?_
      refine g_icmp_le (tgt := 35) dX9_lay_26 (by decide) (fun c13 => ?_) (fun c13 => ?_)
      · replace h := ite_p c13 h
        refine g_aload_n dX9_lay_35 rfl 0 rfl ?_
        refine m_geta (k := 7) okX9 rfl rfl (by decide) w_420 rfl dX9_lay_36 ?_
        refine g_aload_n dX9_lay_39 rfl 0 rfl ?_
        obtain ⟨g8, eg8, hg8, h⟩ := bg_e h
        refine m_getm (k := 8) okX9 rfl rfl (by decide) w_421 rfl dX9_lay_40 eg8 hg8 ?_
        refine g_aload_n dX9_lay_43 rfl 0 rfl ?_
        refine m_geta (k := 2) okX9 rfl rfl (by decide) w_415 rfl dX9_lay_44 ?_
        refine g_iload_n dX9_lay_47 rfl 1 rfl ?_
        obtain ⟨M48_9, eM48_9, h⟩ := bv_e h
        refine m_callVv (As := [.ref g8, .ref 20, .int x1]) (st := []) (s_X7_find (d := d + 0) hA hg8 rfl eM48_9) rfl okX7 ck_X7_find w_1159 rfl (Nat.le_of_ble_eq_true rfl) dX9_lay_48 ?_
        refine g_aload_n dX9_lay_51 rfl 0 rfl ?_
        refine g_aload_n dX9_lay_52 rfl 0 rfl ?_
        refine m_geta (k := 7) okX9 rfl rfl (by decide) w_420 rfl dX9_lay_53 ?_
        refine m_geti (k := 0) okX7 rfl rfl (by decide) w_401 rfl dX9_lay_56 ?_
        refine g_bipush (v := (nI 100)) dX9_lay_59 (by decide) ?_
        refine g_imul dX9_lay_61 ?_
        refine g_aload_n dX9_lay_62 rfl 0 rfl ?_
        refine m_geta (k := 7) okX9 rfl rfl (by decide) w_420 rfl dX9_lay_63 ?_
        refine m_geti (k := 1) okX7 rfl rfl (by decide) w_403 rfl dX9_lay_66 ?_
        refine g_iadd dX9_lay_69 ?_
        obtain ⟨v70_12, M70_11, eM70_11, h⟩ := bd_e h
        refine m_callVi (As := [.int (((M48_9 80 0) * (nI 100)) + (M48_9 80 1))]) (st := []) (s_X9_well (d := d + 3) hA  eM70_11) rfl okX9 ck_X9_well w_677 rfl (Nat.le_of_ble_eq_true rfl) dX9_lay_70 ?_
        exact g_zret rfl rfl (pi_of h) dX9_lay_73
      · replace h := ite_n c13 h
        refine g_sub [0] (lv' := [(0, .ref 0)]) rfl ?_
        exact hj4  _ h
  · replace h := ite_p c17 h
    refine g_aload_n dX9_lay_7 rfl 0 rfl ?_
    refine g_iconst (v := (nI 1)) dX9_lay_8 (by decide) ?_
    obtain ⟨v9_16, M9_15, eM9_15, h⟩ := bd_e h
    refine m_callVi (As := [.int (nI 1)]) (st := []) (s_X9_refused (d := d + 3) hA  eM9_15) rfl okX9 ck_X9_refused w_468 rfl (Nat.le_of_ble_eq_true rfl) dX9_lay_9 ?_
    exact g_zret rfl rfl (pi_of h) dX9_lay_12
theorem ck_X9_lay : CKV yX9_lay cX9_lay 2 (some .int) 1 := ⟨⟨by decide, by decide, by decide +kernel⟩, w_1158, w_72, ⟨w_1156, w_1157⟩, by decide⟩
theorem dX9_heard_0 : decode cX9_heard 0 = .ok (.aload_n 0, 1) := by decide +kernel
theorem dX9_heard_1 : decode cX9_heard 1 = .ok (.invokevirtual 120, 3) := by decide +kernel
theorem dX9_heard_4 : decode cX9_heard 4 = .ok (.ifCond .ne 9, 3) := by decide +kernel
theorem dX9_heard_7 : decode cX9_heard 7 = .ok (.aload_n 0, 1) := by decide +kernel
theorem dX9_heard_8 : decode cX9_heard 8 = .ok (.iconst 1, 1) := by decide +kernel
theorem dX9_heard_9 : decode cX9_heard 9 = .ok (.invokevirtual 82, 3) := by decide +kernel
theorem dX9_heard_12 : decode cX9_heard 12 = .ok (.ireturn, 1) := by decide +kernel
theorem dX9_heard_13 : decode cX9_heard 13 = .ok (.iload_n 1, 1) := by decide +kernel
theorem dX9_heard_14 : decode cX9_heard 14 = .ok (.iconst 1, 1) := by decide +kernel
theorem dX9_heard_15 : decode cX9_heard 15 = .ok (.if_icmp .lt 14, 3) := by decide +kernel
theorem dX9_heard_18 : decode cX9_heard 18 = .ok (.iload_n 1, 1) := by decide +kernel
theorem dX9_heard_19 : decode cX9_heard 19 = .ok (.aload_n 0, 1) := by decide +kernel
theorem dX9_heard_20 : decode cX9_heard 20 = .ok (.getfield 10, 3) := by decide +kernel
theorem dX9_heard_23 : decode cX9_heard 23 = .ok (.getfield 328, 3) := by decide +kernel
theorem dX9_heard_26 : decode cX9_heard 26 = .ok (.if_icmp .le 9, 3) := by decide +kernel
theorem dX9_heard_29 : decode cX9_heard 29 = .ok (.aload_n 0, 1) := by decide +kernel
theorem dX9_heard_30 : decode cX9_heard 30 = .ok (.iconst 2, 1) := by decide +kernel
theorem dX9_heard_31 : decode cX9_heard 31 = .ok (.invokevirtual 82, 3) := by decide +kernel
theorem dX9_heard_34 : decode cX9_heard 34 = .ok (.ireturn, 1) := by decide +kernel
theorem dX9_heard_35 : decode cX9_heard 35 = .ok (.aload_n 0, 1) := by decide +kernel
theorem dX9_heard_36 : decode cX9_heard 36 = .ok (.getfield 70, 3) := by decide +kernel
theorem dX9_heard_39 : decode cX9_heard 39 = .ok (.aload_n 0, 1) := by decide +kernel
theorem dX9_heard_40 : decode cX9_heard 40 = .ok (.getfield 10, 3) := by decide +kernel
theorem dX9_heard_43 : decode cX9_heard 43 = .ok (.aload_n 0, 1) := by decide +kernel
theorem dX9_heard_44 : decode cX9_heard 44 = .ok (.getfield 38, 3) := by decide +kernel
theorem dX9_heard_47 : decode cX9_heard 47 = .ok (.iload_n 1, 1) := by decide +kernel
theorem dX9_heard_48 : decode cX9_heard 48 = .ok (.invokevirtual 342, 3) := by decide +kernel
theorem dX9_heard_51 : decode cX9_heard 51 = .ok (.aload_n 0, 1) := by decide +kernel
theorem dX9_heard_52 : decode cX9_heard 52 = .ok (.aload_n 0, 1) := by decide +kernel
theorem dX9_heard_53 : decode cX9_heard 53 = .ok (.getfield 70, 3) := by decide +kernel
theorem dX9_heard_56 : decode cX9_heard 56 = .ok (.getfield 351, 3) := by decide +kernel
theorem dX9_heard_59 : decode cX9_heard 59 = .ok (.invokevirtual 114, 3) := by decide +kernel
theorem dX9_heard_62 : decode cX9_heard 62 = .ok (.ireturn, 1) := by decide +kernel
def f_X9_heard (x1 : Int32) (M : Mm) : Option (Int32 × Mm) :=
  bd (f_X9_hasGame  M) fun v1_2 M1_1 => if v1_2 = 0 then (bd (f_X9_refused (nI 1) M1_1) fun v9_16 M9_15 => some (v9_16, M9_15)) else (jn (fun (M3 : Mm) => bd (f_X9_refused (nI 2) M3) fun v31_6 M31_5 => some (v31_6, M31_5)) fun j4 => if x1 < (nI 1) then (j4  M1_1) else (bg (M1_1 0 8) fun g7 => if x1 ≤ (M1_1 g7 6) then (bg (M1_1 0 8) fun g8 => bv (f_X7_find g8 20 x1 M1_1) fun M48_9 => bd (f_X9_well (M48_9 80 2) M48_9) fun v59_12 M59_11 => some (v59_12, M59_11)) else (j4  M1_1)))
set_option maxHeartbeats 4000000 in
set_option maxRecDepth 100000 in
theorem s_X9_heard {l : Launch} {B : BT} (hA : bA B = false) {d : Nat} {r : Int32} {M' : Mm} {x1 : Int32} {M : Mm}  (h : f_X9_heard x1 M = some (r, M')) : Con l B LY (d + 4) yX9_heard cX9_heard 2 (some .int) 0 0 [.ref 0, .int x1] 97 M (PI r M') := by
  refine con_of (by decide) (Nat.le_of_ble_eq_true rfl) ?_
  show GG l B LY (d + 4) yX9_heard cX9_heard 2 (some .int) 0 0 (PI r M') 97 0 0 0 [(0, .ref 0), (1, .int x1)] [] M
  rw [f_X9_heard] at h
  refine g_aload_n dX9_heard_0 rfl 0 rfl ?_
  obtain ⟨v1_2, M1_1, eM1_1, h⟩ := bd_e h
  refine m_callVi (As := []) (st := []) (s_X9_hasGame (d := d + 3) hA  eM1_1) rfl okX9 ck_X9_hasGame w_693 rfl (Nat.le_of_ble_eq_true rfl) dX9_heard_1 ?_
  refine g_if_ne (tgt := 13) dX9_heard_4 (by decide) (fun c17 => ?_) (fun c17 => ?_)
  · replace h := ite_n c17 h
    refine g_iload_n dX9_heard_13 rfl 1 rfl ?_
    refine g_iconst (v := (nI 1)) dX9_heard_14 (by decide) ?_
    obtain ⟨j4, ej4, h⟩ := jn_e h
    have hj4 : ∀ (M3 : Mm), j4 M3 = some (r, M') → GG l B LY (d + 4) yX9_heard cX9_heard 2 (some .int) 0 0 (PI r M') 97 0 0 29 [(0, .ref 0)] [] M3 := by
      intro M3 h
      rw [ej4] at h
      refine g_aload_n dX9_heard_29 rfl 0 rfl ?_
      refine g_iconst (v := (nI 2)) dX9_heard_30 (by decide) ?_
      obtain ⟨v31_6, M31_5, eM31_5, h⟩ := bd_e h
      refine m_callVi (As := [.int (nI 2)]) (st := []) (s_X9_refused (d := d + 3) hA  eM31_5) rfl okX9 ck_X9_refused w_468 rfl (Nat.le_of_ble_eq_true rfl) dX9_heard_31 ?_
      exact g_zret rfl rfl (pi_of h) dX9_heard_34
    refine g_icmp_lt (tgt := 29) dX9_heard_15 (by decide) (fun c14 => ?_) (fun c14 => ?_)
    · replace h := ite_p c14 h
      refine g_sub [0] (lv' := [(0, .ref 0)]) rfl ?_
      exact hj4  _ h
    · replace h := ite_n c14 h
      refine g_iload_n dX9_heard_18 rfl 1 rfl ?_
      refine g_aload_n dX9_heard_19 rfl 0 rfl ?_
      obtain ⟨g7, eg7, hg7, h⟩ := bg_e h
      refine m_getm (k := 8) okX9 rfl rfl (by decide) w_421 rfl dX9_heard_20 eg7 hg7 ?_
      refine m_geti (k := 6) okX0 hg7 rfl (by decide) w_126 rfl dX9_heard_23 ?_
      refine g_icmp_le (tgt := 35) dX9_heard_26 (by decide) (fun c13 => ?_) (fun c13 => ?_)
      · replace h := ite_p c13 h
        refine g_aload_n dX9_heard_35 rfl 0 rfl ?_
        refine m_geta (k := 7) okX9 rfl rfl (by decide) w_420 rfl dX9_heard_36 ?_
        refine g_aload_n dX9_heard_39 rfl 0 rfl ?_
        obtain ⟨g8, eg8, hg8, h⟩ := bg_e h
        refine m_getm (k := 8) okX9 rfl rfl (by decide) w_421 rfl dX9_heard_40 eg8 hg8 ?_
        refine g_aload_n dX9_heard_43 rfl 0 rfl ?_
        refine m_geta (k := 2) okX9 rfl rfl (by decide) w_415 rfl dX9_heard_44 ?_
        refine g_iload_n dX9_heard_47 rfl 1 rfl ?_
        obtain ⟨M48_9, eM48_9, h⟩ := bv_e h
        refine m_callVv (As := [.ref g8, .ref 20, .int x1]) (st := []) (s_X7_find (d := d + 0) hA hg8 rfl eM48_9) rfl okX7 ck_X7_find w_1159 rfl (Nat.le_of_ble_eq_true rfl) dX9_heard_48 ?_
        refine g_aload_n dX9_heard_51 rfl 0 rfl ?_
        refine g_aload_n dX9_heard_52 rfl 0 rfl ?_
        refine m_geta (k := 7) okX9 rfl rfl (by decide) w_420 rfl dX9_heard_53 ?_
        refine m_geti (k := 2) okX7 rfl rfl (by decide) w_405 rfl dX9_heard_56 ?_
        obtain ⟨v59_12, M59_11, eM59_11, h⟩ := bd_e h
        refine m_callVi (As := [.int (M48_9 80 2)]) (st := []) (s_X9_well (d := d + 3) hA  eM59_11) rfl okX9 ck_X9_well w_677 rfl (Nat.le_of_ble_eq_true rfl) dX9_heard_59 ?_
        exact g_zret rfl rfl (pi_of h) dX9_heard_62
      · replace h := ite_n c13 h
        refine g_sub [0] (lv' := [(0, .ref 0)]) rfl ?_
        exact hj4  _ h
  · replace h := ite_p c17 h
    refine g_aload_n dX9_heard_7 rfl 0 rfl ?_
    refine g_iconst (v := (nI 1)) dX9_heard_8 (by decide) ?_
    obtain ⟨v9_16, M9_15, eM9_15, h⟩ := bd_e h
    refine m_callVi (As := [.int (nI 1)]) (st := []) (s_X9_refused (d := d + 3) hA  eM9_15) rfl okX9 ck_X9_refused w_468 rfl (Nat.le_of_ble_eq_true rfl) dX9_heard_9 ?_
    exact g_zret rfl rfl (pi_of h) dX9_heard_12
theorem ck_X9_heard : CKV yX9_heard cX9_heard 2 (some .int) 1 := ⟨⟨by decide, by decide, by decide +kernel⟩, w_1175, w_72, ⟨w_1173, w_1174⟩, by decide⟩
theorem dX9_loud_0 : decode cX9_loud 0 = .ok (.iload_n 1, 1) := by decide +kernel
theorem dX9_loud_1 : decode cX9_loud 1 = .ok (.ifCond .lt 30, 3) := by decide +kernel
theorem dX9_loud_4 : decode cX9_loud 4 = .ok (.iload_n 1, 1) := by decide +kernel
theorem dX9_loud_5 : decode cX9_loud 5 = .ok (.aload_n 0, 1) := by decide +kernel
theorem dX9_loud_6 : decode cX9_loud 6 = .ok (.getfield 10, 3) := by decide +kernel
theorem dX9_loud_9 : decode cX9_loud 9 = .ok (.getfield 354, 3) := by decide +kernel
theorem dX9_loud_12 : decode cX9_loud 12 = .ok (.if_icmp .ge 19, 3) := by decide +kernel
theorem dX9_loud_15 : decode cX9_loud 15 = .ok (.iload_n 2, 1) := by decide +kernel
theorem dX9_loud_16 : decode cX9_loud 16 = .ok (.iconst 1, 1) := by decide +kernel
theorem dX9_loud_17 : decode cX9_loud 17 = .ok (.if_icmp .lt 14, 3) := by decide +kernel
theorem dX9_loud_20 : decode cX9_loud 20 = .ok (.iload_n 2, 1) := by decide +kernel
theorem dX9_loud_21 : decode cX9_loud 21 = .ok (.aload_n 0, 1) := by decide +kernel
theorem dX9_loud_22 : decode cX9_loud 22 = .ok (.getfield 10, 3) := by decide +kernel
theorem dX9_loud_25 : decode cX9_loud 25 = .ok (.getfield 328, 3) := by decide +kernel
theorem dX9_loud_28 : decode cX9_loud 28 = .ok (.if_icmp .le 9, 3) := by decide +kernel
theorem dX9_loud_31 : decode cX9_loud 31 = .ok (.aload_n 0, 1) := by decide +kernel
theorem dX9_loud_32 : decode cX9_loud 32 = .ok (.iconst 1, 1) := by decide +kernel
theorem dX9_loud_33 : decode cX9_loud 33 = .ok (.invokevirtual 82, 3) := by decide +kernel
theorem dX9_loud_36 : decode cX9_loud 36 = .ok (.ireturn, 1) := by decide +kernel
theorem dX9_loud_37 : decode cX9_loud 37 = .ok (.aload_n 0, 1) := by decide +kernel
theorem dX9_loud_38 : decode cX9_loud 38 = .ok (.aload_n 0, 1) := by decide +kernel
theorem dX9_loud_39 : decode cX9_loud 39 = .ok (.getfield 10, 3) := by decide +kernel
theorem dX9_loud_42 : decode cX9_loud 42 = .ok (.iload_n 1, 1) := by decide +kernel
theorem dX9_loud_43 : decode cX9_loud 43 = .ok (.iload_n 2, 1) := by decide +kernel
theorem dX9_loud_44 : decode cX9_loud 44 = .ok (.invokevirtual 357, 3) := by decide +kernel
theorem dX9_loud_47 : decode cX9_loud 47 = .ok (.invokevirtual 114, 3) := by decide +kernel
theorem dX9_loud_50 : decode cX9_loud 50 = .ok (.ireturn, 1) := by decide +kernel
def f_X9_loud (x1 : Int32) (x2 : Int32) (M : Mm) : Option (Int32 × Mm) :=
  jn (fun (M1 : Mm) => bd (f_X9_refused (nI 1) M1) fun v33_4 M33_3 => some (v33_4, M33_3)) fun j2 => if x1 < 0 then (j2  M) else (bg (M 0 8) fun g5 => if (M g5 7) ≤ x1 then (j2  M) else (if x2 < (nI 1) then (j2  M) else (bg (M 0 8) fun g6 => if x2 ≤ (M g6 6) then (bg (M 0 8) fun g7 => bd (f_X0_loudnessOf g7 x1 x2 M) fun v44_9 M44_8 => bd (f_X9_well v44_9 M44_8) fun v47_11 M47_10 => some (v47_11, M47_10)) else (j2  M))))
set_option maxHeartbeats 4000000 in
set_option maxRecDepth 100000 in
theorem s_X9_loud {l : Launch} {B : BT} (hA : bA B = false) {d : Nat} {r : Int32} {M' : Mm} {x1 : Int32} {x2 : Int32} {M : Mm}  (h : f_X9_loud x1 x2 M = some (r, M')) : Con l B LY (d + 2) yX9_loud cX9_loud 3 (some .int) 0 0 [.ref 0, .int x1, .int x2] 97 M (PI r M') := by
  refine con_of (by decide) (Nat.le_of_ble_eq_true rfl) ?_
  show GG l B LY (d + 2) yX9_loud cX9_loud 3 (some .int) 0 0 (PI r M') 97 0 0 0 [(0, .ref 0), (1, .int x1), (2, .int x2)] [] M
  rw [f_X9_loud] at h
  refine g_iload_n dX9_loud_0 rfl 1 rfl ?_
  obtain ⟨j2, ej2, h⟩ := jn_e h
  have hj2 : ∀ (M1 : Mm), j2 M1 = some (r, M') → GG l B LY (d + 2) yX9_loud cX9_loud 3 (some .int) 0 0 (PI r M') 97 0 0 31 [(0, .ref 0)] [] M1 := by
    intro M1 h
    rw [ej2] at h
    refine g_aload_n dX9_loud_31 rfl 0 rfl ?_
    refine g_iconst (v := (nI 1)) dX9_loud_32 (by decide) ?_
    obtain ⟨v33_4, M33_3, eM33_3, h⟩ := bd_e h
    refine m_callVi (As := [.int (nI 1)]) (st := []) (s_X9_refused (d := d + 1) hA  eM33_3) rfl okX9 ck_X9_refused w_468 rfl (Nat.le_of_ble_eq_true rfl) dX9_loud_33 ?_
    exact g_zret rfl rfl (pi_of h) dX9_loud_36
  refine g_if_lt (tgt := 31) dX9_loud_1 (by decide) (fun c15 => ?_) (fun c15 => ?_)
  · replace h := ite_p c15 h
    refine g_sub [0] (lv' := [(0, .ref 0)]) rfl ?_
    exact hj2  _ h
  · replace h := ite_n c15 h
    refine g_iload_n dX9_loud_4 rfl 1 rfl ?_
    refine g_aload_n dX9_loud_5 rfl 0 rfl ?_
    obtain ⟨g5, eg5, hg5, h⟩ := bg_e h
    refine m_getm (k := 8) okX9 rfl rfl (by decide) w_421 rfl dX9_loud_6 eg5 hg5 ?_
    refine m_geti (k := 7) okX0 hg5 rfl (by decide) w_130 rfl dX9_loud_9 ?_
    refine g_icmp_ge (tgt := 31) dX9_loud_12 (by decide) (fun c14 => ?_) (fun c14 => ?_)
    · replace h := ite_p c14 h
      refine g_sub [0] (lv' := [(0, .ref 0)]) rfl ?_
      exact hj2  _ h
    · replace h := ite_n c14 h
      refine g_iload_n dX9_loud_15 rfl 2 rfl ?_
      refine g_iconst (v := (nI 1)) dX9_loud_16 (by decide) ?_
      refine g_icmp_lt (tgt := 31) dX9_loud_17 (by decide) (fun c13 => ?_) (fun c13 => ?_)
      · replace h := ite_p c13 h
        refine g_sub [0] (lv' := [(0, .ref 0)]) rfl ?_
        exact hj2  _ h
      · replace h := ite_n c13 h
        refine g_iload_n dX9_loud_20 rfl 2 rfl ?_
        refine g_aload_n dX9_loud_21 rfl 0 rfl ?_
        obtain ⟨g6, eg6, hg6, h⟩ := bg_e h
        refine m_getm (k := 8) okX9 rfl rfl (by decide) w_421 rfl dX9_loud_22 eg6 hg6 ?_
        refine m_geti (k := 6) okX0 hg6 rfl (by decide) w_126 rfl dX9_loud_25 ?_
        refine g_icmp_le (tgt := 37) dX9_loud_28 (by decide) (fun c12 => ?_) (fun c12 => ?_)
        · replace h := ite_p c12 h
          refine g_aload_n dX9_loud_37 rfl 0 rfl ?_
          refine g_aload_n dX9_loud_38 rfl 0 rfl ?_
          obtain ⟨g7, eg7, hg7, h⟩ := bg_e h
          refine m_getm (k := 8) okX9 rfl rfl (by decide) w_421 rfl dX9_loud_39 eg7 hg7 ?_
          refine g_iload_n dX9_loud_42 rfl 1 rfl ?_
          refine g_iload_n dX9_loud_43 rfl 2 rfl ?_
          obtain ⟨v44_9, M44_8, eM44_8, h⟩ := bd_e h
          refine m_callVi (As := [.int x1, .int x2]) (st := [.ref 0]) (s_X0_loudnessOf (d := d + 0) hA hg7 eM44_8) hg7 okX0 ck_X0_loudnessOf w_1180 rfl (Nat.le_of_ble_eq_true rfl) dX9_loud_44 ?_
          obtain ⟨v47_11, M47_10, eM47_10, h⟩ := bd_e h
          refine m_callVi (As := [.int v44_9]) (st := []) (s_X9_well (d := d + 1) hA  eM47_10) rfl okX9 ck_X9_well w_677 rfl (Nat.le_of_ble_eq_true rfl) dX9_loud_47 ?_
          exact g_zret rfl rfl (pi_of h) dX9_loud_50
        · replace h := ite_n c12 h
          refine g_sub [0] (lv' := [(0, .ref 0)]) rfl ?_
          exact hj2  _ h
theorem ck_X9_loud : CKV yX9_loud cX9_loud 3 (some .int) 2 := ⟨⟨by decide, by decide, by decide +kernel⟩, w_1179, w_72, ⟨w_1177, w_1178⟩, by decide⟩
theorem dX9_size_0 : decode cX9_size 0 = .ok (.iload_n 1, 1) := by decide +kernel
theorem dX9_size_1 : decode cX9_size 1 = .ok (.tableswitch 144 0 10 #[59, 67, 75, 83, 91, 99, 107, 115, 120, 128, 136], 59) := by decide +kernel
theorem dX9_size_60 : decode cX9_size 60 = .ok (.aload_n 0, 1) := by decide +kernel
theorem dX9_size_61 : decode cX9_size 61 = .ok (.getfield 10, 3) := by decide +kernel
theorem dX9_size_64 : decode cX9_size 64 = .ok (.getfield 328, 3) := by decide +kernel
theorem dX9_size_67 : decode cX9_size 67 = .ok (.ireturn, 1) := by decide +kernel
theorem dX9_size_68 : decode cX9_size 68 = .ok (.aload_n 0, 1) := by decide +kernel
theorem dX9_size_69 : decode cX9_size 69 = .ok (.getfield 10, 3) := by decide +kernel
theorem dX9_size_72 : decode cX9_size 72 = .ok (.getfield 354, 3) := by decide +kernel
theorem dX9_size_75 : decode cX9_size 75 = .ok (.ireturn, 1) := by decide +kernel
theorem dX9_size_76 : decode cX9_size 76 = .ok (.aload_n 0, 1) := by decide +kernel
theorem dX9_size_77 : decode cX9_size 77 = .ok (.getfield 10, 3) := by decide +kernel
theorem dX9_size_80 : decode cX9_size 80 = .ok (.getfield 219, 3) := by decide +kernel
theorem dX9_size_83 : decode cX9_size 83 = .ok (.ireturn, 1) := by decide +kernel
theorem dX9_size_84 : decode cX9_size 84 = .ok (.aload_n 0, 1) := by decide +kernel
theorem dX9_size_85 : decode cX9_size 85 = .ok (.getfield 10, 3) := by decide +kernel
theorem dX9_size_88 : decode cX9_size 88 = .ok (.getfield 369, 3) := by decide +kernel
theorem dX9_size_91 : decode cX9_size 91 = .ok (.ireturn, 1) := by decide +kernel
theorem dX9_size_92 : decode cX9_size 92 = .ok (.aload_n 0, 1) := by decide +kernel
theorem dX9_size_93 : decode cX9_size 93 = .ok (.getfield 10, 3) := by decide +kernel
theorem dX9_size_96 : decode cX9_size 96 = .ok (.getfield 111, 3) := by decide +kernel
theorem dX9_size_99 : decode cX9_size 99 = .ok (.ireturn, 1) := by decide +kernel
theorem dX9_size_100 : decode cX9_size 100 = .ok (.aload_n 0, 1) := by decide +kernel
theorem dX9_size_101 : decode cX9_size 101 = .ok (.getfield 38, 3) := by decide +kernel
theorem dX9_size_104 : decode cX9_size 104 = .ok (.getfield 267, 3) := by decide +kernel
theorem dX9_size_107 : decode cX9_size 107 = .ok (.ireturn, 1) := by decide +kernel
theorem dX9_size_108 : decode cX9_size 108 = .ok (.aload_n 0, 1) := by decide +kernel
theorem dX9_size_109 : decode cX9_size 109 = .ok (.getfield 22, 3) := by decide +kernel
theorem dX9_size_112 : decode cX9_size 112 = .ok (.getfield 74, 3) := by decide +kernel
theorem dX9_size_115 : decode cX9_size 115 = .ok (.ireturn, 1) := by decide +kernel
theorem dX9_size_116 : decode cX9_size 116 = .ok (.aload_n 0, 1) := by decide +kernel
theorem dX9_size_117 : decode cX9_size 117 = .ok (.getfield 105, 3) := by decide +kernel
theorem dX9_size_120 : decode cX9_size 120 = .ok (.ireturn, 1) := by decide +kernel
theorem dX9_size_121 : decode cX9_size 121 = .ok (.aload_n 0, 1) := by decide +kernel
theorem dX9_size_122 : decode cX9_size 122 = .ok (.getfield 56, 3) := by decide +kernel
theorem dX9_size_125 : decode cX9_size 125 = .ok (.getfield 287, 3) := by decide +kernel
theorem dX9_size_128 : decode cX9_size 128 = .ok (.ireturn, 1) := by decide +kernel
theorem dX9_size_129 : decode cX9_size 129 = .ok (.aload_n 0, 1) := by decide +kernel
theorem dX9_size_130 : decode cX9_size 130 = .ok (.getfield 10, 3) := by decide +kernel
theorem dX9_size_133 : decode cX9_size 133 = .ok (.invokevirtual 143, 3) := by decide +kernel
theorem dX9_size_136 : decode cX9_size 136 = .ok (.ireturn, 1) := by decide +kernel
theorem dX9_size_137 : decode cX9_size 137 = .ok (.aload_n 0, 1) := by decide +kernel
theorem dX9_size_138 : decode cX9_size 138 = .ok (.getfield 10, 3) := by decide +kernel
theorem dX9_size_141 : decode cX9_size 141 = .ok (.invokevirtual 135, 3) := by decide +kernel
theorem dX9_size_144 : decode cX9_size 144 = .ok (.ireturn, 1) := by decide +kernel
theorem dX9_size_145 : decode cX9_size 145 = .ok (.iconst (-1), 1) := by decide +kernel
theorem dX9_size_146 : decode cX9_size 146 = .ok (.ireturn, 1) := by decide +kernel
def f_X9_size (x1 : Int32) (M : Mm) : Option (Int32 × Mm) :=
  if x1 = (nI 0) then (bg (M 0 8) fun g2 => some ((M g2 6), M)) else (if x1 = (nI 1) then (bg (M 0 8) fun g4 => some ((M g4 7), M)) else (if x1 = (nI 2) then (bg (M 0 8) fun g6 => some ((M g6 9), M)) else (if x1 = (nI 3) then (bg (M 0 8) fun g8 => some ((M g8 13), M)) else (if x1 = (nI 4) then (bg (M 0 8) fun g10 => some ((M g10 14), M)) else (if x1 = (nI 5) then (some ((M 20 9), M)) else (if x1 = (nI 6) then (some ((M 15 1), M)) else (if x1 = (nI 7) then (some ((M 0 10), M)) else (if x1 = (nI 8) then (some ((M 73 3), M)) else (if x1 = (nI 9) then (bg (M 0 8) fun g16 => bd (f_X0_verseTenths g16 M) fun v133_18 M133_17 => some (v133_18, M133_17)) else (if x1 = (nI 10) then (bg (M 0 8) fun g20 => bd (f_X0_eyes g20 M) fun v141_22 M141_21 => some (v141_22, M141_21)) else (some ((-1 : Int32), M))))))))))))
set_option maxHeartbeats 4000000 in
set_option maxRecDepth 100000 in
theorem s_X9_size {l : Launch} {B : BT} (hA : bA B = false) {d : Nat} {r : Int32} {M' : Mm} {x1 : Int32} {M : Mm}  (h : f_X9_size x1 M = some (r, M')) : Con l B LY (d + 2) yX9_size cX9_size 2 (some .int) 0 0 [.ref 0, .int x1] 97 M (PI r M') := by
  refine con_of (by decide) (Nat.le_of_ble_eq_true rfl) ?_
  show GG l B LY (d + 2) yX9_size cX9_size 2 (some .int) 0 0 (PI r M') 97 0 0 0 [(0, .ref 0), (1, .int x1)] [] M
  rw [f_X9_size] at h
  refine g_iload_n dX9_size_0 rfl 1 rfl ?_
  by_cases c1 : x1 = (nI 0)
  · replace h := ite_p c1 h
    refine g_tabIn (tgt := 60) dX9_size_1 (by rw [c1]; decide) (by rw [c1]; decide) (off := 59) (by rw [c1]; rfl) (by decide) ?_
    refine g_aload_n dX9_size_60 rfl 0 rfl ?_
    obtain ⟨g2, eg2, hg2, h⟩ := bg_e h
    refine m_getm (k := 8) okX9 rfl rfl (by decide) w_421 rfl dX9_size_61 eg2 hg2 ?_
    refine m_geti (k := 6) okX0 hg2 rfl (by decide) w_126 rfl dX9_size_64 ?_
    exact g_zret rfl rfl (pi_of h) dX9_size_67
  replace h := ite_n c1 h
  by_cases c3 : x1 = (nI 1)
  · replace h := ite_p c3 h
    refine g_tabIn (tgt := 68) dX9_size_1 (by rw [c3]; decide) (by rw [c3]; decide) (off := 67) (by rw [c3]; rfl) (by decide) ?_
    refine g_aload_n dX9_size_68 rfl 0 rfl ?_
    obtain ⟨g4, eg4, hg4, h⟩ := bg_e h
    refine m_getm (k := 8) okX9 rfl rfl (by decide) w_421 rfl dX9_size_69 eg4 hg4 ?_
    refine m_geti (k := 7) okX0 hg4 rfl (by decide) w_130 rfl dX9_size_72 ?_
    exact g_zret rfl rfl (pi_of h) dX9_size_75
  replace h := ite_n c3 h
  by_cases c5 : x1 = (nI 2)
  · replace h := ite_p c5 h
    refine g_tabIn (tgt := 76) dX9_size_1 (by rw [c5]; decide) (by rw [c5]; decide) (off := 75) (by rw [c5]; rfl) (by decide) ?_
    refine g_aload_n dX9_size_76 rfl 0 rfl ?_
    obtain ⟨g6, eg6, hg6, h⟩ := bg_e h
    refine m_getm (k := 8) okX9 rfl rfl (by decide) w_421 rfl dX9_size_77 eg6 hg6 ?_
    refine m_geti (k := 9) okX0 hg6 rfl (by decide) w_137 rfl dX9_size_80 ?_
    exact g_zret rfl rfl (pi_of h) dX9_size_83
  replace h := ite_n c5 h
  by_cases c7 : x1 = (nI 3)
  · replace h := ite_p c7 h
    refine g_tabIn (tgt := 84) dX9_size_1 (by rw [c7]; decide) (by rw [c7]; decide) (off := 83) (by rw [c7]; rfl) (by decide) ?_
    refine g_aload_n dX9_size_84 rfl 0 rfl ?_
    obtain ⟨g8, eg8, hg8, h⟩ := bg_e h
    refine m_getm (k := 8) okX9 rfl rfl (by decide) w_421 rfl dX9_size_85 eg8 hg8 ?_
    refine m_geti (k := 13) okX0 hg8 rfl (by decide) w_148 rfl dX9_size_88 ?_
    exact g_zret rfl rfl (pi_of h) dX9_size_91
  replace h := ite_n c7 h
  by_cases c9 : x1 = (nI 4)
  · replace h := ite_p c9 h
    refine g_tabIn (tgt := 92) dX9_size_1 (by rw [c9]; decide) (by rw [c9]; decide) (off := 91) (by rw [c9]; rfl) (by decide) ?_
    refine g_aload_n dX9_size_92 rfl 0 rfl ?_
    obtain ⟨g10, eg10, hg10, h⟩ := bg_e h
    refine m_getm (k := 8) okX9 rfl rfl (by decide) w_421 rfl dX9_size_93 eg10 hg10 ?_
    refine m_geti (k := 14) okX0 hg10 rfl (by decide) w_152 rfl dX9_size_96 ?_
    exact g_zret rfl rfl (pi_of h) dX9_size_99
  replace h := ite_n c9 h
  by_cases c11 : x1 = (nI 5)
  · replace h := ite_p c11 h
    refine g_tabIn (tgt := 100) dX9_size_1 (by rw [c11]; decide) (by rw [c11]; decide) (off := 99) (by rw [c11]; rfl) (by decide) ?_
    refine g_aload_n dX9_size_100 rfl 0 rfl ?_
    refine m_geta (k := 2) okX9 rfl rfl (by decide) w_415 rfl dX9_size_101 ?_
    refine m_geti (k := 9) okX3 rfl rfl (by decide) w_279 rfl dX9_size_104 ?_
    exact g_zret rfl rfl (pi_of h) dX9_size_107
  replace h := ite_n c11 h
  by_cases c12 : x1 = (nI 6)
  · replace h := ite_p c12 h
    refine g_tabIn (tgt := 108) dX9_size_1 (by rw [c12]; decide) (by rw [c12]; decide) (off := 107) (by rw [c12]; rfl) (by decide) ?_
    refine g_aload_n dX9_size_108 rfl 0 rfl ?_
    refine m_geta (k := 0) okX9 rfl rfl (by decide) w_413 rfl dX9_size_109 ?_
    refine m_geti (k := 1) okX8 rfl rfl (by decide) w_196 rfl dX9_size_112 ?_
    exact g_zret rfl rfl (pi_of h) dX9_size_115
  replace h := ite_n c12 h
  by_cases c13 : x1 = (nI 7)
  · replace h := ite_p c13 h
    refine g_tabIn (tgt := 116) dX9_size_1 (by rw [c13]; decide) (by rw [c13]; decide) (off := 115) (by rw [c13]; rfl) (by decide) ?_
    refine g_aload_n dX9_size_116 rfl 0 rfl ?_
    refine m_geti (k := 10) okX9 rfl rfl (by decide) w_423 rfl dX9_size_117 ?_
    exact g_zret rfl rfl (pi_of h) dX9_size_120
  replace h := ite_n c13 h
  by_cases c14 : x1 = (nI 8)
  · replace h := ite_p c14 h
    refine g_tabIn (tgt := 121) dX9_size_1 (by rw [c14]; decide) (by rw [c14]; decide) (off := 120) (by rw [c14]; rfl) (by decide) ?_
    refine g_aload_n dX9_size_121 rfl 0 rfl ?_
    refine m_geta (k := 5) okX9 rfl rfl (by decide) w_418 rfl dX9_size_122 ?_
    refine m_geti (k := 3) okX1 rfl rfl (by decide) w_363 rfl dX9_size_125 ?_
    exact g_zret rfl rfl (pi_of h) dX9_size_128
  replace h := ite_n c14 h
  by_cases c15 : x1 = (nI 9)
  · replace h := ite_p c15 h
    refine g_tabIn (tgt := 129) dX9_size_1 (by rw [c15]; decide) (by rw [c15]; decide) (off := 128) (by rw [c15]; rfl) (by decide) ?_
    refine g_aload_n dX9_size_129 rfl 0 rfl ?_
    obtain ⟨g16, eg16, hg16, h⟩ := bg_e h
    refine m_getm (k := 8) okX9 rfl rfl (by decide) w_421 rfl dX9_size_130 eg16 hg16 ?_
    obtain ⟨v133_18, M133_17, eM133_17, h⟩ := bd_e h
    refine m_callVi (As := []) (st := []) (s_X0_verseTenths (d := d + 0) hA hg16 eM133_17) hg16 okX0 ck_X0_verseTenths w_808 rfl (Nat.le_of_ble_eq_true rfl) dX9_size_133 ?_
    exact g_zret rfl rfl (pi_of h) dX9_size_136
  replace h := ite_n c15 h
  by_cases c19 : x1 = (nI 10)
  · replace h := ite_p c19 h
    refine g_tabIn (tgt := 137) dX9_size_1 (by rw [c19]; decide) (by rw [c19]; decide) (off := 136) (by rw [c19]; rfl) (by decide) ?_
    refine g_aload_n dX9_size_137 rfl 0 rfl ?_
    obtain ⟨g20, eg20, hg20, h⟩ := bg_e h
    refine m_getm (k := 8) okX9 rfl rfl (by decide) w_421 rfl dX9_size_138 eg20 hg20 ?_
    obtain ⟨v141_22, M141_21, eM141_21, h⟩ := bd_e h
    refine m_callVi (As := []) (st := []) (s_X0_eyes (d := d + 0) hA hg20 eM141_21) hg20 okX0 ck_X0_eyes w_714 rfl (Nat.le_of_ble_eq_true rfl) dX9_size_141 ?_
    exact g_zret rfl rfl (pi_of h) dX9_size_144
  replace h := ite_n c19 h
  have tc1 : x1.toInt ≠ 0 := fun e => c1 (Int32.toInt_inj.mp (e.trans (by decide)))
  have tc3 : x1.toInt ≠ 1 := fun e => c3 (Int32.toInt_inj.mp (e.trans (by decide)))
  have tc5 : x1.toInt ≠ 2 := fun e => c5 (Int32.toInt_inj.mp (e.trans (by decide)))
  have tc7 : x1.toInt ≠ 3 := fun e => c7 (Int32.toInt_inj.mp (e.trans (by decide)))
  have tc9 : x1.toInt ≠ 4 := fun e => c9 (Int32.toInt_inj.mp (e.trans (by decide)))
  have tc11 : x1.toInt ≠ 5 := fun e => c11 (Int32.toInt_inj.mp (e.trans (by decide)))
  have tc12 : x1.toInt ≠ 6 := fun e => c12 (Int32.toInt_inj.mp (e.trans (by decide)))
  have tc13 : x1.toInt ≠ 7 := fun e => c13 (Int32.toInt_inj.mp (e.trans (by decide)))
  have tc14 : x1.toInt ≠ 8 := fun e => c14 (Int32.toInt_inj.mp (e.trans (by decide)))
  have tc15 : x1.toInt ≠ 9 := fun e => c15 (Int32.toInt_inj.mp (e.trans (by decide)))
  have tc19 : x1.toInt ≠ 10 := fun e => c19 (Int32.toInt_inj.mp (e.trans (by decide)))
  refine g_tabOut (tgt := 145) dX9_size_1 (by omega) (by decide) ?_
  refine g_iconst (v := (-1 : Int32)) dX9_size_145 (by decide) ?_
  exact g_zret rfl rfl (pi_of h) dX9_size_146
theorem ck_X9_size : CKV yX9_size cX9_size 2 (some .int) 1 := ⟨⟨by decide, by decide, by decide +kernel⟩, w_1184, w_72, ⟨w_1182, w_1183⟩, by decide⟩
theorem dX9_creeper_0 : decode cX9_creeper 0 = .ok (.iload_n 1, 1) := by decide +kernel
theorem dX9_creeper_1 : decode cX9_creeper 1 = .ok (.ifCond .lt 24, 3) := by decide +kernel
theorem dX9_creeper_4 : decode cX9_creeper 4 = .ok (.iload_n 1, 1) := by decide +kernel
theorem dX9_creeper_5 : decode cX9_creeper 5 = .ok (.aload_n 0, 1) := by decide +kernel
theorem dX9_creeper_6 : decode cX9_creeper 6 = .ok (.getfield 10, 3) := by decide +kernel
theorem dX9_creeper_9 : decode cX9_creeper 9 = .ok (.getfield 111, 3) := by decide +kernel
theorem dX9_creeper_12 : decode cX9_creeper 12 = .ok (.if_icmp .ge 13, 3) := by decide +kernel
theorem dX9_creeper_15 : decode cX9_creeper 15 = .ok (.iload_n 2, 1) := by decide +kernel
theorem dX9_creeper_16 : decode cX9_creeper 16 = .ok (.ifCond .lt 9, 3) := by decide +kernel
theorem dX9_creeper_19 : decode cX9_creeper 19 = .ok (.iload_n 2, 1) := by decide +kernel
theorem dX9_creeper_20 : decode cX9_creeper 20 = .ok (.bipush 7, 2) := by decide +kernel
theorem dX9_creeper_22 : decode cX9_creeper 22 = .ok (.if_icmp .lt 5, 3) := by decide +kernel
theorem dX9_creeper_25 : decode cX9_creeper 25 = .ok (.iconst (-1), 1) := by decide +kernel
theorem dX9_creeper_26 : decode cX9_creeper 26 = .ok (.ireturn, 1) := by decide +kernel
theorem dX9_creeper_27 : decode cX9_creeper 27 = .ok (.aload_n 0, 1) := by decide +kernel
theorem dX9_creeper_28 : decode cX9_creeper 28 = .ok (.getfield 10, 3) := by decide +kernel
theorem dX9_creeper_31 : decode cX9_creeper 31 = .ok (.iload_n 1, 1) := by decide +kernel
theorem dX9_creeper_32 : decode cX9_creeper 32 = .ok (.iload_n 2, 1) := by decide +kernel
theorem dX9_creeper_33 : decode cX9_creeper 33 = .ok (.invokevirtual 322, 3) := by decide +kernel
theorem dX9_creeper_36 : decode cX9_creeper 36 = .ok (.ireturn, 1) := by decide +kernel
def f_X9_creeper (x1 : Int32) (x2 : Int32) (M : Mm) : Option (Int32 × Mm) :=
  if x1 < 0 then (some ((-1 : Int32), M)) else (bg (M 0 8) fun g1 => if (M g1 14) ≤ x1 then (some ((-1 : Int32), M)) else (if x2 < 0 then (some ((-1 : Int32), M)) else (if x2 < (nI 7) then (bg (M 0 8) fun g2 => bd (f_X0_trait g2 x1 x2 M) fun v33_4 M33_3 => some (v33_4, M33_3)) else (some ((-1 : Int32), M)))))
set_option maxHeartbeats 4000000 in
set_option maxRecDepth 100000 in
theorem s_X9_creeper {l : Launch} {B : BT} (hA : bA B = false) {d : Nat} {r : Int32} {M' : Mm} {x1 : Int32} {x2 : Int32} {M : Mm}  (h : f_X9_creeper x1 x2 M = some (r, M')) : Con l B LY (d + 1) yX9_creeper cX9_creeper 3 (some .int) 0 0 [.ref 0, .int x1, .int x2] 97 M (PI r M') := by
  refine con_of (by decide) (Nat.le_of_ble_eq_true rfl) ?_
  show GG l B LY (d + 1) yX9_creeper cX9_creeper 3 (some .int) 0 0 (PI r M') 97 0 0 0 [(0, .ref 0), (1, .int x1), (2, .int x2)] [] M
  rw [f_X9_creeper] at h
  refine g_iload_n dX9_creeper_0 rfl 1 rfl ?_
  refine g_if_lt (tgt := 25) dX9_creeper_1 (by decide) (fun c8 => ?_) (fun c8 => ?_)
  · replace h := ite_p c8 h
    refine g_iconst (v := (-1 : Int32)) dX9_creeper_25 (by decide) ?_
    exact g_zret rfl rfl (pi_of h) dX9_creeper_26
  · replace h := ite_n c8 h
    refine g_iload_n dX9_creeper_4 rfl 1 rfl ?_
    refine g_aload_n dX9_creeper_5 rfl 0 rfl ?_
    obtain ⟨g1, eg1, hg1, h⟩ := bg_e h
    refine m_getm (k := 8) okX9 rfl rfl (by decide) w_421 rfl dX9_creeper_6 eg1 hg1 ?_
    refine m_geti (k := 14) okX0 hg1 rfl (by decide) w_152 rfl dX9_creeper_9 ?_
    refine g_icmp_ge (tgt := 25) dX9_creeper_12 (by decide) (fun c7 => ?_) (fun c7 => ?_)
    · replace h := ite_p c7 h
      refine g_iconst (v := (-1 : Int32)) dX9_creeper_25 (by decide) ?_
      exact g_zret rfl rfl (pi_of h) dX9_creeper_26
    · replace h := ite_n c7 h
      refine g_iload_n dX9_creeper_15 rfl 2 rfl ?_
      refine g_if_lt (tgt := 25) dX9_creeper_16 (by decide) (fun c6 => ?_) (fun c6 => ?_)
      · replace h := ite_p c6 h
        refine g_iconst (v := (-1 : Int32)) dX9_creeper_25 (by decide) ?_
        exact g_zret rfl rfl (pi_of h) dX9_creeper_26
      · replace h := ite_n c6 h
        refine g_iload_n dX9_creeper_19 rfl 2 rfl ?_
        refine g_bipush (v := (nI 7)) dX9_creeper_20 (by decide) ?_
        refine g_icmp_lt (tgt := 27) dX9_creeper_22 (by decide) (fun c5 => ?_) (fun c5 => ?_)
        · replace h := ite_p c5 h
          refine g_aload_n dX9_creeper_27 rfl 0 rfl ?_
          obtain ⟨g2, eg2, hg2, h⟩ := bg_e h
          refine m_getm (k := 8) okX9 rfl rfl (by decide) w_421 rfl dX9_creeper_28 eg2 hg2 ?_
          refine g_iload_n dX9_creeper_31 rfl 1 rfl ?_
          refine g_iload_n dX9_creeper_32 rfl 2 rfl ?_
          obtain ⟨v33_4, M33_3, eM33_3, h⟩ := bd_e h
          refine m_callVi (As := [.int x1, .int x2]) (st := []) (s_X0_trait (d := d + 0) hA hg2 eM33_3) hg2 okX0 ck_X0_trait w_1116 rfl (Nat.le_of_ble_eq_true rfl) dX9_creeper_33 ?_
          exact g_zret rfl rfl (pi_of h) dX9_creeper_36
        · replace h := ite_n c5 h
          refine g_iconst (v := (-1 : Int32)) dX9_creeper_25 (by decide) ?_
          exact g_zret rfl rfl (pi_of h) dX9_creeper_26
theorem ck_X9_creeper : CKV yX9_creeper cX9_creeper 3 (some .int) 2 := ⟨⟨by decide, by decide, by decide +kernel⟩, w_1188, w_72, ⟨w_1186, w_1187⟩, by decide⟩
theorem dX9_trouble_0 : decode cX9_trouble 0 = .ok (.aload_n 0, 1) := by decide +kernel
theorem dX9_trouble_1 : decode cX9_trouble 1 = .ok (.getfield 117, 3) := by decide +kernel
theorem dX9_trouble_4 : decode cX9_trouble 4 = .ok (.ireturn, 1) := by decide +kernel
def f_X9_trouble  (M : Mm) : Option (Int32 × Mm) :=
  some ((M 0 11), M)
set_option maxHeartbeats 4000000 in
set_option maxRecDepth 100000 in
theorem s_X9_trouble {l : Launch} {B : BT} (hA : bA B = false) {d : Nat} {r : Int32} {M' : Mm}  {M : Mm}  (h : f_X9_trouble  M = some (r, M')) : Con l B LY (d + 0) yX9_trouble cX9_trouble 1 (some .int) 0 0 [.ref 0] 97 M (PI r M') := by
  refine con_of (by decide) (Nat.le_of_ble_eq_true rfl) ?_
  show GG l B LY (d + 0) yX9_trouble cX9_trouble 1 (some .int) 0 0 (PI r M') 97 0 0 0 [(0, .ref 0)] [] M
  rw [f_X9_trouble] at h
  refine g_aload_n dX9_trouble_0 rfl 0 rfl ?_
  refine m_geti (k := 11) okX9 rfl rfl (by decide) w_424 rfl dX9_trouble_1 ?_
  exact g_zret rfl rfl (pi_of h) dX9_trouble_4
theorem ck_X9_trouble : CKV yX9_trouble cX9_trouble 1 (some .int) 0 := ⟨⟨by decide, by decide, by decide +kernel⟩, w_1192, w_72, ⟨w_1190, w_1191⟩, by decide⟩
theorem dX10_thrown_0 : decode cX10_thrown 0 = .ok (.aload_n 0, 1) := by decide +kernel
theorem dX10_thrown_1 : decode cX10_thrown 1 = .ok (.getfield 59, 3) := by decide +kernel
theorem dX10_thrown_4 : decode cX10_thrown 4 = .ok (.ireturn, 1) := by decide +kernel
def f_X10_thrown  (M : Mm) : Option (Int32 × Mm) :=
  some ((M 81 0), M)
set_option maxHeartbeats 4000000 in
set_option maxRecDepth 100000 in
theorem s_X10_thrown {l : Launch} {B : BT} (hA : bA B = false) {d : Nat} {r : Int32} {M' : Mm}  {M : Mm}  (h : f_X10_thrown  M = some (r, M')) : Con l B LY (d + 0) yX10_thrown cX10_thrown 1 (some .int) 0 0 [.ref 81] 97 M (PI r M') := by
  refine con_of (by decide) (Nat.le_of_ble_eq_true rfl) ?_
  show GG l B LY (d + 0) yX10_thrown cX10_thrown 1 (some .int) 0 0 (PI r M') 97 0 0 0 [(0, .ref 81)] [] M
  rw [f_X10_thrown] at h
  refine g_aload_n dX10_thrown_0 rfl 0 rfl ?_
  refine m_geti (k := 0) okX10 rfl rfl (by decide) w_1269 rfl dX10_thrown_1 ?_
  exact g_zret rfl rfl (pi_of h) dX10_thrown_4
theorem ck_X10_thrown : CKV yX10_thrown cX10_thrown 1 (some .int) 0 := ⟨⟨by decide, by decide, by decide +kernel⟩, w_1372, w_81, ⟨w_1370, w_1371⟩, by decide⟩
theorem dX10_good_0 : decode cX10_good 0 = .ok (.aload_n 0, 1) := by decide +kernel
theorem dX10_good_1 : decode cX10_good 1 = .ok (.iconst 0, 1) := by decide +kernel
theorem dX10_good_2 : decode cX10_good 2 = .ok (.putfield 59, 3) := by decide +kernel
theorem dX10_good_5 : decode cX10_good 5 = .ok (.aload_n 0, 1) := by decide +kernel
theorem dX10_good_6 : decode cX10_good 6 = .ok (.iconst 0, 1) := by decide +kernel
theorem dX10_good_7 : decode cX10_good 7 = .ok (.putfield 62, 3) := by decide +kernel
theorem dX10_good_10 : decode cX10_good 10 = .ok (.return_, 1) := by decide +kernel
def f_X10_good  (M : Mm) : Option (Mm) :=
  some ((mset (mset M 81 0 (nI 0)) 81 11 (nI 0)))
set_option maxHeartbeats 4000000 in
set_option maxRecDepth 100000 in
theorem s_X10_good {l : Launch} {B : BT} (hA : bA B = false) {d : Nat} {M' : Mm}  {M : Mm}  (h : f_X10_good  M = some M') : Con l B LY (d + 0) yX10_good cX10_good 1 none 0 0 [.ref 81] 97 M (PV M') := by
  refine con_of (by decide) (Nat.le_of_ble_eq_true rfl) ?_
  show GG l B LY (d + 0) yX10_good cX10_good 1 none 0 0 (PV M') 97 0 0 0 [(0, .ref 81)] [] M
  rw [f_X10_good] at h
  refine g_aload_n dX10_good_0 rfl 0 rfl ?_
  refine g_iconst (v := (nI 0)) dX10_good_1 (by decide) ?_
  refine m_puti (k := 0) okX10 rfl rfl (by decide) w_1269 rfl rfl rfl dX10_good_2 ?_
  refine g_aload_n dX10_good_5 rfl 0 rfl ?_
  refine g_iconst (v := (nI 0)) dX10_good_6 (by decide) ?_
  refine m_puti (k := 11) okX10 rfl rfl (by decide) w_1280 rfl rfl rfl dX10_good_7 ?_
  exact g_vret rfl (pv_of h) dX10_good_10
theorem ck_X10_good : CKV yX10_good cX10_good 1 none 0 := ⟨⟨by decide, by decide, by decide +kernel⟩, w_1384, w_81, ⟨w_1383, w_10⟩, by decide⟩
theorem dX10_no_0 : decode cX10_no 0 = .ok (.aload_n 0, 1) := by decide +kernel
theorem dX10_no_1 : decode cX10_no 1 = .ok (.iload_n 1, 1) := by decide +kernel
theorem dX10_no_2 : decode cX10_no 2 = .ok (.putfield 62, 3) := by decide +kernel
theorem dX10_no_5 : decode cX10_no 5 = .ok (.iconst (-1), 1) := by decide +kernel
theorem dX10_no_6 : decode cX10_no 6 = .ok (.ireturn, 1) := by decide +kernel
def f_X10_no (x1 : Int32) (M : Mm) : Option (Int32 × Mm) :=
  some ((-1 : Int32), (mset M 81 11 x1))
set_option maxHeartbeats 4000000 in
set_option maxRecDepth 100000 in
theorem s_X10_no {l : Launch} {B : BT} (hA : bA B = false) {d : Nat} {r : Int32} {M' : Mm} {x1 : Int32} {M : Mm}  (h : f_X10_no x1 M = some (r, M')) : Con l B LY (d + 0) yX10_no cX10_no 2 (some .int) 0 0 [.ref 81, .int x1] 97 M (PI r M') := by
  refine con_of (by decide) (Nat.le_of_ble_eq_true rfl) ?_
  show GG l B LY (d + 0) yX10_no cX10_no 2 (some .int) 0 0 (PI r M') 97 0 0 0 [(0, .ref 81), (1, .int x1)] [] M
  rw [f_X10_no] at h
  refine g_aload_n dX10_no_0 rfl 0 rfl ?_
  refine g_iload_n dX10_no_1 rfl 1 rfl ?_
  refine m_puti (k := 11) okX10 rfl rfl (by decide) w_1280 rfl rfl rfl dX10_no_2 ?_
  refine g_iconst (v := (-1 : Int32)) dX10_no_5 (by decide) ?_
  exact g_zret rfl rfl (pi_of h) dX10_no_6
theorem ck_X10_no : CKV yX10_no cX10_no 2 (some .int) 1 := ⟨⟨by decide, by decide, by decide +kernel⟩, w_1391, w_81, ⟨w_1390, w_11⟩, by decide⟩
theorem dX10_isNot_0 : decode cX10_isNot 0 = .ok (.aload_n 0, 1) := by decide +kernel
theorem dX10_isNot_1 : decode cX10_isNot 1 = .ok (.iload_n 1, 1) := by decide +kernel
theorem dX10_isNot_2 : decode cX10_isNot 2 = .ok (.putfield 62, 3) := by decide +kernel
theorem dX10_isNot_5 : decode cX10_isNot 5 = .ok (.iconst 0, 1) := by decide +kernel
theorem dX10_isNot_6 : decode cX10_isNot 6 = .ok (.ireturn, 1) := by decide +kernel
def f_X10_isNot (x1 : Int32) (M : Mm) : Option (Int32 × Mm) :=
  some ((nI 0), (mset M 81 11 x1))
set_option maxHeartbeats 4000000 in
set_option maxRecDepth 100000 in
theorem s_X10_isNot {l : Launch} {B : BT} (hA : bA B = false) {d : Nat} {r : Int32} {M' : Mm} {x1 : Int32} {M : Mm}  (h : f_X10_isNot x1 M = some (r, M')) : Con l B LY (d + 0) yX10_isNot cX10_isNot 2 (some .boolean) 0 0 [.ref 81, .int x1] 97 M (PI r M') := by
  refine con_of (by decide) (Nat.le_of_ble_eq_true rfl) ?_
  show GG l B LY (d + 0) yX10_isNot cX10_isNot 2 (some .boolean) 0 0 (PI r M') 97 0 0 0 [(0, .ref 81), (1, .int x1)] [] M
  rw [f_X10_isNot] at h
  refine g_aload_n dX10_isNot_0 rfl 0 rfl ?_
  refine g_iload_n dX10_isNot_1 rfl 1 rfl ?_
  refine m_puti (k := 11) okX10 rfl rfl (by decide) w_1280 rfl rfl rfl dX10_isNot_2 ?_
  refine g_iconst (v := (nI 0)) dX10_isNot_5 (by decide) ?_
  exact g_zret rfl rfl (pi_of h) dX10_isNot_6
theorem ck_X10_isNot : CKV yX10_isNot cX10_isNot 2 (some .boolean) 1 := ⟨⟨by decide, by decide, by decide +kernel⟩, w_1510, w_81, ⟨w_1509, w_30⟩, by decide⟩
theorem dX10_within_0 : decode cX10_within 0 = .ok (.iload_n 0, 1) := by decide +kernel
theorem dX10_within_1 : decode cX10_within 1 = .ok (.iload_n 1, 1) := by decide +kernel
theorem dX10_within_2 : decode cX10_within 2 = .ok (.if_icmp .lt 12, 3) := by decide +kernel
theorem dX10_within_5 : decode cX10_within 5 = .ok (.iload_n 0, 1) := by decide +kernel
theorem dX10_within_6 : decode cX10_within 6 = .ok (.iload_n 2, 1) := by decide +kernel
theorem dX10_within_7 : decode cX10_within 7 = .ok (.if_icmp .gt 7, 3) := by decide +kernel
theorem dX10_within_10 : decode cX10_within 10 = .ok (.iconst 1, 1) := by decide +kernel
theorem dX10_within_11 : decode cX10_within 11 = .ok (.goto 4, 3) := by decide +kernel
theorem dX10_within_14 : decode cX10_within 14 = .ok (.iconst 0, 1) := by decide +kernel
theorem dX10_within_15 : decode cX10_within 15 = .ok (.ireturn, 1) := by decide +kernel
def f_X10_within (x0 : Int32) (x1 : Int32) (x2 : Int32) (M : Mm) : Option (Int32 × Mm) :=
  jn (fun (M1 : Mm) => some ((nI 0), M1)) fun j2 => if x0 < x1 then (j2  M) else (if x2 < x0 then (j2  M) else (some ((nI 1), M)))
set_option maxHeartbeats 4000000 in
set_option maxRecDepth 100000 in
theorem s_X10_within {l : Launch} {B : BT} (hA : bA B = false) {d : Nat} {r : Int32} {M' : Mm} {x0 : Int32} {x1 : Int32} {x2 : Int32} {M : Mm}  (h : f_X10_within x0 x1 x2 M = some (r, M')) : Con l B LY (d + 0) yX10_within cX10_within 3 (some .boolean) 0 0 [.int x0, .int x1, .int x2] 97 M (PI r M') := by
  refine con_of (by decide) (Nat.le_of_ble_eq_true rfl) ?_
  show GG l B LY (d + 0) yX10_within cX10_within 3 (some .boolean) 0 0 (PI r M') 97 0 0 0 [(0, .int x0), (1, .int x1), (2, .int x2)] [] M
  rw [f_X10_within] at h
  refine g_iload_n dX10_within_0 rfl 0 rfl ?_
  refine g_iload_n dX10_within_1 rfl 1 rfl ?_
  obtain ⟨j2, ej2, h⟩ := jn_e h
  have hj2 : ∀ (M1 : Mm), j2 M1 = some (r, M') → GG l B LY (d + 0) yX10_within cX10_within 3 (some .boolean) 0 0 (PI r M') 97 0 0 14 [] [] M1 := by
    intro M1 h
    rw [ej2] at h
    refine g_iconst (v := (nI 0)) dX10_within_14 (by decide) ?_
    exact g_zret rfl rfl (pi_of h) dX10_within_15
  refine g_icmp_lt (tgt := 14) dX10_within_2 (by decide) (fun c4 => ?_) (fun c4 => ?_)
  · replace h := ite_p c4 h
    refine g_sub [] (lv' := []) rfl ?_
    exact hj2  _ h
  · replace h := ite_n c4 h
    refine g_iload_n dX10_within_5 rfl 0 rfl ?_
    refine g_iload_n dX10_within_6 rfl 2 rfl ?_
    refine g_icmp_gt (tgt := 14) dX10_within_7 (by decide) (fun c3 => ?_) (fun c3 => ?_)
    · replace h := ite_p c3 h
      refine g_sub [] (lv' := []) rfl ?_
      exact hj2  _ h
    · replace h := ite_n c3 h
      refine g_iconst (v := (nI 1)) dX10_within_10 (by decide) ?_
      refine g_goto (tgt := 15) dX10_within_11 (by decide) ?_
      exact g_zret rfl rfl (pi_of h) dX10_within_15
theorem ck_X10_within : CKS yX10_within cX10_within 3 (some .boolean) 3 := ⟨⟨by decide, by decide, by decide +kernel⟩, w_1387, w_81, w_1386, by decide⟩
theorem dX10_less_0 : decode cX10_less 0 = .ok (.iload_n 0, 1) := by decide +kernel
theorem dX10_less_1 : decode cX10_less 1 = .ok (.iload_n 1, 1) := by decide +kernel
theorem dX10_less_2 : decode cX10_less 2 = .ok (.if_icmp .ge 7, 3) := by decide +kernel
theorem dX10_less_5 : decode cX10_less 5 = .ok (.iload_n 0, 1) := by decide +kernel
theorem dX10_less_6 : decode cX10_less 6 = .ok (.goto 4, 3) := by decide +kernel
theorem dX10_less_9 : decode cX10_less 9 = .ok (.iload_n 1, 1) := by decide +kernel
theorem dX10_less_10 : decode cX10_less 10 = .ok (.ireturn, 1) := by decide +kernel
def f_X10_less (x0 : Int32) (x1 : Int32) (M : Mm) : Option (Int32 × Mm) :=
  if x1 ≤ x0 then (some (x1, M)) else (some (x0, M))
set_option maxHeartbeats 4000000 in
set_option maxRecDepth 100000 in
theorem s_X10_less {l : Launch} {B : BT} (hA : bA B = false) {d : Nat} {r : Int32} {M' : Mm} {x0 : Int32} {x1 : Int32} {M : Mm}  (h : f_X10_less x0 x1 M = some (r, M')) : Con l B LY (d + 0) yX10_less cX10_less 2 (some .int) 0 0 [.int x0, .int x1] 97 M (PI r M') := by
  refine con_of (by decide) (Nat.le_of_ble_eq_true rfl) ?_
  show GG l B LY (d + 0) yX10_less cX10_less 2 (some .int) 0 0 (PI r M') 97 0 0 0 [(0, .int x0), (1, .int x1)] [] M
  rw [f_X10_less] at h
  refine g_iload_n dX10_less_0 rfl 0 rfl ?_
  refine g_iload_n dX10_less_1 rfl 1 rfl ?_
  refine g_icmp_ge (tgt := 9) dX10_less_2 (by decide) (fun c1 => ?_) (fun c1 => ?_)
  · replace h := ite_p c1 h
    refine g_iload_n dX10_less_9 rfl 1 rfl ?_
    exact g_zret rfl rfl (pi_of h) dX10_less_10
  · replace h := ite_n c1 h
    refine g_iload_n dX10_less_5 rfl 0 rfl ?_
    refine g_goto (tgt := 10) dX10_less_6 (by decide) ?_
    exact g_zret rfl rfl (pi_of h) dX10_less_10
theorem ck_X10_less : CKS yX10_less cX10_less 2 (some .int) 2 := ⟨⟨by decide, by decide, by decide +kernel⟩, w_1659, w_81, w_1658, by decide⟩
theorem dX10_feed_0 : decode cX10_feed 0 = .ok (.aload_n 0, 1) := by decide +kernel
theorem dX10_feed_1 : decode cX10_feed 1 = .ok (.iconst 0, 1) := by decide +kernel
theorem dX10_feed_2 : decode cX10_feed 2 = .ok (.putfield 59, 3) := by decide +kernel
theorem dX10_feed_5 : decode cX10_feed 5 = .ok (.aload_n 0, 1) := by decide +kernel
theorem dX10_feed_6 : decode cX10_feed 6 = .ok (.getfield 65, 3) := by decide +kernel
theorem dX10_feed_9 : decode cX10_feed 9 = .ok (.bipush 20, 2) := by decide +kernel
theorem dX10_feed_11 : decode cX10_feed 11 = .ok (.iadd, 1) := by decide +kernel
theorem dX10_feed_12 : decode cX10_feed 12 = .ok (.sipush 900, 3) := by decide +kernel
theorem dX10_feed_15 : decode cX10_feed 15 = .ok (.if_icmp .le 5, 3) := by decide +kernel
theorem dX10_feed_18 : decode cX10_feed 18 = .ok (.iconst (-1), 1) := by decide +kernel
theorem dX10_feed_19 : decode cX10_feed 19 = .ok (.ireturn, 1) := by decide +kernel
theorem dX10_feed_20 : decode cX10_feed 20 = .ok (.iconst 0, 1) := by decide +kernel
theorem dX10_feed_21 : decode cX10_feed 21 = .ok (.istore 6, 2) := by decide +kernel
theorem dX10_feed_23 : decode cX10_feed 23 = .ok (.iload 6, 2) := by decide +kernel
theorem dX10_feed_25 : decode cX10_feed 25 = .ok (.bipush 20, 2) := by decide +kernel
theorem dX10_feed_27 : decode cX10_feed 27 = .ok (.if_icmp .ge 93, 3) := by decide +kernel
theorem dX10_feed_30 : decode cX10_feed 30 = .ok (.iload 6, 2) := by decide +kernel
theorem dX10_feed_32 : decode cX10_feed 32 = .ok (.iconst 4, 1) := by decide +kernel
theorem dX10_feed_33 : decode cX10_feed 33 = .ok (.if_icmp .ge 7, 3) := by decide +kernel
theorem dX10_feed_36 : decode cX10_feed 36 = .ok (.iload_n 1, 1) := by decide +kernel
theorem dX10_feed_37 : decode cX10_feed 37 = .ok (.goto 39, 3) := by decide +kernel
theorem dX10_feed_40 : decode cX10_feed 40 = .ok (.iload 6, 2) := by decide +kernel
theorem dX10_feed_42 : decode cX10_feed 42 = .ok (.bipush 8, 2) := by decide +kernel
theorem dX10_feed_44 : decode cX10_feed 44 = .ok (.if_icmp .ge 7, 3) := by decide +kernel
theorem dX10_feed_47 : decode cX10_feed 47 = .ok (.iload_n 2, 1) := by decide +kernel
theorem dX10_feed_48 : decode cX10_feed 48 = .ok (.goto 28, 3) := by decide +kernel
theorem dX10_feed_51 : decode cX10_feed 51 = .ok (.iload 6, 2) := by decide +kernel
theorem dX10_feed_53 : decode cX10_feed 53 = .ok (.bipush 12, 2) := by decide +kernel
theorem dX10_feed_55 : decode cX10_feed 55 = .ok (.if_icmp .ge 7, 3) := by decide +kernel
theorem dX10_feed_58 : decode cX10_feed 58 = .ok (.iload_n 3, 1) := by decide +kernel
theorem dX10_feed_59 : decode cX10_feed 59 = .ok (.goto 17, 3) := by decide +kernel
theorem dX10_feed_62 : decode cX10_feed 62 = .ok (.iload 6, 2) := by decide +kernel
theorem dX10_feed_64 : decode cX10_feed 64 = .ok (.bipush 16, 2) := by decide +kernel
theorem dX10_feed_66 : decode cX10_feed 66 = .ok (.if_icmp .ge 8, 3) := by decide +kernel
theorem dX10_feed_69 : decode cX10_feed 69 = .ok (.iload 4, 2) := by decide +kernel
theorem dX10_feed_71 : decode cX10_feed 71 = .ok (.goto 5, 3) := by decide +kernel
theorem dX10_feed_74 : decode cX10_feed 74 = .ok (.iload 5, 2) := by decide +kernel
theorem dX10_feed_76 : decode cX10_feed 76 = .ok (.istore 7, 2) := by decide +kernel
theorem dX10_feed_78 : decode cX10_feed 78 = .ok (.aload_n 0, 1) := by decide +kernel
theorem dX10_feed_79 : decode cX10_feed 79 = .ok (.getfield 7, 3) := by decide +kernel
theorem dX10_feed_82 : decode cX10_feed 82 = .ok (.aload_n 0, 1) := by decide +kernel
theorem dX10_feed_83 : decode cX10_feed 83 = .ok (.getfield 65, 3) := by decide +kernel
theorem dX10_feed_86 : decode cX10_feed 86 = .ok (.iload 7, 2) := by decide +kernel
theorem dX10_feed_88 : decode cX10_feed 88 = .ok (.bipush 24, 2) := by decide +kernel
theorem dX10_feed_90 : decode cX10_feed 90 = .ok (.bipush 8, 2) := by decide +kernel
theorem dX10_feed_92 : decode cX10_feed 92 = .ok (.iload 6, 2) := by decide +kernel
theorem dX10_feed_94 : decode cX10_feed 94 = .ok (.iconst 4, 1) := by decide +kernel
theorem dX10_feed_95 : decode cX10_feed 95 = .ok (.irem, 1) := by decide +kernel
theorem dX10_feed_96 : decode cX10_feed 96 = .ok (.imul, 1) := by decide +kernel
theorem dX10_feed_97 : decode cX10_feed 97 = .ok (.isub, 1) := by decide +kernel
theorem dX10_feed_98 : decode cX10_feed 98 = .ok (.ishr, 1) := by decide +kernel
theorem dX10_feed_99 : decode cX10_feed 99 = .ok (.sipush 255, 3) := by decide +kernel
theorem dX10_feed_102 : decode cX10_feed 102 = .ok (.iand, 1) := by decide +kernel
theorem dX10_feed_103 : decode cX10_feed 103 = .ok (.iastore, 1) := by decide +kernel
theorem dX10_feed_104 : decode cX10_feed 104 = .ok (.aload_n 0, 1) := by decide +kernel
theorem dX10_feed_105 : decode cX10_feed 105 = .ok (.dup, 1) := by decide +kernel
theorem dX10_feed_106 : decode cX10_feed 106 = .ok (.getfield 65, 3) := by decide +kernel
theorem dX10_feed_109 : decode cX10_feed 109 = .ok (.iconst 1, 1) := by decide +kernel
theorem dX10_feed_110 : decode cX10_feed 110 = .ok (.iadd, 1) := by decide +kernel
theorem dX10_feed_111 : decode cX10_feed 111 = .ok (.putfield 65, 3) := by decide +kernel
theorem dX10_feed_114 : decode cX10_feed 114 = .ok (.iinc 6 1, 3) := by decide +kernel
theorem dX10_feed_117 : decode cX10_feed 117 = .ok (.goto (-94), 3) := by decide +kernel
theorem dX10_feed_120 : decode cX10_feed 120 = .ok (.aload_n 0, 1) := by decide +kernel
theorem dX10_feed_121 : decode cX10_feed 121 = .ok (.getfield 65, 3) := by decide +kernel
theorem dX10_feed_124 : decode cX10_feed 124 = .ok (.ireturn, 1) := by decide +kernel
def lp_X10_feed_23 (y1 : Int32) (y2 : Int32) (y3 : Int32) (y4 : Int32) (y5 : Int32) (k120 : Mm → Option (Int32 × Mm)) : Nat → Int32 → Mm → Option (Int32 × Mm)
  | 0, _, _ => none
  | n + 1, y6, M =>
    if (nI 20) ≤ y6 then (k120  M) else (jn (fun (s1 : Int32) (M2 : Mm) => gd (inb (M2 81 2) 900) <| lp_X10_feed_23 y1 y2 y3 y4 y5 k120 n (y6 + (nI 1)) (mset (mset M2 82 (M2 81 2).toNatClampNeg ((s1 >>> (((nI 24) - ((nI 8) * (y6 - y6 / (nI 4) * (nI 4)))) &&& 31)) &&& (nI 255))) 81 2 (((mset M2 82 (M2 81 2).toNatClampNeg ((s1 >>> (((nI 24) - ((nI 8) * (y6 - y6 / (nI 4) * (nI 4)))) &&& 31)) &&& (nI 255))) 81 2) + (nI 1)))) fun j3 => if (nI 4) ≤ y6 then (if (nI 8) ≤ y6 then (if (nI 12) ≤ y6 then (if (nI 16) ≤ y6 then (j3 y5 M) else (j3 y4 M)) else (j3 y3 M)) else (j3 y2 M)) else (j3 y1 M))
def f_X10_feed (x1 : Int32) (x2 : Int32) (x3 : Int32) (x4 : Int32) (x5 : Int32) (M : Mm) : Option (Int32 × Mm) :=
  if (((mset M 81 0 (nI 0)) 81 2) + (nI 20)) ≤ (nI 900) then (lp_X10_feed_23 x1 x2 x3 x4 x5 (fun  (M9 : Mm) => some ((M9 81 2), M9)) N0 (nI 0) (mset M 81 0 (nI 0))) else (some ((-1 : Int32), (mset M 81 0 (nI 0))))
set_option maxHeartbeats 4000000 in
set_option maxRecDepth 100000 in
theorem sl_X10_feed_23 {l : Launch} {B : BT} (hA : bA B = false) {d : Nat} {r : Int32} {M' : Mm} {y1 : Int32} {y2 : Int32} {y3 : Int32} {y4 : Int32} {y5 : Int32}  {k120 : Mm → Option (Int32 × Mm)} (hk120 : ∀  (M9 : Mm), k120  M9 = some (r, M') → GG l B LY (d + 0) yX10_feed cX10_feed 8 (some .int) 0 0 (PI r M') 97 0 0 120 [(0, .ref 81)] [] M9) :
    ∀ (n : Nat) (y6 : Int32) (M : Mm), lp_X10_feed_23 y1 y2 y3 y4 y5 k120 n y6 M = some (r, M') → GG l B LY (d + 0) yX10_feed cX10_feed 8 (some .int) 0 0 (PI r M') 97 0 0 23 [(0, .ref 81), (1, .int y1), (2, .int y2), (3, .int y3), (4, .int y4), (5, .int y5), (6, .int y6)] [] M := by
  intro n
  induction n with
  | zero => intro y6 M h; cases h
  | succ n ih =>
    intro y6 M h
    rw [lp_X10_feed_23] at h
    refine g_iload dX10_feed_23 6 rfl ?_
    refine g_bipush (v := (nI 20)) dX10_feed_25 (by decide) ?_
    refine g_icmp_ge (tgt := 120) dX10_feed_27 (by decide) (fun c8 => ?_) (fun c8 => ?_)
    · replace h := ite_p c8 h
      refine g_sub [0] (lv' := [(0, .ref 81)]) rfl ?_
      exact hk120  _ h
    · replace h := ite_n c8 h
      refine g_iload dX10_feed_30 6 rfl ?_
      refine g_iconst (v := (nI 4)) dX10_feed_32 (by decide) ?_
      obtain ⟨j3, ej3, h⟩ := jn_e h
      have hj3 : ∀ (s1 : Int32) (M2 : Mm), j3 s1 M2 = some (r, M') → GG l B LY (d + 0) yX10_feed cX10_feed 8 (some .int) 0 0 (PI r M') 97 0 0 76 [(0, .ref 81), (1, .int y1), (2, .int y2), (3, .int y3), (4, .int y4), (5, .int y5), (6, .int y6)] [.int s1] M2 := by
        intro s1 M2 h
        rw [ej3] at h
        refine g_istore (lv' := [(7, .int s1), (0, .ref 81), (1, .int y1), (2, .int y2), (3, .int y3), (4, .int y4), (5, .int y5), (6, .int y6)]) dX10_feed_76 (by decide) rfl ?_
        refine g_aload_n dX10_feed_78 rfl 1 rfl ?_
        refine m_getr (k := 1) okX10 rfl rfl (by decide) w_1270 rfl dX10_feed_79 ?_
        refine g_aload_n dX10_feed_82 rfl 1 rfl ?_
        refine m_geti (k := 2) okX10 rfl rfl (by decide) w_1271 rfl dX10_feed_83 ?_
        refine g_iload dX10_feed_86 0 rfl ?_
        refine g_bipush (v := (nI 24)) dX10_feed_88 (by decide) ?_
        refine g_bipush (v := (nI 8)) dX10_feed_90 (by decide) ?_
        refine g_iload dX10_feed_92 7 rfl ?_
        refine g_iconst (v := (nI 4)) dX10_feed_94 (by decide) ?_
        refine g_irem dX10_feed_95 (by decide) ?_
        refine g_imul dX10_feed_96 ?_
        refine g_isub dX10_feed_97 ?_
        refine g_ishr dX10_feed_98 ?_
        refine g_sipush (v := (nI 255)) dX10_feed_99 (by decide) ?_
        refine g_iand dX10_feed_102 ?_
        obtain ⟨hz, h⟩ := gd_s h
        refine m_iast hA rfl hz dX10_feed_103 ?_
        refine g_aload_n dX10_feed_104 rfl 1 rfl ?_
        refine g_dup dX10_feed_105 rfl ?_
        refine m_geti (k := 2) okX10 rfl rfl (by decide) w_1271 rfl dX10_feed_106 ?_
        refine g_iconst (v := (nI 1)) dX10_feed_109 (by decide) ?_
        refine g_iadd dX10_feed_110 ?_
        refine m_puti (k := 2) okX10 rfl rfl (by decide) w_1271 rfl rfl rfl dX10_feed_111 ?_
        refine g_iinc (v := (y6 + (nI 1))) (lv' := [(6, .int (y6 + (nI 1))), (7, .int s1), (0, .ref 81), (1, .int y1), (2, .int y2), (3, .int y3), (4, .int y4), (5, .int y5)]) dX10_feed_114 7 rfl rfl (by decide) rfl ?_
        refine g_goto (tgt := 23) dX10_feed_117 (by decide) ?_
        refine g_sub [2, 3, 4, 5, 6, 7, 0] (lv' := [(0, .ref 81), (1, .int y1), (2, .int y2), (3, .int y3), (4, .int y4), (5, .int y5), (6, .int (y6 + (nI 1)))]) rfl ?_
        exact ih _  _ h
      refine g_icmp_ge (tgt := 40) dX10_feed_33 (by decide) (fun c7 => ?_) (fun c7 => ?_)
      · replace h := ite_p c7 h
        refine g_iload dX10_feed_40 6 rfl ?_
        refine g_bipush (v := (nI 8)) dX10_feed_42 (by decide) ?_
        refine g_icmp_ge (tgt := 51) dX10_feed_44 (by decide) (fun c6 => ?_) (fun c6 => ?_)
        · replace h := ite_p c6 h
          refine g_iload dX10_feed_51 6 rfl ?_
          refine g_bipush (v := (nI 12)) dX10_feed_53 (by decide) ?_
          refine g_icmp_ge (tgt := 62) dX10_feed_55 (by decide) (fun c5 => ?_) (fun c5 => ?_)
          · replace h := ite_p c5 h
            refine g_iload dX10_feed_62 6 rfl ?_
            refine g_bipush (v := (nI 16)) dX10_feed_64 (by decide) ?_
            refine g_icmp_ge (tgt := 74) dX10_feed_66 (by decide) (fun c4 => ?_) (fun c4 => ?_)
            · replace h := ite_p c4 h
              refine g_iload dX10_feed_74 5 rfl ?_
              refine g_sub [0, 1, 2, 3, 4, 5, 6] (lv' := [(0, .ref 81), (1, .int y1), (2, .int y2), (3, .int y3), (4, .int y4), (5, .int y5), (6, .int y6)]) rfl ?_
              exact hj3 _ _ h
            · replace h := ite_n c4 h
              refine g_iload dX10_feed_69 4 rfl ?_
              refine g_goto (tgt := 76) dX10_feed_71 (by decide) ?_
              refine g_sub [0, 1, 2, 3, 4, 5, 6] (lv' := [(0, .ref 81), (1, .int y1), (2, .int y2), (3, .int y3), (4, .int y4), (5, .int y5), (6, .int y6)]) rfl ?_
              exact hj3 _ _ h
          · replace h := ite_n c5 h
            refine g_iload_n dX10_feed_58 rfl 3 rfl ?_
            refine g_goto (tgt := 76) dX10_feed_59 (by decide) ?_
            refine g_sub [0, 1, 2, 3, 4, 5, 6] (lv' := [(0, .ref 81), (1, .int y1), (2, .int y2), (3, .int y3), (4, .int y4), (5, .int y5), (6, .int y6)]) rfl ?_
            exact hj3 _ _ h
        · replace h := ite_n c6 h
          refine g_iload_n dX10_feed_47 rfl 2 rfl ?_
          refine g_goto (tgt := 76) dX10_feed_48 (by decide) ?_
          refine g_sub [0, 1, 2, 3, 4, 5, 6] (lv' := [(0, .ref 81), (1, .int y1), (2, .int y2), (3, .int y3), (4, .int y4), (5, .int y5), (6, .int y6)]) rfl ?_
          exact hj3 _ _ h
      · replace h := ite_n c7 h
        refine g_iload_n dX10_feed_36 rfl 1 rfl ?_
        refine g_goto (tgt := 76) dX10_feed_37 (by decide) ?_
        refine g_sub [0, 1, 2, 3, 4, 5, 6] (lv' := [(0, .ref 81), (1, .int y1), (2, .int y2), (3, .int y3), (4, .int y4), (5, .int y5), (6, .int y6)]) rfl ?_
        exact hj3 _ _ h
set_option maxHeartbeats 4000000 in
set_option maxRecDepth 100000 in
theorem s_X10_feed {l : Launch} {B : BT} (hA : bA B = false) {d : Nat} {r : Int32} {M' : Mm} {x1 : Int32} {x2 : Int32} {x3 : Int32} {x4 : Int32} {x5 : Int32} {M : Mm}  (h : f_X10_feed x1 x2 x3 x4 x5 M = some (r, M')) : Con l B LY (d + 0) yX10_feed cX10_feed 8 (some .int) 0 0 [.ref 81, .int x1, .int x2, .int x3, .int x4, .int x5] 97 M (PI r M') := by
  refine con_of (by decide) (Nat.le_of_ble_eq_true rfl) ?_
  show GG l B LY (d + 0) yX10_feed cX10_feed 8 (some .int) 0 0 (PI r M') 97 0 0 0 [(0, .ref 81), (1, .int x1), (2, .int x2), (3, .int x3), (4, .int x4), (5, .int x5)] [] M
  rw [f_X10_feed] at h
  refine g_aload_n dX10_feed_0 rfl 0 rfl ?_
  refine g_iconst (v := (nI 0)) dX10_feed_1 (by decide) ?_
  refine m_puti (k := 0) okX10 rfl rfl (by decide) w_1269 rfl rfl rfl dX10_feed_2 ?_
  refine g_aload_n dX10_feed_5 rfl 0 rfl ?_
  refine m_geti (k := 2) okX10 rfl rfl (by decide) w_1271 rfl dX10_feed_6 ?_
  refine g_bipush (v := (nI 20)) dX10_feed_9 (by decide) ?_
  refine g_iadd dX10_feed_11 ?_
  refine g_sipush (v := (nI 900)) dX10_feed_12 (by decide) ?_
  refine g_icmp_le (tgt := 20) dX10_feed_15 (by decide) (fun c10 => ?_) (fun c10 => ?_)
  · replace h := ite_p c10 h
    refine g_iconst (v := (nI 0)) dX10_feed_20 (by decide) ?_
    refine g_istore (lv' := [(6, .int (nI 0)), (0, .ref 81), (1, .int x1), (2, .int x2), (3, .int x3), (4, .int x4), (5, .int x5)]) dX10_feed_21 (by decide) rfl ?_
    refine g_sub [1, 2, 3, 4, 5, 6, 0] (lv' := [(0, .ref 81), (1, .int x1), (2, .int x2), (3, .int x3), (4, .int x4), (5, .int x5), (6, .int (nI 0))]) rfl ?_
    refine sl_X10_feed_23 hA  ?_ _ _ _ h
    · intro  M9 h
      refine g_aload_n dX10_feed_120 rfl 0 rfl ?_
      refine m_geti (k := 2) okX10 rfl rfl (by decide) w_1271 rfl dX10_feed_121 ?_
      exact g_zret rfl rfl (pi_of h) dX10_feed_124
  · replace h := ite_n c10 h
    refine g_iconst (v := (-1 : Int32)) dX10_feed_18 (by decide) ?_
    exact g_zret rfl rfl (pi_of h) dX10_feed_19
theorem ck_X10_feed : CKV yX10_feed cX10_feed 8 (some .int) 5 := ⟨⟨by decide, by decide, by decide +kernel⟩, w_1376, w_81, ⟨w_1374, w_1375⟩, by decide⟩
theorem dX10_see_0 : decode cX10_see 0 = .ok (.iload_n 1, 1) := by decide +kernel
theorem dX10_see_1 : decode cX10_see 1 = .ok (.aload_n 0, 1) := by decide +kernel
theorem dX10_see_2 : decode cX10_see 2 = .ok (.getfield 68, 3) := by decide +kernel
theorem dX10_see_5 : decode cX10_see 5 = .ok (.if_icmp .ge 12, 3) := by decide +kernel
theorem dX10_see_8 : decode cX10_see 8 = .ok (.aload_n 0, 1) := by decide +kernel
theorem dX10_see_9 : decode cX10_see 9 = .ok (.getfield 7, 3) := by decide +kernel
theorem dX10_see_12 : decode cX10_see 12 = .ok (.iload_n 1, 1) := by decide +kernel
theorem dX10_see_13 : decode cX10_see 13 = .ok (.iaload, 1) := by decide +kernel
theorem dX10_see_14 : decode cX10_see 14 = .ok (.goto 4, 3) := by decide +kernel
theorem dX10_see_17 : decode cX10_see 17 = .ok (.iconst (-1), 1) := by decide +kernel
theorem dX10_see_18 : decode cX10_see 18 = .ok (.ireturn, 1) := by decide +kernel
def f_X10_see (x1 : Int32) (M : Mm) : Option (Int32 × Mm) :=
  if (M 81 3) ≤ x1 then (some ((-1 : Int32), M)) else (gd (inb x1 900) <| some ((M 82 x1.toNatClampNeg), M))
set_option maxHeartbeats 4000000 in
set_option maxRecDepth 100000 in
theorem s_X10_see {l : Launch} {B : BT} (hA : bA B = false) {d : Nat} {r : Int32} {M' : Mm} {x1 : Int32} {M : Mm}  (h : f_X10_see x1 M = some (r, M')) : Con l B LY (d + 0) yX10_see cX10_see 2 (some .int) 0 0 [.ref 81, .int x1] 97 M (PI r M') := by
  refine con_of (by decide) (Nat.le_of_ble_eq_true rfl) ?_
  show GG l B LY (d + 0) yX10_see cX10_see 2 (some .int) 0 0 (PI r M') 97 0 0 0 [(0, .ref 81), (1, .int x1)] [] M
  rw [f_X10_see] at h
  refine g_iload_n dX10_see_0 rfl 1 rfl ?_
  refine g_aload_n dX10_see_1 rfl 0 rfl ?_
  refine m_geti (k := 3) okX10 rfl rfl (by decide) w_1272 rfl dX10_see_2 ?_
  refine g_icmp_ge (tgt := 17) dX10_see_5 (by decide) (fun c1 => ?_) (fun c1 => ?_)
  · replace h := ite_p c1 h
    refine g_iconst (v := (-1 : Int32)) dX10_see_17 (by decide) ?_
    exact g_zret rfl rfl (pi_of h) dX10_see_18
  · replace h := ite_n c1 h
    refine g_aload_n dX10_see_8 rfl 0 rfl ?_
    refine m_getr (k := 1) okX10 rfl rfl (by decide) w_1270 rfl dX10_see_9 ?_
    refine g_iload_n dX10_see_12 rfl 1 rfl ?_
    obtain ⟨hz, h⟩ := gd_s h
    refine m_iald rfl hz dX10_see_13 ?_
    refine g_goto (tgt := 18) dX10_see_14 (by decide) ?_
    exact g_zret rfl rfl (pi_of h) dX10_see_18
theorem ck_X10_see : CKV yX10_see cX10_see 2 (some .int) 1 := ⟨⟨by decide, by decide, by decide +kernel⟩, w_1399, w_81, ⟨w_1398, w_13⟩, by decide⟩
theorem dX10_isSmall_0 : decode cX10_isSmall 0 = .ok (.iload_n 0, 1) := by decide +kernel
theorem dX10_isSmall_1 : decode cX10_isSmall 1 = .ok (.bipush 97, 2) := by decide +kernel
theorem dX10_isSmall_3 : decode cX10_isSmall 3 = .ok (.if_icmp .lt 13, 3) := by decide +kernel
theorem dX10_isSmall_6 : decode cX10_isSmall 6 = .ok (.iload_n 0, 1) := by decide +kernel
theorem dX10_isSmall_7 : decode cX10_isSmall 7 = .ok (.bipush 122, 2) := by decide +kernel
theorem dX10_isSmall_9 : decode cX10_isSmall 9 = .ok (.if_icmp .gt 7, 3) := by decide +kernel
theorem dX10_isSmall_12 : decode cX10_isSmall 12 = .ok (.iconst 1, 1) := by decide +kernel
theorem dX10_isSmall_13 : decode cX10_isSmall 13 = .ok (.goto 4, 3) := by decide +kernel
theorem dX10_isSmall_16 : decode cX10_isSmall 16 = .ok (.iconst 0, 1) := by decide +kernel
theorem dX10_isSmall_17 : decode cX10_isSmall 17 = .ok (.ireturn, 1) := by decide +kernel
def f_X10_isSmall (x0 : Int32) (M : Mm) : Option (Int32 × Mm) :=
  jn (fun (M1 : Mm) => some ((nI 0), M1)) fun j2 => if x0 < (nI 97) then (j2  M) else (if (nI 122) < x0 then (j2  M) else (some ((nI 1), M)))
set_option maxHeartbeats 4000000 in
set_option maxRecDepth 100000 in
theorem s_X10_isSmall {l : Launch} {B : BT} (hA : bA B = false) {d : Nat} {r : Int32} {M' : Mm} {x0 : Int32} {M : Mm}  (h : f_X10_isSmall x0 M = some (r, M')) : Con l B LY (d + 0) yX10_isSmall cX10_isSmall 1 (some .boolean) 0 0 [.int x0] 97 M (PI r M') := by
  refine con_of (by decide) (Nat.le_of_ble_eq_true rfl) ?_
  show GG l B LY (d + 0) yX10_isSmall cX10_isSmall 1 (some .boolean) 0 0 (PI r M') 97 0 0 0 [(0, .int x0)] [] M
  rw [f_X10_isSmall] at h
  refine g_iload_n dX10_isSmall_0 rfl 0 rfl ?_
  refine g_bipush (v := (nI 97)) dX10_isSmall_1 (by decide) ?_
  obtain ⟨j2, ej2, h⟩ := jn_e h
  have hj2 : ∀ (M1 : Mm), j2 M1 = some (r, M') → GG l B LY (d + 0) yX10_isSmall cX10_isSmall 1 (some .boolean) 0 0 (PI r M') 97 0 0 16 [] [] M1 := by
    intro M1 h
    rw [ej2] at h
    refine g_iconst (v := (nI 0)) dX10_isSmall_16 (by decide) ?_
    exact g_zret rfl rfl (pi_of h) dX10_isSmall_17
  refine g_icmp_lt (tgt := 16) dX10_isSmall_3 (by decide) (fun c4 => ?_) (fun c4 => ?_)
  · replace h := ite_p c4 h
    refine g_sub [] (lv' := []) rfl ?_
    exact hj2  _ h
  · replace h := ite_n c4 h
    refine g_iload_n dX10_isSmall_6 rfl 0 rfl ?_
    refine g_bipush (v := (nI 122)) dX10_isSmall_7 (by decide) ?_
    refine g_icmp_gt (tgt := 16) dX10_isSmall_9 (by decide) (fun c3 => ?_) (fun c3 => ?_)
    · replace h := ite_p c3 h
      refine g_sub [] (lv' := []) rfl ?_
      exact hj2  _ h
    · replace h := ite_n c3 h
      refine g_iconst (v := (nI 1)) dX10_isSmall_12 (by decide) ?_
      refine g_goto (tgt := 17) dX10_isSmall_13 (by decide) ?_
      exact g_zret rfl rfl (pi_of h) dX10_isSmall_17
theorem ck_X10_isSmall : CKS yX10_isSmall cX10_isSmall 1 (some .boolean) 1 := ⟨⟨by decide, by decide, by decide +kernel⟩, w_1402, w_81, w_1401, by decide⟩
theorem dX10_isDigit_0 : decode cX10_isDigit 0 = .ok (.iload_n 0, 1) := by decide +kernel
theorem dX10_isDigit_1 : decode cX10_isDigit 1 = .ok (.bipush 48, 2) := by decide +kernel
theorem dX10_isDigit_3 : decode cX10_isDigit 3 = .ok (.if_icmp .lt 13, 3) := by decide +kernel
theorem dX10_isDigit_6 : decode cX10_isDigit 6 = .ok (.iload_n 0, 1) := by decide +kernel
theorem dX10_isDigit_7 : decode cX10_isDigit 7 = .ok (.bipush 57, 2) := by decide +kernel
theorem dX10_isDigit_9 : decode cX10_isDigit 9 = .ok (.if_icmp .gt 7, 3) := by decide +kernel
theorem dX10_isDigit_12 : decode cX10_isDigit 12 = .ok (.iconst 1, 1) := by decide +kernel
theorem dX10_isDigit_13 : decode cX10_isDigit 13 = .ok (.goto 4, 3) := by decide +kernel
theorem dX10_isDigit_16 : decode cX10_isDigit 16 = .ok (.iconst 0, 1) := by decide +kernel
theorem dX10_isDigit_17 : decode cX10_isDigit 17 = .ok (.ireturn, 1) := by decide +kernel
def f_X10_isDigit (x0 : Int32) (M : Mm) : Option (Int32 × Mm) :=
  jn (fun (M1 : Mm) => some ((nI 0), M1)) fun j2 => if x0 < (nI 48) then (j2  M) else (if (nI 57) < x0 then (j2  M) else (some ((nI 1), M)))
set_option maxHeartbeats 4000000 in
set_option maxRecDepth 100000 in
theorem s_X10_isDigit {l : Launch} {B : BT} (hA : bA B = false) {d : Nat} {r : Int32} {M' : Mm} {x0 : Int32} {M : Mm}  (h : f_X10_isDigit x0 M = some (r, M')) : Con l B LY (d + 0) yX10_isDigit cX10_isDigit 1 (some .boolean) 0 0 [.int x0] 97 M (PI r M') := by
  refine con_of (by decide) (Nat.le_of_ble_eq_true rfl) ?_
  show GG l B LY (d + 0) yX10_isDigit cX10_isDigit 1 (some .boolean) 0 0 (PI r M') 97 0 0 0 [(0, .int x0)] [] M
  rw [f_X10_isDigit] at h
  refine g_iload_n dX10_isDigit_0 rfl 0 rfl ?_
  refine g_bipush (v := (nI 48)) dX10_isDigit_1 (by decide) ?_
  obtain ⟨j2, ej2, h⟩ := jn_e h
  have hj2 : ∀ (M1 : Mm), j2 M1 = some (r, M') → GG l B LY (d + 0) yX10_isDigit cX10_isDigit 1 (some .boolean) 0 0 (PI r M') 97 0 0 16 [] [] M1 := by
    intro M1 h
    rw [ej2] at h
    refine g_iconst (v := (nI 0)) dX10_isDigit_16 (by decide) ?_
    exact g_zret rfl rfl (pi_of h) dX10_isDigit_17
  refine g_icmp_lt (tgt := 16) dX10_isDigit_3 (by decide) (fun c4 => ?_) (fun c4 => ?_)
  · replace h := ite_p c4 h
    refine g_sub [] (lv' := []) rfl ?_
    exact hj2  _ h
  · replace h := ite_n c4 h
    refine g_iload_n dX10_isDigit_6 rfl 0 rfl ?_
    refine g_bipush (v := (nI 57)) dX10_isDigit_7 (by decide) ?_
    refine g_icmp_gt (tgt := 16) dX10_isDigit_9 (by decide) (fun c3 => ?_) (fun c3 => ?_)
    · replace h := ite_p c3 h
      refine g_sub [] (lv' := []) rfl ?_
      exact hj2  _ h
    · replace h := ite_n c3 h
      refine g_iconst (v := (nI 1)) dX10_isDigit_12 (by decide) ?_
      refine g_goto (tgt := 17) dX10_isDigit_13 (by decide) ?_
      exact g_zret rfl rfl (pi_of h) dX10_isDigit_17
theorem ck_X10_isDigit : CKS yX10_isDigit cX10_isDigit 1 (some .boolean) 1 := ⟨⟨by decide, by decide, by decide +kernel⟩, w_1405, w_81, w_1404, by decide⟩
theorem dX10_next_0 : decode cX10_next 0 = .ok (.aload_n 0, 1) := by decide +kernel
theorem dX10_next_1 : decode cX10_next 1 = .ok (.getfield 71, 3) := by decide +kernel
theorem dX10_next_4 : decode cX10_next 4 = .ok (.istore_n 1, 1) := by decide +kernel
theorem dX10_next_5 : decode cX10_next 5 = .ok (.aload_n 0, 1) := by decide +kernel
theorem dX10_next_6 : decode cX10_next 6 = .ok (.iload_n 1, 1) := by decide +kernel
theorem dX10_next_7 : decode cX10_next 7 = .ok (.invokevirtual 74, 3) := by decide +kernel
theorem dX10_next_10 : decode cX10_next 10 = .ok (.bipush 32, 2) := by decide +kernel
theorem dX10_next_12 : decode cX10_next 12 = .ok (.if_icmp .ne 9, 3) := by decide +kernel
theorem dX10_next_15 : decode cX10_next 15 = .ok (.iinc 1 1, 3) := by decide +kernel
theorem dX10_next_18 : decode cX10_next 18 = .ok (.goto (-13), 3) := by decide +kernel
theorem dX10_next_21 : decode cX10_next 21 = .ok (.aload_n 0, 1) := by decide +kernel
theorem dX10_next_22 : decode cX10_next 22 = .ok (.iload_n 1, 1) := by decide +kernel
theorem dX10_next_23 : decode cX10_next 23 = .ok (.putfield 78, 3) := by decide +kernel
theorem dX10_next_26 : decode cX10_next 26 = .ok (.aload_n 0, 1) := by decide +kernel
theorem dX10_next_27 : decode cX10_next 27 = .ok (.iload_n 1, 1) := by decide +kernel
theorem dX10_next_28 : decode cX10_next 28 = .ok (.invokevirtual 74, 3) := by decide +kernel
theorem dX10_next_31 : decode cX10_next 31 = .ok (.istore_n 2, 1) := by decide +kernel
theorem dX10_next_32 : decode cX10_next 32 = .ok (.aload_n 0, 1) := by decide +kernel
theorem dX10_next_33 : decode cX10_next 33 = .ok (.iconst 0, 1) := by decide +kernel
theorem dX10_next_34 : decode cX10_next 34 = .ok (.putfield 81, 3) := by decide +kernel
theorem dX10_next_37 : decode cX10_next 37 = .ok (.aload_n 0, 1) := by decide +kernel
theorem dX10_next_38 : decode cX10_next 38 = .ok (.iconst 0, 1) := by decide +kernel
theorem dX10_next_39 : decode cX10_next 39 = .ok (.putfield 84, 3) := by decide +kernel
theorem dX10_next_42 : decode cX10_next 42 = .ok (.iload_n 2, 1) := by decide +kernel
theorem dX10_next_43 : decode cX10_next 43 = .ok (.iconst (-1), 1) := by decide +kernel
theorem dX10_next_44 : decode cX10_next 44 = .ok (.if_icmp .ne 16, 3) := by decide +kernel
theorem dX10_next_47 : decode cX10_next 47 = .ok (.aload_n 0, 1) := by decide +kernel
theorem dX10_next_48 : decode cX10_next 48 = .ok (.iconst 0, 1) := by decide +kernel
theorem dX10_next_49 : decode cX10_next 49 = .ok (.putfield 87, 3) := by decide +kernel
theorem dX10_next_52 : decode cX10_next 52 = .ok (.aload_n 0, 1) := by decide +kernel
theorem dX10_next_53 : decode cX10_next 53 = .ok (.iload_n 1, 1) := by decide +kernel
theorem dX10_next_54 : decode cX10_next 54 = .ok (.putfield 71, 3) := by decide +kernel
theorem dX10_next_57 : decode cX10_next 57 = .ok (.goto 190, 3) := by decide +kernel
theorem dX10_next_60 : decode cX10_next 60 = .ok (.iload_n 2, 1) := by decide +kernel
theorem dX10_next_61 : decode cX10_next 61 = .ok (.invokestatic 90, 3) := by decide +kernel
theorem dX10_next_64 : decode cX10_next 64 = .ok (.ifCond .eq 79, 3) := by decide +kernel
theorem dX10_next_67 : decode cX10_next 67 = .ok (.aload_n 0, 1) := by decide +kernel
theorem dX10_next_68 : decode cX10_next 68 = .ok (.iload_n 1, 1) := by decide +kernel
theorem dX10_next_69 : decode cX10_next 69 = .ok (.invokevirtual 74, 3) := by decide +kernel
theorem dX10_next_72 : decode cX10_next 72 = .ok (.invokestatic 90, 3) := by decide +kernel
theorem dX10_next_75 : decode cX10_next 75 = .ok (.ifCond .eq 42, 3) := by decide +kernel
theorem dX10_next_78 : decode cX10_next 78 = .ok (.aload_n 0, 1) := by decide +kernel
theorem dX10_next_79 : decode cX10_next 79 = .ok (.getfield 81, 3) := by decide +kernel
theorem dX10_next_82 : decode cX10_next 82 = .ok (.bipush 8, 2) := by decide +kernel
theorem dX10_next_84 : decode cX10_next 84 = .ok (.if_icmp .ge 17, 3) := by decide +kernel
theorem dX10_next_87 : decode cX10_next 87 = .ok (.aload_n 0, 1) := by decide +kernel
theorem dX10_next_88 : decode cX10_next 88 = .ok (.getfield 17, 3) := by decide +kernel
theorem dX10_next_91 : decode cX10_next 91 = .ok (.aload_n 0, 1) := by decide +kernel
theorem dX10_next_92 : decode cX10_next 92 = .ok (.getfield 81, 3) := by decide +kernel
theorem dX10_next_95 : decode cX10_next 95 = .ok (.aload_n 0, 1) := by decide +kernel
theorem dX10_next_96 : decode cX10_next 96 = .ok (.iload_n 1, 1) := by decide +kernel
theorem dX10_next_97 : decode cX10_next 97 = .ok (.invokevirtual 74, 3) := by decide +kernel
theorem dX10_next_100 : decode cX10_next 100 = .ok (.iastore, 1) := by decide +kernel
theorem dX10_next_101 : decode cX10_next 101 = .ok (.aload_n 0, 1) := by decide +kernel
theorem dX10_next_102 : decode cX10_next 102 = .ok (.dup, 1) := by decide +kernel
theorem dX10_next_103 : decode cX10_next 103 = .ok (.getfield 81, 3) := by decide +kernel
theorem dX10_next_106 : decode cX10_next 106 = .ok (.iconst 1, 1) := by decide +kernel
theorem dX10_next_107 : decode cX10_next 107 = .ok (.iadd, 1) := by decide +kernel
theorem dX10_next_108 : decode cX10_next 108 = .ok (.putfield 81, 3) := by decide +kernel
theorem dX10_next_111 : decode cX10_next 111 = .ok (.iinc 1 1, 3) := by decide +kernel
theorem dX10_next_114 : decode cX10_next 114 = .ok (.goto (-47), 3) := by decide +kernel
theorem dX10_next_117 : decode cX10_next 117 = .ok (.aload_n 0, 1) := by decide +kernel
theorem dX10_next_118 : decode cX10_next 118 = .ok (.iload_n 1, 1) := by decide +kernel
theorem dX10_next_119 : decode cX10_next 119 = .ok (.putfield 71, 3) := by decide +kernel
theorem dX10_next_122 : decode cX10_next 122 = .ok (.aload_n 0, 1) := by decide +kernel
theorem dX10_next_123 : decode cX10_next 123 = .ok (.aload_n 0, 1) := by decide +kernel
theorem dX10_next_124 : decode cX10_next 124 = .ok (.getfield 81, 3) := by decide +kernel
theorem dX10_next_127 : decode cX10_next 127 = .ok (.bipush 8, 2) := by decide +kernel
theorem dX10_next_129 : decode cX10_next 129 = .ok (.if_icmp .le 7, 3) := by decide +kernel
theorem dX10_next_132 : decode cX10_next 132 = .ok (.iconst 1, 1) := by decide +kernel
theorem dX10_next_133 : decode cX10_next 133 = .ok (.goto 4, 3) := by decide +kernel
theorem dX10_next_136 : decode cX10_next 136 = .ok (.iconst 2, 1) := by decide +kernel
theorem dX10_next_137 : decode cX10_next 137 = .ok (.putfield 87, 3) := by decide +kernel
theorem dX10_next_140 : decode cX10_next 140 = .ok (.goto 107, 3) := by decide +kernel
theorem dX10_next_143 : decode cX10_next 143 = .ok (.iload_n 2, 1) := by decide +kernel
theorem dX10_next_144 : decode cX10_next 144 = .ok (.invokestatic 94, 3) := by decide +kernel
theorem dX10_next_147 : decode cX10_next 147 = .ok (.ifCond .eq 72, 3) := by decide +kernel
theorem dX10_next_150 : decode cX10_next 150 = .ok (.iconst 0, 1) := by decide +kernel
theorem dX10_next_151 : decode cX10_next 151 = .ok (.istore_n 3, 1) := by decide +kernel
theorem dX10_next_152 : decode cX10_next 152 = .ok (.aload_n 0, 1) := by decide +kernel
theorem dX10_next_153 : decode cX10_next 153 = .ok (.iload_n 1, 1) := by decide +kernel
theorem dX10_next_154 : decode cX10_next 154 = .ok (.invokevirtual 74, 3) := by decide +kernel
theorem dX10_next_157 : decode cX10_next 157 = .ok (.invokestatic 94, 3) := by decide +kernel
theorem dX10_next_160 : decode cX10_next 160 = .ok (.ifCond .eq 37, 3) := by decide +kernel
theorem dX10_next_163 : decode cX10_next 163 = .ok (.iload_n 3, 1) := by decide +kernel
theorem dX10_next_164 : decode cX10_next 164 = .ok (.iconst 3, 1) := by decide +kernel
theorem dX10_next_165 : decode cX10_next 165 = .ok (.if_icmp .ge 23, 3) := by decide +kernel
theorem dX10_next_168 : decode cX10_next 168 = .ok (.aload_n 0, 1) := by decide +kernel
theorem dX10_next_169 : decode cX10_next 169 = .ok (.bipush 10, 2) := by decide +kernel
theorem dX10_next_171 : decode cX10_next 171 = .ok (.aload_n 0, 1) := by decide +kernel
theorem dX10_next_172 : decode cX10_next 172 = .ok (.getfield 84, 3) := by decide +kernel
theorem dX10_next_175 : decode cX10_next 175 = .ok (.imul, 1) := by decide +kernel
theorem dX10_next_176 : decode cX10_next 176 = .ok (.aload_n 0, 1) := by decide +kernel
theorem dX10_next_177 : decode cX10_next 177 = .ok (.iload_n 1, 1) := by decide +kernel
theorem dX10_next_178 : decode cX10_next 178 = .ok (.invokevirtual 74, 3) := by decide +kernel
theorem dX10_next_181 : decode cX10_next 181 = .ok (.iadd, 1) := by decide +kernel
theorem dX10_next_182 : decode cX10_next 182 = .ok (.bipush 48, 2) := by decide +kernel
theorem dX10_next_184 : decode cX10_next 184 = .ok (.isub, 1) := by decide +kernel
theorem dX10_next_185 : decode cX10_next 185 = .ok (.putfield 84, 3) := by decide +kernel
theorem dX10_next_188 : decode cX10_next 188 = .ok (.iinc 3 1, 3) := by decide +kernel
theorem dX10_next_191 : decode cX10_next 191 = .ok (.iinc 1 1, 3) := by decide +kernel
theorem dX10_next_194 : decode cX10_next 194 = .ok (.goto (-42), 3) := by decide +kernel
theorem dX10_next_197 : decode cX10_next 197 = .ok (.aload_n 0, 1) := by decide +kernel
theorem dX10_next_198 : decode cX10_next 198 = .ok (.iload_n 1, 1) := by decide +kernel
theorem dX10_next_199 : decode cX10_next 199 = .ok (.putfield 71, 3) := by decide +kernel
theorem dX10_next_202 : decode cX10_next 202 = .ok (.aload_n 0, 1) := by decide +kernel
theorem dX10_next_203 : decode cX10_next 203 = .ok (.iload_n 3, 1) := by decide +kernel
theorem dX10_next_204 : decode cX10_next 204 = .ok (.iconst 3, 1) := by decide +kernel
theorem dX10_next_205 : decode cX10_next 205 = .ok (.if_icmp .le 7, 3) := by decide +kernel
theorem dX10_next_208 : decode cX10_next 208 = .ok (.iconst 1, 1) := by decide +kernel
theorem dX10_next_209 : decode cX10_next 209 = .ok (.goto 4, 3) := by decide +kernel
theorem dX10_next_212 : decode cX10_next 212 = .ok (.iconst 3, 1) := by decide +kernel
theorem dX10_next_213 : decode cX10_next 213 = .ok (.putfield 87, 3) := by decide +kernel
theorem dX10_next_216 : decode cX10_next 216 = .ok (.goto 31, 3) := by decide +kernel
theorem dX10_next_219 : decode cX10_next 219 = .ok (.aload_n 0, 1) := by decide +kernel
theorem dX10_next_220 : decode cX10_next 220 = .ok (.iload_n 1, 1) := by decide +kernel
theorem dX10_next_221 : decode cX10_next 221 = .ok (.iconst 1, 1) := by decide +kernel
theorem dX10_next_222 : decode cX10_next 222 = .ok (.iadd, 1) := by decide +kernel
theorem dX10_next_223 : decode cX10_next 223 = .ok (.putfield 71, 3) := by decide +kernel
theorem dX10_next_226 : decode cX10_next 226 = .ok (.aload_n 0, 1) := by decide +kernel
theorem dX10_next_227 : decode cX10_next 227 = .ok (.iload_n 2, 1) := by decide +kernel
theorem dX10_next_228 : decode cX10_next 228 = .ok (.bipush 59, 2) := by decide +kernel
theorem dX10_next_230 : decode cX10_next 230 = .ok (.if_icmp .eq 9, 3) := by decide +kernel
theorem dX10_next_233 : decode cX10_next 233 = .ok (.iload_n 2, 1) := by decide +kernel
theorem dX10_next_234 : decode cX10_next 234 = .ok (.bipush 44, 2) := by decide +kernel
theorem dX10_next_236 : decode cX10_next 236 = .ok (.if_icmp .ne 7, 3) := by decide +kernel
theorem dX10_next_239 : decode cX10_next 239 = .ok (.iload_n 2, 1) := by decide +kernel
theorem dX10_next_240 : decode cX10_next 240 = .ok (.goto 4, 3) := by decide +kernel
theorem dX10_next_243 : decode cX10_next 243 = .ok (.iconst 1, 1) := by decide +kernel
theorem dX10_next_244 : decode cX10_next 244 = .ok (.putfield 87, 3) := by decide +kernel
theorem dX10_next_247 : decode cX10_next 247 = .ok (.return_, 1) := by decide +kernel
def lp_X10_next_5  (k21 : Int32 → Mm → Option (Mm)) : Nat → Int32 → Mm → Option (Mm)
  | 0, _, _ => none
  | n + 1, y1, M =>
    bd (f_X10_see y1 M) fun v7_2 M7_1 => if v7_2 = (nI 32) then (lp_X10_next_5 k21 n (y1 + (nI 1)) M7_1) else (k21 y1 M7_1)
def lp_X10_next_152  (k197 : Int32 → Int32 → Mm → Option (Mm)) : Nat → Int32 → Int32 → Mm → Option (Mm)
  | 0, _, _, _ => none
  | n + 1, y1, y3, M =>
    bd (f_X10_see y1 M) fun v154_20 M154_19 => bd (f_X10_isDigit v154_20 M154_19) fun v157_22 M157_21 => if v157_22 = 0 then (k197 y1 y3 M157_21) else (jn (fun (M23 : Mm) => lp_X10_next_152 k197 n (y1 + (nI 1)) (y3 + (nI 1)) M23) fun j24 => if (nI 3) ≤ y3 then (j24  M157_21) else (bd (f_X10_see y1 M157_21) fun v178_26 M178_25 => j24  (mset M178_25 81 7 ((((nI 10) * (M157_21 81 7)) + v178_26) - (nI 48)))))
def lp_X10_next_67  (k117 : Int32 → Mm → Option (Mm)) : Nat → Int32 → Mm → Option (Mm)
  | 0, _, _ => none
  | n + 1, y1, M =>
    bd (f_X10_see y1 M) fun v69_38 M69_37 => bd (f_X10_isSmall v69_38 M69_37) fun v72_40 M72_39 => if v72_40 = 0 then (k117 y1 M72_39) else (jn (fun (M41 : Mm) => lp_X10_next_67 k117 n (y1 + (nI 1)) (mset M41 81 8 ((M41 81 8) + (nI 1)))) fun j42 => if (nI 8) ≤ (M72_39 81 8) then (j42  M72_39) else (bd (f_X10_see y1 M72_39) fun v97_44 M97_43 => gd (inb (M72_39 81 8) 8) <| j42  (mset M97_43 83 (M72_39 81 8).toNatClampNeg v97_44)))
def f_X10_next  (M : Mm) : Option (Mm) :=
  lp_X10_next_5  (fun (u4 : Int32) (M5 : Mm) => bd (f_X10_see u4 (mset M5 81 4 u4)) fun v28_7 M28_6 => if v28_7 = (-1 : Int32) then (some ((mset (mset (mset (mset M28_6 81 8 (nI 0)) 81 7 (nI 0)) 81 6 (nI 0)) 81 5 u4))) else (bd (f_X10_isSmall v28_7 (mset (mset M28_6 81 8 (nI 0)) 81 7 (nI 0))) fun v61_9 M61_8 => if v61_9 = 0 then (bd (f_X10_isDigit v28_7 M61_8) fun v144_11 M144_10 => if v144_11 = 0 then (jn (fun (s12 : Int32) (M13 : Mm) => some ((mset M13 81 6 s12))) fun j14 => jn (fun (M15 : Mm) => j14 v28_7 M15) fun j16 => if v28_7 = (nI 59) then (j16  (mset M144_10 81 5 (u4 + (nI 1)))) else (if v28_7 = (nI 44) then (j16  (mset M144_10 81 5 (u4 + (nI 1)))) else (j14 (nI 1) (mset M144_10 81 5 (u4 + (nI 1)))))) else (lp_X10_next_152  (fun (u29 : Int32) (u30 : Int32) (M31 : Mm) => jn (fun (s32 : Int32) (M33 : Mm) => some ((mset M33 81 6 s32))) fun j34 => if u30 ≤ (nI 3) then (j34 (nI 3) (mset M31 81 5 u29)) else (j34 (nI 1) (mset M31 81 5 u29))) N0 u4 (nI 0) M144_10)) else (lp_X10_next_67  (fun (u47 : Int32) (M48 : Mm) => jn (fun (s49 : Int32) (M50 : Mm) => some ((mset M50 81 6 s49))) fun j51 => if ((mset M48 81 5 u47) 81 8) ≤ (nI 8) then (j51 (nI 2) (mset M48 81 5 u47)) else (j51 (nI 1) (mset M48 81 5 u47))) N0 u4 M61_8))) N0 (M 81 5) M
set_option maxHeartbeats 4000000 in
set_option maxRecDepth 100000 in
theorem sl_X10_next_5 {l : Launch} {B : BT} (hA : bA B = false) {d : Nat} {M' : Mm}   {k21 : Int32 → Mm → Option (Mm)} (hk21 : ∀ (z1 : Int32) (M9 : Mm), k21 z1 M9 = some M' → GG l B LY (d + 1) yX10_next cX10_next 4 none 0 0 (PV M') 97 0 0 21 [(0, .ref 81), (1, .int z1)] [] M9) :
    ∀ (n : Nat) (y1 : Int32) (M : Mm), lp_X10_next_5 k21 n y1 M = some M' → GG l B LY (d + 1) yX10_next cX10_next 4 none 0 0 (PV M') 97 0 0 5 [(0, .ref 81), (1, .int y1)] [] M := by
  intro n
  induction n with
  | zero => intro y1 M h; cases h
  | succ n ih =>
    intro y1 M h
    rw [lp_X10_next_5] at h
    refine g_aload_n dX10_next_5 rfl 0 rfl ?_
    refine g_iload_n dX10_next_6 rfl 1 rfl ?_
    obtain ⟨v7_2, M7_1, eM7_1, h⟩ := bd_e h
    refine m_callVi (As := [.int y1]) (st := []) (s_X10_see (d := d + 0) hA  eM7_1) rfl okX10 ck_X10_see w_1396 rfl (Nat.le_of_ble_eq_true rfl) dX10_next_7 ?_
    refine g_bipush (v := (nI 32)) dX10_next_10 (by decide) ?_
    refine g_icmp_ne (tgt := 21) dX10_next_12 (by decide) (fun c3 => ?_) (fun c3 => ?_)
    · replace h := ite_n c3 h
      refine g_sub [0, 1] (lv' := [(0, .ref 81), (1, .int y1)]) rfl ?_
      exact hk21 _ _ h
    · replace h := ite_p c3 h
      refine g_iinc (v := (y1 + (nI 1))) (lv' := [(1, .int (y1 + (nI 1))), (0, .ref 81)]) dX10_next_15 1 rfl rfl (by decide) rfl ?_
      refine g_goto (tgt := 5) dX10_next_18 (by decide) ?_
      refine g_sub [1, 0] (lv' := [(0, .ref 81), (1, .int (y1 + (nI 1)))]) rfl ?_
      exact ih _  _ h
set_option maxHeartbeats 4000000 in
set_option maxRecDepth 100000 in
theorem sl_X10_next_152 {l : Launch} {B : BT} (hA : bA B = false) {d : Nat} {M' : Mm}   {k197 : Int32 → Int32 → Mm → Option (Mm)} (hk197 : ∀ (z1 : Int32) (z3 : Int32) (M9 : Mm), k197 z1 z3 M9 = some M' → GG l B LY (d + 1) yX10_next cX10_next 4 none 0 0 (PV M') 97 0 0 197 [(0, .ref 81), (1, .int z1), (3, .int z3)] [] M9) :
    ∀ (n : Nat) (y1 : Int32) (y3 : Int32) (M : Mm), lp_X10_next_152 k197 n y1 y3 M = some M' → GG l B LY (d + 1) yX10_next cX10_next 4 none 0 0 (PV M') 97 0 0 152 [(0, .ref 81), (1, .int y1), (3, .int y3)] [] M := by
  intro n
  induction n with
  | zero => intro y1 y3 M h; cases h
  | succ n ih =>
    intro y1 y3 M h
    rw [lp_X10_next_152] at h
    refine g_aload_n dX10_next_152 rfl 0 rfl ?_
    refine g_iload_n dX10_next_153 rfl 1 rfl ?_
    obtain ⟨v154_20, M154_19, eM154_19, h⟩ := bd_e h
    refine m_callVi (As := [.int y1]) (st := []) (s_X10_see (d := d + 0) hA  eM154_19) rfl okX10 ck_X10_see w_1396 rfl (Nat.le_of_ble_eq_true rfl) dX10_next_154 ?_
    obtain ⟨v157_22, M157_21, eM157_21, h⟩ := bd_e h
    refine m_callSi (As := [.int v154_20]) (st := []) (s_X10_isDigit (d := d + 0) hA  eM157_21) ck_X10_isDigit w_1403 rfl (Nat.le_of_ble_eq_true rfl) dX10_next_157 ?_
    refine g_if_eq (tgt := 197) dX10_next_160 (by decide) (fun c28 => ?_) (fun c28 => ?_)
    · replace h := ite_p c28 h
      refine g_sub [0, 1, 2] (lv' := [(0, .ref 81), (1, .int y1), (3, .int y3)]) rfl ?_
      exact hk197 _ _ _ h
    · replace h := ite_n c28 h
      refine g_iload_n dX10_next_163 rfl 2 rfl ?_
      refine g_iconst (v := (nI 3)) dX10_next_164 (by decide) ?_
      obtain ⟨j24, ej24, h⟩ := jn_e h
      have hj24 : ∀ (M23 : Mm), j24 M23 = some M' → GG l B LY (d + 1) yX10_next cX10_next 4 none 0 0 (PV M') 97 0 0 188 [(0, .ref 81), (1, .int y1), (3, .int y3)] [] M23 := by
        intro M23 h
        rw [ej24] at h
        refine g_iinc (v := (y3 + (nI 1))) (lv' := [(3, .int (y3 + (nI 1))), (0, .ref 81), (1, .int y1)]) dX10_next_188 2 rfl rfl (by decide) rfl ?_
        refine g_iinc (v := (y1 + (nI 1))) (lv' := [(1, .int (y1 + (nI 1))), (3, .int (y3 + (nI 1))), (0, .ref 81)]) dX10_next_191 2 rfl rfl (by decide) rfl ?_
        refine g_goto (tgt := 152) dX10_next_194 (by decide) ?_
        refine g_sub [2, 0, 1] (lv' := [(0, .ref 81), (1, .int (y1 + (nI 1))), (3, .int (y3 + (nI 1)))]) rfl ?_
        exact ih _ _  _ h
      refine g_icmp_ge (tgt := 188) dX10_next_165 (by decide) (fun c27 => ?_) (fun c27 => ?_)
      · replace h := ite_p c27 h
        refine g_sub [0, 1, 2] (lv' := [(0, .ref 81), (1, .int y1), (3, .int y3)]) rfl ?_
        exact hj24  _ h
      · replace h := ite_n c27 h
        refine g_aload_n dX10_next_168 rfl 0 rfl ?_
        refine g_bipush (v := (nI 10)) dX10_next_169 (by decide) ?_
        refine g_aload_n dX10_next_171 rfl 0 rfl ?_
        refine m_geti (k := 7) okX10 rfl rfl (by decide) w_1276 rfl dX10_next_172 ?_
        refine g_imul dX10_next_175 ?_
        refine g_aload_n dX10_next_176 rfl 0 rfl ?_
        refine g_iload_n dX10_next_177 rfl 1 rfl ?_
        obtain ⟨v178_26, M178_25, eM178_25, h⟩ := bd_e h
        refine m_callVi (As := [.int y1]) (st := [.int ((nI 10) * (M157_21 81 7)), .ref 81]) (s_X10_see (d := d + 0) hA  eM178_25) rfl okX10 ck_X10_see w_1396 rfl (Nat.le_of_ble_eq_true rfl) dX10_next_178 ?_
        refine g_iadd dX10_next_181 ?_
        refine g_bipush (v := (nI 48)) dX10_next_182 (by decide) ?_
        refine g_isub dX10_next_184 ?_
        refine m_puti (k := 7) okX10 rfl rfl (by decide) w_1276 rfl rfl rfl dX10_next_185 ?_
        refine g_sub [0, 1, 2] (lv' := [(0, .ref 81), (1, .int y1), (3, .int y3)]) rfl ?_
        exact hj24  _ h
set_option maxHeartbeats 4000000 in
set_option maxRecDepth 100000 in
theorem sl_X10_next_67 {l : Launch} {B : BT} (hA : bA B = false) {d : Nat} {M' : Mm}   {k117 : Int32 → Mm → Option (Mm)} (hk117 : ∀ (z1 : Int32) (M9 : Mm), k117 z1 M9 = some M' → GG l B LY (d + 1) yX10_next cX10_next 4 none 0 0 (PV M') 97 0 0 117 [(0, .ref 81), (1, .int z1)] [] M9) :
    ∀ (n : Nat) (y1 : Int32) (M : Mm), lp_X10_next_67 k117 n y1 M = some M' → GG l B LY (d + 1) yX10_next cX10_next 4 none 0 0 (PV M') 97 0 0 67 [(0, .ref 81), (1, .int y1)] [] M := by
  intro n
  induction n with
  | zero => intro y1 M h; cases h
  | succ n ih =>
    intro y1 M h
    rw [lp_X10_next_67] at h
    refine g_aload_n dX10_next_67 rfl 0 rfl ?_
    refine g_iload_n dX10_next_68 rfl 1 rfl ?_
    obtain ⟨v69_38, M69_37, eM69_37, h⟩ := bd_e h
    refine m_callVi (As := [.int y1]) (st := []) (s_X10_see (d := d + 0) hA  eM69_37) rfl okX10 ck_X10_see w_1396 rfl (Nat.le_of_ble_eq_true rfl) dX10_next_69 ?_
    obtain ⟨v72_40, M72_39, eM72_39, h⟩ := bd_e h
    refine m_callSi (As := [.int v69_38]) (st := []) (s_X10_isSmall (d := d + 0) hA  eM72_39) ck_X10_isSmall w_1400 rfl (Nat.le_of_ble_eq_true rfl) dX10_next_72 ?_
    refine g_if_eq (tgt := 117) dX10_next_75 (by decide) (fun c46 => ?_) (fun c46 => ?_)
    · replace h := ite_p c46 h
      refine g_sub [0, 1] (lv' := [(0, .ref 81), (1, .int y1)]) rfl ?_
      exact hk117 _ _ h
    · replace h := ite_n c46 h
      refine g_aload_n dX10_next_78 rfl 0 rfl ?_
      refine m_geti (k := 8) okX10 rfl rfl (by decide) w_1277 rfl dX10_next_79 ?_
      refine g_bipush (v := (nI 8)) dX10_next_82 (by decide) ?_
      obtain ⟨j42, ej42, h⟩ := jn_e h
      have hj42 : ∀ (M41 : Mm), j42 M41 = some M' → GG l B LY (d + 1) yX10_next cX10_next 4 none 0 0 (PV M') 97 0 0 101 [(0, .ref 81), (1, .int y1)] [] M41 := by
        intro M41 h
        rw [ej42] at h
        refine g_aload_n dX10_next_101 rfl 0 rfl ?_
        refine g_dup dX10_next_102 rfl ?_
        refine m_geti (k := 8) okX10 rfl rfl (by decide) w_1277 rfl dX10_next_103 ?_
        refine g_iconst (v := (nI 1)) dX10_next_106 (by decide) ?_
        refine g_iadd dX10_next_107 ?_
        refine m_puti (k := 8) okX10 rfl rfl (by decide) w_1277 rfl rfl rfl dX10_next_108 ?_
        refine g_iinc (v := (y1 + (nI 1))) (lv' := [(1, .int (y1 + (nI 1))), (0, .ref 81)]) dX10_next_111 1 rfl rfl (by decide) rfl ?_
        refine g_goto (tgt := 67) dX10_next_114 (by decide) ?_
        refine g_sub [1, 0] (lv' := [(0, .ref 81), (1, .int (y1 + (nI 1)))]) rfl ?_
        exact ih _  _ h
      refine g_icmp_ge (tgt := 101) dX10_next_84 (by decide) (fun c45 => ?_) (fun c45 => ?_)
      · replace h := ite_p c45 h
        refine g_sub [0, 1] (lv' := [(0, .ref 81), (1, .int y1)]) rfl ?_
        exact hj42  _ h
      · replace h := ite_n c45 h
        refine g_aload_n dX10_next_87 rfl 0 rfl ?_
        refine m_getr (k := 12) okX10 rfl rfl (by decide) w_1281 rfl dX10_next_88 ?_
        refine g_aload_n dX10_next_91 rfl 0 rfl ?_
        refine m_geti (k := 8) okX10 rfl rfl (by decide) w_1277 rfl dX10_next_92 ?_
        refine g_aload_n dX10_next_95 rfl 0 rfl ?_
        refine g_iload_n dX10_next_96 rfl 1 rfl ?_
        obtain ⟨v97_44, M97_43, eM97_43, h⟩ := bd_e h
        refine m_callVi (As := [.int y1]) (st := [.int (M72_39 81 8), .ref 83]) (s_X10_see (d := d + 0) hA  eM97_43) rfl okX10 ck_X10_see w_1396 rfl (Nat.le_of_ble_eq_true rfl) dX10_next_97 ?_
        obtain ⟨hz, h⟩ := gd_s h
        refine m_iast hA rfl hz dX10_next_100 ?_
        refine g_sub [0, 1] (lv' := [(0, .ref 81), (1, .int y1)]) rfl ?_
        exact hj42  _ h
set_option maxHeartbeats 4000000 in
set_option maxRecDepth 100000 in
theorem s_X10_next {l : Launch} {B : BT} (hA : bA B = false) {d : Nat} {M' : Mm}  {M : Mm}  (h : f_X10_next  M = some M') : Con l B LY (d + 1) yX10_next cX10_next 4 none 0 0 [.ref 81] 97 M (PV M') := by
  refine con_of (by decide) (Nat.le_of_ble_eq_true rfl) ?_
  show GG l B LY (d + 1) yX10_next cX10_next 4 none 0 0 (PV M') 97 0 0 0 [(0, .ref 81)] [] M
  rw [f_X10_next] at h
  refine g_aload_n dX10_next_0 rfl 0 rfl ?_
  refine m_geti (k := 5) okX10 rfl rfl (by decide) w_1274 rfl dX10_next_1 ?_
  refine g_istore_n (lv' := [(1, .int (M 81 5)), (0, .ref 81)]) dX10_next_4 rfl (by decide) rfl ?_
  refine g_sub [1, 0] (lv' := [(0, .ref 81), (1, .int (M 81 5))]) rfl ?_
  refine sl_X10_next_5 hA  ?_ _ _ _ h
  · intro u4 M5 h
    refine g_aload_n dX10_next_21 rfl 0 rfl ?_
    refine g_iload_n dX10_next_22 rfl 1 rfl ?_
    refine m_puti (k := 4) okX10 rfl rfl (by decide) w_1273 rfl rfl rfl dX10_next_23 ?_
    refine g_aload_n dX10_next_26 rfl 0 rfl ?_
    refine g_iload_n dX10_next_27 rfl 1 rfl ?_
    obtain ⟨v28_7, M28_6, eM28_6, h⟩ := bd_e h
    refine m_callVi (As := [.int u4]) (st := []) (s_X10_see (d := d + 0) hA  eM28_6) rfl okX10 ck_X10_see w_1396 rfl (Nat.le_of_ble_eq_true rfl) dX10_next_28 ?_
    refine g_istore_n (lv' := [(2, .int v28_7), (0, .ref 81), (1, .int u4)]) dX10_next_31 rfl (by decide) rfl ?_
    refine g_aload_n dX10_next_32 rfl 1 rfl ?_
    refine g_iconst (v := (nI 0)) dX10_next_33 (by decide) ?_
    refine m_puti (k := 8) okX10 rfl rfl (by decide) w_1277 rfl rfl rfl dX10_next_34 ?_
    refine g_aload_n dX10_next_37 rfl 1 rfl ?_
    refine g_iconst (v := (nI 0)) dX10_next_38 (by decide) ?_
    refine m_puti (k := 7) okX10 rfl rfl (by decide) w_1276 rfl rfl rfl dX10_next_39 ?_
    refine g_iload_n dX10_next_42 rfl 0 rfl ?_
    refine g_iconst (v := (-1 : Int32)) dX10_next_43 (by decide) ?_
    refine g_icmp_ne (tgt := 60) dX10_next_44 (by decide) (fun c54 => ?_) (fun c54 => ?_)
    · replace h := ite_n c54 h
      refine g_iload_n dX10_next_60 rfl 0 rfl ?_
      obtain ⟨v61_9, M61_8, eM61_8, h⟩ := bd_e h
      refine m_callSi (As := [.int v28_7]) (st := []) (s_X10_isSmall (d := d + 0) hA  eM61_8) ck_X10_isSmall w_1400 rfl (Nat.le_of_ble_eq_true rfl) dX10_next_61 ?_
      refine g_if_eq (tgt := 143) dX10_next_64 (by decide) (fun c53 => ?_) (fun c53 => ?_)
      · replace h := ite_p c53 h
        refine g_iload_n dX10_next_143 rfl 0 rfl ?_
        obtain ⟨v144_11, M144_10, eM144_10, h⟩ := bd_e h
        refine m_callSi (As := [.int v28_7]) (st := []) (s_X10_isDigit (d := d + 0) hA  eM144_10) ck_X10_isDigit w_1403 rfl (Nat.le_of_ble_eq_true rfl) dX10_next_144 ?_
        refine g_if_eq (tgt := 219) dX10_next_147 (by decide) (fun c36 => ?_) (fun c36 => ?_)
        · replace h := ite_p c36 h
          refine g_aload_n dX10_next_219 rfl 1 rfl ?_
          refine g_iload_n dX10_next_220 rfl 2 rfl ?_
          refine g_iconst (v := (nI 1)) dX10_next_221 (by decide) ?_
          refine g_iadd dX10_next_222 ?_
          refine m_puti (k := 5) okX10 rfl rfl (by decide) w_1274 rfl rfl rfl dX10_next_223 ?_
          refine g_aload_n dX10_next_226 rfl 1 rfl ?_
          refine g_iload_n dX10_next_227 rfl 0 rfl ?_
          refine g_bipush (v := (nI 59)) dX10_next_228 (by decide) ?_
          obtain ⟨j14, ej14, h⟩ := jn_e h
          have hj14 : ∀ (s12 : Int32) (M13 : Mm), j14 s12 M13 = some M' → GG l B LY (d + 1) yX10_next cX10_next 4 none 0 0 (PV M') 97 0 0 244 [] [.int s12, .ref 81] M13 := by
            intro s12 M13 h
            rw [ej14] at h
            refine m_puti (k := 6) okX10 rfl rfl (by decide) w_1275 rfl rfl rfl dX10_next_244 ?_
            exact g_vret rfl (pv_of h) dX10_next_247
          obtain ⟨j16, ej16, h⟩ := jn_e h
          have hj16 : ∀ (M15 : Mm), j16 M15 = some M' → GG l B LY (d + 1) yX10_next cX10_next 4 none 0 0 (PV M') 97 0 0 239 [(2, .int v28_7)] [.ref 81] M15 := by
            intro M15 h
            rw [ej16] at h
            refine g_iload_n dX10_next_239 rfl 0 rfl ?_
            refine g_goto (tgt := 244) dX10_next_240 (by decide) ?_
            refine g_sub [] (lv' := []) rfl ?_
            exact hj14 _ _ h
          refine g_icmp_eq (tgt := 239) dX10_next_230 (by decide) (fun c18 => ?_) (fun c18 => ?_)
          · replace h := ite_p c18 h
            refine g_sub [0] (lv' := [(2, .int v28_7)]) rfl ?_
            exact hj16  _ h
          · replace h := ite_n c18 h
            refine g_iload_n dX10_next_233 rfl 0 rfl ?_
            refine g_bipush (v := (nI 44)) dX10_next_234 (by decide) ?_
            refine g_icmp_ne (tgt := 243) dX10_next_236 (by decide) (fun c17 => ?_) (fun c17 => ?_)
            · replace h := ite_n c17 h
              refine g_iconst (v := (nI 1)) dX10_next_243 (by decide) ?_
              refine g_sub [] (lv' := []) rfl ?_
              exact hj14 _ _ h
            · replace h := ite_p c17 h
              refine g_sub [0] (lv' := [(2, .int v28_7)]) rfl ?_
              exact hj16  _ h
        · replace h := ite_n c36 h
          refine g_iconst (v := (nI 0)) dX10_next_150 (by decide) ?_
          refine g_istore_n (lv' := [(3, .int (nI 0)), (2, .int v28_7), (0, .ref 81), (1, .int u4)]) dX10_next_151 rfl (by decide) rfl ?_
          refine g_sub [2, 3, 0] (lv' := [(0, .ref 81), (1, .int u4), (3, .int (nI 0))]) rfl ?_
          refine sl_X10_next_152 hA  ?_ _ _ _ _ h
          · intro u29 u30 M31 h
            refine g_aload_n dX10_next_197 rfl 0 rfl ?_
            refine g_iload_n dX10_next_198 rfl 1 rfl ?_
            refine m_puti (k := 5) okX10 rfl rfl (by decide) w_1274 rfl rfl rfl dX10_next_199 ?_
            refine g_aload_n dX10_next_202 rfl 0 rfl ?_
            refine g_iload_n dX10_next_203 rfl 2 rfl ?_
            refine g_iconst (v := (nI 3)) dX10_next_204 (by decide) ?_
            obtain ⟨j34, ej34, h⟩ := jn_e h
            have hj34 : ∀ (s32 : Int32) (M33 : Mm), j34 s32 M33 = some M' → GG l B LY (d + 1) yX10_next cX10_next 4 none 0 0 (PV M') 97 0 0 213 [] [.int s32, .ref 81] M33 := by
              intro s32 M33 h
              rw [ej34] at h
              refine m_puti (k := 6) okX10 rfl rfl (by decide) w_1275 rfl rfl rfl dX10_next_213 ?_
              refine g_goto (tgt := 247) dX10_next_216 (by decide) ?_
              exact g_vret rfl (pv_of h) dX10_next_247
            refine g_icmp_le (tgt := 212) dX10_next_205 (by decide) (fun c35 => ?_) (fun c35 => ?_)
            · replace h := ite_p c35 h
              refine g_iconst (v := (nI 3)) dX10_next_212 (by decide) ?_
              refine g_sub [] (lv' := []) rfl ?_
              exact hj34 _ _ h
            · replace h := ite_n c35 h
              refine g_iconst (v := (nI 1)) dX10_next_208 (by decide) ?_
              refine g_goto (tgt := 213) dX10_next_209 (by decide) ?_
              refine g_sub [] (lv' := []) rfl ?_
              exact hj34 _ _ h
      · replace h := ite_n c53 h
        refine g_sub [1, 2] (lv' := [(0, .ref 81), (1, .int u4)]) rfl ?_
        refine sl_X10_next_67 hA  ?_ _ _ _ h
        · intro u47 M48 h
          refine g_aload_n dX10_next_117 rfl 0 rfl ?_
          refine g_iload_n dX10_next_118 rfl 1 rfl ?_
          refine m_puti (k := 5) okX10 rfl rfl (by decide) w_1274 rfl rfl rfl dX10_next_119 ?_
          refine g_aload_n dX10_next_122 rfl 0 rfl ?_
          refine g_aload_n dX10_next_123 rfl 0 rfl ?_
          refine m_geti (k := 8) okX10 rfl rfl (by decide) w_1277 rfl dX10_next_124 ?_
          refine g_bipush (v := (nI 8)) dX10_next_127 (by decide) ?_
          obtain ⟨j51, ej51, h⟩ := jn_e h
          have hj51 : ∀ (s49 : Int32) (M50 : Mm), j51 s49 M50 = some M' → GG l B LY (d + 1) yX10_next cX10_next 4 none 0 0 (PV M') 97 0 0 137 [] [.int s49, .ref 81] M50 := by
            intro s49 M50 h
            rw [ej51] at h
            refine m_puti (k := 6) okX10 rfl rfl (by decide) w_1275 rfl rfl rfl dX10_next_137 ?_
            refine g_goto (tgt := 247) dX10_next_140 (by decide) ?_
            exact g_vret rfl (pv_of h) dX10_next_247
          refine g_icmp_le (tgt := 136) dX10_next_129 (by decide) (fun c52 => ?_) (fun c52 => ?_)
          · replace h := ite_p c52 h
            refine g_iconst (v := (nI 2)) dX10_next_136 (by decide) ?_
            refine g_sub [] (lv' := []) rfl ?_
            exact hj51 _ _ h
          · replace h := ite_n c52 h
            refine g_iconst (v := (nI 1)) dX10_next_132 (by decide) ?_
            refine g_goto (tgt := 137) dX10_next_133 (by decide) ?_
            refine g_sub [] (lv' := []) rfl ?_
            exact hj51 _ _ h
    · replace h := ite_p c54 h
      refine g_aload_n dX10_next_47 rfl 1 rfl ?_
      refine g_iconst (v := (nI 0)) dX10_next_48 (by decide) ?_
      refine m_puti (k := 6) okX10 rfl rfl (by decide) w_1275 rfl rfl rfl dX10_next_49 ?_
      refine g_aload_n dX10_next_52 rfl 1 rfl ?_
      refine g_iload_n dX10_next_53 rfl 2 rfl ?_
      refine m_puti (k := 5) okX10 rfl rfl (by decide) w_1274 rfl rfl rfl dX10_next_54 ?_
      refine g_goto (tgt := 247) dX10_next_57 (by decide) ?_
      exact g_vret rfl (pv_of h) dX10_next_247
theorem ck_X10_next : CKV yX10_next cX10_next 4 none 0 := ⟨⟨by decide, by decide, by decide +kernel⟩, w_1395, w_81, ⟨w_1394, w_12⟩, by decide⟩
theorem dX10_wrong_0 : decode cX10_wrong 0 = .ok (.aload_n 0, 1) := by decide +kernel
theorem dX10_wrong_1 : decode cX10_wrong 1 = .ok (.getfield 97, 3) := by decide +kernel
theorem dX10_wrong_4 : decode cX10_wrong 4 = .ok (.ifCond .eq 4, 3) := by decide +kernel
theorem dX10_wrong_7 : decode cX10_wrong 7 = .ok (.return_, 1) := by decide +kernel
theorem dX10_wrong_8 : decode cX10_wrong 8 = .ok (.aload_n 0, 1) := by decide +kernel
theorem dX10_wrong_9 : decode cX10_wrong 9 = .ok (.iconst 1, 1) := by decide +kernel
theorem dX10_wrong_10 : decode cX10_wrong 10 = .ok (.putfield 97, 3) := by decide +kernel
theorem dX10_wrong_13 : decode cX10_wrong 13 = .ok (.aload_n 0, 1) := by decide +kernel
theorem dX10_wrong_14 : decode cX10_wrong 14 = .ok (.iload_n 1, 1) := by decide +kernel
theorem dX10_wrong_15 : decode cX10_wrong 15 = .ok (.putfield 101, 3) := by decide +kernel
theorem dX10_wrong_18 : decode cX10_wrong 18 = .ok (.aload_n 0, 1) := by decide +kernel
theorem dX10_wrong_19 : decode cX10_wrong 19 = .ok (.iload_n 2, 1) := by decide +kernel
theorem dX10_wrong_20 : decode cX10_wrong 20 = .ok (.putfield 13, 3) := by decide +kernel
theorem dX10_wrong_23 : decode cX10_wrong 23 = .ok (.return_, 1) := by decide +kernel
def f_X10_wrong (x1 : Int32) (x2 : Int32) (M : Mm) : Option (Mm) :=
  if (M 81 13) = 0 then (some ((mset (mset (mset M 81 13 (nI 1)) 81 9 x1) 81 10 x2))) else (some M)
set_option maxHeartbeats 4000000 in
set_option maxRecDepth 100000 in
theorem s_X10_wrong {l : Launch} {B : BT} (hA : bA B = false) {d : Nat} {M' : Mm} {x1 : Int32} {x2 : Int32} {M : Mm}  (h : f_X10_wrong x1 x2 M = some M') : Con l B LY (d + 0) yX10_wrong cX10_wrong 3 none 0 0 [.ref 81, .int x1, .int x2] 97 M (PV M') := by
  refine con_of (by decide) (Nat.le_of_ble_eq_true rfl) ?_
  show GG l B LY (d + 0) yX10_wrong cX10_wrong 3 none 0 0 (PV M') 97 0 0 0 [(0, .ref 81), (1, .int x1), (2, .int x2)] [] M
  rw [f_X10_wrong] at h
  refine g_aload_n dX10_wrong_0 rfl 0 rfl ?_
  refine m_geti (k := 13) okX10 rfl rfl (by decide) w_1282 rfl dX10_wrong_1 ?_
  refine g_if_eq (tgt := 8) dX10_wrong_4 (by decide) (fun c1 => ?_) (fun c1 => ?_)
  · replace h := ite_p c1 h
    refine g_aload_n dX10_wrong_8 rfl 0 rfl ?_
    refine g_iconst (v := (nI 1)) dX10_wrong_9 (by decide) ?_
    refine m_putz (k := 13) okX10 rfl rfl (by decide) w_1282 rfl rfl rfl (by decide) dX10_wrong_10 ?_
    refine g_aload_n dX10_wrong_13 rfl 0 rfl ?_
    refine g_iload_n dX10_wrong_14 rfl 1 rfl ?_
    refine m_puti (k := 9) okX10 rfl rfl (by decide) w_1278 rfl rfl rfl dX10_wrong_15 ?_
    refine g_aload_n dX10_wrong_18 rfl 0 rfl ?_
    refine g_iload_n dX10_wrong_19 rfl 2 rfl ?_
    refine m_puti (k := 10) okX10 rfl rfl (by decide) w_1279 rfl rfl rfl dX10_wrong_20 ?_
    exact g_vret rfl (pv_of h) dX10_wrong_23
  · replace h := ite_n c1 h
    exact g_vret rfl (pv_of h) dX10_wrong_7
theorem ck_X10_wrong : CKV yX10_wrong cX10_wrong 3 none 2 := ⟨⟨by decide, by decide, by decide +kernel⟩, w_1428, w_81, ⟨w_1427, w_18⟩, by decide⟩
theorem dX10_isWord_0 : decode cX10_isWord 0 = .ok (.aload_n 0, 1) := by decide +kernel
theorem dX10_isWord_1 : decode cX10_isWord 1 = .ok (.getfield 97, 3) := by decide +kernel
theorem dX10_isWord_4 : decode cX10_isWord 4 = .ok (.ifCond .ne 22, 3) := by decide +kernel
theorem dX10_isWord_7 : decode cX10_isWord 7 = .ok (.aload_n 0, 1) := by decide +kernel
theorem dX10_isWord_8 : decode cX10_isWord 8 = .ok (.getfield 87, 3) := by decide +kernel
theorem dX10_isWord_11 : decode cX10_isWord 11 = .ok (.iconst 2, 1) := by decide +kernel
theorem dX10_isWord_12 : decode cX10_isWord 12 = .ok (.if_icmp .ne 14, 3) := by decide +kernel
theorem dX10_isWord_15 : decode cX10_isWord 15 = .ok (.aload_n 0, 1) := by decide +kernel
theorem dX10_isWord_16 : decode cX10_isWord 16 = .ok (.getfield 81, 3) := by decide +kernel
theorem dX10_isWord_19 : decode cX10_isWord 19 = .ok (.aload_n 1, 1) := by decide +kernel
theorem dX10_isWord_20 : decode cX10_isWord 20 = .ok (.invokevirtual 104, 3) := by decide +kernel
theorem dX10_isWord_23 : decode cX10_isWord 23 = .ok (.if_icmp .eq 5, 3) := by decide +kernel
theorem dX10_isWord_26 : decode cX10_isWord 26 = .ok (.iconst 0, 1) := by decide +kernel
theorem dX10_isWord_27 : decode cX10_isWord 27 = .ok (.ireturn, 1) := by decide +kernel
theorem dX10_isWord_28 : decode cX10_isWord 28 = .ok (.iconst 1, 1) := by decide +kernel
theorem dX10_isWord_29 : decode cX10_isWord 29 = .ok (.istore_n 2, 1) := by decide +kernel
theorem dX10_isWord_30 : decode cX10_isWord 30 = .ok (.iconst 0, 1) := by decide +kernel
theorem dX10_isWord_31 : decode cX10_isWord 31 = .ok (.istore_n 3, 1) := by decide +kernel
theorem dX10_isWord_32 : decode cX10_isWord 32 = .ok (.iload_n 3, 1) := by decide +kernel
theorem dX10_isWord_33 : decode cX10_isWord 33 = .ok (.aload_n 0, 1) := by decide +kernel
theorem dX10_isWord_34 : decode cX10_isWord 34 = .ok (.getfield 81, 3) := by decide +kernel
theorem dX10_isWord_37 : decode cX10_isWord 37 = .ok (.if_icmp .ge 33, 3) := by decide +kernel
theorem dX10_isWord_40 : decode cX10_isWord 40 = .ok (.iload_n 2, 1) := by decide +kernel
theorem dX10_isWord_41 : decode cX10_isWord 41 = .ok (.ifCond .eq 21, 3) := by decide +kernel
theorem dX10_isWord_44 : decode cX10_isWord 44 = .ok (.aload_n 0, 1) := by decide +kernel
theorem dX10_isWord_45 : decode cX10_isWord 45 = .ok (.getfield 17, 3) := by decide +kernel
theorem dX10_isWord_48 : decode cX10_isWord 48 = .ok (.iload_n 3, 1) := by decide +kernel
theorem dX10_isWord_49 : decode cX10_isWord 49 = .ok (.iaload, 1) := by decide +kernel
theorem dX10_isWord_50 : decode cX10_isWord 50 = .ok (.aload_n 1, 1) := by decide +kernel
theorem dX10_isWord_51 : decode cX10_isWord 51 = .ok (.iload_n 3, 1) := by decide +kernel
theorem dX10_isWord_52 : decode cX10_isWord 52 = .ok (.invokevirtual 110, 3) := by decide +kernel
theorem dX10_isWord_55 : decode cX10_isWord 55 = .ok (.if_icmp .ne 7, 3) := by decide +kernel
theorem dX10_isWord_58 : decode cX10_isWord 58 = .ok (.iconst 1, 1) := by decide +kernel
theorem dX10_isWord_59 : decode cX10_isWord 59 = .ok (.goto 4, 3) := by decide +kernel
theorem dX10_isWord_62 : decode cX10_isWord 62 = .ok (.iconst 0, 1) := by decide +kernel
theorem dX10_isWord_63 : decode cX10_isWord 63 = .ok (.istore_n 2, 1) := by decide +kernel
theorem dX10_isWord_64 : decode cX10_isWord 64 = .ok (.iinc 3 1, 3) := by decide +kernel
theorem dX10_isWord_67 : decode cX10_isWord 67 = .ok (.goto (-35), 3) := by decide +kernel
theorem dX10_isWord_70 : decode cX10_isWord 70 = .ok (.iload_n 2, 1) := by decide +kernel
theorem dX10_isWord_71 : decode cX10_isWord 71 = .ok (.ireturn, 1) := by decide +kernel
def lp_X10_isWord_32 (y1 : Nat)  : Nat → Int32 → Int32 → Mm → Option (Int32 × Mm)
  | 0, _, _, _ => none
  | n + 1, y2, y3, M =>
    if (M 81 8) ≤ y3 then (gd (zo y2) <| some (y2, M)) else (jn (fun (s1 : Int32) (M2 : Mm) => lp_X10_isWord_32 y1 n s1 (y3 + (nI 1)) M2) fun j3 => jn (fun (M4 : Mm) => j3 (nI 0) M4) fun j5 => if y2 = 0 then (j5  M) else (gd (inb y3 8) <| gd (inb y3 (stB y1).length) <| if (M 83 y3.toNatClampNeg) = (schar y1 y3.toNatClampNeg) then (j3 (nI 1) M) else (j5  M)))
def f_X10_isWord (x1 : Nat) (M : Mm) : Option (Int32 × Mm) :=
  if (M 81 13) = 0 then (if (M 81 6) = (nI 2) then (if (M 81 8) = (slen x1) then (lp_X10_isWord_32 x1  N0 (nI 1) (nI 0) M) else (some ((nI 0), M))) else (some ((nI 0), M))) else (some ((nI 0), M))
set_option maxHeartbeats 4000000 in
set_option maxRecDepth 100000 in
theorem sl_X10_isWord_32 {l : Launch} {B : BT} (hA : bA B = false) {d : Nat} {r : Int32} {M' : Mm} {y1 : Nat} (hy1 : y1 < 46)   :
    ∀ (n : Nat) (y2 : Int32) (y3 : Int32) (M : Mm), lp_X10_isWord_32 y1 n y2 y3 M = some (r, M') → GG l B LY (d + 4) yX10_isWord cX10_isWord 4 (some .boolean) 0 0 (PI r M') 97 0 0 32 [(0, .ref 81), (1, .ref (1000 + y1)), (2, .int y2), (3, .int y3)] [] M := by
  intro n
  induction n with
  | zero => intro y2 y3 M h; cases h
  | succ n ih =>
    intro y2 y3 M h
    rw [lp_X10_isWord_32] at h
    refine g_iload_n dX10_isWord_32 rfl 3 rfl ?_
    refine g_aload_n dX10_isWord_33 rfl 0 rfl ?_
    refine m_geti (k := 8) okX10 rfl rfl (by decide) w_1277 rfl dX10_isWord_34 ?_
    refine g_icmp_ge (tgt := 70) dX10_isWord_37 (by decide) (fun c8 => ?_) (fun c8 => ?_)
    · replace h := ite_p c8 h
      refine g_iload_n dX10_isWord_70 rfl 2 rfl ?_
      obtain ⟨hz, h⟩ := gd_s h
      exact g_zret rfl (nar_zo hz) (pi_of h) dX10_isWord_71
    · replace h := ite_n c8 h
      refine g_iload_n dX10_isWord_40 rfl 2 rfl ?_
      obtain ⟨j3, ej3, h⟩ := jn_e h
      have hj3 : ∀ (s1 : Int32) (M2 : Mm), j3 s1 M2 = some (r, M') → GG l B LY (d + 4) yX10_isWord cX10_isWord 4 (some .boolean) 0 0 (PI r M') 97 0 0 63 [(0, .ref 81), (1, .ref (1000 + y1)), (3, .int y3)] [.int s1] M2 := by
        intro s1 M2 h
        rw [ej3] at h
        refine g_istore_n (lv' := [(2, .int s1), (0, .ref 81), (1, .ref (1000 + y1)), (3, .int y3)]) dX10_isWord_63 rfl (by decide) rfl ?_
        refine g_iinc (v := (y3 + (nI 1))) (lv' := [(3, .int (y3 + (nI 1))), (2, .int s1), (0, .ref 81), (1, .ref (1000 + y1))]) dX10_isWord_64 3 rfl rfl (by decide) rfl ?_
        refine g_goto (tgt := 32) dX10_isWord_67 (by decide) ?_
        refine g_sub [2, 3, 1, 0] (lv' := [(0, .ref 81), (1, .ref (1000 + y1)), (2, .int s1), (3, .int (y3 + (nI 1)))]) rfl ?_
        exact ih _ _  _ h
      obtain ⟨j5, ej5, h⟩ := jn_e h
      have hj5 : ∀ (M4 : Mm), j5 M4 = some (r, M') → GG l B LY (d + 4) yX10_isWord cX10_isWord 4 (some .boolean) 0 0 (PI r M') 97 0 0 62 [(0, .ref 81), (1, .ref (1000 + y1)), (3, .int y3)] [] M4 := by
        intro M4 h
        rw [ej5] at h
        refine g_iconst (v := (nI 0)) dX10_isWord_62 (by decide) ?_
        refine g_sub [0, 1, 2] (lv' := [(0, .ref 81), (1, .ref (1000 + y1)), (3, .int y3)]) rfl ?_
        exact hj3 _ _ h
      refine g_if_eq (tgt := 62) dX10_isWord_41 (by decide) (fun c7 => ?_) (fun c7 => ?_)
      · replace h := ite_p c7 h
        refine g_sub [0, 1, 3] (lv' := [(0, .ref 81), (1, .ref (1000 + y1)), (3, .int y3)]) rfl ?_
        exact hj5  _ h
      · replace h := ite_n c7 h
        refine g_aload_n dX10_isWord_44 rfl 0 rfl ?_
        refine m_getr (k := 12) okX10 rfl rfl (by decide) w_1281 rfl dX10_isWord_45 ?_
        refine g_iload_n dX10_isWord_48 rfl 3 rfl ?_
        obtain ⟨hz, h⟩ := gd_s h
        refine m_iald rfl hz dX10_isWord_49 ?_
        refine g_aload_n dX10_isWord_50 rfl 1 rfl ?_
        refine g_iload_n dX10_isWord_51 rfl 3 rfl ?_
        obtain ⟨hz, h⟩ := gd_s h
        refine m_schar (d := d + 0) (st := [.int (M 83 y3.toNatClampNeg)]) hy1 hz w_1416 dX10_isWord_52 ?_
        refine g_icmp_ne (tgt := 62) dX10_isWord_55 (by decide) (fun c6 => ?_) (fun c6 => ?_)
        · replace h := ite_n c6 h
          refine g_sub [0, 1, 3] (lv' := [(0, .ref 81), (1, .ref (1000 + y1)), (3, .int y3)]) rfl ?_
          exact hj5  _ h
        · replace h := ite_p c6 h
          refine g_iconst (v := (nI 1)) dX10_isWord_58 (by decide) ?_
          refine g_goto (tgt := 63) dX10_isWord_59 (by decide) ?_
          refine g_sub [0, 1, 3] (lv' := [(0, .ref 81), (1, .ref (1000 + y1)), (3, .int y3)]) rfl ?_
          exact hj3 _ _ h
set_option maxHeartbeats 4000000 in
set_option maxRecDepth 100000 in
theorem s_X10_isWord {l : Launch} {B : BT} (hA : bA B = false) {d : Nat} {r : Int32} {M' : Mm} {x1 : Nat} {M : Mm} (hx1 : x1 < 46) (h : f_X10_isWord x1 M = some (r, M')) : Con l B LY (d + 4) yX10_isWord cX10_isWord 4 (some .boolean) 0 0 [.ref 81, .ref (1000 + x1)] 97 M (PI r M') := by
  refine con_of (by decide) (Nat.le_of_ble_eq_true rfl) ?_
  show GG l B LY (d + 4) yX10_isWord cX10_isWord 4 (some .boolean) 0 0 (PI r M') 97 0 0 0 [(0, .ref 81), (1, .ref (1000 + x1))] [] M
  rw [f_X10_isWord] at h
  refine g_aload_n dX10_isWord_0 rfl 0 rfl ?_
  refine m_geti (k := 13) okX10 rfl rfl (by decide) w_1282 rfl dX10_isWord_1 ?_
  refine g_if_ne (tgt := 26) dX10_isWord_4 (by decide) (fun c11 => ?_) (fun c11 => ?_)
  · replace h := ite_n c11 h
    refine g_iconst (v := (nI 0)) dX10_isWord_26 (by decide) ?_
    exact g_zret rfl rfl (pi_of h) dX10_isWord_27
  · replace h := ite_p c11 h
    refine g_aload_n dX10_isWord_7 rfl 0 rfl ?_
    refine m_geti (k := 6) okX10 rfl rfl (by decide) w_1275 rfl dX10_isWord_8 ?_
    refine g_iconst (v := (nI 2)) dX10_isWord_11 (by decide) ?_
    refine g_icmp_ne (tgt := 26) dX10_isWord_12 (by decide) (fun c10 => ?_) (fun c10 => ?_)
    · replace h := ite_n c10 h
      refine g_iconst (v := (nI 0)) dX10_isWord_26 (by decide) ?_
      exact g_zret rfl rfl (pi_of h) dX10_isWord_27
    · replace h := ite_p c10 h
      refine g_aload_n dX10_isWord_15 rfl 0 rfl ?_
      refine m_geti (k := 8) okX10 rfl rfl (by decide) w_1277 rfl dX10_isWord_16 ?_
      refine g_aload_n dX10_isWord_19 rfl 1 rfl ?_
      refine m_slen (d := d + 1) (st := [.int (M 81 8)]) hx1 w_1415 dX10_isWord_20 ?_
      refine g_icmp_eq (tgt := 28) dX10_isWord_23 (by decide) (fun c9 => ?_) (fun c9 => ?_)
      · replace h := ite_p c9 h
        refine g_iconst (v := (nI 1)) dX10_isWord_28 (by decide) ?_
        refine g_istore_n (lv' := [(2, .int (nI 1)), (0, .ref 81), (1, .ref (1000 + x1))]) dX10_isWord_29 rfl (by decide) rfl ?_
        refine g_iconst (v := (nI 0)) dX10_isWord_30 (by decide) ?_
        refine g_istore_n (lv' := [(3, .int (nI 0)), (2, .int (nI 1)), (0, .ref 81), (1, .ref (1000 + x1))]) dX10_isWord_31 rfl (by decide) rfl ?_
        refine g_sub [2, 3, 1, 0] (lv' := [(0, .ref 81), (1, .ref (1000 + x1)), (2, .int (nI 1)), (3, .int (nI 0))]) rfl ?_
        refine sl_X10_isWord_32 hA hx1  _ _ _ _ h
      · replace h := ite_n c9 h
        refine g_iconst (v := (nI 0)) dX10_isWord_26 (by decide) ?_
        exact g_zret rfl rfl (pi_of h) dX10_isWord_27
theorem ck_X10_isWord : CKV yX10_isWord cX10_isWord 4 (some .boolean) 1 := ⟨⟨by decide, by decide, by decide +kernel⟩, w_1414, w_81, ⟨w_1413, w_15⟩, by decide⟩
theorem dX10_takes_0 : decode cX10_takes 0 = .ok (.aload_n 0, 1) := by decide +kernel
theorem dX10_takes_1 : decode cX10_takes 1 = .ok (.aload_n 1, 1) := by decide +kernel
theorem dX10_takes_2 : decode cX10_takes 2 = .ok (.invokevirtual 114, 3) := by decide +kernel
theorem dX10_takes_5 : decode cX10_takes 5 = .ok (.ifCond .ne 5, 3) := by decide +kernel
theorem dX10_takes_8 : decode cX10_takes 8 = .ok (.iconst 0, 1) := by decide +kernel
theorem dX10_takes_9 : decode cX10_takes 9 = .ok (.ireturn, 1) := by decide +kernel
theorem dX10_takes_10 : decode cX10_takes 10 = .ok (.aload_n 0, 1) := by decide +kernel
theorem dX10_takes_11 : decode cX10_takes 11 = .ok (.invokevirtual 118, 3) := by decide +kernel
theorem dX10_takes_14 : decode cX10_takes 14 = .ok (.iconst 1, 1) := by decide +kernel
theorem dX10_takes_15 : decode cX10_takes 15 = .ok (.ireturn, 1) := by decide +kernel
def f_X10_takes (x1 : Nat) (M : Mm) : Option (Int32 × Mm) :=
  bd (f_X10_isWord x1 M) fun v2_2 M2_1 => if v2_2 = 0 then (some ((nI 0), M2_1)) else (bv (f_X10_next  M2_1) fun M11_3 => some ((nI 1), M11_3))
set_option maxHeartbeats 4000000 in
set_option maxRecDepth 100000 in
theorem s_X10_takes {l : Launch} {B : BT} (hA : bA B = false) {d : Nat} {r : Int32} {M' : Mm} {x1 : Nat} {M : Mm} (hx1 : x1 < 46) (h : f_X10_takes x1 M = some (r, M')) : Con l B LY (d + 5) yX10_takes cX10_takes 2 (some .boolean) 0 0 [.ref 81, .ref (1000 + x1)] 97 M (PI r M') := by
  refine con_of (by decide) (Nat.le_of_ble_eq_true rfl) ?_
  show GG l B LY (d + 5) yX10_takes cX10_takes 2 (some .boolean) 0 0 (PI r M') 97 0 0 0 [(0, .ref 81), (1, .ref (1000 + x1))] [] M
  rw [f_X10_takes] at h
  refine g_aload_n dX10_takes_0 rfl 0 rfl ?_
  refine g_aload_n dX10_takes_1 rfl 1 rfl ?_
  obtain ⟨v2_2, M2_1, eM2_1, h⟩ := bd_e h
  refine m_callVi (As := [.ref (1000 + x1)]) (st := []) (s_X10_isWord (d := d + 0) hA hx1 eM2_1) rfl okX10 ck_X10_isWord w_1411 rfl (Nat.le_of_ble_eq_true rfl) dX10_takes_2 ?_
  refine g_if_ne (tgt := 10) dX10_takes_5 (by decide) (fun c5 => ?_) (fun c5 => ?_)
  · replace h := ite_n c5 h
    refine g_aload_n dX10_takes_10 rfl 0 rfl ?_
    obtain ⟨M11_3, eM11_3, h⟩ := bv_e h
    refine m_callVv (As := []) (st := []) (s_X10_next (d := d + 3) hA  eM11_3) rfl okX10 ck_X10_next w_1392 rfl (Nat.le_of_ble_eq_true rfl) dX10_takes_11 ?_
    refine g_iconst (v := (nI 1)) dX10_takes_14 (by decide) ?_
    exact g_zret rfl rfl (pi_of h) dX10_takes_15
  · replace h := ite_p c5 h
    refine g_iconst (v := (nI 0)) dX10_takes_8 (by decide) ?_
    exact g_zret rfl rfl (pi_of h) dX10_takes_9
theorem ck_X10_takes : CKV yX10_takes cX10_takes 2 (some .boolean) 1 := ⟨⟨by decide, by decide, by decide +kernel⟩, w_1441, w_81, ⟨w_1440, w_21⟩, by decide⟩
theorem dX10_must_0 : decode cX10_must 0 = .ok (.aload_n 0, 1) := by decide +kernel
theorem dX10_must_1 : decode cX10_must 1 = .ok (.getfield 97, 3) := by decide +kernel
theorem dX10_must_4 : decode cX10_must 4 = .ok (.ifCond .ne 20, 3) := by decide +kernel
theorem dX10_must_7 : decode cX10_must 7 = .ok (.aload_n 0, 1) := by decide +kernel
theorem dX10_must_8 : decode cX10_must 8 = .ok (.aload_n 1, 1) := by decide +kernel
theorem dX10_must_9 : decode cX10_must 9 = .ok (.invokevirtual 121, 3) := by decide +kernel
theorem dX10_must_12 : decode cX10_must 12 = .ok (.ifCond .ne 12, 3) := by decide +kernel
theorem dX10_must_15 : decode cX10_must 15 = .ok (.aload_n 0, 1) := by decide +kernel
theorem dX10_must_16 : decode cX10_must 16 = .ok (.iconst 1, 1) := by decide +kernel
theorem dX10_must_17 : decode cX10_must 17 = .ok (.aload_n 0, 1) := by decide +kernel
theorem dX10_must_18 : decode cX10_must 18 = .ok (.getfield 78, 3) := by decide +kernel
theorem dX10_must_21 : decode cX10_must 21 = .ok (.invokevirtual 124, 3) := by decide +kernel
theorem dX10_must_24 : decode cX10_must 24 = .ok (.return_, 1) := by decide +kernel
def f_X10_must (x1 : Nat) (M : Mm) : Option (Mm) :=
  if (M 81 13) = 0 then (bd (f_X10_takes x1 M) fun v9_2 M9_1 => if v9_2 = 0 then (bv (f_X10_wrong (nI 1) (M9_1 81 4) M9_1) fun M21_3 => some M21_3) else (some M9_1)) else (some M)
set_option maxHeartbeats 4000000 in
set_option maxRecDepth 100000 in
theorem s_X10_must {l : Launch} {B : BT} (hA : bA B = false) {d : Nat} {M' : Mm} {x1 : Nat} {M : Mm} (hx1 : x1 < 46) (h : f_X10_must x1 M = some M') : Con l B LY (d + 6) yX10_must cX10_must 2 none 0 0 [.ref 81, .ref (1000 + x1)] 97 M (PV M') := by
  refine con_of (by decide) (Nat.le_of_ble_eq_true rfl) ?_
  show GG l B LY (d + 6) yX10_must cX10_must 2 none 0 0 (PV M') 97 0 0 0 [(0, .ref 81), (1, .ref (1000 + x1))] [] M
  rw [f_X10_must] at h
  refine g_aload_n dX10_must_0 rfl 0 rfl ?_
  refine m_geti (k := 13) okX10 rfl rfl (by decide) w_1282 rfl dX10_must_1 ?_
  refine g_if_ne (tgt := 24) dX10_must_4 (by decide) (fun c6 => ?_) (fun c6 => ?_)
  · replace h := ite_n c6 h
    exact g_vret rfl (pv_of h) dX10_must_24
  · replace h := ite_p c6 h
    refine g_aload_n dX10_must_7 rfl 0 rfl ?_
    refine g_aload_n dX10_must_8 rfl 1 rfl ?_
    obtain ⟨v9_2, M9_1, eM9_1, h⟩ := bd_e h
    refine m_callVi (As := [.ref (1000 + x1)]) (st := []) (s_X10_takes (d := d + 0) hA hx1 eM9_1) rfl okX10 ck_X10_takes w_1438 rfl (Nat.le_of_ble_eq_true rfl) dX10_must_9 ?_
    refine g_if_ne (tgt := 24) dX10_must_12 (by decide) (fun c5 => ?_) (fun c5 => ?_)
    · replace h := ite_n c5 h
      exact g_vret rfl (pv_of h) dX10_must_24
    · replace h := ite_p c5 h
      refine g_aload_n dX10_must_15 rfl 0 rfl ?_
      refine g_iconst (v := (nI 1)) dX10_must_16 (by decide) ?_
      refine g_aload_n dX10_must_17 rfl 0 rfl ?_
      refine m_geti (k := 4) okX10 rfl rfl (by decide) w_1273 rfl dX10_must_18 ?_
      obtain ⟨M21_3, eM21_3, h⟩ := bv_e h
      refine m_callVv (As := [.int (nI 1), .int (M9_1 81 4)]) (st := []) (s_X10_wrong (d := d + 5) hA  eM21_3) rfl okX10 ck_X10_wrong w_1425 rfl (Nat.le_of_ble_eq_true rfl) dX10_must_21 ?_
      exact g_vret rfl (pv_of h) dX10_must_24
theorem ck_X10_must : CKV yX10_must cX10_must 2 none 1 := ⟨⟨by decide, by decide, by decide +kernel⟩, w_1437, w_81, ⟨w_1436, w_20⟩, by decide⟩
