/-! walks: X10_says X10_off X10_stop X10_wobbleWays X10_isSpanned X10_spanOf X10_spanWhy X10_span X10_fits X10_home X10_far X10_fairest X10_fair X10_from. Written by wip/programs/parts.py. -/
theorem dX10_says_0 : decode cX10_says 0 = .ok (.aload_n 0, 1) := by decide +kernel
theorem dX10_says_1 : decode cX10_says 1 = .ok (.invokevirtual 156, 3) := by decide +kernel
theorem dX10_says_4 : decode cX10_says 4 = .ok (.aload_n 0, 1) := by decide +kernel
theorem dX10_says_5 : decode cX10_says 5 = .ok (.iload_n 1, 1) := by decide +kernel
theorem dX10_says_6 : decode cX10_says 6 = .ok (.invokevirtual 362, 3) := by decide +kernel
theorem dX10_says_9 : decode cX10_says 9 = .ok (.ifCond .ne 9, 3) := by decide +kernel
theorem dX10_says_12 : decode cX10_says 12 = .ok (.aload_n 0, 1) := by decide +kernel
theorem dX10_says_13 : decode cX10_says 13 = .ok (.iconst 1, 1) := by decide +kernel
theorem dX10_says_14 : decode cX10_says 14 = .ok (.invokevirtual 159, 3) := by decide +kernel
theorem dX10_says_17 : decode cX10_says 17 = .ok (.ireturn, 1) := by decide +kernel
theorem dX10_says_18 : decode cX10_says 18 = .ok (.aload_n 0, 1) := by decide +kernel
theorem dX10_says_19 : decode cX10_says 19 = .ok (.iload_n 1, 1) := by decide +kernel
theorem dX10_says_20 : decode cX10_says 20 = .ok (.iload_n 2, 1) := by decide +kernel
theorem dX10_says_21 : decode cX10_says 21 = .ok (.ifCond .eq 7, 3) := by decide +kernel
theorem dX10_says_24 : decode cX10_says 24 = .ok (.iconst 1, 1) := by decide +kernel
theorem dX10_says_25 : decode cX10_says 25 = .ok (.goto 4, 3) := by decide +kernel
theorem dX10_says_28 : decode cX10_says 28 = .ok (.iconst 0, 1) := by decide +kernel
theorem dX10_says_29 : decode cX10_says 29 = .ok (.invokevirtual 365, 3) := by decide +kernel
theorem dX10_says_32 : decode cX10_says 32 = .ok (.istore_n 3, 1) := by decide +kernel
theorem dX10_says_33 : decode cX10_says 33 = .ok (.iload_n 3, 1) := by decide +kernel
theorem dX10_says_34 : decode cX10_says 34 = .ok (.ifCond .ge 12, 3) := by decide +kernel
theorem dX10_says_37 : decode cX10_says 37 = .ok (.aload_n 0, 1) := by decide +kernel
theorem dX10_says_38 : decode cX10_says 38 = .ok (.bipush 6, 2) := by decide +kernel
theorem dX10_says_40 : decode cX10_says 40 = .ok (.invokevirtual 159, 3) := by decide +kernel
theorem dX10_says_43 : decode cX10_says 43 = .ok (.goto 4, 3) := by decide +kernel
theorem dX10_says_46 : decode cX10_says 46 = .ok (.iload_n 3, 1) := by decide +kernel
theorem dX10_says_47 : decode cX10_says 47 = .ok (.ireturn, 1) := by decide +kernel
def f_X10_says (x1 : Int32) (x2 : Int32) (M : Mm) : Option (Int32 × Mm) :=
  bv (f_X10_good  M) fun M1_1 => bd (f_X10_isFilmed x1 M1_1) fun v6_4 M6_3 => if v6_4 = 0 then (bd (f_X10_no (nI 1) M6_3) fun v14_15 M14_14 => some (v14_15, M14_14)) else (jn (fun (s5 : Int32) (M6 : Mm) => bd (f_X10_lawOf x1 s5 M6) fun v29_9 M29_8 => if 0 ≤ v29_9 then (some (v29_9, M29_8)) else (bd (f_X10_no (nI 6) M29_8) fun v40_11 M40_10 => some (v40_11, M40_10))) fun j7 => if x2 = 0 then (j7 (nI 0) M6_3) else (j7 (nI 1) M6_3))
set_option maxHeartbeats 4000000 in
set_option maxRecDepth 100000 in
theorem s_X10_says {l : Launch} {B : BT} (hA : bA B = false) {d : Nat} {r : Int32} {M' : Mm} {x1 : Int32} {x2 : Int32} {M : Mm}  (h : f_X10_says x1 x2 M = some (r, M')) : Con l B LY (d + 2) yX10_says cX10_says 4 (some .int) 0 0 [.ref 81, .int x1, .int x2] 97 M (PI r M') := by
  refine con_of (by decide) (Nat.le_of_ble_eq_true rfl) ?_
  show GG l B LY (d + 2) yX10_says cX10_says 4 (some .int) 0 0 (PI r M') 97 0 0 0 [(0, .ref 81), (1, .int x1), (2, .int x2)] [] M
  rw [f_X10_says] at h
  refine g_aload_n dX10_says_0 rfl 0 rfl ?_
  obtain ⟨M1_1, eM1_1, h⟩ := bv_e h
  refine m_callVv (As := []) (st := []) (s_X10_good (d := d + 1) hA  eM1_1) rfl okX10 ck_X10_good w_1381 rfl (Nat.le_of_ble_eq_true rfl) dX10_says_1 ?_
  refine g_aload_n dX10_says_4 rfl 0 rfl ?_
  refine g_iload_n dX10_says_5 rfl 1 rfl ?_
  obtain ⟨v6_4, M6_3, eM6_3, h⟩ := bd_e h
  refine m_callVi (As := [.int x1]) (st := []) (s_X10_isFilmed (d := d + 0) hA  eM6_3) rfl okX10 ck_X10_isFilmed w_1744 rfl (Nat.le_of_ble_eq_true rfl) dX10_says_6 ?_
  refine g_if_ne (tgt := 18) dX10_says_9 (by decide) (fun c16 => ?_) (fun c16 => ?_)
  · replace h := ite_n c16 h
    refine g_aload_n dX10_says_18 rfl 0 rfl ?_
    refine g_iload_n dX10_says_19 rfl 1 rfl ?_
    refine g_iload_n dX10_says_20 rfl 2 rfl ?_
    obtain ⟨j7, ej7, h⟩ := jn_e h
    have hj7 : ∀ (s5 : Int32) (M6 : Mm), j7 s5 M6 = some (r, M') → GG l B LY (d + 2) yX10_says cX10_says 4 (some .int) 0 0 (PI r M') 97 0 0 29 [(0, .ref 81)] [.int s5, .int x1, .ref 81] M6 := by
      intro s5 M6 h
      rw [ej7] at h
      obtain ⟨v29_9, M29_8, eM29_8, h⟩ := bd_e h
      refine m_callVi (As := [.int x1, .int s5]) (st := []) (s_X10_lawOf (d := d + 1) hA  eM29_8) rfl okX10 ck_X10_lawOf w_1752 rfl (Nat.le_of_ble_eq_true rfl) dX10_says_29 ?_
      refine g_istore_n (lv' := [(3, .int v29_9), (0, .ref 81)]) dX10_says_32 rfl (by decide) rfl ?_
      refine g_iload_n dX10_says_33 rfl 0 rfl ?_
      refine g_if_ge (tgt := 46) dX10_says_34 (by decide) (fun c12 => ?_) (fun c12 => ?_)
      · replace h := ite_p c12 h
        refine g_iload_n dX10_says_46 rfl 0 rfl ?_
        exact g_zret rfl rfl (pi_of h) dX10_says_47
      · replace h := ite_n c12 h
        refine g_aload_n dX10_says_37 rfl 1 rfl ?_
        refine g_bipush (v := (nI 6)) dX10_says_38 (by decide) ?_
        obtain ⟨v40_11, M40_10, eM40_10, h⟩ := bd_e h
        refine m_callVi (As := [.int (nI 6)]) (st := []) (s_X10_no (d := d + 1) hA  eM40_10) rfl okX10 ck_X10_no w_1388 rfl (Nat.le_of_ble_eq_true rfl) dX10_says_40 ?_
        refine g_goto (tgt := 47) dX10_says_43 (by decide) ?_
        exact g_zret rfl rfl (pi_of h) dX10_says_47
    refine g_if_eq (tgt := 28) dX10_says_21 (by decide) (fun c13 => ?_) (fun c13 => ?_)
    · replace h := ite_p c13 h
      refine g_iconst (v := (nI 0)) dX10_says_28 (by decide) ?_
      refine g_sub [0] (lv' := [(0, .ref 81)]) rfl ?_
      exact hj7 _ _ h
    · replace h := ite_n c13 h
      refine g_iconst (v := (nI 1)) dX10_says_24 (by decide) ?_
      refine g_goto (tgt := 29) dX10_says_25 (by decide) ?_
      refine g_sub [0] (lv' := [(0, .ref 81)]) rfl ?_
      exact hj7 _ _ h
  · replace h := ite_p c16 h
    refine g_aload_n dX10_says_12 rfl 0 rfl ?_
    refine g_iconst (v := (nI 1)) dX10_says_13 (by decide) ?_
    obtain ⟨v14_15, M14_14, eM14_14, h⟩ := bd_e h
    refine m_callVi (As := [.int (nI 1)]) (st := []) (s_X10_no (d := d + 1) hA  eM14_14) rfl okX10 ck_X10_no w_1388 rfl (Nat.le_of_ble_eq_true rfl) dX10_says_14 ?_
    exact g_zret rfl rfl (pi_of h) dX10_says_17
theorem ck_X10_says : CKV yX10_says cX10_says 4 (some .int) 2 := ⟨⟨by decide, by decide, by decide +kernel⟩, w_1759, w_81, ⟨w_1757, w_1758⟩, by decide⟩
theorem dX10_off_0 : decode cX10_off 0 = .ok (.aload_n 0, 1) := by decide +kernel
theorem dX10_off_1 : decode cX10_off 1 = .ok (.invokevirtual 156, 3) := by decide +kernel
theorem dX10_off_4 : decode cX10_off 4 = .ok (.aload_n 0, 1) := by decide +kernel
theorem dX10_off_5 : decode cX10_off 5 = .ok (.getfield 165, 3) := by decide +kernel
theorem dX10_off_8 : decode cX10_off 8 = .ok (.ifCond .ne 9, 3) := by decide +kernel
theorem dX10_off_11 : decode cX10_off 11 = .ok (.aload_n 0, 1) := by decide +kernel
theorem dX10_off_12 : decode cX10_off 12 = .ok (.iconst 1, 1) := by decide +kernel
theorem dX10_off_13 : decode cX10_off 13 = .ok (.invokevirtual 159, 3) := by decide +kernel
theorem dX10_off_16 : decode cX10_off 16 = .ok (.ireturn, 1) := by decide +kernel
theorem dX10_off_17 : decode cX10_off 17 = .ok (.iconst 0, 1) := by decide +kernel
theorem dX10_off_18 : decode cX10_off 18 = .ok (.istore_n 1, 1) := by decide +kernel
theorem dX10_off_19 : decode cX10_off 19 = .ok (.iconst 0, 1) := by decide +kernel
theorem dX10_off_20 : decode cX10_off 20 = .ok (.istore_n 2, 1) := by decide +kernel
theorem dX10_off_21 : decode cX10_off 21 = .ok (.iload_n 2, 1) := by decide +kernel
theorem dX10_off_22 : decode cX10_off 22 = .ok (.aload_n 0, 1) := by decide +kernel
theorem dX10_off_23 : decode cX10_off 23 = .ok (.getfield 20, 3) := by decide +kernel
theorem dX10_off_26 : decode cX10_off 26 = .ok (.bipush 92, 2) := by decide +kernel
theorem dX10_off_28 : decode cX10_off 28 = .ok (.iaload, 1) := by decide +kernel
theorem dX10_off_29 : decode cX10_off 29 = .ok (.iconst 1, 1) := by decide +kernel
theorem dX10_off_30 : decode cX10_off 30 = .ok (.isub, 1) := by decide +kernel
theorem dX10_off_31 : decode cX10_off 31 = .ok (.if_icmp .ge 53, 3) := by decide +kernel
theorem dX10_off_34 : decode cX10_off 34 = .ok (.aload_n 0, 1) := by decide +kernel
theorem dX10_off_35 : decode cX10_off 35 = .ok (.iload_n 2, 1) := by decide +kernel
theorem dX10_off_36 : decode cX10_off 36 = .ok (.iconst (-1), 1) := by decide +kernel
theorem dX10_off_37 : decode cX10_off 37 = .ok (.invokevirtual 365, 3) := by decide +kernel
theorem dX10_off_40 : decode cX10_off 40 = .ok (.istore_n 3, 1) := by decide +kernel
theorem dX10_off_41 : decode cX10_off 41 = .ok (.iload_n 3, 1) := by decide +kernel
theorem dX10_off_42 : decode cX10_off 42 = .ok (.aload_n 0, 1) := by decide +kernel
theorem dX10_off_43 : decode cX10_off 43 = .ok (.getfield 20, 3) := by decide +kernel
theorem dX10_off_46 : decode cX10_off 46 = .ok (.bipush 6, 2) := by decide +kernel
theorem dX10_off_48 : decode cX10_off 48 = .ok (.iload_n 2, 1) := by decide +kernel
theorem dX10_off_49 : decode cX10_off 49 = .ok (.iadd, 1) := by decide +kernel
theorem dX10_off_50 : decode cX10_off 50 = .ok (.iaload, 1) := by decide +kernel
theorem dX10_off_51 : decode cX10_off 51 = .ok (.isub, 1) := by decide +kernel
theorem dX10_off_52 : decode cX10_off 52 = .ok (.istore 4, 2) := by decide +kernel
theorem dX10_off_54 : decode cX10_off 54 = .ok (.iload_n 1, 1) := by decide +kernel
theorem dX10_off_55 : decode cX10_off 55 = .ok (.iload_n 3, 1) := by decide +kernel
theorem dX10_off_56 : decode cX10_off 56 = .ok (.ifCond .ge 7, 3) := by decide +kernel
theorem dX10_off_59 : decode cX10_off 59 = .ok (.iconst 0, 1) := by decide +kernel
theorem dX10_off_60 : decode cX10_off 60 = .ok (.goto 16, 3) := by decide +kernel
theorem dX10_off_63 : decode cX10_off 63 = .ok (.iload 4, 2) := by decide +kernel
theorem dX10_off_65 : decode cX10_off 65 = .ok (.ifCond .ge 9, 3) := by decide +kernel
theorem dX10_off_68 : decode cX10_off 68 = .ok (.iload 4, 2) := by decide +kernel
theorem dX10_off_70 : decode cX10_off 70 = .ok (.ineg, 1) := by decide +kernel
theorem dX10_off_71 : decode cX10_off 71 = .ok (.goto 5, 3) := by decide +kernel
theorem dX10_off_74 : decode cX10_off 74 = .ok (.iload 4, 2) := by decide +kernel
theorem dX10_off_76 : decode cX10_off 76 = .ok (.iadd, 1) := by decide +kernel
theorem dX10_off_77 : decode cX10_off 77 = .ok (.istore_n 1, 1) := by decide +kernel
theorem dX10_off_78 : decode cX10_off 78 = .ok (.iinc 2 1, 3) := by decide +kernel
theorem dX10_off_81 : decode cX10_off 81 = .ok (.goto (-60), 3) := by decide +kernel
theorem dX10_off_84 : decode cX10_off 84 = .ok (.iload_n 1, 1) := by decide +kernel
theorem dX10_off_85 : decode cX10_off 85 = .ok (.ireturn, 1) := by decide +kernel
def lp_X10_off_21   : Nat → Int32 → Int32 → Mm → Option (Int32 × Mm)
  | 0, _, _, _ => none
  | n + 1, y1, y2, M =>
    if ((M 84 92) - (nI 1)) ≤ y2 then (some (y1, M)) else (bd (f_X10_lawOf y2 (-1 : Int32) M) fun v37_4 M37_3 => gd (inb ((nI 6) + y2) 141) <| lt ((v37_4 - (M37_3 84 ((nI 6) + y2).toNatClampNeg))) fun t5 => jn (fun (s6 : Int32) (M7 : Mm) => lp_X10_off_21 n (y1 + s6) (y2 + (nI 1)) M7) fun j8 => if 0 ≤ v37_4 then (if 0 ≤ t5 then (j8 t5 M37_3) else (j8 (-t5) M37_3)) else (j8 (nI 0) M37_3))
def f_X10_off  (M : Mm) : Option (Int32 × Mm) :=
  bv (f_X10_good  M) fun M1_1 => if (M1_1 81 14) = 0 then (bd (f_X10_no (nI 1) M1_1) fun v13_13 M13_12 => some (v13_13, M13_12)) else (lp_X10_off_21   N0 (nI 0) (nI 0) M1_1)
set_option maxHeartbeats 4000000 in
set_option maxRecDepth 100000 in
theorem sl_X10_off_21 {l : Launch} {B : BT} (hA : bA B = false) {d : Nat} {r : Int32} {M' : Mm}     :
    ∀ (n : Nat) (y1 : Int32) (y2 : Int32) (M : Mm), lp_X10_off_21 n y1 y2 M = some (r, M') → GG l B LY (d + 1) yX10_off cX10_off 5 (some .int) 0 0 (PI r M') 97 0 0 21 [(0, .ref 81), (1, .int y1), (2, .int y2)] [] M := by
  intro n
  induction n with
  | zero => intro y1 y2 M h; cases h
  | succ n ih =>
    intro y1 y2 M h
    rw [lp_X10_off_21] at h
    refine g_iload_n dX10_off_21 rfl 2 rfl ?_
    refine g_aload_n dX10_off_22 rfl 0 rfl ?_
    refine m_getr (k := 15) okX10 rfl rfl (by decide) w_1284 rfl dX10_off_23 ?_
    refine g_bipush (v := (nI 92)) dX10_off_26 (by decide) ?_
    refine m_ialdL (k := 92) rfl rfl (by decide) dX10_off_28 ?_
    refine g_iconst (v := (nI 1)) dX10_off_29 (by decide) ?_
    refine g_isub dX10_off_30 ?_
    refine g_icmp_ge (tgt := 84) dX10_off_31 (by decide) (fun c11 => ?_) (fun c11 => ?_)
    · replace h := ite_p c11 h
      refine g_iload_n dX10_off_84 rfl 1 rfl ?_
      exact g_zret rfl rfl (pi_of h) dX10_off_85
    · replace h := ite_n c11 h
      refine g_aload_n dX10_off_34 rfl 0 rfl ?_
      refine g_iload_n dX10_off_35 rfl 2 rfl ?_
      refine g_iconst (v := (-1 : Int32)) dX10_off_36 (by decide) ?_
      obtain ⟨v37_4, M37_3, eM37_3, h⟩ := bd_e h
      refine m_callVi (As := [.int y2, .int (-1 : Int32)]) (st := []) (s_X10_lawOf (d := d + 0) hA  eM37_3) rfl okX10 ck_X10_lawOf w_1752 rfl (Nat.le_of_ble_eq_true rfl) dX10_off_37 ?_
      refine g_istore_n (lv' := [(3, .int v37_4), (0, .ref 81), (1, .int y1), (2, .int y2)]) dX10_off_40 rfl (by decide) rfl ?_
      refine g_iload_n dX10_off_41 rfl 0 rfl ?_
      refine g_aload_n dX10_off_42 rfl 1 rfl ?_
      refine m_getr (k := 15) okX10 rfl rfl (by decide) w_1284 rfl dX10_off_43 ?_
      refine g_bipush (v := (nI 6)) dX10_off_46 (by decide) ?_
      refine g_iload_n dX10_off_48 rfl 3 rfl ?_
      refine g_iadd dX10_off_49 ?_
      obtain ⟨hz, h⟩ := gd_s h
      refine m_iald rfl hz dX10_off_50 ?_
      refine g_isub dX10_off_51 ?_
      obtain ⟨t5, et5, h⟩ := lt_e h
      refine g_cuti et5 ?_
      refine g_istore (lv' := [(4, .int t5), (3, .int v37_4), (0, .ref 81), (1, .int y1), (2, .int y2)]) dX10_off_52 (by decide) rfl ?_
      refine g_iload_n dX10_off_54 rfl 3 rfl ?_
      refine g_iload_n dX10_off_55 rfl 1 rfl ?_
      obtain ⟨j8, ej8, h⟩ := jn_e h
      have hj8 : ∀ (s6 : Int32) (M7 : Mm), j8 s6 M7 = some (r, M') → GG l B LY (d + 1) yX10_off cX10_off 5 (some .int) 0 0 (PI r M') 97 0 0 76 [(0, .ref 81), (2, .int y2)] [.int s6, .int y1] M7 := by
        intro s6 M7 h
        rw [ej8] at h
        refine g_iadd dX10_off_76 ?_
        refine g_istore_n (lv' := [(1, .int (y1 + s6)), (0, .ref 81), (2, .int y2)]) dX10_off_77 rfl (by decide) rfl ?_
        refine g_iinc (v := (y2 + (nI 1))) (lv' := [(2, .int (y2 + (nI 1))), (1, .int (y1 + s6)), (0, .ref 81)]) dX10_off_78 2 rfl rfl (by decide) rfl ?_
        refine g_goto (tgt := 21) dX10_off_81 (by decide) ?_
        refine g_sub [2, 1, 0] (lv' := [(0, .ref 81), (1, .int (y1 + s6)), (2, .int (y2 + (nI 1)))]) rfl ?_
        exact ih _ _  _ h
      refine g_if_ge (tgt := 63) dX10_off_56 (by decide) (fun c10 => ?_) (fun c10 => ?_)
      · replace h := ite_p c10 h
        refine g_iload dX10_off_63 0 rfl ?_
        refine g_if_ge (tgt := 74) dX10_off_65 (by decide) (fun c9 => ?_) (fun c9 => ?_)
        · replace h := ite_p c9 h
          refine g_iload dX10_off_74 0 rfl ?_
          refine g_sub [2, 4] (lv' := [(0, .ref 81), (2, .int y2)]) rfl ?_
          exact hj8 _ _ h
        · replace h := ite_n c9 h
          refine g_iload dX10_off_68 0 rfl ?_
          refine g_ineg dX10_off_70 ?_
          refine g_goto (tgt := 76) dX10_off_71 (by decide) ?_
          refine g_sub [2, 4] (lv' := [(0, .ref 81), (2, .int y2)]) rfl ?_
          exact hj8 _ _ h
      · replace h := ite_n c10 h
        refine g_iconst (v := (nI 0)) dX10_off_59 (by decide) ?_
        refine g_goto (tgt := 76) dX10_off_60 (by decide) ?_
        refine g_sub [2, 4] (lv' := [(0, .ref 81), (2, .int y2)]) rfl ?_
        exact hj8 _ _ h
set_option maxHeartbeats 4000000 in
set_option maxRecDepth 100000 in
theorem s_X10_off {l : Launch} {B : BT} (hA : bA B = false) {d : Nat} {r : Int32} {M' : Mm}  {M : Mm}  (h : f_X10_off  M = some (r, M')) : Con l B LY (d + 1) yX10_off cX10_off 5 (some .int) 0 0 [.ref 81] 97 M (PI r M') := by
  refine con_of (by decide) (Nat.le_of_ble_eq_true rfl) ?_
  show GG l B LY (d + 1) yX10_off cX10_off 5 (some .int) 0 0 (PI r M') 97 0 0 0 [(0, .ref 81)] [] M
  rw [f_X10_off] at h
  refine g_aload_n dX10_off_0 rfl 0 rfl ?_
  obtain ⟨M1_1, eM1_1, h⟩ := bv_e h
  refine m_callVv (As := []) (st := []) (s_X10_good (d := d + 0) hA  eM1_1) rfl okX10 ck_X10_good w_1381 rfl (Nat.le_of_ble_eq_true rfl) dX10_off_1 ?_
  refine g_aload_n dX10_off_4 rfl 0 rfl ?_
  refine m_geti (k := 14) okX10 rfl rfl (by decide) w_1283 rfl dX10_off_5 ?_
  refine g_if_ne (tgt := 17) dX10_off_8 (by decide) (fun c14 => ?_) (fun c14 => ?_)
  · replace h := ite_n c14 h
    refine g_iconst (v := (nI 0)) dX10_off_17 (by decide) ?_
    refine g_istore_n (lv' := [(1, .int (nI 0)), (0, .ref 81)]) dX10_off_18 rfl (by decide) rfl ?_
    refine g_iconst (v := (nI 0)) dX10_off_19 (by decide) ?_
    refine g_istore_n (lv' := [(2, .int (nI 0)), (1, .int (nI 0)), (0, .ref 81)]) dX10_off_20 rfl (by decide) rfl ?_
    refine g_sub [2, 1, 0] (lv' := [(0, .ref 81), (1, .int (nI 0)), (2, .int (nI 0))]) rfl ?_
    refine sl_X10_off_21 hA   _ _ _ _ h
  · replace h := ite_p c14 h
    refine g_aload_n dX10_off_11 rfl 0 rfl ?_
    refine g_iconst (v := (nI 1)) dX10_off_12 (by decide) ?_
    obtain ⟨v13_13, M13_12, eM13_12, h⟩ := bd_e h
    refine m_callVi (As := [.int (nI 1)]) (st := []) (s_X10_no (d := d + 0) hA  eM13_12) rfl okX10 ck_X10_no w_1388 rfl (Nat.le_of_ble_eq_true rfl) dX10_off_13 ?_
    exact g_zret rfl rfl (pi_of h) dX10_off_16
theorem ck_X10_off : CKV yX10_off cX10_off 5 (some .int) 0 := ⟨⟨by decide, by decide, by decide +kernel⟩, w_1763, w_81, ⟨w_1761, w_1762⟩, by decide⟩
theorem dX10_stop_0 : decode cX10_stop 0 = .ok (.aload_n 0, 1) := by decide +kernel
theorem dX10_stop_1 : decode cX10_stop 1 = .ok (.invokevirtual 156, 3) := by decide +kernel
theorem dX10_stop_4 : decode cX10_stop 4 = .ok (.aload_n 0, 1) := by decide +kernel
theorem dX10_stop_5 : decode cX10_stop 5 = .ok (.iload_n 1, 1) := by decide +kernel
theorem dX10_stop_6 : decode cX10_stop 6 = .ok (.invokevirtual 278, 3) := by decide +kernel
theorem dX10_stop_9 : decode cX10_stop 9 = .ok (.ifCond .ne 9, 3) := by decide +kernel
theorem dX10_stop_12 : decode cX10_stop 12 = .ok (.aload_n 0, 1) := by decide +kernel
theorem dX10_stop_13 : decode cX10_stop 13 = .ok (.iconst 1, 1) := by decide +kernel
theorem dX10_stop_14 : decode cX10_stop 14 = .ok (.invokevirtual 159, 3) := by decide +kernel
theorem dX10_stop_17 : decode cX10_stop 17 = .ok (.ireturn, 1) := by decide +kernel
theorem dX10_stop_18 : decode cX10_stop 18 = .ok (.aload_n 0, 1) := by decide +kernel
theorem dX10_stop_19 : decode cX10_stop 19 = .ok (.getfield 44, 3) := by decide +kernel
theorem dX10_stop_22 : decode cX10_stop 22 = .ok (.iload_n 1, 1) := by decide +kernel
theorem dX10_stop_23 : decode cX10_stop 23 = .ok (.iaload, 1) := by decide +kernel
theorem dX10_stop_24 : decode cX10_stop 24 = .ok (.bipush 9, 2) := by decide +kernel
theorem dX10_stop_26 : decode cX10_stop 26 = .ok (.if_icmp .ne 9, 3) := by decide +kernel
theorem dX10_stop_29 : decode cX10_stop 29 = .ok (.aload_n 0, 1) := by decide +kernel
theorem dX10_stop_30 : decode cX10_stop 30 = .ok (.iconst 3, 1) := by decide +kernel
theorem dX10_stop_31 : decode cX10_stop 31 = .ok (.invokevirtual 159, 3) := by decide +kernel
theorem dX10_stop_34 : decode cX10_stop 34 = .ok (.ireturn, 1) := by decide +kernel
theorem dX10_stop_35 : decode cX10_stop 35 = .ok (.aload_n 0, 1) := by decide +kernel
theorem dX10_stop_36 : decode cX10_stop 36 = .ok (.getfield 44, 3) := by decide +kernel
theorem dX10_stop_39 : decode cX10_stop 39 = .ok (.iload_n 1, 1) := by decide +kernel
theorem dX10_stop_40 : decode cX10_stop 40 = .ok (.dup2, 1) := by decide +kernel
theorem dX10_stop_41 : decode cX10_stop 41 = .ok (.iaload, 1) := by decide +kernel
theorem dX10_stop_42 : decode cX10_stop 42 = .ok (.iconst 1, 1) := by decide +kernel
theorem dX10_stop_43 : decode cX10_stop 43 = .ok (.iadd, 1) := by decide +kernel
theorem dX10_stop_44 : decode cX10_stop 44 = .ok (.iastore, 1) := by decide +kernel
theorem dX10_stop_45 : decode cX10_stop 45 = .ok (.aload_n 0, 1) := by decide +kernel
theorem dX10_stop_46 : decode cX10_stop 46 = .ok (.getfield 47, 3) := by decide +kernel
theorem dX10_stop_49 : decode cX10_stop 49 = .ok (.iload_n 1, 1) := by decide +kernel
theorem dX10_stop_50 : decode cX10_stop 50 = .ok (.dup2, 1) := by decide +kernel
theorem dX10_stop_51 : decode cX10_stop 51 = .ok (.iaload, 1) := by decide +kernel
theorem dX10_stop_52 : decode cX10_stop 52 = .ok (.iload_n 2, 1) := by decide +kernel
theorem dX10_stop_53 : decode cX10_stop 53 = .ok (.ifCond .eq 7, 3) := by decide +kernel
theorem dX10_stop_56 : decode cX10_stop 56 = .ok (.iconst 1, 1) := by decide +kernel
theorem dX10_stop_57 : decode cX10_stop 57 = .ok (.goto 4, 3) := by decide +kernel
theorem dX10_stop_60 : decode cX10_stop 60 = .ok (.iconst 0, 1) := by decide +kernel
theorem dX10_stop_61 : decode cX10_stop 61 = .ok (.iadd, 1) := by decide +kernel
theorem dX10_stop_62 : decode cX10_stop 62 = .ok (.iastore, 1) := by decide +kernel
theorem dX10_stop_63 : decode cX10_stop 63 = .ok (.aload_n 0, 1) := by decide +kernel
theorem dX10_stop_64 : decode cX10_stop 64 = .ok (.getfield 44, 3) := by decide +kernel
theorem dX10_stop_67 : decode cX10_stop 67 = .ok (.iload_n 1, 1) := by decide +kernel
theorem dX10_stop_68 : decode cX10_stop 68 = .ok (.iaload, 1) := by decide +kernel
theorem dX10_stop_69 : decode cX10_stop 69 = .ok (.ireturn, 1) := by decide +kernel
def f_X10_stop (x1 : Int32) (x2 : Int32) (M : Mm) : Option (Int32 × Mm) :=
  bv (f_X10_good  M) fun M1_1 => bd (f_X10_isCreeper x1 M1_1) fun v6_4 M6_3 => if v6_4 = 0 then (bd (f_X10_no (nI 1) M6_3) fun v14_13 M14_12 => some (v14_13, M14_12)) else (gd (inb x1 5) <| if (M6_3 91 x1.toNatClampNeg) = (nI 9) then (bd (f_X10_no (nI 3) M6_3) fun v31_10 M31_9 => some (v31_10, M31_9)) else (gd (inb x1 5) <| gd (inb x1 5) <| gd (inb x1 5) <| jn (fun (s5 : Int32) (M6 : Mm) => gd (inb x1 5) <| gd (inb x1 5) <| some (((mset M6 92 x1.toNatClampNeg (((mset M6_3 91 x1.toNatClampNeg ((M6_3 91 x1.toNatClampNeg) + (nI 1))) 92 x1.toNatClampNeg) + s5)) 91 x1.toNatClampNeg), (mset M6 92 x1.toNatClampNeg (((mset M6_3 91 x1.toNatClampNeg ((M6_3 91 x1.toNatClampNeg) + (nI 1))) 92 x1.toNatClampNeg) + s5)))) fun j7 => if x2 = 0 then (j7 (nI 0) (mset M6_3 91 x1.toNatClampNeg ((M6_3 91 x1.toNatClampNeg) + (nI 1)))) else (j7 (nI 1) (mset M6_3 91 x1.toNatClampNeg ((M6_3 91 x1.toNatClampNeg) + (nI 1))))))
set_option maxHeartbeats 4000000 in
set_option maxRecDepth 100000 in
theorem s_X10_stop {l : Launch} {B : BT} (hA : bA B = false) {d : Nat} {r : Int32} {M' : Mm} {x1 : Int32} {x2 : Int32} {M : Mm}  (h : f_X10_stop x1 x2 M = some (r, M')) : Con l B LY (d + 2) yX10_stop cX10_stop 3 (some .int) 0 0 [.ref 81, .int x1, .int x2] 97 M (PI r M') := by
  refine con_of (by decide) (Nat.le_of_ble_eq_true rfl) ?_
  show GG l B LY (d + 2) yX10_stop cX10_stop 3 (some .int) 0 0 (PI r M') 97 0 0 0 [(0, .ref 81), (1, .int x1), (2, .int x2)] [] M
  rw [f_X10_stop] at h
  refine g_aload_n dX10_stop_0 rfl 0 rfl ?_
  obtain ⟨M1_1, eM1_1, h⟩ := bv_e h
  refine m_callVv (As := []) (st := []) (s_X10_good (d := d + 1) hA  eM1_1) rfl okX10 ck_X10_good w_1381 rfl (Nat.le_of_ble_eq_true rfl) dX10_stop_1 ?_
  refine g_aload_n dX10_stop_4 rfl 0 rfl ?_
  refine g_iload_n dX10_stop_5 rfl 1 rfl ?_
  obtain ⟨v6_4, M6_3, eM6_3, h⟩ := bd_e h
  refine m_callVi (As := [.int x1]) (st := []) (s_X10_isCreeper (d := d + 0) hA  eM6_3) rfl okX10 ck_X10_isCreeper w_1572 rfl (Nat.le_of_ble_eq_true rfl) dX10_stop_6 ?_
  refine g_if_ne (tgt := 18) dX10_stop_9 (by decide) (fun c14 => ?_) (fun c14 => ?_)
  · replace h := ite_n c14 h
    refine g_aload_n dX10_stop_18 rfl 0 rfl ?_
    refine m_getr (k := 24) okX10 rfl rfl (by decide) w_1293 rfl dX10_stop_19 ?_
    refine g_iload_n dX10_stop_22 rfl 1 rfl ?_
    obtain ⟨hz, h⟩ := gd_s h
    refine m_iald rfl hz dX10_stop_23 ?_
    refine g_bipush (v := (nI 9)) dX10_stop_24 (by decide) ?_
    refine g_icmp_ne (tgt := 35) dX10_stop_26 (by decide) (fun c11 => ?_) (fun c11 => ?_)
    · replace h := ite_n c11 h
      refine g_aload_n dX10_stop_35 rfl 0 rfl ?_
      refine m_getr (k := 24) okX10 rfl rfl (by decide) w_1293 rfl dX10_stop_36 ?_
      refine g_iload_n dX10_stop_39 rfl 1 rfl ?_
      refine g_dup2 dX10_stop_40 rfl rfl ?_
      obtain ⟨hz, h⟩ := gd_s h
      refine m_iald rfl hz dX10_stop_41 ?_
      refine g_iconst (v := (nI 1)) dX10_stop_42 (by decide) ?_
      refine g_iadd dX10_stop_43 ?_
      obtain ⟨hz, h⟩ := gd_s h
      refine m_iast hA rfl hz dX10_stop_44 ?_
      refine g_aload_n dX10_stop_45 rfl 0 rfl ?_
      refine m_getr (k := 25) okX10 rfl rfl (by decide) w_1294 rfl dX10_stop_46 ?_
      refine g_iload_n dX10_stop_49 rfl 1 rfl ?_
      refine g_dup2 dX10_stop_50 rfl rfl ?_
      obtain ⟨hz, h⟩ := gd_s h
      refine m_iald rfl hz dX10_stop_51 ?_
      refine g_iload_n dX10_stop_52 rfl 2 rfl ?_
      obtain ⟨j7, ej7, h⟩ := jn_e h
      have hj7 : ∀ (s5 : Int32) (M6 : Mm), j7 s5 M6 = some (r, M') → GG l B LY (d + 2) yX10_stop cX10_stop 3 (some .int) 0 0 (PI r M') 97 0 0 61 [(0, .ref 81), (1, .int x1)] [.int s5, .int ((mset M6_3 91 x1.toNatClampNeg ((M6_3 91 x1.toNatClampNeg) + (nI 1))) 92 x1.toNatClampNeg), .int x1, .ref 92] M6 := by
        intro s5 M6 h
        rw [ej7] at h
        refine g_iadd dX10_stop_61 ?_
        obtain ⟨hz, h⟩ := gd_s h
        refine m_iast hA rfl hz dX10_stop_62 ?_
        refine g_aload_n dX10_stop_63 rfl 0 rfl ?_
        refine m_getr (k := 24) okX10 rfl rfl (by decide) w_1293 rfl dX10_stop_64 ?_
        refine g_iload_n dX10_stop_67 rfl 1 rfl ?_
        obtain ⟨hz, h⟩ := gd_s h
        refine m_iald rfl hz dX10_stop_68 ?_
        exact g_zret rfl rfl (pi_of h) dX10_stop_69
      refine g_if_eq (tgt := 60) dX10_stop_53 (by decide) (fun c8 => ?_) (fun c8 => ?_)
      · replace h := ite_p c8 h
        refine g_iconst (v := (nI 0)) dX10_stop_60 (by decide) ?_
        refine g_sub [0, 1] (lv' := [(0, .ref 81), (1, .int x1)]) rfl ?_
        exact hj7 _ _ h
      · replace h := ite_n c8 h
        refine g_iconst (v := (nI 1)) dX10_stop_56 (by decide) ?_
        refine g_goto (tgt := 61) dX10_stop_57 (by decide) ?_
        refine g_sub [0, 1] (lv' := [(0, .ref 81), (1, .int x1)]) rfl ?_
        exact hj7 _ _ h
    · replace h := ite_p c11 h
      refine g_aload_n dX10_stop_29 rfl 0 rfl ?_
      refine g_iconst (v := (nI 3)) dX10_stop_30 (by decide) ?_
      obtain ⟨v31_10, M31_9, eM31_9, h⟩ := bd_e h
      refine m_callVi (As := [.int (nI 3)]) (st := []) (s_X10_no (d := d + 1) hA  eM31_9) rfl okX10 ck_X10_no w_1388 rfl (Nat.le_of_ble_eq_true rfl) dX10_stop_31 ?_
      exact g_zret rfl rfl (pi_of h) dX10_stop_34
  · replace h := ite_p c14 h
    refine g_aload_n dX10_stop_12 rfl 0 rfl ?_
    refine g_iconst (v := (nI 1)) dX10_stop_13 (by decide) ?_
    obtain ⟨v14_13, M14_12, eM14_12, h⟩ := bd_e h
    refine m_callVi (As := [.int (nI 1)]) (st := []) (s_X10_no (d := d + 1) hA  eM14_12) rfl okX10 ck_X10_no w_1388 rfl (Nat.le_of_ble_eq_true rfl) dX10_stop_14 ?_
    exact g_zret rfl rfl (pi_of h) dX10_stop_17
theorem ck_X10_stop : CKV yX10_stop cX10_stop 3 (some .int) 2 := ⟨⟨by decide, by decide, by decide +kernel⟩, w_1767, w_81, ⟨w_1765, w_1766⟩, by decide⟩
theorem dX10_wobbleWays_0 : decode cX10_wobbleWays 0 = .ok (.lconst 0, 1) := by decide +kernel
theorem dX10_wobbleWays_1 : decode cX10_wobbleWays 1 = .ok (.lstore 4, 2) := by decide +kernel
theorem dX10_wobbleWays_3 : decode cX10_wobbleWays 3 = .ok (.lconst 1, 1) := by decide +kernel
theorem dX10_wobbleWays_4 : decode cX10_wobbleWays 4 = .ok (.lstore 6, 2) := by decide +kernel
theorem dX10_wobbleWays_6 : decode cX10_wobbleWays 6 = .ok (.iconst 0, 1) := by decide +kernel
theorem dX10_wobbleWays_7 : decode cX10_wobbleWays 7 = .ok (.istore 8, 2) := by decide +kernel
theorem dX10_wobbleWays_9 : decode cX10_wobbleWays 9 = .ok (.iload 8, 2) := by decide +kernel
theorem dX10_wobbleWays_11 : decode cX10_wobbleWays 11 = .ok (.iload_n 3, 1) := by decide +kernel
theorem dX10_wobbleWays_12 : decode cX10_wobbleWays 12 = .ok (.if_icmp .gt 83, 3) := by decide +kernel
theorem dX10_wobbleWays_15 : decode cX10_wobbleWays 15 = .ok (.lload 6, 2) := by decide +kernel
theorem dX10_wobbleWays_17 : decode cX10_wobbleWays 17 = .ok (.lstore 9, 2) := by decide +kernel
theorem dX10_wobbleWays_19 : decode cX10_wobbleWays 19 = .ok (.iconst 0, 1) := by decide +kernel
theorem dX10_wobbleWays_20 : decode cX10_wobbleWays 20 = .ok (.istore 11, 2) := by decide +kernel
theorem dX10_wobbleWays_22 : decode cX10_wobbleWays 22 = .ok (.iload 11, 2) := by decide +kernel
theorem dX10_wobbleWays_24 : decode cX10_wobbleWays 24 = .ok (.iload_n 0, 1) := by decide +kernel
theorem dX10_wobbleWays_25 : decode cX10_wobbleWays 25 = .ok (.if_icmp .ge 31, 3) := by decide +kernel
theorem dX10_wobbleWays_28 : decode cX10_wobbleWays 28 = .ok (.lload 9, 2) := by decide +kernel
theorem dX10_wobbleWays_30 : decode cX10_wobbleWays 30 = .ok (.iload 11, 2) := by decide +kernel
theorem dX10_wobbleWays_32 : decode cX10_wobbleWays 32 = .ok (.iload 8, 2) := by decide +kernel
theorem dX10_wobbleWays_34 : decode cX10_wobbleWays 34 = .ok (.if_icmp .ge 8, 3) := by decide +kernel
theorem dX10_wobbleWays_37 : decode cX10_wobbleWays 37 = .ok (.iload_n 1, 1) := by decide +kernel
theorem dX10_wobbleWays_38 : decode cX10_wobbleWays 38 = .ok (.i2l, 1) := by decide +kernel
theorem dX10_wobbleWays_39 : decode cX10_wobbleWays 39 = .ok (.goto 8, 3) := by decide +kernel
theorem dX10_wobbleWays_42 : decode cX10_wobbleWays 42 = .ok (.bipush 100, 2) := by decide +kernel
theorem dX10_wobbleWays_44 : decode cX10_wobbleWays 44 = .ok (.iload_n 1, 1) := by decide +kernel
theorem dX10_wobbleWays_45 : decode cX10_wobbleWays 45 = .ok (.isub, 1) := by decide +kernel
theorem dX10_wobbleWays_46 : decode cX10_wobbleWays 46 = .ok (.i2l, 1) := by decide +kernel
theorem dX10_wobbleWays_47 : decode cX10_wobbleWays 47 = .ok (.lmul, 1) := by decide +kernel
theorem dX10_wobbleWays_48 : decode cX10_wobbleWays 48 = .ok (.lstore 9, 2) := by decide +kernel
theorem dX10_wobbleWays_50 : decode cX10_wobbleWays 50 = .ok (.iinc 11 1, 3) := by decide +kernel
theorem dX10_wobbleWays_53 : decode cX10_wobbleWays 53 = .ok (.goto (-31), 3) := by decide +kernel
theorem dX10_wobbleWays_56 : decode cX10_wobbleWays 56 = .ok (.lload 4, 2) := by decide +kernel
theorem dX10_wobbleWays_58 : decode cX10_wobbleWays 58 = .ok (.iload 8, 2) := by decide +kernel
theorem dX10_wobbleWays_60 : decode cX10_wobbleWays 60 = .ok (.iload_n 2, 1) := by decide +kernel
theorem dX10_wobbleWays_61 : decode cX10_wobbleWays 61 = .ok (.if_icmp .lt 8, 3) := by decide +kernel
theorem dX10_wobbleWays_64 : decode cX10_wobbleWays 64 = .ok (.lload 9, 2) := by decide +kernel
theorem dX10_wobbleWays_66 : decode cX10_wobbleWays 66 = .ok (.goto 4, 3) := by decide +kernel
theorem dX10_wobbleWays_69 : decode cX10_wobbleWays 69 = .ok (.lconst 0, 1) := by decide +kernel
theorem dX10_wobbleWays_70 : decode cX10_wobbleWays 70 = .ok (.ladd, 1) := by decide +kernel
theorem dX10_wobbleWays_71 : decode cX10_wobbleWays 71 = .ok (.lstore 4, 2) := by decide +kernel
theorem dX10_wobbleWays_73 : decode cX10_wobbleWays 73 = .ok (.lload 6, 2) := by decide +kernel
theorem dX10_wobbleWays_75 : decode cX10_wobbleWays 75 = .ok (.iload_n 0, 1) := by decide +kernel
theorem dX10_wobbleWays_76 : decode cX10_wobbleWays 76 = .ok (.iload 8, 2) := by decide +kernel
theorem dX10_wobbleWays_78 : decode cX10_wobbleWays 78 = .ok (.isub, 1) := by decide +kernel
theorem dX10_wobbleWays_79 : decode cX10_wobbleWays 79 = .ok (.i2l, 1) := by decide +kernel
theorem dX10_wobbleWays_80 : decode cX10_wobbleWays 80 = .ok (.lmul, 1) := by decide +kernel
theorem dX10_wobbleWays_81 : decode cX10_wobbleWays 81 = .ok (.iload 8, 2) := by decide +kernel
theorem dX10_wobbleWays_83 : decode cX10_wobbleWays 83 = .ok (.iconst 1, 1) := by decide +kernel
theorem dX10_wobbleWays_84 : decode cX10_wobbleWays 84 = .ok (.iadd, 1) := by decide +kernel
theorem dX10_wobbleWays_85 : decode cX10_wobbleWays 85 = .ok (.i2l, 1) := by decide +kernel
theorem dX10_wobbleWays_86 : decode cX10_wobbleWays 86 = .ok (.ldiv, 1) := by decide +kernel
theorem dX10_wobbleWays_87 : decode cX10_wobbleWays 87 = .ok (.lstore 6, 2) := by decide +kernel
theorem dX10_wobbleWays_89 : decode cX10_wobbleWays 89 = .ok (.iinc 8 1, 3) := by decide +kernel
theorem dX10_wobbleWays_92 : decode cX10_wobbleWays 92 = .ok (.goto (-83), 3) := by decide +kernel
theorem dX10_wobbleWays_95 : decode cX10_wobbleWays 95 = .ok (.lload 4, 2) := by decide +kernel
theorem dX10_wobbleWays_97 : decode cX10_wobbleWays 97 = .ok (.lreturn, 1) := by decide +kernel
def lp_X10_wobbleWays_22 (y0 : Int32) (y1 : Int32) (y2 : Int32) (y3 : Int32) (y4 : Int64) (y6 : Int64) (y8 : Int32) (k56 : Int64 → Mm → Option (Int64 × Mm)) : Nat → Int64 → Int32 → Mm → Option (Int64 × Mm)
  | 0, _, _, _ => none
  | n + 1, y9, y11, M =>
    if y0 ≤ y11 then (k56 y9 M) else (jn (fun (s1 : Int64) (M2 : Mm) => lp_X10_wobbleWays_22 y0 y1 y2 y3 y4 y6 y8 k56 n (y9 * s1) (y11 + (nI 1)) M2) fun j3 => if y8 ≤ y11 then (j3 ((nI 100) - y1).toInt64 M) else (j3 y1.toInt64 M))
def lp_X10_wobbleWays_9 (y0 : Int32) (y1 : Int32) (y2 : Int32) (y3 : Int32)  : Nat → Int64 → Int64 → Int32 → Mm → Option (Int64 × Mm)
  | 0, _, _, _, _ => none
  | n + 1, y4, y6, y8, M =>
    if y3 < y8 then (some (y4, M)) else (lp_X10_wobbleWays_22 y0 y1 y2 y3 y4 y6 y8 (fun (u6 : Int64) (M7 : Mm) => jn (fun (s8 : Int64) (M9 : Mm) => gd (nzl (y8 + (nI 1)).toInt64) <| lt (((y6 * (y0 - y8).toInt64) / (y8 + (nI 1)).toInt64)) fun t11 => lp_X10_wobbleWays_9 y0 y1 y2 y3 n (y4 + s8) t11 (y8 + (nI 1)) M9) fun j10 => if y8 < y2 then (j10 (0 : Int64) M7) else (j10 u6 M7)) N0 y6 (nI 0) M)
def f_X10_wobbleWays (x0 : Int32) (x1 : Int32) (x2 : Int32) (x3 : Int32) (M : Mm) : Option (Int64 × Mm) :=
  lp_X10_wobbleWays_9 x0 x1 x2 x3  N0 (0 : Int64) (1 : Int64) (nI 0) M
set_option maxHeartbeats 4000000 in
set_option maxRecDepth 100000 in
theorem sl_X10_wobbleWays_22 {l : Launch} {B : BT} (hA : bA B = false) {d : Nat} {r : Int64} {M' : Mm} {y0 : Int32} {y1 : Int32} {y2 : Int32} {y3 : Int32} {y4 : Int64} {y6 : Int64} {y8 : Int32}  {k56 : Int64 → Mm → Option (Int64 × Mm)} (hk56 : ∀ (z9 : Int64) (M9 : Mm), k56 z9 M9 = some (r, M') → GG l B LY (d + 0) yX10_wobbleWays cX10_wobbleWays 12 (some .long) 0 0 (PL r M') 97 0 0 56 [(0, .int y0), (1, .int y1), (2, .int y2), (3, .int y3), (4, .long y4), (6, .long y6), (8, .int y8), (9, .long z9)] [] M9) :
    ∀ (n : Nat) (y9 : Int64) (y11 : Int32) (M : Mm), lp_X10_wobbleWays_22 y0 y1 y2 y3 y4 y6 y8 k56 n y9 y11 M = some (r, M') → GG l B LY (d + 0) yX10_wobbleWays cX10_wobbleWays 12 (some .long) 0 0 (PL r M') 97 0 0 22 [(0, .int y0), (1, .int y1), (2, .int y2), (3, .int y3), (4, .long y4), (6, .long y6), (8, .int y8), (9, .long y9), (11, .int y11)] [] M := by
  intro n
  induction n with
  | zero => intro y9 y11 M h; cases h
  | succ n ih =>
    intro y9 y11 M h
    rw [lp_X10_wobbleWays_22] at h
    refine g_iload dX10_wobbleWays_22 8 rfl ?_
    refine g_iload_n dX10_wobbleWays_24 rfl 0 rfl ?_
    refine g_icmp_ge (tgt := 56) dX10_wobbleWays_25 (by decide) (fun c5 => ?_) (fun c5 => ?_)
    · replace h := ite_p c5 h
      refine g_sub [0, 1, 2, 3, 4, 5, 6, 7] (lv' := [(0, .int y0), (1, .int y1), (2, .int y2), (3, .int y3), (4, .long y4), (6, .long y6), (8, .int y8), (9, .long y9)]) rfl ?_
      exact hk56 _ _ h
    · replace h := ite_n c5 h
      refine g_lload dX10_wobbleWays_28 7 rfl ?_
      refine g_iload dX10_wobbleWays_30 8 rfl ?_
      refine g_iload dX10_wobbleWays_32 6 rfl ?_
      obtain ⟨j3, ej3, h⟩ := jn_e h
      have hj3 : ∀ (s1 : Int64) (M2 : Mm), j3 s1 M2 = some (r, M') → GG l B LY (d + 0) yX10_wobbleWays cX10_wobbleWays 12 (some .long) 0 0 (PL r M') 97 0 0 47 [(0, .int y0), (1, .int y1), (2, .int y2), (3, .int y3), (4, .long y4), (6, .long y6), (8, .int y8), (11, .int y11)] [.long s1, .long y9] M2 := by
        intro s1 M2 h
        rw [ej3] at h
        refine g_lmul dX10_wobbleWays_47 ?_
        refine g_lstore (lv' := [(9, .long (y9 * s1)), (0, .int y0), (1, .int y1), (2, .int y2), (3, .int y3), (4, .long y4), (6, .long y6), (8, .int y8), (11, .int y11)]) dX10_wobbleWays_48 (by decide) rfl ?_
        refine g_iinc (v := (y11 + (nI 1))) (lv' := [(11, .int (y11 + (nI 1))), (9, .long (y9 * s1)), (0, .int y0), (1, .int y1), (2, .int y2), (3, .int y3), (4, .long y4), (6, .long y6), (8, .int y8)]) dX10_wobbleWays_50 8 rfl rfl (by decide) rfl ?_
        refine g_goto (tgt := 22) dX10_wobbleWays_53 (by decide) ?_
        refine g_sub [2, 3, 4, 5, 6, 7, 8, 1, 0] (lv' := [(0, .int y0), (1, .int y1), (2, .int y2), (3, .int y3), (4, .long y4), (6, .long y6), (8, .int y8), (9, .long (y9 * s1)), (11, .int (y11 + (nI 1)))]) rfl ?_
        exact ih _ _  _ h
      refine g_icmp_ge (tgt := 42) dX10_wobbleWays_34 (by decide) (fun c4 => ?_) (fun c4 => ?_)
      · replace h := ite_p c4 h
        refine g_bipush (v := (nI 100)) dX10_wobbleWays_42 (by decide) ?_
        refine g_iload_n dX10_wobbleWays_44 rfl 1 rfl ?_
        refine g_isub dX10_wobbleWays_45 ?_
        refine g_i2l dX10_wobbleWays_46 ?_
        refine g_sub [0, 1, 2, 3, 4, 5, 6, 8] (lv' := [(0, .int y0), (1, .int y1), (2, .int y2), (3, .int y3), (4, .long y4), (6, .long y6), (8, .int y8), (11, .int y11)]) rfl ?_
        exact hj3 _ _ h
      · replace h := ite_n c4 h
        refine g_iload_n dX10_wobbleWays_37 rfl 1 rfl ?_
        refine g_i2l dX10_wobbleWays_38 ?_
        refine g_goto (tgt := 47) dX10_wobbleWays_39 (by decide) ?_
        refine g_sub [0, 1, 2, 3, 4, 5, 6, 8] (lv' := [(0, .int y0), (1, .int y1), (2, .int y2), (3, .int y3), (4, .long y4), (6, .long y6), (8, .int y8), (11, .int y11)]) rfl ?_
        exact hj3 _ _ h
set_option maxHeartbeats 4000000 in
set_option maxRecDepth 100000 in
theorem sl_X10_wobbleWays_9 {l : Launch} {B : BT} (hA : bA B = false) {d : Nat} {r : Int64} {M' : Mm} {y0 : Int32} {y1 : Int32} {y2 : Int32} {y3 : Int32}    :
    ∀ (n : Nat) (y4 : Int64) (y6 : Int64) (y8 : Int32) (M : Mm), lp_X10_wobbleWays_9 y0 y1 y2 y3 n y4 y6 y8 M = some (r, M') → GG l B LY (d + 0) yX10_wobbleWays cX10_wobbleWays 12 (some .long) 0 0 (PL r M') 97 0 0 9 [(0, .int y0), (1, .int y1), (2, .int y2), (3, .int y3), (4, .long y4), (6, .long y6), (8, .int y8)] [] M := by
  intro n
  induction n with
  | zero => intro y4 y6 y8 M h; cases h
  | succ n ih =>
    intro y4 y6 y8 M h
    rw [lp_X10_wobbleWays_9] at h
    refine g_iload dX10_wobbleWays_9 6 rfl ?_
    refine g_iload_n dX10_wobbleWays_11 rfl 3 rfl ?_
    refine g_icmp_gt (tgt := 95) dX10_wobbleWays_12 (by decide) (fun c13 => ?_) (fun c13 => ?_)
    · replace h := ite_p c13 h
      refine g_lload dX10_wobbleWays_95 4 rfl ?_
      exact g_lret rfl (pl_of h) dX10_wobbleWays_97
    · replace h := ite_n c13 h
      refine g_lload dX10_wobbleWays_15 5 rfl ?_
      refine g_lstore (lv' := [(9, .long y6), (0, .int y0), (1, .int y1), (2, .int y2), (3, .int y3), (4, .long y4), (6, .long y6), (8, .int y8)]) dX10_wobbleWays_17 (by decide) rfl ?_
      refine g_iconst (v := (nI 0)) dX10_wobbleWays_19 (by decide) ?_
      refine g_istore (lv' := [(11, .int (nI 0)), (9, .long y6), (0, .int y0), (1, .int y1), (2, .int y2), (3, .int y3), (4, .long y4), (6, .long y6), (8, .int y8)]) dX10_wobbleWays_20 (by decide) rfl ?_
      refine g_sub [2, 3, 4, 5, 6, 7, 8, 1, 0] (lv' := [(0, .int y0), (1, .int y1), (2, .int y2), (3, .int y3), (4, .long y4), (6, .long y6), (8, .int y8), (9, .long y6), (11, .int (nI 0))]) rfl ?_
      refine sl_X10_wobbleWays_22 hA  ?_ _ _ _ _ h
      · intro u6 M7 h
        refine g_lload dX10_wobbleWays_56 4 rfl ?_
        refine g_iload dX10_wobbleWays_58 6 rfl ?_
        refine g_iload_n dX10_wobbleWays_60 rfl 2 rfl ?_
        obtain ⟨j10, ej10, h⟩ := jn_e h
        have hj10 : ∀ (s8 : Int64) (M9 : Mm), j10 s8 M9 = some (r, M') → GG l B LY (d + 0) yX10_wobbleWays cX10_wobbleWays 12 (some .long) 0 0 (PL r M') 97 0 0 70 [(0, .int y0), (1, .int y1), (2, .int y2), (3, .int y3), (6, .long y6), (8, .int y8)] [.long s8, .long y4] M9 := by
          intro s8 M9 h
          rw [ej10] at h
          refine g_ladd dX10_wobbleWays_70 ?_
          refine g_lstore (lv' := [(4, .long (y4 + s8)), (0, .int y0), (1, .int y1), (2, .int y2), (3, .int y3), (6, .long y6), (8, .int y8)]) dX10_wobbleWays_71 (by decide) rfl ?_
          refine g_lload dX10_wobbleWays_73 5 rfl ?_
          refine g_iload_n dX10_wobbleWays_75 rfl 1 rfl ?_
          refine g_iload dX10_wobbleWays_76 6 rfl ?_
          refine g_isub dX10_wobbleWays_78 ?_
          refine g_i2l dX10_wobbleWays_79 ?_
          refine g_lmul dX10_wobbleWays_80 ?_
          refine g_iload dX10_wobbleWays_81 6 rfl ?_
          refine g_iconst (v := (nI 1)) dX10_wobbleWays_83 (by decide) ?_
          refine g_iadd dX10_wobbleWays_84 ?_
          refine g_i2l dX10_wobbleWays_85 ?_
          obtain ⟨hz, h⟩ := gd_s h
          refine g_ldiv dX10_wobbleWays_86 (nzl_s hz) ?_
          obtain ⟨t11, et11, h⟩ := lt_e h
          refine g_cutl et11 ?_
          refine g_lstore (lv' := [(6, .long t11), (4, .long (y4 + s8)), (0, .int y0), (1, .int y1), (2, .int y2), (3, .int y3), (8, .int y8)]) dX10_wobbleWays_87 (by decide) rfl ?_
          refine g_iinc (v := (y8 + (nI 1))) (lv' := [(8, .int (y8 + (nI 1))), (6, .long t11), (4, .long (y4 + s8)), (0, .int y0), (1, .int y1), (2, .int y2), (3, .int y3)]) dX10_wobbleWays_89 6 rfl rfl (by decide) rfl ?_
          refine g_goto (tgt := 9) dX10_wobbleWays_92 (by decide) ?_
          refine g_sub [3, 4, 5, 6, 2, 1, 0] (lv' := [(0, .int y0), (1, .int y1), (2, .int y2), (3, .int y3), (4, .long (y4 + s8)), (6, .long t11), (8, .int (y8 + (nI 1)))]) rfl ?_
          exact ih _ _ _  _ h
        refine g_icmp_lt (tgt := 69) dX10_wobbleWays_61 (by decide) (fun c12 => ?_) (fun c12 => ?_)
        · replace h := ite_p c12 h
          refine g_lconst (v := 0) dX10_wobbleWays_69 (by decide) ?_
          refine g_sub [0, 1, 2, 3, 5, 6] (lv' := [(0, .int y0), (1, .int y1), (2, .int y2), (3, .int y3), (6, .long y6), (8, .int y8)]) rfl ?_
          exact hj10 _ _ h
        · replace h := ite_n c12 h
          refine g_lload dX10_wobbleWays_64 7 rfl ?_
          refine g_goto (tgt := 70) dX10_wobbleWays_66 (by decide) ?_
          refine g_sub [0, 1, 2, 3, 5, 6] (lv' := [(0, .int y0), (1, .int y1), (2, .int y2), (3, .int y3), (6, .long y6), (8, .int y8)]) rfl ?_
          exact hj10 _ _ h
set_option maxHeartbeats 4000000 in
set_option maxRecDepth 100000 in
theorem s_X10_wobbleWays {l : Launch} {B : BT} (hA : bA B = false) {d : Nat} {r : Int64} {M' : Mm} {x0 : Int32} {x1 : Int32} {x2 : Int32} {x3 : Int32} {M : Mm}  (h : f_X10_wobbleWays x0 x1 x2 x3 M = some (r, M')) : Con l B LY (d + 0) yX10_wobbleWays cX10_wobbleWays 12 (some .long) 0 0 [.int x0, .int x1, .int x2, .int x3] 97 M (PL r M') := by
  refine con_of (by decide) (Nat.le_of_ble_eq_true rfl) ?_
  show GG l B LY (d + 0) yX10_wobbleWays cX10_wobbleWays 12 (some .long) 0 0 (PL r M') 97 0 0 0 [(0, .int x0), (1, .int x1), (2, .int x2), (3, .int x3)] [] M
  rw [f_X10_wobbleWays] at h
  refine g_lconst (v := 0) dX10_wobbleWays_0 (by decide) ?_
  refine g_lstore (lv' := [(4, .long (0 : Int64)), (0, .int x0), (1, .int x1), (2, .int x2), (3, .int x3)]) dX10_wobbleWays_1 (by decide) rfl ?_
  refine g_lconst (v := 1) dX10_wobbleWays_3 (by decide) ?_
  refine g_lstore (lv' := [(6, .long (1 : Int64)), (4, .long (0 : Int64)), (0, .int x0), (1, .int x1), (2, .int x2), (3, .int x3)]) dX10_wobbleWays_4 (by decide) rfl ?_
  refine g_iconst (v := (nI 0)) dX10_wobbleWays_6 (by decide) ?_
  refine g_istore (lv' := [(8, .int (nI 0)), (6, .long (1 : Int64)), (4, .long (0 : Int64)), (0, .int x0), (1, .int x1), (2, .int x2), (3, .int x3)]) dX10_wobbleWays_7 (by decide) rfl ?_
  refine g_sub [3, 4, 5, 6, 2, 1, 0] (lv' := [(0, .int x0), (1, .int x1), (2, .int x2), (3, .int x3), (4, .long (0 : Int64)), (6, .long (1 : Int64)), (8, .int (nI 0))]) rfl ?_
  refine sl_X10_wobbleWays_9 hA   _ _ _ _ _ h
theorem ck_X10_wobbleWays : CKS yX10_wobbleWays cX10_wobbleWays 12 (some .long) 4 := ⟨⟨by decide, by decide, by decide +kernel⟩, w_1787, w_81, w_1786, by decide⟩
theorem dX10_isSpanned_0 : decode cX10_isSpanned 0 = .ok (.aload_n 0, 1) := by decide +kernel
theorem dX10_isSpanned_1 : decode cX10_isSpanned 1 = .ok (.getfield 44, 3) := by decide +kernel
theorem dX10_isSpanned_4 : decode cX10_isSpanned 4 = .ok (.iload_n 1, 1) := by decide +kernel
theorem dX10_isSpanned_5 : decode cX10_isSpanned 5 = .ok (.iaload, 1) := by decide +kernel
theorem dX10_isSpanned_6 : decode cX10_isSpanned 6 = .ok (.istore_n 3, 1) := by decide +kernel
theorem dX10_isSpanned_7 : decode cX10_isSpanned 7 = .ok (.ldc2_w 368, 3) := by decide +kernel
theorem dX10_isSpanned_10 : decode cX10_isSpanned 10 = .ok (.lstore 4, 2) := by decide +kernel
theorem dX10_isSpanned_12 : decode cX10_isSpanned 12 = .ok (.iconst 1, 1) := by decide +kernel
theorem dX10_isSpanned_13 : decode cX10_isSpanned 13 = .ok (.istore 6, 2) := by decide +kernel
theorem dX10_isSpanned_15 : decode cX10_isSpanned 15 = .ok (.iload 6, 2) := by decide +kernel
theorem dX10_isSpanned_17 : decode cX10_isSpanned 17 = .ok (.iload_n 3, 1) := by decide +kernel
theorem dX10_isSpanned_18 : decode cX10_isSpanned 18 = .ok (.if_icmp .ge 17, 3) := by decide +kernel
theorem dX10_isSpanned_21 : decode cX10_isSpanned 21 = .ok (.lload 4, 2) := by decide +kernel
theorem dX10_isSpanned_23 : decode cX10_isSpanned 23 = .ok (.ldc2_w 290, 3) := by decide +kernel
theorem dX10_isSpanned_26 : decode cX10_isSpanned 26 = .ok (.lmul, 1) := by decide +kernel
theorem dX10_isSpanned_27 : decode cX10_isSpanned 27 = .ok (.lstore 4, 2) := by decide +kernel
theorem dX10_isSpanned_29 : decode cX10_isSpanned 29 = .ok (.iinc 6 1, 3) := by decide +kernel
theorem dX10_isSpanned_32 : decode cX10_isSpanned 32 = .ok (.goto (-17), 3) := by decide +kernel
theorem dX10_isSpanned_35 : decode cX10_isSpanned 35 = .ok (.iload_n 3, 1) := by decide +kernel
theorem dX10_isSpanned_36 : decode cX10_isSpanned 36 = .ok (.iload_n 2, 1) := by decide +kernel
theorem dX10_isSpanned_37 : decode cX10_isSpanned 37 = .ok (.aload_n 0, 1) := by decide +kernel
theorem dX10_isSpanned_38 : decode cX10_isSpanned 38 = .ok (.getfield 47, 3) := by decide +kernel
theorem dX10_isSpanned_41 : decode cX10_isSpanned 41 = .ok (.iload_n 1, 1) := by decide +kernel
theorem dX10_isSpanned_42 : decode cX10_isSpanned 42 = .ok (.iaload, 1) := by decide +kernel
theorem dX10_isSpanned_43 : decode cX10_isSpanned 43 = .ok (.iload_n 3, 1) := by decide +kernel
theorem dX10_isSpanned_44 : decode cX10_isSpanned 44 = .ok (.invokestatic 370, 3) := by decide +kernel
theorem dX10_isSpanned_47 : decode cX10_isSpanned 47 = .ok (.lload 4, 2) := by decide +kernel
theorem dX10_isSpanned_49 : decode cX10_isSpanned 49 = .ok (.lcmp, 1) := by decide +kernel
theorem dX10_isSpanned_50 : decode cX10_isSpanned 50 = .ok (.ifCond .lt 25, 3) := by decide +kernel
theorem dX10_isSpanned_53 : decode cX10_isSpanned 53 = .ok (.iload_n 3, 1) := by decide +kernel
theorem dX10_isSpanned_54 : decode cX10_isSpanned 54 = .ok (.iload_n 2, 1) := by decide +kernel
theorem dX10_isSpanned_55 : decode cX10_isSpanned 55 = .ok (.iconst 0, 1) := by decide +kernel
theorem dX10_isSpanned_56 : decode cX10_isSpanned 56 = .ok (.aload_n 0, 1) := by decide +kernel
theorem dX10_isSpanned_57 : decode cX10_isSpanned 57 = .ok (.getfield 47, 3) := by decide +kernel
theorem dX10_isSpanned_60 : decode cX10_isSpanned 60 = .ok (.iload_n 1, 1) := by decide +kernel
theorem dX10_isSpanned_61 : decode cX10_isSpanned 61 = .ok (.iaload, 1) := by decide +kernel
theorem dX10_isSpanned_62 : decode cX10_isSpanned 62 = .ok (.invokestatic 370, 3) := by decide +kernel
theorem dX10_isSpanned_65 : decode cX10_isSpanned 65 = .ok (.lload 4, 2) := by decide +kernel
theorem dX10_isSpanned_67 : decode cX10_isSpanned 67 = .ok (.lcmp, 1) := by decide +kernel
theorem dX10_isSpanned_68 : decode cX10_isSpanned 68 = .ok (.ifCond .lt 7, 3) := by decide +kernel
theorem dX10_isSpanned_71 : decode cX10_isSpanned 71 = .ok (.iconst 1, 1) := by decide +kernel
theorem dX10_isSpanned_72 : decode cX10_isSpanned 72 = .ok (.goto 4, 3) := by decide +kernel
theorem dX10_isSpanned_75 : decode cX10_isSpanned 75 = .ok (.iconst 0, 1) := by decide +kernel
theorem dX10_isSpanned_76 : decode cX10_isSpanned 76 = .ok (.ireturn, 1) := by decide +kernel
def lp_X10_isSpanned_15 (y1 : Int32) (y2 : Int32) (y3 : Int32) (k35 : Int64 → Mm → Option (Int32 × Mm)) : Nat → Int64 → Int32 → Mm → Option (Int32 × Mm)
  | 0, _, _, _ => none
  | n + 1, y4, y6, M =>
    if y3 ≤ y6 then (k35 y4 M) else (lp_X10_isSpanned_15 y1 y2 y3 k35 n (y4 * (100 : Int64)) (y6 + (nI 1)) M)
def f_X10_isSpanned (x1 : Int32) (x2 : Int32) (M : Mm) : Option (Int32 × Mm) :=
  gd (inb x1 5) <| lt ((M 91 x1.toNatClampNeg)) fun t1 => lp_X10_isSpanned_15 x1 x2 t1 (fun (u3 : Int64) (M4 : Mm) => gd (inb x1 5) <| bd (f_X10_wobbleWays t1 x2 (M4 92 x1.toNatClampNeg) t1 M4) fun v44_6 M44_5 => jn (fun (M7 : Mm) => some ((nI 0), M7)) fun j8 => if (lg_cmp v44_6 u3) < 0 then (j8  M44_5) else (gd (inb x1 5) <| bd (f_X10_wobbleWays t1 x2 (nI 0) (M44_5 92 x1.toNatClampNeg) M44_5) fun v62_10 M62_9 => if (lg_cmp v62_10 u3) < 0 then (j8  M62_9) else (some ((nI 1), M62_9)))) N0 (5 : Int64) (nI 1) M
set_option maxHeartbeats 4000000 in
set_option maxRecDepth 100000 in
theorem sl_X10_isSpanned_15 {l : Launch} {B : BT} (hA : bA B = false) {d : Nat} {r : Int32} {M' : Mm} {y1 : Int32} {y2 : Int32} {y3 : Int32}  {k35 : Int64 → Mm → Option (Int32 × Mm)} (hk35 : ∀ (z4 : Int64) (M9 : Mm), k35 z4 M9 = some (r, M') → GG l B LY (d + 1) yX10_isSpanned cX10_isSpanned 7 (some .boolean) 0 0 (PI r M') 97 0 0 35 [(0, .ref 81), (1, .int y1), (2, .int y2), (3, .int y3), (4, .long z4)] [] M9) :
    ∀ (n : Nat) (y4 : Int64) (y6 : Int32) (M : Mm), lp_X10_isSpanned_15 y1 y2 y3 k35 n y4 y6 M = some (r, M') → GG l B LY (d + 1) yX10_isSpanned cX10_isSpanned 7 (some .boolean) 0 0 (PI r M') 97 0 0 15 [(0, .ref 81), (1, .int y1), (2, .int y2), (3, .int y3), (4, .long y4), (6, .int y6)] [] M := by
  intro n
  induction n with
  | zero => intro y4 y6 M h; cases h
  | succ n ih =>
    intro y4 y6 M h
    rw [lp_X10_isSpanned_15] at h
    refine g_iload dX10_isSpanned_15 5 rfl ?_
    refine g_iload_n dX10_isSpanned_17 rfl 3 rfl ?_
    refine g_icmp_ge (tgt := 35) dX10_isSpanned_18 (by decide) (fun c2 => ?_) (fun c2 => ?_)
    · replace h := ite_p c2 h
      refine g_sub [0, 1, 2, 3, 4] (lv' := [(0, .ref 81), (1, .int y1), (2, .int y2), (3, .int y3), (4, .long y4)]) rfl ?_
      exact hk35 _ _ h
    · replace h := ite_n c2 h
      refine g_lload dX10_isSpanned_21 4 rfl ?_
      refine g_ldc2 (v := 100) w_1620 dX10_isSpanned_23 ?_
      refine g_lmul dX10_isSpanned_26 ?_
      refine g_lstore (lv' := [(4, .long (y4 * (100 : Int64))), (0, .ref 81), (1, .int y1), (2, .int y2), (3, .int y3), (6, .int y6)]) dX10_isSpanned_27 (by decide) rfl ?_
      refine g_iinc (v := (y6 + (nI 1))) (lv' := [(6, .int (y6 + (nI 1))), (4, .long (y4 * (100 : Int64))), (0, .ref 81), (1, .int y1), (2, .int y2), (3, .int y3)]) dX10_isSpanned_29 5 rfl rfl (by decide) rfl ?_
      refine g_goto (tgt := 15) dX10_isSpanned_32 (by decide) ?_
      refine g_sub [2, 3, 4, 5, 1, 0] (lv' := [(0, .ref 81), (1, .int y1), (2, .int y2), (3, .int y3), (4, .long (y4 * (100 : Int64))), (6, .int (y6 + (nI 1)))]) rfl ?_
      exact ih _ _  _ h
set_option maxHeartbeats 4000000 in
set_option maxRecDepth 100000 in
theorem s_X10_isSpanned {l : Launch} {B : BT} (hA : bA B = false) {d : Nat} {r : Int32} {M' : Mm} {x1 : Int32} {x2 : Int32} {M : Mm}  (h : f_X10_isSpanned x1 x2 M = some (r, M')) : Con l B LY (d + 1) yX10_isSpanned cX10_isSpanned 7 (some .boolean) 0 0 [.ref 81, .int x1, .int x2] 97 M (PI r M') := by
  refine con_of (by decide) (Nat.le_of_ble_eq_true rfl) ?_
  show GG l B LY (d + 1) yX10_isSpanned cX10_isSpanned 7 (some .boolean) 0 0 (PI r M') 97 0 0 0 [(0, .ref 81), (1, .int x1), (2, .int x2)] [] M
  rw [f_X10_isSpanned] at h
  refine g_aload_n dX10_isSpanned_0 rfl 0 rfl ?_
  refine m_getr (k := 24) okX10 rfl rfl (by decide) w_1293 rfl dX10_isSpanned_1 ?_
  refine g_iload_n dX10_isSpanned_4 rfl 1 rfl ?_
  obtain ⟨hz, h⟩ := gd_s h
  refine m_iald rfl hz dX10_isSpanned_5 ?_
  obtain ⟨t1, et1, h⟩ := lt_e h
  refine g_cuti et1 ?_
  refine g_istore_n (lv' := [(3, .int t1), (0, .ref 81), (1, .int x1), (2, .int x2)]) dX10_isSpanned_6 rfl (by decide) rfl ?_
  refine g_ldc2 (v := 5) w_1784 dX10_isSpanned_7 ?_
  refine g_lstore (lv' := [(4, .long (5 : Int64)), (3, .int t1), (0, .ref 81), (1, .int x1), (2, .int x2)]) dX10_isSpanned_10 (by decide) rfl ?_
  refine g_iconst (v := (nI 1)) dX10_isSpanned_12 (by decide) ?_
  refine g_istore (lv' := [(6, .int (nI 1)), (4, .long (5 : Int64)), (3, .int t1), (0, .ref 81), (1, .int x1), (2, .int x2)]) dX10_isSpanned_13 (by decide) rfl ?_
  refine g_sub [3, 4, 5, 2, 1, 0] (lv' := [(0, .ref 81), (1, .int x1), (2, .int x2), (3, .int t1), (4, .long (5 : Int64)), (6, .int (nI 1))]) rfl ?_
  refine sl_X10_isSpanned_15 hA  ?_ _ _ _ _ h
  · intro u3 M4 h
    refine g_iload_n dX10_isSpanned_35 rfl 3 rfl ?_
    refine g_iload_n dX10_isSpanned_36 rfl 2 rfl ?_
    refine g_aload_n dX10_isSpanned_37 rfl 0 rfl ?_
    refine m_getr (k := 25) okX10 rfl rfl (by decide) w_1294 rfl dX10_isSpanned_38 ?_
    refine g_iload_n dX10_isSpanned_41 rfl 1 rfl ?_
    obtain ⟨hz, h⟩ := gd_s h
    refine m_iald rfl hz dX10_isSpanned_42 ?_
    refine g_iload_n dX10_isSpanned_43 rfl 3 rfl ?_
    obtain ⟨v44_6, M44_5, eM44_5, h⟩ := bd_e h
    refine m_callSl (As := [.int t1, .int x2, .int (M4 92 x1.toNatClampNeg), .int t1]) (st := []) (s_X10_wobbleWays (d := d + 0) hA  eM44_5) ck_X10_wobbleWays w_1785 rfl (Nat.le_of_ble_eq_true rfl) dX10_isSpanned_44 ?_
    refine g_lload dX10_isSpanned_47 4 rfl ?_
    refine g_lcmp dX10_isSpanned_49 ?_
    obtain ⟨j8, ej8, h⟩ := jn_e h
    have hj8 : ∀ (M7 : Mm), j8 M7 = some (r, M') → GG l B LY (d + 1) yX10_isSpanned cX10_isSpanned 7 (some .boolean) 0 0 (PI r M') 97 0 0 75 [] [] M7 := by
      intro M7 h
      rw [ej8] at h
      refine g_iconst (v := (nI 0)) dX10_isSpanned_75 (by decide) ?_
      exact g_zret rfl rfl (pi_of h) dX10_isSpanned_76
    refine g_if_lt (tgt := 75) dX10_isSpanned_50 (by decide) (fun c12 => ?_) (fun c12 => ?_)
    · replace h := ite_p c12 h
      refine g_sub [] (lv' := []) rfl ?_
      exact hj8  _ h
    · replace h := ite_n c12 h
      refine g_iload_n dX10_isSpanned_53 rfl 3 rfl ?_
      refine g_iload_n dX10_isSpanned_54 rfl 2 rfl ?_
      refine g_iconst (v := (nI 0)) dX10_isSpanned_55 (by decide) ?_
      refine g_aload_n dX10_isSpanned_56 rfl 0 rfl ?_
      refine m_getr (k := 25) okX10 rfl rfl (by decide) w_1294 rfl dX10_isSpanned_57 ?_
      refine g_iload_n dX10_isSpanned_60 rfl 1 rfl ?_
      obtain ⟨hz, h⟩ := gd_s h
      refine m_iald rfl hz dX10_isSpanned_61 ?_
      obtain ⟨v62_10, M62_9, eM62_9, h⟩ := bd_e h
      refine m_callSl (As := [.int t1, .int x2, .int (nI 0), .int (M44_5 92 x1.toNatClampNeg)]) (st := []) (s_X10_wobbleWays (d := d + 0) hA  eM62_9) ck_X10_wobbleWays w_1785 rfl (Nat.le_of_ble_eq_true rfl) dX10_isSpanned_62 ?_
      refine g_lload dX10_isSpanned_65 4 rfl ?_
      refine g_lcmp dX10_isSpanned_67 ?_
      refine g_if_lt (tgt := 75) dX10_isSpanned_68 (by decide) (fun c11 => ?_) (fun c11 => ?_)
      · replace h := ite_p c11 h
        refine g_sub [] (lv' := []) rfl ?_
        exact hj8  _ h
      · replace h := ite_n c11 h
        refine g_iconst (v := (nI 1)) dX10_isSpanned_71 (by decide) ?_
        refine g_goto (tgt := 76) dX10_isSpanned_72 (by decide) ?_
        exact g_zret rfl rfl (pi_of h) dX10_isSpanned_76
theorem ck_X10_isSpanned : CKV yX10_isSpanned cX10_isSpanned 7 (some .boolean) 2 := ⟨⟨by decide, by decide, by decide +kernel⟩, w_1783, w_81, ⟨w_1782, w_66⟩, by decide⟩
theorem dX10_spanOf_0 : decode cX10_spanOf 0 = .ok (.iconst (-1), 1) := by decide +kernel
theorem dX10_spanOf_1 : decode cX10_spanOf 1 = .ok (.istore_n 3, 1) := by decide +kernel
theorem dX10_spanOf_2 : decode cX10_spanOf 2 = .ok (.iconst 0, 1) := by decide +kernel
theorem dX10_spanOf_3 : decode cX10_spanOf 3 = .ok (.istore 4, 2) := by decide +kernel
theorem dX10_spanOf_5 : decode cX10_spanOf 5 = .ok (.iload 4, 2) := by decide +kernel
theorem dX10_spanOf_7 : decode cX10_spanOf 7 = .ok (.bipush 100, 2) := by decide +kernel
theorem dX10_spanOf_9 : decode cX10_spanOf 9 = .ok (.if_icmp .gt 30, 3) := by decide +kernel
theorem dX10_spanOf_12 : decode cX10_spanOf 12 = .ok (.aload_n 0, 1) := by decide +kernel
theorem dX10_spanOf_13 : decode cX10_spanOf 13 = .ok (.iload_n 1, 1) := by decide +kernel
theorem dX10_spanOf_14 : decode cX10_spanOf 14 = .ok (.iload 4, 2) := by decide +kernel
theorem dX10_spanOf_16 : decode cX10_spanOf 16 = .ok (.invokevirtual 374, 3) := by decide +kernel
theorem dX10_spanOf_19 : decode cX10_spanOf 19 = .ok (.ifCond .eq 14, 3) := by decide +kernel
theorem dX10_spanOf_22 : decode cX10_spanOf 22 = .ok (.iload_n 2, 1) := by decide +kernel
theorem dX10_spanOf_23 : decode cX10_spanOf 23 = .ok (.ifCond .ne 7, 3) := by decide +kernel
theorem dX10_spanOf_26 : decode cX10_spanOf 26 = .ok (.iload_n 3, 1) := by decide +kernel
theorem dX10_spanOf_27 : decode cX10_spanOf 27 = .ok (.ifCond .ge 6, 3) := by decide +kernel
theorem dX10_spanOf_30 : decode cX10_spanOf 30 = .ok (.iload 4, 2) := by decide +kernel
theorem dX10_spanOf_32 : decode cX10_spanOf 32 = .ok (.istore_n 3, 1) := by decide +kernel
theorem dX10_spanOf_33 : decode cX10_spanOf 33 = .ok (.iinc 4 1, 3) := by decide +kernel
theorem dX10_spanOf_36 : decode cX10_spanOf 36 = .ok (.goto (-31), 3) := by decide +kernel
theorem dX10_spanOf_39 : decode cX10_spanOf 39 = .ok (.iload_n 3, 1) := by decide +kernel
theorem dX10_spanOf_40 : decode cX10_spanOf 40 = .ok (.ireturn, 1) := by decide +kernel
def lp_X10_spanOf_5 (y1 : Int32) (y2 : Int32)  : Nat → Int32 → Int32 → Mm → Option (Int32 × Mm)
  | 0, _, _, _ => none
  | n + 1, y3, y4, M =>
    if (nI 100) < y4 then (some (y3, M)) else (bd (f_X10_isSpanned y1 y4 M) fun v16_2 M16_1 => jn (fun (u3 : Int32) (M4 : Mm) => lp_X10_spanOf_5 y1 y2 n u3 (y4 + (nI 1)) M4) fun j5 => if v16_2 = 0 then (j5 y3 M16_1) else (jn (fun (M6 : Mm) => j5 y4 M6) fun j7 => if y2 = 0 then (if 0 ≤ y3 then (j5 y3 M16_1) else (j7  M16_1)) else (j7  M16_1)))
def f_X10_spanOf (x1 : Int32) (x2 : Int32) (M : Mm) : Option (Int32 × Mm) :=
  lp_X10_spanOf_5 x1 x2  N0 (-1 : Int32) (nI 0) M
set_option maxHeartbeats 4000000 in
set_option maxRecDepth 100000 in
theorem sl_X10_spanOf_5 {l : Launch} {B : BT} (hA : bA B = false) {d : Nat} {r : Int32} {M' : Mm} {y1 : Int32} {y2 : Int32}    :
    ∀ (n : Nat) (y3 : Int32) (y4 : Int32) (M : Mm), lp_X10_spanOf_5 y1 y2 n y3 y4 M = some (r, M') → GG l B LY (d + 2) yX10_spanOf cX10_spanOf 5 (some .int) 0 0 (PI r M') 97 0 0 5 [(0, .ref 81), (1, .int y1), (2, .int y2), (3, .int y3), (4, .int y4)] [] M := by
  intro n
  induction n with
  | zero => intro y3 y4 M h; cases h
  | succ n ih =>
    intro y3 y4 M h
    rw [lp_X10_spanOf_5] at h
    refine g_iload dX10_spanOf_5 4 rfl ?_
    refine g_bipush (v := (nI 100)) dX10_spanOf_7 (by decide) ?_
    refine g_icmp_gt (tgt := 39) dX10_spanOf_9 (by decide) (fun c11 => ?_) (fun c11 => ?_)
    · replace h := ite_p c11 h
      refine g_iload_n dX10_spanOf_39 rfl 3 rfl ?_
      exact g_zret rfl rfl (pi_of h) dX10_spanOf_40
    · replace h := ite_n c11 h
      refine g_aload_n dX10_spanOf_12 rfl 0 rfl ?_
      refine g_iload_n dX10_spanOf_13 rfl 1 rfl ?_
      refine g_iload dX10_spanOf_14 4 rfl ?_
      obtain ⟨v16_2, M16_1, eM16_1, h⟩ := bd_e h
      refine m_callVi (As := [.int y1, .int y4]) (st := []) (s_X10_isSpanned (d := d + 0) hA  eM16_1) rfl okX10 ck_X10_isSpanned w_1780 rfl (Nat.le_of_ble_eq_true rfl) dX10_spanOf_16 ?_
      obtain ⟨j5, ej5, h⟩ := jn_e h
      have hj5 : ∀ (u3 : Int32) (M4 : Mm), j5 u3 M4 = some (r, M') → GG l B LY (d + 2) yX10_spanOf cX10_spanOf 5 (some .int) 0 0 (PI r M') 97 0 0 33 [(0, .ref 81), (1, .int y1), (2, .int y2), (3, .int u3), (4, .int y4)] [] M4 := by
        intro u3 M4 h
        rw [ej5] at h
        refine g_iinc (v := (y4 + (nI 1))) (lv' := [(4, .int (y4 + (nI 1))), (0, .ref 81), (1, .int y1), (2, .int y2), (3, .int u3)]) dX10_spanOf_33 4 rfl rfl (by decide) rfl ?_
        refine g_goto (tgt := 5) dX10_spanOf_36 (by decide) ?_
        refine g_sub [1, 2, 3, 4, 0] (lv' := [(0, .ref 81), (1, .int y1), (2, .int y2), (3, .int u3), (4, .int (y4 + (nI 1)))]) rfl ?_
        exact ih _ _  _ h
      refine g_if_eq (tgt := 33) dX10_spanOf_19 (by decide) (fun c10 => ?_) (fun c10 => ?_)
      · replace h := ite_p c10 h
        refine g_sub [0, 1, 2, 3, 4] (lv' := [(0, .ref 81), (1, .int y1), (2, .int y2), (3, .int y3), (4, .int y4)]) rfl ?_
        exact hj5 _ _ h
      · replace h := ite_n c10 h
        refine g_iload_n dX10_spanOf_22 rfl 2 rfl ?_
        obtain ⟨j7, ej7, h⟩ := jn_e h
        have hj7 : ∀ (M6 : Mm), j7 M6 = some (r, M') → GG l B LY (d + 2) yX10_spanOf cX10_spanOf 5 (some .int) 0 0 (PI r M') 97 0 0 30 [(0, .ref 81), (1, .int y1), (2, .int y2), (4, .int y4)] [] M6 := by
          intro M6 h
          rw [ej7] at h
          refine g_iload dX10_spanOf_30 3 rfl ?_
          refine g_istore_n (lv' := [(3, .int y4), (0, .ref 81), (1, .int y1), (2, .int y2), (4, .int y4)]) dX10_spanOf_32 rfl (by decide) rfl ?_
          refine g_sub [1, 2, 3, 0, 4] (lv' := [(0, .ref 81), (1, .int y1), (2, .int y2), (3, .int y4), (4, .int y4)]) rfl ?_
          exact hj5 _ _ h
        refine g_if_ne (tgt := 30) dX10_spanOf_23 (by decide) (fun c9 => ?_) (fun c9 => ?_)
        · replace h := ite_n c9 h
          refine g_sub [0, 1, 2, 4] (lv' := [(0, .ref 81), (1, .int y1), (2, .int y2), (4, .int y4)]) rfl ?_
          exact hj7  _ h
        · replace h := ite_p c9 h
          refine g_iload_n dX10_spanOf_26 rfl 3 rfl ?_
          refine g_if_ge (tgt := 33) dX10_spanOf_27 (by decide) (fun c8 => ?_) (fun c8 => ?_)
          · replace h := ite_p c8 h
            refine g_sub [0, 1, 2, 3, 4] (lv' := [(0, .ref 81), (1, .int y1), (2, .int y2), (3, .int y3), (4, .int y4)]) rfl ?_
            exact hj5 _ _ h
          · replace h := ite_n c8 h
            refine g_sub [0, 1, 2, 4] (lv' := [(0, .ref 81), (1, .int y1), (2, .int y2), (4, .int y4)]) rfl ?_
            exact hj7  _ h
set_option maxHeartbeats 4000000 in
set_option maxRecDepth 100000 in
theorem s_X10_spanOf {l : Launch} {B : BT} (hA : bA B = false) {d : Nat} {r : Int32} {M' : Mm} {x1 : Int32} {x2 : Int32} {M : Mm}  (h : f_X10_spanOf x1 x2 M = some (r, M')) : Con l B LY (d + 2) yX10_spanOf cX10_spanOf 5 (some .int) 0 0 [.ref 81, .int x1, .int x2] 97 M (PI r M') := by
  refine con_of (by decide) (Nat.le_of_ble_eq_true rfl) ?_
  show GG l B LY (d + 2) yX10_spanOf cX10_spanOf 5 (some .int) 0 0 (PI r M') 97 0 0 0 [(0, .ref 81), (1, .int x1), (2, .int x2)] [] M
  rw [f_X10_spanOf] at h
  refine g_iconst (v := (-1 : Int32)) dX10_spanOf_0 (by decide) ?_
  refine g_istore_n (lv' := [(3, .int (-1 : Int32)), (0, .ref 81), (1, .int x1), (2, .int x2)]) dX10_spanOf_1 rfl (by decide) rfl ?_
  refine g_iconst (v := (nI 0)) dX10_spanOf_2 (by decide) ?_
  refine g_istore (lv' := [(4, .int (nI 0)), (3, .int (-1 : Int32)), (0, .ref 81), (1, .int x1), (2, .int x2)]) dX10_spanOf_3 (by decide) rfl ?_
  refine g_sub [2, 3, 4, 1, 0] (lv' := [(0, .ref 81), (1, .int x1), (2, .int x2), (3, .int (-1 : Int32)), (4, .int (nI 0))]) rfl ?_
  refine sl_X10_spanOf_5 hA   _ _ _ _ h
theorem ck_X10_spanOf : CKV yX10_spanOf cX10_spanOf 5 (some .int) 2 := ⟨⟨by decide, by decide, by decide +kernel⟩, w_1779, w_81, ⟨w_1778, w_65⟩, by decide⟩
theorem dX10_spanWhy_0 : decode cX10_spanWhy 0 = .ok (.aload_n 0, 1) := by decide +kernel
theorem dX10_spanWhy_1 : decode cX10_spanWhy 1 = .ok (.iload_n 1, 1) := by decide +kernel
theorem dX10_spanWhy_2 : decode cX10_spanWhy 2 = .ok (.invokevirtual 278, 3) := by decide +kernel
theorem dX10_spanWhy_5 : decode cX10_spanWhy 5 = .ok (.ifCond .ne 7, 3) := by decide +kernel
theorem dX10_spanWhy_8 : decode cX10_spanWhy 8 = .ok (.iconst 1, 1) := by decide +kernel
theorem dX10_spanWhy_9 : decode cX10_spanWhy 9 = .ok (.goto 18, 3) := by decide +kernel
theorem dX10_spanWhy_12 : decode cX10_spanWhy 12 = .ok (.aload_n 0, 1) := by decide +kernel
theorem dX10_spanWhy_13 : decode cX10_spanWhy 13 = .ok (.getfield 44, 3) := by decide +kernel
theorem dX10_spanWhy_16 : decode cX10_spanWhy 16 = .ok (.iload_n 1, 1) := by decide +kernel
theorem dX10_spanWhy_17 : decode cX10_spanWhy 17 = .ok (.iaload, 1) := by decide +kernel
theorem dX10_spanWhy_18 : decode cX10_spanWhy 18 = .ok (.ifCond .ne 8, 3) := by decide +kernel
theorem dX10_spanWhy_21 : decode cX10_spanWhy 21 = .ok (.bipush 6, 2) := by decide +kernel
theorem dX10_spanWhy_23 : decode cX10_spanWhy 23 = .ok (.goto 4, 3) := by decide +kernel
theorem dX10_spanWhy_26 : decode cX10_spanWhy 26 = .ok (.iconst 0, 1) := by decide +kernel
theorem dX10_spanWhy_27 : decode cX10_spanWhy 27 = .ok (.ireturn, 1) := by decide +kernel
def f_X10_spanWhy (x1 : Int32) (M : Mm) : Option (Int32 × Mm) :=
  bd (f_X10_isCreeper x1 M) fun v2_2 M2_1 => if v2_2 = 0 then (some ((nI 1), M2_1)) else (gd (inb x1 5) <| if (M2_1 91 x1.toNatClampNeg) = 0 then (some ((nI 6), M2_1)) else (some ((nI 0), M2_1)))
set_option maxHeartbeats 4000000 in
set_option maxRecDepth 100000 in
theorem s_X10_spanWhy {l : Launch} {B : BT} (hA : bA B = false) {d : Nat} {r : Int32} {M' : Mm} {x1 : Int32} {M : Mm}  (h : f_X10_spanWhy x1 M = some (r, M')) : Con l B LY (d + 2) yX10_spanWhy cX10_spanWhy 2 (some .int) 0 0 [.ref 81, .int x1] 97 M (PI r M') := by
  refine con_of (by decide) (Nat.le_of_ble_eq_true rfl) ?_
  show GG l B LY (d + 2) yX10_spanWhy cX10_spanWhy 2 (some .int) 0 0 (PI r M') 97 0 0 0 [(0, .ref 81), (1, .int x1)] [] M
  rw [f_X10_spanWhy] at h
  refine g_aload_n dX10_spanWhy_0 rfl 0 rfl ?_
  refine g_iload_n dX10_spanWhy_1 rfl 1 rfl ?_
  obtain ⟨v2_2, M2_1, eM2_1, h⟩ := bd_e h
  refine m_callVi (As := [.int x1]) (st := []) (s_X10_isCreeper (d := d + 0) hA  eM2_1) rfl okX10 ck_X10_isCreeper w_1572 rfl (Nat.le_of_ble_eq_true rfl) dX10_spanWhy_2 ?_
  refine g_if_ne (tgt := 12) dX10_spanWhy_5 (by decide) (fun c4 => ?_) (fun c4 => ?_)
  · replace h := ite_n c4 h
    refine g_aload_n dX10_spanWhy_12 rfl 0 rfl ?_
    refine m_getr (k := 24) okX10 rfl rfl (by decide) w_1293 rfl dX10_spanWhy_13 ?_
    refine g_iload_n dX10_spanWhy_16 rfl 1 rfl ?_
    obtain ⟨hz, h⟩ := gd_s h
    refine m_iald rfl hz dX10_spanWhy_17 ?_
    refine g_if_ne (tgt := 26) dX10_spanWhy_18 (by decide) (fun c3 => ?_) (fun c3 => ?_)
    · replace h := ite_n c3 h
      refine g_iconst (v := (nI 0)) dX10_spanWhy_26 (by decide) ?_
      exact g_zret rfl rfl (pi_of h) dX10_spanWhy_27
    · replace h := ite_p c3 h
      refine g_bipush (v := (nI 6)) dX10_spanWhy_21 (by decide) ?_
      refine g_goto (tgt := 27) dX10_spanWhy_23 (by decide) ?_
      exact g_zret rfl rfl (pi_of h) dX10_spanWhy_27
  · replace h := ite_p c4 h
    refine g_iconst (v := (nI 1)) dX10_spanWhy_8 (by decide) ?_
    refine g_goto (tgt := 27) dX10_spanWhy_9 (by decide) ?_
    exact g_zret rfl rfl (pi_of h) dX10_spanWhy_27
theorem ck_X10_spanWhy : CKV yX10_spanWhy cX10_spanWhy 2 (some .int) 1 := ⟨⟨by decide, by decide, by decide +kernel⟩, w_1775, w_81, ⟨w_1774, w_64⟩, by decide⟩
theorem dX10_span_0 : decode cX10_span 0 = .ok (.aload_n 0, 1) := by decide +kernel
theorem dX10_span_1 : decode cX10_span 1 = .ok (.invokevirtual 156, 3) := by decide +kernel
theorem dX10_span_4 : decode cX10_span 4 = .ok (.aload_n 0, 1) := by decide +kernel
theorem dX10_span_5 : decode cX10_span 5 = .ok (.iload_n 1, 1) := by decide +kernel
theorem dX10_span_6 : decode cX10_span 6 = .ok (.invokevirtual 377, 3) := by decide +kernel
theorem dX10_span_9 : decode cX10_span 9 = .ok (.istore_n 3, 1) := by decide +kernel
theorem dX10_span_10 : decode cX10_span 10 = .ok (.iload_n 3, 1) := by decide +kernel
theorem dX10_span_11 : decode cX10_span 11 = .ok (.ifCond .eq 11, 3) := by decide +kernel
theorem dX10_span_14 : decode cX10_span 14 = .ok (.aload_n 0, 1) := by decide +kernel
theorem dX10_span_15 : decode cX10_span 15 = .ok (.iload_n 3, 1) := by decide +kernel
theorem dX10_span_16 : decode cX10_span 16 = .ok (.invokevirtual 159, 3) := by decide +kernel
theorem dX10_span_19 : decode cX10_span 19 = .ok (.goto 9, 3) := by decide +kernel
theorem dX10_span_22 : decode cX10_span 22 = .ok (.aload_n 0, 1) := by decide +kernel
theorem dX10_span_23 : decode cX10_span 23 = .ok (.iload_n 1, 1) := by decide +kernel
theorem dX10_span_24 : decode cX10_span 24 = .ok (.iload_n 2, 1) := by decide +kernel
theorem dX10_span_25 : decode cX10_span 25 = .ok (.invokevirtual 380, 3) := by decide +kernel
theorem dX10_span_28 : decode cX10_span 28 = .ok (.ireturn, 1) := by decide +kernel
def f_X10_span (x1 : Int32) (x2 : Int32) (M : Mm) : Option (Int32 × Mm) :=
  bv (f_X10_good  M) fun M1_1 => bd (f_X10_spanWhy x1 M1_1) fun v6_4 M6_3 => if v6_4 = 0 then (bd (f_X10_spanOf x1 x2 M6_3) fun v25_6 M25_5 => some (v25_6, M25_5)) else (bd (f_X10_no v6_4 M6_3) fun v16_8 M16_7 => some (v16_8, M16_7))
set_option maxHeartbeats 4000000 in
set_option maxRecDepth 100000 in
theorem s_X10_span {l : Launch} {B : BT} (hA : bA B = false) {d : Nat} {r : Int32} {M' : Mm} {x1 : Int32} {x2 : Int32} {M : Mm}  (h : f_X10_span x1 x2 M = some (r, M')) : Con l B LY (d + 3) yX10_span cX10_span 4 (some .int) 0 0 [.ref 81, .int x1, .int x2] 97 M (PI r M') := by
  refine con_of (by decide) (Nat.le_of_ble_eq_true rfl) ?_
  show GG l B LY (d + 3) yX10_span cX10_span 4 (some .int) 0 0 (PI r M') 97 0 0 0 [(0, .ref 81), (1, .int x1), (2, .int x2)] [] M
  rw [f_X10_span] at h
  refine g_aload_n dX10_span_0 rfl 0 rfl ?_
  obtain ⟨M1_1, eM1_1, h⟩ := bv_e h
  refine m_callVv (As := []) (st := []) (s_X10_good (d := d + 2) hA  eM1_1) rfl okX10 ck_X10_good w_1381 rfl (Nat.le_of_ble_eq_true rfl) dX10_span_1 ?_
  refine g_aload_n dX10_span_4 rfl 0 rfl ?_
  refine g_iload_n dX10_span_5 rfl 1 rfl ?_
  obtain ⟨v6_4, M6_3, eM6_3, h⟩ := bd_e h
  refine m_callVi (As := [.int x1]) (st := []) (s_X10_spanWhy (d := d + 0) hA  eM6_3) rfl okX10 ck_X10_spanWhy w_1772 rfl (Nat.le_of_ble_eq_true rfl) dX10_span_6 ?_
  refine g_istore_n (lv' := [(3, .int v6_4), (0, .ref 81), (1, .int x1), (2, .int x2)]) dX10_span_9 rfl (by decide) rfl ?_
  refine g_iload_n dX10_span_10 rfl 0 rfl ?_
  refine g_if_eq (tgt := 22) dX10_span_11 (by decide) (fun c9 => ?_) (fun c9 => ?_)
  · replace h := ite_p c9 h
    refine g_aload_n dX10_span_22 rfl 1 rfl ?_
    refine g_iload_n dX10_span_23 rfl 2 rfl ?_
    refine g_iload_n dX10_span_24 rfl 3 rfl ?_
    obtain ⟨v25_6, M25_5, eM25_5, h⟩ := bd_e h
    refine m_callVi (As := [.int x1, .int x2]) (st := []) (s_X10_spanOf (d := d + 0) hA  eM25_5) rfl okX10 ck_X10_spanOf w_1776 rfl (Nat.le_of_ble_eq_true rfl) dX10_span_25 ?_
    exact g_zret rfl rfl (pi_of h) dX10_span_28
  · replace h := ite_n c9 h
    refine g_aload_n dX10_span_14 rfl 1 rfl ?_
    refine g_iload_n dX10_span_15 rfl 0 rfl ?_
    obtain ⟨v16_8, M16_7, eM16_7, h⟩ := bd_e h
    refine m_callVi (As := [.int v6_4]) (st := []) (s_X10_no (d := d + 2) hA  eM16_7) rfl okX10 ck_X10_no w_1388 rfl (Nat.le_of_ble_eq_true rfl) dX10_span_16 ?_
    refine g_goto (tgt := 28) dX10_span_19 (by decide) ?_
    exact g_zret rfl rfl (pi_of h) dX10_span_28
theorem ck_X10_span : CKV yX10_span cX10_span 4 (some .int) 2 := ⟨⟨by decide, by decide, by decide +kernel⟩, w_1771, w_81, ⟨w_1769, w_1770⟩, by decide⟩
theorem dX10_fits_0 : decode cX10_fits 0 = .ok (.aload_n 0, 1) := by decide +kernel
theorem dX10_fits_1 : decode cX10_fits 1 = .ok (.invokevirtual 156, 3) := by decide +kernel
theorem dX10_fits_4 : decode cX10_fits 4 = .ok (.aload_n 0, 1) := by decide +kernel
theorem dX10_fits_5 : decode cX10_fits 5 = .ok (.iload_n 1, 1) := by decide +kernel
theorem dX10_fits_6 : decode cX10_fits 6 = .ok (.invokevirtual 377, 3) := by decide +kernel
theorem dX10_fits_9 : decode cX10_fits 9 = .ok (.istore_n 2, 1) := by decide +kernel
theorem dX10_fits_10 : decode cX10_fits 10 = .ok (.iload_n 2, 1) := by decide +kernel
theorem dX10_fits_11 : decode cX10_fits 11 = .ok (.ifCond .eq 11, 3) := by decide +kernel
theorem dX10_fits_14 : decode cX10_fits 14 = .ok (.aload_n 0, 1) := by decide +kernel
theorem dX10_fits_15 : decode cX10_fits 15 = .ok (.iload_n 2, 1) := by decide +kernel
theorem dX10_fits_16 : decode cX10_fits 16 = .ok (.invokevirtual 159, 3) := by decide +kernel
theorem dX10_fits_19 : decode cX10_fits 19 = .ok (.goto 35, 3) := by decide +kernel
theorem dX10_fits_22 : decode cX10_fits 22 = .ok (.aload_n 0, 1) := by decide +kernel
theorem dX10_fits_23 : decode cX10_fits 23 = .ok (.getfield 20, 3) := by decide +kernel
theorem dX10_fits_26 : decode cX10_fits 26 = .ok (.bipush 66, 2) := by decide +kernel
theorem dX10_fits_28 : decode cX10_fits 28 = .ok (.iload_n 1, 1) := by decide +kernel
theorem dX10_fits_29 : decode cX10_fits 29 = .ok (.iadd, 1) := by decide +kernel
theorem dX10_fits_30 : decode cX10_fits 30 = .ok (.iaload, 1) := by decide +kernel
theorem dX10_fits_31 : decode cX10_fits 31 = .ok (.aload_n 0, 1) := by decide +kernel
theorem dX10_fits_32 : decode cX10_fits 32 = .ok (.iload_n 1, 1) := by decide +kernel
theorem dX10_fits_33 : decode cX10_fits 33 = .ok (.iconst 0, 1) := by decide +kernel
theorem dX10_fits_34 : decode cX10_fits 34 = .ok (.invokevirtual 380, 3) := by decide +kernel
theorem dX10_fits_37 : decode cX10_fits 37 = .ok (.aload_n 0, 1) := by decide +kernel
theorem dX10_fits_38 : decode cX10_fits 38 = .ok (.iload_n 1, 1) := by decide +kernel
theorem dX10_fits_39 : decode cX10_fits 39 = .ok (.iconst 1, 1) := by decide +kernel
theorem dX10_fits_40 : decode cX10_fits 40 = .ok (.invokevirtual 380, 3) := by decide +kernel
theorem dX10_fits_43 : decode cX10_fits 43 = .ok (.invokestatic 144, 3) := by decide +kernel
theorem dX10_fits_46 : decode cX10_fits 46 = .ok (.ifCond .eq 7, 3) := by decide +kernel
theorem dX10_fits_49 : decode cX10_fits 49 = .ok (.iconst 1, 1) := by decide +kernel
theorem dX10_fits_50 : decode cX10_fits 50 = .ok (.goto 4, 3) := by decide +kernel
theorem dX10_fits_53 : decode cX10_fits 53 = .ok (.iconst 0, 1) := by decide +kernel
theorem dX10_fits_54 : decode cX10_fits 54 = .ok (.ireturn, 1) := by decide +kernel
def f_X10_fits (x1 : Int32) (M : Mm) : Option (Int32 × Mm) :=
  bv (f_X10_good  M) fun M1_1 => bd (f_X10_spanWhy x1 M1_1) fun v6_4 M6_3 => if v6_4 = 0 then (gd (inb ((nI 66) + x1) 141) <| bd (f_X10_spanOf x1 (nI 0) M6_3) fun v34_6 M34_5 => bd (f_X10_spanOf x1 (nI 1) M34_5) fun v40_8 M40_7 => bd (f_X10_within (M6_3 84 ((nI 66) + x1).toNatClampNeg) v34_6 v40_8 M40_7) fun v43_10 M43_9 => if v43_10 = 0 then (some ((nI 0), M43_9)) else (some ((nI 1), M43_9))) else (bd (f_X10_no v6_4 M6_3) fun v16_13 M16_12 => some (v16_13, M16_12))
set_option maxHeartbeats 4000000 in
set_option maxRecDepth 100000 in
theorem s_X10_fits {l : Launch} {B : BT} (hA : bA B = false) {d : Nat} {r : Int32} {M' : Mm} {x1 : Int32} {M : Mm}  (h : f_X10_fits x1 M = some (r, M')) : Con l B LY (d + 3) yX10_fits cX10_fits 3 (some .int) 0 0 [.ref 81, .int x1] 97 M (PI r M') := by
  refine con_of (by decide) (Nat.le_of_ble_eq_true rfl) ?_
  show GG l B LY (d + 3) yX10_fits cX10_fits 3 (some .int) 0 0 (PI r M') 97 0 0 0 [(0, .ref 81), (1, .int x1)] [] M
  rw [f_X10_fits] at h
  refine g_aload_n dX10_fits_0 rfl 0 rfl ?_
  obtain ⟨M1_1, eM1_1, h⟩ := bv_e h
  refine m_callVv (As := []) (st := []) (s_X10_good (d := d + 2) hA  eM1_1) rfl okX10 ck_X10_good w_1381 rfl (Nat.le_of_ble_eq_true rfl) dX10_fits_1 ?_
  refine g_aload_n dX10_fits_4 rfl 0 rfl ?_
  refine g_iload_n dX10_fits_5 rfl 1 rfl ?_
  obtain ⟨v6_4, M6_3, eM6_3, h⟩ := bd_e h
  refine m_callVi (As := [.int x1]) (st := []) (s_X10_spanWhy (d := d + 0) hA  eM6_3) rfl okX10 ck_X10_spanWhy w_1772 rfl (Nat.le_of_ble_eq_true rfl) dX10_fits_6 ?_
  refine g_istore_n (lv' := [(2, .int v6_4), (0, .ref 81), (1, .int x1)]) dX10_fits_9 rfl (by decide) rfl ?_
  refine g_iload_n dX10_fits_10 rfl 0 rfl ?_
  refine g_if_eq (tgt := 22) dX10_fits_11 (by decide) (fun c14 => ?_) (fun c14 => ?_)
  · replace h := ite_p c14 h
    refine g_aload_n dX10_fits_22 rfl 1 rfl ?_
    refine m_getr (k := 15) okX10 rfl rfl (by decide) w_1284 rfl dX10_fits_23 ?_
    refine g_bipush (v := (nI 66)) dX10_fits_26 (by decide) ?_
    refine g_iload_n dX10_fits_28 rfl 2 rfl ?_
    refine g_iadd dX10_fits_29 ?_
    obtain ⟨hz, h⟩ := gd_s h
    refine m_iald rfl hz dX10_fits_30 ?_
    refine g_aload_n dX10_fits_31 rfl 1 rfl ?_
    refine g_iload_n dX10_fits_32 rfl 2 rfl ?_
    refine g_iconst (v := (nI 0)) dX10_fits_33 (by decide) ?_
    obtain ⟨v34_6, M34_5, eM34_5, h⟩ := bd_e h
    refine m_callVi (As := [.int x1, .int (nI 0)]) (st := [.int (M6_3 84 ((nI 66) + x1).toNatClampNeg)]) (s_X10_spanOf (d := d + 0) hA  eM34_5) rfl okX10 ck_X10_spanOf w_1776 rfl (Nat.le_of_ble_eq_true rfl) dX10_fits_34 ?_
    refine g_aload_n dX10_fits_37 rfl 1 rfl ?_
    refine g_iload_n dX10_fits_38 rfl 2 rfl ?_
    refine g_iconst (v := (nI 1)) dX10_fits_39 (by decide) ?_
    obtain ⟨v40_8, M40_7, eM40_7, h⟩ := bd_e h
    refine m_callVi (As := [.int x1, .int (nI 1)]) (st := [.int v34_6, .int (M6_3 84 ((nI 66) + x1).toNatClampNeg)]) (s_X10_spanOf (d := d + 0) hA  eM40_7) rfl okX10 ck_X10_spanOf w_1776 rfl (Nat.le_of_ble_eq_true rfl) dX10_fits_40 ?_
    obtain ⟨v43_10, M43_9, eM43_9, h⟩ := bd_e h
    refine m_callSi (As := [.int (M6_3 84 ((nI 66) + x1).toNatClampNeg), .int v34_6, .int v40_8]) (st := []) (s_X10_within (d := d + 2) hA  eM43_9) ck_X10_within w_1385 rfl (Nat.le_of_ble_eq_true rfl) dX10_fits_43 ?_
    refine g_if_eq (tgt := 53) dX10_fits_46 (by decide) (fun c11 => ?_) (fun c11 => ?_)
    · replace h := ite_p c11 h
      refine g_iconst (v := (nI 0)) dX10_fits_53 (by decide) ?_
      exact g_zret rfl rfl (pi_of h) dX10_fits_54
    · replace h := ite_n c11 h
      refine g_iconst (v := (nI 1)) dX10_fits_49 (by decide) ?_
      refine g_goto (tgt := 54) dX10_fits_50 (by decide) ?_
      exact g_zret rfl rfl (pi_of h) dX10_fits_54
  · replace h := ite_n c14 h
    refine g_aload_n dX10_fits_14 rfl 1 rfl ?_
    refine g_iload_n dX10_fits_15 rfl 0 rfl ?_
    obtain ⟨v16_13, M16_12, eM16_12, h⟩ := bd_e h
    refine m_callVi (As := [.int v6_4]) (st := []) (s_X10_no (d := d + 2) hA  eM16_12) rfl okX10 ck_X10_no w_1388 rfl (Nat.le_of_ble_eq_true rfl) dX10_fits_16 ?_
    refine g_goto (tgt := 54) dX10_fits_19 (by decide) ?_
    exact g_zret rfl rfl (pi_of h) dX10_fits_54
theorem ck_X10_fits : CKV yX10_fits cX10_fits 3 (some .int) 1 := ⟨⟨by decide, by decide, by decide +kernel⟩, w_1791, w_81, ⟨w_1789, w_1790⟩, by decide⟩
theorem dX10_home_0 : decode cX10_home 0 = .ok (.aload_n 0, 1) := by decide +kernel
theorem dX10_home_1 : decode cX10_home 1 = .ok (.invokevirtual 156, 3) := by decide +kernel
theorem dX10_home_4 : decode cX10_home 4 = .ok (.aload_n 0, 1) := by decide +kernel
theorem dX10_home_5 : decode cX10_home 5 = .ok (.iload_n 1, 1) := by decide +kernel
theorem dX10_home_6 : decode cX10_home 6 = .ok (.invokevirtual 278, 3) := by decide +kernel
theorem dX10_home_9 : decode cX10_home 9 = .ok (.ifCond .ne 9, 3) := by decide +kernel
theorem dX10_home_12 : decode cX10_home 12 = .ok (.aload_n 0, 1) := by decide +kernel
theorem dX10_home_13 : decode cX10_home 13 = .ok (.iconst 1, 1) := by decide +kernel
theorem dX10_home_14 : decode cX10_home 14 = .ok (.invokevirtual 159, 3) := by decide +kernel
theorem dX10_home_17 : decode cX10_home 17 = .ok (.ireturn, 1) := by decide +kernel
theorem dX10_home_18 : decode cX10_home 18 = .ok (.iload_n 2, 1) := by decide +kernel
theorem dX10_home_19 : decode cX10_home 19 = .ok (.iconst 0, 1) := by decide +kernel
theorem dX10_home_20 : decode cX10_home 20 = .ok (.aload_n 0, 1) := by decide +kernel
theorem dX10_home_21 : decode cX10_home 21 = .ok (.getfield 20, 3) := by decide +kernel
theorem dX10_home_24 : decode cX10_home 24 = .ok (.iconst 0, 1) := by decide +kernel
theorem dX10_home_25 : decode cX10_home 25 = .ok (.iaload, 1) := by decide +kernel
theorem dX10_home_26 : decode cX10_home 26 = .ok (.invokestatic 144, 3) := by decide +kernel
theorem dX10_home_29 : decode cX10_home 29 = .ok (.ifCond .eq 20, 3) := by decide +kernel
theorem dX10_home_32 : decode cX10_home 32 = .ok (.aload_n 0, 1) := by decide +kernel
theorem dX10_home_33 : decode cX10_home 33 = .ok (.iload_n 1, 1) := by decide +kernel
theorem dX10_home_34 : decode cX10_home 34 = .ok (.iload_n 2, 1) := by decide +kernel
theorem dX10_home_35 : decode cX10_home 35 = .ok (.invokevirtual 258, 3) := by decide +kernel
theorem dX10_home_38 : decode cX10_home 38 = .ok (.ifCond .eq 7, 3) := by decide +kernel
theorem dX10_home_41 : decode cX10_home 41 = .ok (.iconst 1, 1) := by decide +kernel
theorem dX10_home_42 : decode cX10_home 42 = .ok (.goto 12, 3) := by decide +kernel
theorem dX10_home_45 : decode cX10_home 45 = .ok (.iconst 0, 1) := by decide +kernel
theorem dX10_home_46 : decode cX10_home 46 = .ok (.goto 8, 3) := by decide +kernel
theorem dX10_home_49 : decode cX10_home 49 = .ok (.aload_n 0, 1) := by decide +kernel
theorem dX10_home_50 : decode cX10_home 50 = .ok (.iconst 2, 1) := by decide +kernel
theorem dX10_home_51 : decode cX10_home 51 = .ok (.invokevirtual 159, 3) := by decide +kernel
theorem dX10_home_54 : decode cX10_home 54 = .ok (.ireturn, 1) := by decide +kernel
def f_X10_home (x1 : Int32) (x2 : Int32) (M : Mm) : Option (Int32 × Mm) :=
  bv (f_X10_good  M) fun M1_1 => bd (f_X10_isCreeper x1 M1_1) fun v6_4 M6_3 => if v6_4 = 0 then (bd (f_X10_no (nI 1) M6_3) fun v14_14 M14_13 => some (v14_14, M14_13)) else (bd (f_X10_within x2 (nI 0) (M6_3 84 0) M6_3) fun v26_6 M26_5 => if v26_6 = 0 then (bd (f_X10_no (nI 2) M26_5) fun v51_8 M51_7 => some (v51_8, M51_7)) else (bd (f_X10_isCaught x1 x2 M26_5) fun v35_10 M35_9 => if v35_10 = 0 then (some ((nI 0), M35_9)) else (some ((nI 1), M35_9))))
set_option maxHeartbeats 4000000 in
set_option maxRecDepth 100000 in
theorem s_X10_home {l : Launch} {B : BT} (hA : bA B = false) {d : Nat} {r : Int32} {M' : Mm} {x1 : Int32} {x2 : Int32} {M : Mm}  (h : f_X10_home x1 x2 M = some (r, M')) : Con l B LY (d + 2) yX10_home cX10_home 3 (some .int) 0 0 [.ref 81, .int x1, .int x2] 97 M (PI r M') := by
  refine con_of (by decide) (Nat.le_of_ble_eq_true rfl) ?_
  show GG l B LY (d + 2) yX10_home cX10_home 3 (some .int) 0 0 (PI r M') 97 0 0 0 [(0, .ref 81), (1, .int x1), (2, .int x2)] [] M
  rw [f_X10_home] at h
  refine g_aload_n dX10_home_0 rfl 0 rfl ?_
  obtain ⟨M1_1, eM1_1, h⟩ := bv_e h
  refine m_callVv (As := []) (st := []) (s_X10_good (d := d + 1) hA  eM1_1) rfl okX10 ck_X10_good w_1381 rfl (Nat.le_of_ble_eq_true rfl) dX10_home_1 ?_
  refine g_aload_n dX10_home_4 rfl 0 rfl ?_
  refine g_iload_n dX10_home_5 rfl 1 rfl ?_
  obtain ⟨v6_4, M6_3, eM6_3, h⟩ := bd_e h
  refine m_callVi (As := [.int x1]) (st := []) (s_X10_isCreeper (d := d + 0) hA  eM6_3) rfl okX10 ck_X10_isCreeper w_1572 rfl (Nat.le_of_ble_eq_true rfl) dX10_home_6 ?_
  refine g_if_ne (tgt := 18) dX10_home_9 (by decide) (fun c15 => ?_) (fun c15 => ?_)
  · replace h := ite_n c15 h
    refine g_iload_n dX10_home_18 rfl 2 rfl ?_
    refine g_iconst (v := (nI 0)) dX10_home_19 (by decide) ?_
    refine g_aload_n dX10_home_20 rfl 0 rfl ?_
    refine m_getr (k := 15) okX10 rfl rfl (by decide) w_1284 rfl dX10_home_21 ?_
    refine g_iconst (v := (nI 0)) dX10_home_24 (by decide) ?_
    refine m_ialdL (k := 0) rfl rfl (by decide) dX10_home_25 ?_
    obtain ⟨v26_6, M26_5, eM26_5, h⟩ := bd_e h
    refine m_callSi (As := [.int x2, .int (nI 0), .int (M6_3 84 0)]) (st := []) (s_X10_within (d := d + 1) hA  eM26_5) ck_X10_within w_1385 rfl (Nat.le_of_ble_eq_true rfl) dX10_home_26 ?_
    refine g_if_eq (tgt := 49) dX10_home_29 (by decide) (fun c12 => ?_) (fun c12 => ?_)
    · replace h := ite_p c12 h
      refine g_aload_n dX10_home_49 rfl 0 rfl ?_
      refine g_iconst (v := (nI 2)) dX10_home_50 (by decide) ?_
      obtain ⟨v51_8, M51_7, eM51_7, h⟩ := bd_e h
      refine m_callVi (As := [.int (nI 2)]) (st := []) (s_X10_no (d := d + 1) hA  eM51_7) rfl okX10 ck_X10_no w_1388 rfl (Nat.le_of_ble_eq_true rfl) dX10_home_51 ?_
      exact g_zret rfl rfl (pi_of h) dX10_home_54
    · replace h := ite_n c12 h
      refine g_aload_n dX10_home_32 rfl 0 rfl ?_
      refine g_iload_n dX10_home_33 rfl 1 rfl ?_
      refine g_iload_n dX10_home_34 rfl 2 rfl ?_
      obtain ⟨v35_10, M35_9, eM35_9, h⟩ := bd_e h
      refine m_callVi (As := [.int x1, .int x2]) (st := []) (s_X10_isCaught (d := d + 0) hA  eM35_9) rfl okX10 ck_X10_isCaught w_1536 rfl (Nat.le_of_ble_eq_true rfl) dX10_home_35 ?_
      refine g_if_eq (tgt := 45) dX10_home_38 (by decide) (fun c11 => ?_) (fun c11 => ?_)
      · replace h := ite_p c11 h
        refine g_iconst (v := (nI 0)) dX10_home_45 (by decide) ?_
        refine g_goto (tgt := 54) dX10_home_46 (by decide) ?_
        exact g_zret rfl rfl (pi_of h) dX10_home_54
      · replace h := ite_n c11 h
        refine g_iconst (v := (nI 1)) dX10_home_41 (by decide) ?_
        refine g_goto (tgt := 54) dX10_home_42 (by decide) ?_
        exact g_zret rfl rfl (pi_of h) dX10_home_54
  · replace h := ite_p c15 h
    refine g_aload_n dX10_home_12 rfl 0 rfl ?_
    refine g_iconst (v := (nI 1)) dX10_home_13 (by decide) ?_
    obtain ⟨v14_14, M14_13, eM14_13, h⟩ := bd_e h
    refine m_callVi (As := [.int (nI 1)]) (st := []) (s_X10_no (d := d + 1) hA  eM14_13) rfl okX10 ck_X10_no w_1388 rfl (Nat.le_of_ble_eq_true rfl) dX10_home_14 ?_
    exact g_zret rfl rfl (pi_of h) dX10_home_17
theorem ck_X10_home : CKV yX10_home cX10_home 3 (some .int) 2 := ⟨⟨by decide, by decide, by decide +kernel⟩, w_1795, w_81, ⟨w_1793, w_1794⟩, by decide⟩
theorem dX10_far_0 : decode cX10_far 0 = .ok (.aload_n 0, 1) := by decide +kernel
theorem dX10_far_1 : decode cX10_far 1 = .ok (.invokevirtual 156, 3) := by decide +kernel
theorem dX10_far_4 : decode cX10_far 4 = .ok (.aload_n 0, 1) := by decide +kernel
theorem dX10_far_5 : decode cX10_far 5 = .ok (.iload_n 1, 1) := by decide +kernel
theorem dX10_far_6 : decode cX10_far 6 = .ok (.invokevirtual 278, 3) := by decide +kernel
theorem dX10_far_9 : decode cX10_far 9 = .ok (.ifCond .ne 9, 3) := by decide +kernel
theorem dX10_far_12 : decode cX10_far 12 = .ok (.aload_n 0, 1) := by decide +kernel
theorem dX10_far_13 : decode cX10_far 13 = .ok (.iconst 1, 1) := by decide +kernel
theorem dX10_far_14 : decode cX10_far 14 = .ok (.invokevirtual 159, 3) := by decide +kernel
theorem dX10_far_17 : decode cX10_far 17 = .ok (.ireturn, 1) := by decide +kernel
theorem dX10_far_18 : decode cX10_far 18 = .ok (.aload_n 0, 1) := by decide +kernel
theorem dX10_far_19 : decode cX10_far 19 = .ok (.getfield 20, 3) := by decide +kernel
theorem dX10_far_22 : decode cX10_far 22 = .ok (.iconst 0, 1) := by decide +kernel
theorem dX10_far_23 : decode cX10_far 23 = .ok (.iaload, 1) := by decide +kernel
theorem dX10_far_24 : decode cX10_far 24 = .ok (.istore_n 2, 1) := by decide +kernel
theorem dX10_far_25 : decode cX10_far 25 = .ok (.aload_n 0, 1) := by decide +kernel
theorem dX10_far_26 : decode cX10_far 26 = .ok (.iload_n 1, 1) := by decide +kernel
theorem dX10_far_27 : decode cX10_far 27 = .ok (.iload_n 2, 1) := by decide +kernel
theorem dX10_far_28 : decode cX10_far 28 = .ok (.invokevirtual 258, 3) := by decide +kernel
theorem dX10_far_31 : decode cX10_far 31 = .ok (.ifCond .eq 9, 3) := by decide +kernel
theorem dX10_far_34 : decode cX10_far 34 = .ok (.iinc 2 (-1), 3) := by decide +kernel
theorem dX10_far_37 : decode cX10_far 37 = .ok (.goto (-12), 3) := by decide +kernel
theorem dX10_far_40 : decode cX10_far 40 = .ok (.iload_n 2, 1) := by decide +kernel
theorem dX10_far_41 : decode cX10_far 41 = .ok (.ireturn, 1) := by decide +kernel
def lp_X10_far_25 (y1 : Int32)  : Nat → Int32 → Mm → Option (Int32 × Mm)
  | 0, _, _ => none
  | n + 1, y2, M =>
    bd (f_X10_isCaught y1 y2 M) fun v28_6 M28_5 => if v28_6 = 0 then (some (y2, M28_5)) else (lp_X10_far_25 y1 n (y2 + (-1 : Int32)) M28_5)
def f_X10_far (x1 : Int32) (M : Mm) : Option (Int32 × Mm) :=
  bv (f_X10_good  M) fun M1_1 => bd (f_X10_isCreeper x1 M1_1) fun v6_4 M6_3 => if v6_4 = 0 then (bd (f_X10_no (nI 1) M6_3) fun v14_9 M14_8 => some (v14_9, M14_8)) else (lp_X10_far_25 x1  N0 (M6_3 84 0) M6_3)
set_option maxHeartbeats 4000000 in
set_option maxRecDepth 100000 in
theorem sl_X10_far_25 {l : Launch} {B : BT} (hA : bA B = false) {d : Nat} {r : Int32} {M' : Mm} {y1 : Int32}    :
    ∀ (n : Nat) (y2 : Int32) (M : Mm), lp_X10_far_25 y1 n y2 M = some (r, M') → GG l B LY (d + 2) yX10_far cX10_far 3 (some .int) 0 0 (PI r M') 97 0 0 25 [(0, .ref 81), (1, .int y1), (2, .int y2)] [] M := by
  intro n
  induction n with
  | zero => intro y2 M h; cases h
  | succ n ih =>
    intro y2 M h
    rw [lp_X10_far_25] at h
    refine g_aload_n dX10_far_25 rfl 0 rfl ?_
    refine g_iload_n dX10_far_26 rfl 1 rfl ?_
    refine g_iload_n dX10_far_27 rfl 2 rfl ?_
    obtain ⟨v28_6, M28_5, eM28_5, h⟩ := bd_e h
    refine m_callVi (As := [.int y1, .int y2]) (st := []) (s_X10_isCaught (d := d + 0) hA  eM28_5) rfl okX10 ck_X10_isCaught w_1536 rfl (Nat.le_of_ble_eq_true rfl) dX10_far_28 ?_
    refine g_if_eq (tgt := 40) dX10_far_31 (by decide) (fun c7 => ?_) (fun c7 => ?_)
    · replace h := ite_p c7 h
      refine g_iload_n dX10_far_40 rfl 2 rfl ?_
      exact g_zret rfl rfl (pi_of h) dX10_far_41
    · replace h := ite_n c7 h
      refine g_iinc (v := (y2 + (-1 : Int32))) (lv' := [(2, .int (y2 + (-1 : Int32))), (0, .ref 81), (1, .int y1)]) dX10_far_34 2 rfl rfl (by decide) rfl ?_
      refine g_goto (tgt := 25) dX10_far_37 (by decide) ?_
      refine g_sub [1, 2, 0] (lv' := [(0, .ref 81), (1, .int y1), (2, .int (y2 + (-1 : Int32)))]) rfl ?_
      exact ih _  _ h
set_option maxHeartbeats 4000000 in
set_option maxRecDepth 100000 in
theorem s_X10_far {l : Launch} {B : BT} (hA : bA B = false) {d : Nat} {r : Int32} {M' : Mm} {x1 : Int32} {M : Mm}  (h : f_X10_far x1 M = some (r, M')) : Con l B LY (d + 2) yX10_far cX10_far 3 (some .int) 0 0 [.ref 81, .int x1] 97 M (PI r M') := by
  refine con_of (by decide) (Nat.le_of_ble_eq_true rfl) ?_
  show GG l B LY (d + 2) yX10_far cX10_far 3 (some .int) 0 0 (PI r M') 97 0 0 0 [(0, .ref 81), (1, .int x1)] [] M
  rw [f_X10_far] at h
  refine g_aload_n dX10_far_0 rfl 0 rfl ?_
  obtain ⟨M1_1, eM1_1, h⟩ := bv_e h
  refine m_callVv (As := []) (st := []) (s_X10_good (d := d + 1) hA  eM1_1) rfl okX10 ck_X10_good w_1381 rfl (Nat.le_of_ble_eq_true rfl) dX10_far_1 ?_
  refine g_aload_n dX10_far_4 rfl 0 rfl ?_
  refine g_iload_n dX10_far_5 rfl 1 rfl ?_
  obtain ⟨v6_4, M6_3, eM6_3, h⟩ := bd_e h
  refine m_callVi (As := [.int x1]) (st := []) (s_X10_isCreeper (d := d + 0) hA  eM6_3) rfl okX10 ck_X10_isCreeper w_1572 rfl (Nat.le_of_ble_eq_true rfl) dX10_far_6 ?_
  refine g_if_ne (tgt := 18) dX10_far_9 (by decide) (fun c10 => ?_) (fun c10 => ?_)
  · replace h := ite_n c10 h
    refine g_aload_n dX10_far_18 rfl 0 rfl ?_
    refine m_getr (k := 15) okX10 rfl rfl (by decide) w_1284 rfl dX10_far_19 ?_
    refine g_iconst (v := (nI 0)) dX10_far_22 (by decide) ?_
    refine m_ialdL (k := 0) rfl rfl (by decide) dX10_far_23 ?_
    refine g_istore_n (lv' := [(2, .int (M6_3 84 0)), (0, .ref 81), (1, .int x1)]) dX10_far_24 rfl (by decide) rfl ?_
    refine g_sub [1, 2, 0] (lv' := [(0, .ref 81), (1, .int x1), (2, .int (M6_3 84 0))]) rfl ?_
    refine sl_X10_far_25 hA   _ _ _ h
  · replace h := ite_p c10 h
    refine g_aload_n dX10_far_12 rfl 0 rfl ?_
    refine g_iconst (v := (nI 1)) dX10_far_13 (by decide) ?_
    obtain ⟨v14_9, M14_8, eM14_8, h⟩ := bd_e h
    refine m_callVi (As := [.int (nI 1)]) (st := []) (s_X10_no (d := d + 1) hA  eM14_8) rfl okX10 ck_X10_no w_1388 rfl (Nat.le_of_ble_eq_true rfl) dX10_far_14 ?_
    exact g_zret rfl rfl (pi_of h) dX10_far_17
theorem ck_X10_far : CKV yX10_far cX10_far 3 (some .int) 1 := ⟨⟨by decide, by decide, by decide +kernel⟩, w_1799, w_81, ⟨w_1797, w_1798⟩, by decide⟩
theorem dX10_fairest_0 : decode cX10_fairest 0 = .ok (.bipush 7, 2) := by decide +kernel
theorem dX10_fairest_2 : decode cX10_fairest 2 = .ok (.aload_n 0, 1) := by decide +kernel
theorem dX10_fairest_3 : decode cX10_fairest 3 = .ok (.getfield 20, 3) := by decide +kernel
theorem dX10_fairest_6 : decode cX10_fairest 6 = .ok (.iconst 0, 1) := by decide +kernel
theorem dX10_fairest_7 : decode cX10_fairest 7 = .ok (.iaload, 1) := by decide +kernel
theorem dX10_fairest_8 : decode cX10_fairest 8 = .ok (.iconst 1, 1) := by decide +kernel
theorem dX10_fairest_9 : decode cX10_fairest 9 = .ok (.isub, 1) := by decide +kernel
theorem dX10_fairest_10 : decode cX10_fairest 10 = .ok (.invokestatic 303, 3) := by decide +kernel
theorem dX10_fairest_13 : decode cX10_fairest 13 = .ok (.iconst 1, 1) := by decide +kernel
theorem dX10_fairest_14 : decode cX10_fairest 14 = .ok (.iadd, 1) := by decide +kernel
theorem dX10_fairest_15 : decode cX10_fairest 15 = .ok (.istore_n 1, 1) := by decide +kernel
theorem dX10_fairest_16 : decode cX10_fairest 16 = .ok (.iconst 1, 1) := by decide +kernel
theorem dX10_fairest_17 : decode cX10_fairest 17 = .ok (.istore_n 2, 1) := by decide +kernel
theorem dX10_fairest_18 : decode cX10_fairest 18 = .ok (.iconst 0, 1) := by decide +kernel
theorem dX10_fairest_19 : decode cX10_fairest 19 = .ok (.istore_n 3, 1) := by decide +kernel
theorem dX10_fairest_20 : decode cX10_fairest 20 = .ok (.iload_n 3, 1) := by decide +kernel
theorem dX10_fairest_21 : decode cX10_fairest 21 = .ok (.aload_n 0, 1) := by decide +kernel
theorem dX10_fairest_22 : decode cX10_fairest 22 = .ok (.getfield 20, 3) := by decide +kernel
theorem dX10_fairest_25 : decode cX10_fairest 25 = .ok (.bipush 95, 2) := by decide +kernel
theorem dX10_fairest_27 : decode cX10_fairest 27 = .ok (.iaload, 1) := by decide +kernel
theorem dX10_fairest_28 : decode cX10_fairest 28 = .ok (.if_icmp .ge 13, 3) := by decide +kernel
theorem dX10_fairest_31 : decode cX10_fairest 31 = .ok (.iload_n 2, 1) := by decide +kernel
theorem dX10_fairest_32 : decode cX10_fairest 32 = .ok (.iload_n 1, 1) := by decide +kernel
theorem dX10_fairest_33 : decode cX10_fairest 33 = .ok (.imul, 1) := by decide +kernel
theorem dX10_fairest_34 : decode cX10_fairest 34 = .ok (.istore_n 2, 1) := by decide +kernel
theorem dX10_fairest_35 : decode cX10_fairest 35 = .ok (.iinc 3 1, 3) := by decide +kernel
theorem dX10_fairest_38 : decode cX10_fairest 38 = .ok (.goto (-18), 3) := by decide +kernel
theorem dX10_fairest_41 : decode cX10_fairest 41 = .ok (.iconst (-1), 1) := by decide +kernel
theorem dX10_fairest_42 : decode cX10_fairest 42 = .ok (.istore_n 3, 1) := by decide +kernel
theorem dX10_fairest_43 : decode cX10_fairest 43 = .ok (.iconst 0, 1) := by decide +kernel
theorem dX10_fairest_44 : decode cX10_fairest 44 = .ok (.istore 4, 2) := by decide +kernel
theorem dX10_fairest_46 : decode cX10_fairest 46 = .ok (.iconst 0, 1) := by decide +kernel
theorem dX10_fairest_47 : decode cX10_fairest 47 = .ok (.istore 5, 2) := by decide +kernel
theorem dX10_fairest_49 : decode cX10_fairest 49 = .ok (.iconst 0, 1) := by decide +kernel
theorem dX10_fairest_50 : decode cX10_fairest 50 = .ok (.istore 6, 2) := by decide +kernel
theorem dX10_fairest_52 : decode cX10_fairest 52 = .ok (.iload 6, 2) := by decide +kernel
theorem dX10_fairest_54 : decode cX10_fairest 54 = .ok (.iload_n 2, 1) := by decide +kernel
theorem dX10_fairest_55 : decode cX10_fairest 55 = .ok (.if_icmp .ge 158, 3) := by decide +kernel
theorem dX10_fairest_58 : decode cX10_fairest 58 = .ok (.ldc_w 384, 3) := by decide +kernel
theorem dX10_fairest_61 : decode cX10_fairest 61 = .ok (.istore 7, 2) := by decide +kernel
theorem dX10_fairest_63 : decode cX10_fairest 63 = .ok (.iconst 0, 1) := by decide +kernel
theorem dX10_fairest_64 : decode cX10_fairest 64 = .ok (.istore 8, 2) := by decide +kernel
theorem dX10_fairest_66 : decode cX10_fairest 66 = .ok (.iconst 0, 1) := by decide +kernel
theorem dX10_fairest_67 : decode cX10_fairest 67 = .ok (.istore 9, 2) := by decide +kernel
theorem dX10_fairest_69 : decode cX10_fairest 69 = .ok (.iload 6, 2) := by decide +kernel
theorem dX10_fairest_71 : decode cX10_fairest 71 = .ok (.istore 10, 2) := by decide +kernel
theorem dX10_fairest_73 : decode cX10_fairest 73 = .ok (.aload_n 0, 1) := by decide +kernel
theorem dX10_fairest_74 : decode cX10_fairest 74 = .ok (.getfield 20, 3) := by decide +kernel
theorem dX10_fairest_77 : decode cX10_fairest 77 = .ok (.bipush 95, 2) := by decide +kernel
theorem dX10_fairest_79 : decode cX10_fairest 79 = .ok (.iaload, 1) := by decide +kernel
theorem dX10_fairest_80 : decode cX10_fairest 80 = .ok (.iconst 1, 1) := by decide +kernel
theorem dX10_fairest_81 : decode cX10_fairest 81 = .ok (.isub, 1) := by decide +kernel
theorem dX10_fairest_82 : decode cX10_fairest 82 = .ok (.istore 11, 2) := by decide +kernel
theorem dX10_fairest_84 : decode cX10_fairest 84 = .ok (.iload 11, 2) := by decide +kernel
theorem dX10_fairest_86 : decode cX10_fairest 86 = .ok (.ifCond .lt 73, 3) := by decide +kernel
theorem dX10_fairest_89 : decode cX10_fairest 89 = .ok (.aload_n 0, 1) := by decide +kernel
theorem dX10_fairest_90 : decode cX10_fairest 90 = .ok (.getfield 20, 3) := by decide +kernel
theorem dX10_fairest_93 : decode cX10_fairest 93 = .ok (.iconst 0, 1) := by decide +kernel
theorem dX10_fairest_94 : decode cX10_fairest 94 = .ok (.iaload, 1) := by decide +kernel
theorem dX10_fairest_95 : decode cX10_fairest 95 = .ok (.iload 10, 2) := by decide +kernel
theorem dX10_fairest_97 : decode cX10_fairest 97 = .ok (.iload_n 1, 1) := by decide +kernel
theorem dX10_fairest_98 : decode cX10_fairest 98 = .ok (.irem, 1) := by decide +kernel
theorem dX10_fairest_99 : decode cX10_fairest 99 = .ok (.isub, 1) := by decide +kernel
theorem dX10_fairest_100 : decode cX10_fairest 100 = .ok (.aload_n 0, 1) := by decide +kernel
theorem dX10_fairest_101 : decode cX10_fairest 101 = .ok (.getfield 20, 3) := by decide +kernel
theorem dX10_fairest_104 : decode cX10_fairest 104 = .ok (.bipush 61, 2) := by decide +kernel
theorem dX10_fairest_106 : decode cX10_fairest 106 = .ok (.iload 11, 2) := by decide +kernel
theorem dX10_fairest_108 : decode cX10_fairest 108 = .ok (.iadd, 1) := by decide +kernel
theorem dX10_fairest_109 : decode cX10_fairest 109 = .ok (.iaload, 1) := by decide +kernel
theorem dX10_fairest_110 : decode cX10_fairest 110 = .ok (.imul, 1) := by decide +kernel
theorem dX10_fairest_111 : decode cX10_fairest 111 = .ok (.istore 12, 2) := by decide +kernel
theorem dX10_fairest_113 : decode cX10_fairest 113 = .ok (.iload 9, 2) := by decide +kernel
theorem dX10_fairest_115 : decode cX10_fairest 115 = .ok (.iload 10, 2) := by decide +kernel
theorem dX10_fairest_117 : decode cX10_fairest 117 = .ok (.iload_n 1, 1) := by decide +kernel
theorem dX10_fairest_118 : decode cX10_fairest 118 = .ok (.irem, 1) := by decide +kernel
theorem dX10_fairest_119 : decode cX10_fairest 119 = .ok (.iadd, 1) := by decide +kernel
theorem dX10_fairest_120 : decode cX10_fairest 120 = .ok (.istore 9, 2) := by decide +kernel
theorem dX10_fairest_122 : decode cX10_fairest 122 = .ok (.iload 10, 2) := by decide +kernel
theorem dX10_fairest_124 : decode cX10_fairest 124 = .ok (.iload_n 1, 1) := by decide +kernel
theorem dX10_fairest_125 : decode cX10_fairest 125 = .ok (.idiv, 1) := by decide +kernel
theorem dX10_fairest_126 : decode cX10_fairest 126 = .ok (.istore 10, 2) := by decide +kernel
theorem dX10_fairest_128 : decode cX10_fairest 128 = .ok (.iload 7, 2) := by decide +kernel
theorem dX10_fairest_130 : decode cX10_fairest 130 = .ok (.iload 12, 2) := by decide +kernel
theorem dX10_fairest_132 : decode cX10_fairest 132 = .ok (.invokestatic 303, 3) := by decide +kernel
theorem dX10_fairest_135 : decode cX10_fairest 135 = .ok (.istore 7, 2) := by decide +kernel
theorem dX10_fairest_137 : decode cX10_fairest 137 = .ok (.iload 12, 2) := by decide +kernel
theorem dX10_fairest_139 : decode cX10_fairest 139 = .ok (.iload 8, 2) := by decide +kernel
theorem dX10_fairest_141 : decode cX10_fairest 141 = .ok (.if_icmp .le 8, 3) := by decide +kernel
theorem dX10_fairest_144 : decode cX10_fairest 144 = .ok (.iload 12, 2) := by decide +kernel
theorem dX10_fairest_146 : decode cX10_fairest 146 = .ok (.goto 5, 3) := by decide +kernel
theorem dX10_fairest_149 : decode cX10_fairest 149 = .ok (.iload 8, 2) := by decide +kernel
theorem dX10_fairest_151 : decode cX10_fairest 151 = .ok (.istore 8, 2) := by decide +kernel
theorem dX10_fairest_153 : decode cX10_fairest 153 = .ok (.iinc 11 (-1), 3) := by decide +kernel
theorem dX10_fairest_156 : decode cX10_fairest 156 = .ok (.goto (-72), 3) := by decide +kernel
theorem dX10_fairest_159 : decode cX10_fairest 159 = .ok (.iload_n 3, 1) := by decide +kernel
theorem dX10_fairest_160 : decode cX10_fairest 160 = .ok (.ifCond .lt 33, 3) := by decide +kernel
theorem dX10_fairest_163 : decode cX10_fairest 163 = .ok (.iload 8, 2) := by decide +kernel
theorem dX10_fairest_165 : decode cX10_fairest 165 = .ok (.iload 7, 2) := by decide +kernel
theorem dX10_fairest_167 : decode cX10_fairest 167 = .ok (.isub, 1) := by decide +kernel
theorem dX10_fairest_168 : decode cX10_fairest 168 = .ok (.iload 4, 2) := by decide +kernel
theorem dX10_fairest_170 : decode cX10_fairest 170 = .ok (.if_icmp .gt 37, 3) := by decide +kernel
theorem dX10_fairest_173 : decode cX10_fairest 173 = .ok (.iload 8, 2) := by decide +kernel
theorem dX10_fairest_175 : decode cX10_fairest 175 = .ok (.iload 7, 2) := by decide +kernel
theorem dX10_fairest_177 : decode cX10_fairest 177 = .ok (.isub, 1) := by decide +kernel
theorem dX10_fairest_178 : decode cX10_fairest 178 = .ok (.iload 4, 2) := by decide +kernel
theorem dX10_fairest_180 : decode cX10_fairest 180 = .ok (.if_icmp .ne 13, 3) := by decide +kernel
theorem dX10_fairest_183 : decode cX10_fairest 183 = .ok (.iload 9, 2) := by decide +kernel
theorem dX10_fairest_185 : decode cX10_fairest 185 = .ok (.iload 5, 2) := by decide +kernel
theorem dX10_fairest_187 : decode cX10_fairest 187 = .ok (.if_icmp .lt 6, 3) := by decide +kernel
theorem dX10_fairest_190 : decode cX10_fairest 190 = .ok (.goto 17, 3) := by decide +kernel
theorem dX10_fairest_193 : decode cX10_fairest 193 = .ok (.iload 6, 2) := by decide +kernel
theorem dX10_fairest_195 : decode cX10_fairest 195 = .ok (.istore_n 3, 1) := by decide +kernel
theorem dX10_fairest_196 : decode cX10_fairest 196 = .ok (.iload 8, 2) := by decide +kernel
theorem dX10_fairest_198 : decode cX10_fairest 198 = .ok (.iload 7, 2) := by decide +kernel
theorem dX10_fairest_200 : decode cX10_fairest 200 = .ok (.isub, 1) := by decide +kernel
theorem dX10_fairest_201 : decode cX10_fairest 201 = .ok (.istore 4, 2) := by decide +kernel
theorem dX10_fairest_203 : decode cX10_fairest 203 = .ok (.iload 9, 2) := by decide +kernel
theorem dX10_fairest_205 : decode cX10_fairest 205 = .ok (.istore 5, 2) := by decide +kernel
theorem dX10_fairest_207 : decode cX10_fairest 207 = .ok (.iinc 6 1, 3) := by decide +kernel
theorem dX10_fairest_210 : decode cX10_fairest 210 = .ok (.goto (-158), 3) := by decide +kernel
theorem dX10_fairest_213 : decode cX10_fairest 213 = .ok (.aload_n 0, 1) := by decide +kernel
theorem dX10_fairest_214 : decode cX10_fairest 214 = .ok (.getfield 20, 3) := by decide +kernel
theorem dX10_fairest_217 : decode cX10_fairest 217 = .ok (.bipush 95, 2) := by decide +kernel
theorem dX10_fairest_219 : decode cX10_fairest 219 = .ok (.iaload, 1) := by decide +kernel
theorem dX10_fairest_220 : decode cX10_fairest 220 = .ok (.iconst 1, 1) := by decide +kernel
theorem dX10_fairest_221 : decode cX10_fairest 221 = .ok (.isub, 1) := by decide +kernel
theorem dX10_fairest_222 : decode cX10_fairest 222 = .ok (.istore 6, 2) := by decide +kernel
theorem dX10_fairest_224 : decode cX10_fairest 224 = .ok (.iload 6, 2) := by decide +kernel
theorem dX10_fairest_226 : decode cX10_fairest 226 = .ok (.ifCond .lt 23, 3) := by decide +kernel
theorem dX10_fairest_229 : decode cX10_fairest 229 = .ok (.aload_n 0, 1) := by decide +kernel
theorem dX10_fairest_230 : decode cX10_fairest 230 = .ok (.getfield 56, 3) := by decide +kernel
theorem dX10_fairest_233 : decode cX10_fairest 233 = .ok (.iload 6, 2) := by decide +kernel
theorem dX10_fairest_235 : decode cX10_fairest 235 = .ok (.iload_n 3, 1) := by decide +kernel
theorem dX10_fairest_236 : decode cX10_fairest 236 = .ok (.iload_n 1, 1) := by decide +kernel
theorem dX10_fairest_237 : decode cX10_fairest 237 = .ok (.irem, 1) := by decide +kernel
theorem dX10_fairest_238 : decode cX10_fairest 238 = .ok (.iastore, 1) := by decide +kernel
theorem dX10_fairest_239 : decode cX10_fairest 239 = .ok (.iload_n 3, 1) := by decide +kernel
theorem dX10_fairest_240 : decode cX10_fairest 240 = .ok (.iload_n 1, 1) := by decide +kernel
theorem dX10_fairest_241 : decode cX10_fairest 241 = .ok (.idiv, 1) := by decide +kernel
theorem dX10_fairest_242 : decode cX10_fairest 242 = .ok (.istore_n 3, 1) := by decide +kernel
theorem dX10_fairest_243 : decode cX10_fairest 243 = .ok (.iinc 6 (-1), 3) := by decide +kernel
theorem dX10_fairest_246 : decode cX10_fairest 246 = .ok (.goto (-22), 3) := by decide +kernel
theorem dX10_fairest_249 : decode cX10_fairest 249 = .ok (.iload 4, 2) := by decide +kernel
theorem dX10_fairest_251 : decode cX10_fairest 251 = .ok (.ireturn, 1) := by decide +kernel
def lp_X10_fairest_20 (y1 : Int32) (k41 : Int32 → Mm → Option (Int32 × Mm)) : Nat → Int32 → Int32 → Mm → Option (Int32 × Mm)
  | 0, _, _, _ => none
  | n + 1, y2, y3, M =>
    if (M 84 95) ≤ y3 then (k41 y2 M) else (lp_X10_fairest_20 y1 k41 n (y2 * y1) (y3 + (nI 1)) M)
def lp_X10_fairest_84 (y1 : Int32) (y2 : Int32) (y3 : Int32) (y4 : Int32) (y5 : Int32) (y6 : Int32) (k159 : Int32 → Int32 → Int32 → Mm → Option (Int32 × Mm)) : Nat → Int32 → Int32 → Int32 → Int32 → Int32 → Mm → Option (Int32 × Mm)
  | 0, _, _, _, _, _, _ => none
  | n + 1, y7, y8, y9, y10, y11, M =>
    if y11 < 0 then (k159 y7 y8 y9 M) else (gd (nzi y1) <| gd (inb ((nI 61) + y11) 141) <| lt ((((M 84 0) - (y10 - y10 / y1 * y1)) * (M 84 ((nI 61) + y11).toNatClampNeg))) fun t6 => gd (nzi y1) <| lt ((y9 + (y10 - y10 / y1 * y1))) fun t7 => gd (nzi y1) <| bd (f_X10_less y7 t6 M) fun v132_9 M132_8 => jn (fun (s10 : Int32) (M11 : Mm) => lp_X10_fairest_84 y1 y2 y3 y4 y5 y6 k159 n v132_9 s10 t7 (y10 / y1) (y11 + (-1 : Int32)) M11) fun j12 => if t6 ≤ y8 then (j12 y8 M132_8) else (j12 t6 M132_8))
def lp_X10_fairest_52 (y1 : Int32) (y2 : Int32) (k213 : Int32 → Int32 → Mm → Option (Int32 × Mm)) : Nat → Int32 → Int32 → Int32 → Int32 → Mm → Option (Int32 × Mm)
  | 0, _, _, _, _, _ => none
  | n + 1, y3, y4, y5, y6, M =>
    if y2 ≤ y6 then (k213 y3 y4 M) else (lp_X10_fairest_84 y1 y2 y3 y4 y5 y6 (fun (u15 : Int32) (u16 : Int32) (u17 : Int32) (M18 : Mm) => jn (fun (u19 : Int32) (u20 : Int32) (u21 : Int32) (M22 : Mm) => lp_X10_fairest_52 y1 y2 k213 n u19 u20 u21 (y6 + (nI 1)) M22) fun j23 => jn (fun (M24 : Mm) => j23 y6 (u16 - u15) u17 M24) fun j25 => if y3 < 0 then (j25  M18) else (if y4 < (u16 - u15) then (j23 y3 y4 y5 M18) else (if (u16 - u15) = y4 then (if u17 < y5 then (j25  M18) else (j23 y3 y4 y5 M18)) else (j25  M18)))) N0 (nI 100000) (nI 0) (nI 0) y6 ((M 84 95) - (nI 1)) M)
def lp_X10_fairest_224 (y1 : Int32) (y4 : Int32)  : Nat → Int32 → Int32 → Mm → Option (Int32 × Mm)
  | 0, _, _, _ => none
  | n + 1, y3, y6, M =>
    if y6 < 0 then (some (y4, M)) else (gd (nzi y1) <| gd (inb y6 5) <| gd (nzi y1) <| lp_X10_fairest_224 y1 y4 n (y3 / y1) (y6 + (-1 : Int32)) (mset M 95 y6.toNatClampNeg (y3 - y3 / y1 * y1)))
def f_X10_fairest  (M : Mm) : Option (Int32 × Mm) :=
  bd (f_X10_less (nI 7) ((M 84 0) - (nI 1)) M) fun v10_2 M10_1 => lp_X10_fairest_20 (v10_2 + (nI 1)) (fun (u4 : Int32) (M5 : Mm) => lp_X10_fairest_52 (v10_2 + (nI 1)) u4 (fun (u31 : Int32) (u32 : Int32) (M33 : Mm) => lp_X10_fairest_224 (v10_2 + (nI 1)) u32  N0 u31 ((M33 84 95) - (nI 1)) M33) N0 (-1 : Int32) (nI 0) (nI 0) (nI 0) M5) N0 (nI 1) (nI 0) M10_1
set_option maxHeartbeats 4000000 in
set_option maxRecDepth 100000 in
theorem sl_X10_fairest_20 {l : Launch} {B : BT} (hA : bA B = false) {d : Nat} {r : Int32} {M' : Mm} {y1 : Int32}  {k41 : Int32 → Mm → Option (Int32 × Mm)} (hk41 : ∀ (z2 : Int32) (M9 : Mm), k41 z2 M9 = some (r, M') → GG l B LY (d + 1) yX10_fairest cX10_fairest 13 (some .int) 0 0 (PI r M') 97 0 0 41 [(0, .ref 81), (1, .int y1), (2, .int z2)] [] M9) :
    ∀ (n : Nat) (y2 : Int32) (y3 : Int32) (M : Mm), lp_X10_fairest_20 y1 k41 n y2 y3 M = some (r, M') → GG l B LY (d + 1) yX10_fairest cX10_fairest 13 (some .int) 0 0 (PI r M') 97 0 0 20 [(0, .ref 81), (1, .int y1), (2, .int y2), (3, .int y3)] [] M := by
  intro n
  induction n with
  | zero => intro y2 y3 M h; cases h
  | succ n ih =>
    intro y2 y3 M h
    rw [lp_X10_fairest_20] at h
    refine g_iload_n dX10_fairest_20 rfl 3 rfl ?_
    refine g_aload_n dX10_fairest_21 rfl 0 rfl ?_
    refine m_getr (k := 15) okX10 rfl rfl (by decide) w_1284 rfl dX10_fairest_22 ?_
    refine g_bipush (v := (nI 95)) dX10_fairest_25 (by decide) ?_
    refine m_ialdL (k := 95) rfl rfl (by decide) dX10_fairest_27 ?_
    refine g_icmp_ge (tgt := 41) dX10_fairest_28 (by decide) (fun c3 => ?_) (fun c3 => ?_)
    · replace h := ite_p c3 h
      refine g_sub [0, 1, 2] (lv' := [(0, .ref 81), (1, .int y1), (2, .int y2)]) rfl ?_
      exact hk41 _ _ h
    · replace h := ite_n c3 h
      refine g_iload_n dX10_fairest_31 rfl 2 rfl ?_
      refine g_iload_n dX10_fairest_32 rfl 1 rfl ?_
      refine g_imul dX10_fairest_33 ?_
      refine g_istore_n (lv' := [(2, .int (y2 * y1)), (0, .ref 81), (1, .int y1), (3, .int y3)]) dX10_fairest_34 rfl (by decide) rfl ?_
      refine g_iinc (v := (y3 + (nI 1))) (lv' := [(3, .int (y3 + (nI 1))), (2, .int (y2 * y1)), (0, .ref 81), (1, .int y1)]) dX10_fairest_35 3 rfl rfl (by decide) rfl ?_
      refine g_goto (tgt := 20) dX10_fairest_38 (by decide) ?_
      refine g_sub [2, 3, 1, 0] (lv' := [(0, .ref 81), (1, .int y1), (2, .int (y2 * y1)), (3, .int (y3 + (nI 1)))]) rfl ?_
      exact ih _ _  _ h
set_option maxHeartbeats 4000000 in
set_option maxRecDepth 100000 in
theorem sl_X10_fairest_84 {l : Launch} {B : BT} (hA : bA B = false) {d : Nat} {r : Int32} {M' : Mm} {y1 : Int32} {y2 : Int32} {y3 : Int32} {y4 : Int32} {y5 : Int32} {y6 : Int32}  {k159 : Int32 → Int32 → Int32 → Mm → Option (Int32 × Mm)} (hk159 : ∀ (z7 : Int32) (z8 : Int32) (z9 : Int32) (M9 : Mm), k159 z7 z8 z9 M9 = some (r, M') → GG l B LY (d + 1) yX10_fairest cX10_fairest 13 (some .int) 0 0 (PI r M') 97 0 0 159 [(0, .ref 81), (1, .int y1), (2, .int y2), (3, .int y3), (4, .int y4), (5, .int y5), (6, .int y6), (7, .int z7), (8, .int z8), (9, .int z9)] [] M9) :
    ∀ (n : Nat) (y7 : Int32) (y8 : Int32) (y9 : Int32) (y10 : Int32) (y11 : Int32) (M : Mm), lp_X10_fairest_84 y1 y2 y3 y4 y5 y6 k159 n y7 y8 y9 y10 y11 M = some (r, M') → GG l B LY (d + 1) yX10_fairest cX10_fairest 13 (some .int) 0 0 (PI r M') 97 0 0 84 [(0, .ref 81), (1, .int y1), (2, .int y2), (3, .int y3), (4, .int y4), (5, .int y5), (6, .int y6), (7, .int y7), (8, .int y8), (9, .int y9), (10, .int y10), (11, .int y11)] [] M := by
  intro n
  induction n with
  | zero => intro y7 y8 y9 y10 y11 M h; cases h
  | succ n ih =>
    intro y7 y8 y9 y10 y11 M h
    rw [lp_X10_fairest_84] at h
    refine g_iload dX10_fairest_84 11 rfl ?_
    refine g_if_lt (tgt := 159) dX10_fairest_86 (by decide) (fun c14 => ?_) (fun c14 => ?_)
    · replace h := ite_p c14 h
      refine g_sub [0, 1, 2, 3, 4, 5, 6, 7, 8, 9] (lv' := [(0, .ref 81), (1, .int y1), (2, .int y2), (3, .int y3), (4, .int y4), (5, .int y5), (6, .int y6), (7, .int y7), (8, .int y8), (9, .int y9)]) rfl ?_
      exact hk159 _ _ _ _ h
    · replace h := ite_n c14 h
      refine g_aload_n dX10_fairest_89 rfl 0 rfl ?_
      refine m_getr (k := 15) okX10 rfl rfl (by decide) w_1284 rfl dX10_fairest_90 ?_
      refine g_iconst (v := (nI 0)) dX10_fairest_93 (by decide) ?_
      refine m_ialdL (k := 0) rfl rfl (by decide) dX10_fairest_94 ?_
      refine g_iload dX10_fairest_95 10 rfl ?_
      refine g_iload_n dX10_fairest_97 rfl 1 rfl ?_
      obtain ⟨hz, h⟩ := gd_s h
      refine g_irem dX10_fairest_98 (nzi_s hz) ?_
      refine g_isub dX10_fairest_99 ?_
      refine g_aload_n dX10_fairest_100 rfl 0 rfl ?_
      refine m_getr (k := 15) okX10 rfl rfl (by decide) w_1284 rfl dX10_fairest_101 ?_
      refine g_bipush (v := (nI 61)) dX10_fairest_104 (by decide) ?_
      refine g_iload dX10_fairest_106 11 rfl ?_
      refine g_iadd dX10_fairest_108 ?_
      obtain ⟨hz, h⟩ := gd_s h
      refine m_iald rfl hz dX10_fairest_109 ?_
      refine g_imul dX10_fairest_110 ?_
      obtain ⟨t6, et6, h⟩ := lt_e h
      refine g_cuti et6 ?_
      refine g_istore (lv' := [(12, .int t6), (0, .ref 81), (1, .int y1), (2, .int y2), (3, .int y3), (4, .int y4), (5, .int y5), (6, .int y6), (7, .int y7), (8, .int y8), (9, .int y9), (10, .int y10), (11, .int y11)]) dX10_fairest_111 (by decide) rfl ?_
      refine g_iload dX10_fairest_113 10 rfl ?_
      refine g_iload dX10_fairest_115 11 rfl ?_
      refine g_iload_n dX10_fairest_117 rfl 2 rfl ?_
      obtain ⟨hz, h⟩ := gd_s h
      refine g_irem dX10_fairest_118 (nzi_s hz) ?_
      refine g_iadd dX10_fairest_119 ?_
      obtain ⟨t7, et7, h⟩ := lt_e h
      refine g_cuti et7 ?_
      refine g_istore (lv' := [(9, .int t7), (12, .int t6), (0, .ref 81), (1, .int y1), (2, .int y2), (3, .int y3), (4, .int y4), (5, .int y5), (6, .int y6), (7, .int y7), (8, .int y8), (10, .int y10), (11, .int y11)]) dX10_fairest_120 (by decide) rfl ?_
      refine g_iload dX10_fairest_122 11 rfl ?_
      refine g_iload_n dX10_fairest_124 rfl 3 rfl ?_
      obtain ⟨hz, h⟩ := gd_s h
      refine g_idiv dX10_fairest_125 (nzi_s hz) ?_
      refine g_istore (lv' := [(10, .int (y10 / y1)), (9, .int t7), (12, .int t6), (0, .ref 81), (1, .int y1), (2, .int y2), (3, .int y3), (4, .int y4), (5, .int y5), (6, .int y6), (7, .int y7), (8, .int y8), (11, .int y11)]) dX10_fairest_126 (by decide) rfl ?_
      refine g_iload dX10_fairest_128 10 rfl ?_
      refine g_iload dX10_fairest_130 2 rfl ?_
      obtain ⟨v132_9, M132_8, eM132_8, h⟩ := bd_e h
      refine m_callSi (As := [.int y7, .int t6]) (st := []) (s_X10_less (d := d + 0) hA  eM132_8) ck_X10_less w_1657 rfl (Nat.le_of_ble_eq_true rfl) dX10_fairest_132 ?_
      refine g_istore (lv' := [(7, .int v132_9), (10, .int (y10 / y1)), (9, .int t7), (12, .int t6), (0, .ref 81), (1, .int y1), (2, .int y2), (3, .int y3), (4, .int y4), (5, .int y5), (6, .int y6), (8, .int y8), (11, .int y11)]) dX10_fairest_135 (by decide) rfl ?_
      refine g_iload dX10_fairest_137 3 rfl ?_
      refine g_iload dX10_fairest_139 11 rfl ?_
      obtain ⟨j12, ej12, h⟩ := jn_e h
      have hj12 : ∀ (s10 : Int32) (M11 : Mm), j12 s10 M11 = some (r, M') → GG l B LY (d + 1) yX10_fairest cX10_fairest 13 (some .int) 0 0 (PI r M') 97 0 0 151 [(0, .ref 81), (1, .int y1), (2, .int y2), (3, .int y3), (4, .int y4), (5, .int y5), (6, .int y6), (7, .int v132_9), (9, .int t7), (10, .int (y10 / y1)), (11, .int y11)] [.int s10] M11 := by
        intro s10 M11 h
        rw [ej12] at h
        refine g_istore (lv' := [(8, .int s10), (0, .ref 81), (1, .int y1), (2, .int y2), (3, .int y3), (4, .int y4), (5, .int y5), (6, .int y6), (7, .int v132_9), (9, .int t7), (10, .int (y10 / y1)), (11, .int y11)]) dX10_fairest_151 (by decide) rfl ?_
        refine g_iinc (v := (y11 + (-1 : Int32))) (lv' := [(11, .int (y11 + (-1 : Int32))), (8, .int s10), (0, .ref 81), (1, .int y1), (2, .int y2), (3, .int y3), (4, .int y4), (5, .int y5), (6, .int y6), (7, .int v132_9), (9, .int t7), (10, .int (y10 / y1))]) dX10_fairest_153 11 rfl rfl (by decide) rfl ?_
        refine g_goto (tgt := 84) dX10_fairest_156 (by decide) ?_
        refine g_sub [2, 3, 4, 5, 6, 7, 8, 9, 1, 10, 11, 0] (lv' := [(0, .ref 81), (1, .int y1), (2, .int y2), (3, .int y3), (4, .int y4), (5, .int y5), (6, .int y6), (7, .int v132_9), (8, .int s10), (9, .int t7), (10, .int (y10 / y1)), (11, .int (y11 + (-1 : Int32)))]) rfl ?_
        exact ih _ _ _ _ _  _ h
      refine g_icmp_le (tgt := 149) dX10_fairest_141 (by decide) (fun c13 => ?_) (fun c13 => ?_)
      · replace h := ite_p c13 h
        refine g_iload dX10_fairest_149 11 rfl ?_
        refine g_sub [4, 5, 6, 7, 8, 9, 10, 0, 2, 1, 12] (lv' := [(0, .ref 81), (1, .int y1), (2, .int y2), (3, .int y3), (4, .int y4), (5, .int y5), (6, .int y6), (7, .int v132_9), (9, .int t7), (10, .int (y10 / y1)), (11, .int y11)]) rfl ?_
        exact hj12 _ _ h
      · replace h := ite_n c13 h
        refine g_iload dX10_fairest_144 3 rfl ?_
        refine g_goto (tgt := 151) dX10_fairest_146 (by decide) ?_
        refine g_sub [4, 5, 6, 7, 8, 9, 10, 0, 2, 1, 12] (lv' := [(0, .ref 81), (1, .int y1), (2, .int y2), (3, .int y3), (4, .int y4), (5, .int y5), (6, .int y6), (7, .int v132_9), (9, .int t7), (10, .int (y10 / y1)), (11, .int y11)]) rfl ?_
        exact hj12 _ _ h
set_option maxHeartbeats 4000000 in
set_option maxRecDepth 100000 in
theorem sl_X10_fairest_52 {l : Launch} {B : BT} (hA : bA B = false) {d : Nat} {r : Int32} {M' : Mm} {y1 : Int32} {y2 : Int32}  {k213 : Int32 → Int32 → Mm → Option (Int32 × Mm)} (hk213 : ∀ (z3 : Int32) (z4 : Int32) (M9 : Mm), k213 z3 z4 M9 = some (r, M') → GG l B LY (d + 1) yX10_fairest cX10_fairest 13 (some .int) 0 0 (PI r M') 97 0 0 213 [(0, .ref 81), (1, .int y1), (3, .int z3), (4, .int z4)] [] M9) :
    ∀ (n : Nat) (y3 : Int32) (y4 : Int32) (y5 : Int32) (y6 : Int32) (M : Mm), lp_X10_fairest_52 y1 y2 k213 n y3 y4 y5 y6 M = some (r, M') → GG l B LY (d + 1) yX10_fairest cX10_fairest 13 (some .int) 0 0 (PI r M') 97 0 0 52 [(0, .ref 81), (1, .int y1), (2, .int y2), (3, .int y3), (4, .int y4), (5, .int y5), (6, .int y6)] [] M := by
  intro n
  induction n with
  | zero => intro y3 y4 y5 y6 M h; cases h
  | succ n ih =>
    intro y3 y4 y5 y6 M h
    rw [lp_X10_fairest_52] at h
    refine g_iload dX10_fairest_52 6 rfl ?_
    refine g_iload_n dX10_fairest_54 rfl 2 rfl ?_
    refine g_icmp_ge (tgt := 213) dX10_fairest_55 (by decide) (fun c30 => ?_) (fun c30 => ?_)
    · replace h := ite_p c30 h
      refine g_sub [0, 1, 3, 4] (lv' := [(0, .ref 81), (1, .int y1), (3, .int y3), (4, .int y4)]) rfl ?_
      exact hk213 _ _ _ h
    · replace h := ite_n c30 h
      refine g_ldcw (v := (nI 100000)) w_1808 dX10_fairest_58 ?_
      refine g_istore (lv' := [(7, .int (nI 100000)), (0, .ref 81), (1, .int y1), (2, .int y2), (3, .int y3), (4, .int y4), (5, .int y5), (6, .int y6)]) dX10_fairest_61 (by decide) rfl ?_
      refine g_iconst (v := (nI 0)) dX10_fairest_63 (by decide) ?_
      refine g_istore (lv' := [(8, .int (nI 0)), (7, .int (nI 100000)), (0, .ref 81), (1, .int y1), (2, .int y2), (3, .int y3), (4, .int y4), (5, .int y5), (6, .int y6)]) dX10_fairest_64 (by decide) rfl ?_
      refine g_iconst (v := (nI 0)) dX10_fairest_66 (by decide) ?_
      refine g_istore (lv' := [(9, .int (nI 0)), (8, .int (nI 0)), (7, .int (nI 100000)), (0, .ref 81), (1, .int y1), (2, .int y2), (3, .int y3), (4, .int y4), (5, .int y5), (6, .int y6)]) dX10_fairest_67 (by decide) rfl ?_
      refine g_iload dX10_fairest_69 9 rfl ?_
      refine g_istore (lv' := [(10, .int y6), (9, .int (nI 0)), (8, .int (nI 0)), (7, .int (nI 100000)), (0, .ref 81), (1, .int y1), (2, .int y2), (3, .int y3), (4, .int y4), (5, .int y5), (6, .int y6)]) dX10_fairest_71 (by decide) rfl ?_
      refine g_aload_n dX10_fairest_73 rfl 4 rfl ?_
      refine m_getr (k := 15) okX10 rfl rfl (by decide) w_1284 rfl dX10_fairest_74 ?_
      refine g_bipush (v := (nI 95)) dX10_fairest_77 (by decide) ?_
      refine m_ialdL (k := 95) rfl rfl (by decide) dX10_fairest_79 ?_
      refine g_iconst (v := (nI 1)) dX10_fairest_80 (by decide) ?_
      refine g_isub dX10_fairest_81 ?_
      refine g_istore (lv' := [(11, .int ((M 84 95) - (nI 1))), (10, .int y6), (9, .int (nI 0)), (8, .int (nI 0)), (7, .int (nI 100000)), (0, .ref 81), (1, .int y1), (2, .int y2), (3, .int y3), (4, .int y4), (5, .int y5), (6, .int y6)]) dX10_fairest_82 (by decide) rfl ?_
      refine g_sub [5, 6, 7, 8, 9, 10, 11, 4, 3, 2, 1, 0] (lv' := [(0, .ref 81), (1, .int y1), (2, .int y2), (3, .int y3), (4, .int y4), (5, .int y5), (6, .int y6), (7, .int (nI 100000)), (8, .int (nI 0)), (9, .int (nI 0)), (10, .int y6), (11, .int ((M 84 95) - (nI 1)))]) rfl ?_
      refine sl_X10_fairest_84 hA  ?_ _ _ _ _ _ _ _ h
      · intro u15 u16 u17 M18 h
        refine g_iload_n dX10_fairest_159 rfl 3 rfl ?_
        obtain ⟨j23, ej23, h⟩ := jn_e h
        have hj23 : ∀ (u19 : Int32) (u20 : Int32) (u21 : Int32) (M22 : Mm), j23 u19 u20 u21 M22 = some (r, M') → GG l B LY (d + 1) yX10_fairest cX10_fairest 13 (some .int) 0 0 (PI r M') 97 0 0 207 [(0, .ref 81), (1, .int y1), (2, .int y2), (3, .int u19), (4, .int u20), (5, .int u21), (6, .int y6)] [] M22 := by
          intro u19 u20 u21 M22 h
          rw [ej23] at h
          refine g_iinc (v := (y6 + (nI 1))) (lv' := [(6, .int (y6 + (nI 1))), (0, .ref 81), (1, .int y1), (2, .int y2), (3, .int u19), (4, .int u20), (5, .int u21)]) dX10_fairest_207 6 rfl rfl (by decide) rfl ?_
          refine g_goto (tgt := 52) dX10_fairest_210 (by decide) ?_
          refine g_sub [1, 2, 3, 4, 5, 6, 0] (lv' := [(0, .ref 81), (1, .int y1), (2, .int y2), (3, .int u19), (4, .int u20), (5, .int u21), (6, .int (y6 + (nI 1)))]) rfl ?_
          exact ih _ _ _ _  _ h
        obtain ⟨j25, ej25, h⟩ := jn_e h
        have hj25 : ∀ (M24 : Mm), j25 M24 = some (r, M') → GG l B LY (d + 1) yX10_fairest cX10_fairest 13 (some .int) 0 0 (PI r M') 97 0 0 193 [(0, .ref 81), (1, .int y1), (2, .int y2), (6, .int y6), (7, .int u15), (8, .int u16), (9, .int u17)] [] M24 := by
          intro M24 h
          rw [ej25] at h
          refine g_iload dX10_fairest_193 3 rfl ?_
          refine g_istore_n (lv' := [(3, .int y6), (0, .ref 81), (1, .int y1), (2, .int y2), (6, .int y6), (7, .int u15), (8, .int u16), (9, .int u17)]) dX10_fairest_195 rfl (by decide) rfl ?_
          refine g_iload dX10_fairest_196 6 rfl ?_
          refine g_iload dX10_fairest_198 5 rfl ?_
          refine g_isub dX10_fairest_200 ?_
          refine g_istore (lv' := [(4, .int (u16 - u15)), (3, .int y6), (0, .ref 81), (1, .int y1), (2, .int y2), (6, .int y6), (7, .int u15), (8, .int u16), (9, .int u17)]) dX10_fairest_201 (by decide) rfl ?_
          refine g_iload dX10_fairest_203 8 rfl ?_
          refine g_istore (lv' := [(5, .int u17), (4, .int (u16 - u15)), (3, .int y6), (0, .ref 81), (1, .int y1), (2, .int y2), (6, .int y6), (7, .int u15), (8, .int u16), (9, .int u17)]) dX10_fairest_205 (by decide) rfl ?_
          refine g_sub [3, 4, 5, 2, 1, 0, 6] (lv' := [(0, .ref 81), (1, .int y1), (2, .int y2), (3, .int y6), (4, .int (u16 - u15)), (5, .int u17), (6, .int y6)]) rfl ?_
          exact hj23 _ _ _ _ h
        refine g_if_lt (tgt := 193) dX10_fairest_160 (by decide) (fun c29 => ?_) (fun c29 => ?_)
        · replace h := ite_p c29 h
          refine g_sub [0, 1, 2, 6, 7, 8, 9] (lv' := [(0, .ref 81), (1, .int y1), (2, .int y2), (6, .int y6), (7, .int u15), (8, .int u16), (9, .int u17)]) rfl ?_
          exact hj25  _ h
        · replace h := ite_n c29 h
          refine g_iload dX10_fairest_163 8 rfl ?_
          refine g_iload dX10_fairest_165 7 rfl ?_
          refine g_isub dX10_fairest_167 ?_
          refine g_iload dX10_fairest_168 4 rfl ?_
          refine g_icmp_gt (tgt := 207) dX10_fairest_170 (by decide) (fun c28 => ?_) (fun c28 => ?_)
          · replace h := ite_p c28 h
            refine g_sub [0, 1, 2, 3, 4, 5, 6] (lv' := [(0, .ref 81), (1, .int y1), (2, .int y2), (3, .int y3), (4, .int y4), (5, .int y5), (6, .int y6)]) rfl ?_
            exact hj23 _ _ _ _ h
          · replace h := ite_n c28 h
            refine g_iload dX10_fairest_173 8 rfl ?_
            refine g_iload dX10_fairest_175 7 rfl ?_
            refine g_isub dX10_fairest_177 ?_
            refine g_iload dX10_fairest_178 4 rfl ?_
            refine g_icmp_ne (tgt := 193) dX10_fairest_180 (by decide) (fun c27 => ?_) (fun c27 => ?_)
            · replace h := ite_n c27 h
              refine g_sub [0, 1, 2, 6, 7, 8, 9] (lv' := [(0, .ref 81), (1, .int y1), (2, .int y2), (6, .int y6), (7, .int u15), (8, .int u16), (9, .int u17)]) rfl ?_
              exact hj25  _ h
            · replace h := ite_p c27 h
              refine g_iload dX10_fairest_183 9 rfl ?_
              refine g_iload dX10_fairest_185 5 rfl ?_
              refine g_icmp_lt (tgt := 193) dX10_fairest_187 (by decide) (fun c26 => ?_) (fun c26 => ?_)
              · replace h := ite_p c26 h
                refine g_sub [0, 1, 2, 6, 7, 8, 9] (lv' := [(0, .ref 81), (1, .int y1), (2, .int y2), (6, .int y6), (7, .int u15), (8, .int u16), (9, .int u17)]) rfl ?_
                exact hj25  _ h
              · replace h := ite_n c26 h
                refine g_goto (tgt := 207) dX10_fairest_190 (by decide) ?_
                refine g_sub [0, 1, 2, 3, 4, 5, 6] (lv' := [(0, .ref 81), (1, .int y1), (2, .int y2), (3, .int y3), (4, .int y4), (5, .int y5), (6, .int y6)]) rfl ?_
                exact hj23 _ _ _ _ h
set_option maxHeartbeats 4000000 in
set_option maxRecDepth 100000 in
theorem sl_X10_fairest_224 {l : Launch} {B : BT} (hA : bA B = false) {d : Nat} {r : Int32} {M' : Mm} {y1 : Int32} {y4 : Int32}    :
    ∀ (n : Nat) (y3 : Int32) (y6 : Int32) (M : Mm), lp_X10_fairest_224 y1 y4 n y3 y6 M = some (r, M') → GG l B LY (d + 1) yX10_fairest cX10_fairest 13 (some .int) 0 0 (PI r M') 97 0 0 224 [(0, .ref 81), (1, .int y1), (3, .int y3), (4, .int y4), (6, .int y6)] [] M := by
  intro n
  induction n with
  | zero => intro y3 y6 M h; cases h
  | succ n ih =>
    intro y3 y6 M h
    rw [lp_X10_fairest_224] at h
    refine g_iload dX10_fairest_224 4 rfl ?_
    refine g_if_lt (tgt := 249) dX10_fairest_226 (by decide) (fun c34 => ?_) (fun c34 => ?_)
    · replace h := ite_p c34 h
      refine g_iload dX10_fairest_249 3 rfl ?_
      exact g_zret rfl rfl (pi_of h) dX10_fairest_251
    · replace h := ite_n c34 h
      refine g_aload_n dX10_fairest_229 rfl 0 rfl ?_
      refine m_getr (k := 31) okX10 rfl rfl (by decide) w_1300 rfl dX10_fairest_230 ?_
      refine g_iload dX10_fairest_233 4 rfl ?_
      refine g_iload_n dX10_fairest_235 rfl 2 rfl ?_
      refine g_iload_n dX10_fairest_236 rfl 1 rfl ?_
      obtain ⟨hz, h⟩ := gd_s h
      refine g_irem dX10_fairest_237 (nzi_s hz) ?_
      obtain ⟨hz, h⟩ := gd_s h
      refine m_iast hA rfl hz dX10_fairest_238 ?_
      refine g_iload_n dX10_fairest_239 rfl 2 rfl ?_
      refine g_iload_n dX10_fairest_240 rfl 1 rfl ?_
      obtain ⟨hz, h⟩ := gd_s h
      refine g_idiv dX10_fairest_241 (nzi_s hz) ?_
      refine g_istore_n (lv' := [(3, .int (y3 / y1)), (0, .ref 81), (1, .int y1), (4, .int y4), (6, .int y6)]) dX10_fairest_242 rfl (by decide) rfl ?_
      refine g_iinc (v := (y6 + (-1 : Int32))) (lv' := [(6, .int (y6 + (-1 : Int32))), (3, .int (y3 / y1)), (0, .ref 81), (1, .int y1), (4, .int y4)]) dX10_fairest_243 4 rfl rfl (by decide) rfl ?_
      refine g_goto (tgt := 224) dX10_fairest_246 (by decide) ?_
      refine g_sub [2, 3, 1, 4, 0] (lv' := [(0, .ref 81), (1, .int y1), (3, .int (y3 / y1)), (4, .int y4), (6, .int (y6 + (-1 : Int32)))]) rfl ?_
      exact ih _ _  _ h
set_option maxHeartbeats 4000000 in
set_option maxRecDepth 100000 in
theorem s_X10_fairest {l : Launch} {B : BT} (hA : bA B = false) {d : Nat} {r : Int32} {M' : Mm}  {M : Mm}  (h : f_X10_fairest  M = some (r, M')) : Con l B LY (d + 1) yX10_fairest cX10_fairest 13 (some .int) 0 0 [.ref 81] 97 M (PI r M') := by
  refine con_of (by decide) (Nat.le_of_ble_eq_true rfl) ?_
  show GG l B LY (d + 1) yX10_fairest cX10_fairest 13 (some .int) 0 0 (PI r M') 97 0 0 0 [(0, .ref 81)] [] M
  rw [f_X10_fairest] at h
  refine g_bipush (v := (nI 7)) dX10_fairest_0 (by decide) ?_
  refine g_aload_n dX10_fairest_2 rfl 0 rfl ?_
  refine m_getr (k := 15) okX10 rfl rfl (by decide) w_1284 rfl dX10_fairest_3 ?_
  refine g_iconst (v := (nI 0)) dX10_fairest_6 (by decide) ?_
  refine m_ialdL (k := 0) rfl rfl (by decide) dX10_fairest_7 ?_
  refine g_iconst (v := (nI 1)) dX10_fairest_8 (by decide) ?_
  refine g_isub dX10_fairest_9 ?_
  obtain ⟨v10_2, M10_1, eM10_1, h⟩ := bd_e h
  refine m_callSi (As := [.int (nI 7), .int ((M 84 0) - (nI 1))]) (st := []) (s_X10_less (d := d + 0) hA  eM10_1) ck_X10_less w_1657 rfl (Nat.le_of_ble_eq_true rfl) dX10_fairest_10 ?_
  refine g_iconst (v := (nI 1)) dX10_fairest_13 (by decide) ?_
  refine g_iadd dX10_fairest_14 ?_
  refine g_istore_n (lv' := [(1, .int (v10_2 + (nI 1))), (0, .ref 81)]) dX10_fairest_15 rfl (by decide) rfl ?_
  refine g_iconst (v := (nI 1)) dX10_fairest_16 (by decide) ?_
  refine g_istore_n (lv' := [(2, .int (nI 1)), (1, .int (v10_2 + (nI 1))), (0, .ref 81)]) dX10_fairest_17 rfl (by decide) rfl ?_
  refine g_iconst (v := (nI 0)) dX10_fairest_18 (by decide) ?_
  refine g_istore_n (lv' := [(3, .int (nI 0)), (2, .int (nI 1)), (1, .int (v10_2 + (nI 1))), (0, .ref 81)]) dX10_fairest_19 rfl (by decide) rfl ?_
  refine g_sub [3, 2, 1, 0] (lv' := [(0, .ref 81), (1, .int (v10_2 + (nI 1))), (2, .int (nI 1)), (3, .int (nI 0))]) rfl ?_
  refine sl_X10_fairest_20 hA  ?_ _ _ _ _ h
  · intro u4 M5 h
    refine g_iconst (v := (-1 : Int32)) dX10_fairest_41 (by decide) ?_
    refine g_istore_n (lv' := [(3, .int (-1 : Int32)), (0, .ref 81), (1, .int (v10_2 + (nI 1))), (2, .int u4)]) dX10_fairest_42 rfl (by decide) rfl ?_
    refine g_iconst (v := (nI 0)) dX10_fairest_43 (by decide) ?_
    refine g_istore (lv' := [(4, .int (nI 0)), (3, .int (-1 : Int32)), (0, .ref 81), (1, .int (v10_2 + (nI 1))), (2, .int u4)]) dX10_fairest_44 (by decide) rfl ?_
    refine g_iconst (v := (nI 0)) dX10_fairest_46 (by decide) ?_
    refine g_istore (lv' := [(5, .int (nI 0)), (4, .int (nI 0)), (3, .int (-1 : Int32)), (0, .ref 81), (1, .int (v10_2 + (nI 1))), (2, .int u4)]) dX10_fairest_47 (by decide) rfl ?_
    refine g_iconst (v := (nI 0)) dX10_fairest_49 (by decide) ?_
    refine g_istore (lv' := [(6, .int (nI 0)), (5, .int (nI 0)), (4, .int (nI 0)), (3, .int (-1 : Int32)), (0, .ref 81), (1, .int (v10_2 + (nI 1))), (2, .int u4)]) dX10_fairest_50 (by decide) rfl ?_
    refine g_sub [4, 5, 6, 3, 2, 1, 0] (lv' := [(0, .ref 81), (1, .int (v10_2 + (nI 1))), (2, .int u4), (3, .int (-1 : Int32)), (4, .int (nI 0)), (5, .int (nI 0)), (6, .int (nI 0))]) rfl ?_
    refine sl_X10_fairest_52 hA  ?_ _ _ _ _ _ _ h
    · intro u31 u32 M33 h
      refine g_aload_n dX10_fairest_213 rfl 0 rfl ?_
      refine m_getr (k := 15) okX10 rfl rfl (by decide) w_1284 rfl dX10_fairest_214 ?_
      refine g_bipush (v := (nI 95)) dX10_fairest_217 (by decide) ?_
      refine m_ialdL (k := 95) rfl rfl (by decide) dX10_fairest_219 ?_
      refine g_iconst (v := (nI 1)) dX10_fairest_220 (by decide) ?_
      refine g_isub dX10_fairest_221 ?_
      refine g_istore (lv' := [(6, .int ((M33 84 95) - (nI 1))), (0, .ref 81), (1, .int (v10_2 + (nI 1))), (3, .int u31), (4, .int u32)]) dX10_fairest_222 (by decide) rfl ?_
      refine g_sub [1, 2, 3, 4, 0] (lv' := [(0, .ref 81), (1, .int (v10_2 + (nI 1))), (3, .int u31), (4, .int u32), (6, .int ((M33 84 95) - (nI 1)))]) rfl ?_
      refine sl_X10_fairest_224 hA   _ _ _ _ h
theorem ck_X10_fairest : CKV yX10_fairest cX10_fairest 13 (some .int) 0 := ⟨⟨by decide, by decide, by decide +kernel⟩, w_1807, w_81, ⟨w_1806, w_67⟩, by decide⟩
theorem dX10_fair_0 : decode cX10_fair 0 = .ok (.aload_n 0, 1) := by decide +kernel
theorem dX10_fair_1 : decode cX10_fair 1 = .ok (.invokevirtual 156, 3) := by decide +kernel
theorem dX10_fair_4 : decode cX10_fair 4 = .ok (.aload_n 0, 1) := by decide +kernel
theorem dX10_fair_5 : decode cX10_fair 5 = .ok (.getfield 165, 3) := by decide +kernel
theorem dX10_fair_8 : decode cX10_fair 8 = .ok (.ifCond .eq 10, 3) := by decide +kernel
theorem dX10_fair_11 : decode cX10_fair 11 = .ok (.aload_n 0, 1) := by decide +kernel
theorem dX10_fair_12 : decode cX10_fair 12 = .ok (.invokevirtual 385, 3) := by decide +kernel
theorem dX10_fair_15 : decode cX10_fair 15 = .ok (.goto 8, 3) := by decide +kernel
theorem dX10_fair_18 : decode cX10_fair 18 = .ok (.aload_n 0, 1) := by decide +kernel
theorem dX10_fair_19 : decode cX10_fair 19 = .ok (.iconst 1, 1) := by decide +kernel
theorem dX10_fair_20 : decode cX10_fair 20 = .ok (.invokevirtual 159, 3) := by decide +kernel
theorem dX10_fair_23 : decode cX10_fair 23 = .ok (.ireturn, 1) := by decide +kernel
def f_X10_fair  (M : Mm) : Option (Int32 × Mm) :=
  bv (f_X10_good  M) fun M1_1 => if (M1_1 81 14) = 0 then (bd (f_X10_no (nI 1) M1_1) fun v20_4 M20_3 => some (v20_4, M20_3)) else (bd (f_X10_fairest  M1_1) fun v12_6 M12_5 => some (v12_6, M12_5))
set_option maxHeartbeats 4000000 in
set_option maxRecDepth 100000 in
theorem s_X10_fair {l : Launch} {B : BT} (hA : bA B = false) {d : Nat} {r : Int32} {M' : Mm}  {M : Mm}  (h : f_X10_fair  M = some (r, M')) : Con l B LY (d + 2) yX10_fair cX10_fair 1 (some .int) 0 0 [.ref 81] 97 M (PI r M') := by
  refine con_of (by decide) (Nat.le_of_ble_eq_true rfl) ?_
  show GG l B LY (d + 2) yX10_fair cX10_fair 1 (some .int) 0 0 (PI r M') 97 0 0 0 [(0, .ref 81)] [] M
  rw [f_X10_fair] at h
  refine g_aload_n dX10_fair_0 rfl 0 rfl ?_
  obtain ⟨M1_1, eM1_1, h⟩ := bv_e h
  refine m_callVv (As := []) (st := []) (s_X10_good (d := d + 1) hA  eM1_1) rfl okX10 ck_X10_good w_1381 rfl (Nat.le_of_ble_eq_true rfl) dX10_fair_1 ?_
  refine g_aload_n dX10_fair_4 rfl 0 rfl ?_
  refine m_geti (k := 14) okX10 rfl rfl (by decide) w_1283 rfl dX10_fair_5 ?_
  refine g_if_eq (tgt := 18) dX10_fair_8 (by decide) (fun c7 => ?_) (fun c7 => ?_)
  · replace h := ite_p c7 h
    refine g_aload_n dX10_fair_18 rfl 0 rfl ?_
    refine g_iconst (v := (nI 1)) dX10_fair_19 (by decide) ?_
    obtain ⟨v20_4, M20_3, eM20_3, h⟩ := bd_e h
    refine m_callVi (As := [.int (nI 1)]) (st := []) (s_X10_no (d := d + 1) hA  eM20_3) rfl okX10 ck_X10_no w_1388 rfl (Nat.le_of_ble_eq_true rfl) dX10_fair_20 ?_
    exact g_zret rfl rfl (pi_of h) dX10_fair_23
  · replace h := ite_n c7 h
    refine g_aload_n dX10_fair_11 rfl 0 rfl ?_
    obtain ⟨v12_6, M12_5, eM12_5, h⟩ := bd_e h
    refine m_callVi (As := []) (st := []) (s_X10_fairest (d := d + 0) hA  eM12_5) rfl okX10 ck_X10_fairest w_1804 rfl (Nat.le_of_ble_eq_true rfl) dX10_fair_12 ?_
    refine g_goto (tgt := 23) dX10_fair_15 (by decide) ?_
    exact g_zret rfl rfl (pi_of h) dX10_fair_23
theorem ck_X10_fair : CKV yX10_fair cX10_fair 1 (some .int) 0 := ⟨⟨by decide, by decide, by decide +kernel⟩, w_1803, w_81, ⟨w_1801, w_1802⟩, by decide⟩
theorem dX10_from_0 : decode cX10_from 0 = .ok (.aload_n 0, 1) := by decide +kernel
theorem dX10_from_1 : decode cX10_from 1 = .ok (.invokevirtual 156, 3) := by decide +kernel
theorem dX10_from_4 : decode cX10_from 4 = .ok (.aload_n 0, 1) := by decide +kernel
theorem dX10_from_5 : decode cX10_from 5 = .ok (.iload_n 1, 1) := by decide +kernel
theorem dX10_from_6 : decode cX10_from 6 = .ok (.invokevirtual 278, 3) := by decide +kernel
theorem dX10_from_9 : decode cX10_from 9 = .ok (.ifCond .ne 9, 3) := by decide +kernel
theorem dX10_from_12 : decode cX10_from 12 = .ok (.aload_n 0, 1) := by decide +kernel
theorem dX10_from_13 : decode cX10_from 13 = .ok (.iconst 1, 1) := by decide +kernel
theorem dX10_from_14 : decode cX10_from 14 = .ok (.invokevirtual 159, 3) := by decide +kernel
theorem dX10_from_17 : decode cX10_from 17 = .ok (.ireturn, 1) := by decide +kernel
theorem dX10_from_18 : decode cX10_from 18 = .ok (.aload_n 0, 1) := by decide +kernel
theorem dX10_from_19 : decode cX10_from 19 = .ok (.invokevirtual 385, 3) := by decide +kernel
theorem dX10_from_22 : decode cX10_from 22 = .ok (.istore_n 2, 1) := by decide +kernel
theorem dX10_from_23 : decode cX10_from 23 = .ok (.iload_n 2, 1) := by decide +kernel
theorem dX10_from_24 : decode cX10_from 24 = .ok (.ifCond .lt 12, 3) := by decide +kernel
theorem dX10_from_27 : decode cX10_from 27 = .ok (.aload_n 0, 1) := by decide +kernel
theorem dX10_from_28 : decode cX10_from 28 = .ok (.getfield 56, 3) := by decide +kernel
theorem dX10_from_31 : decode cX10_from 31 = .ok (.iload_n 1, 1) := by decide +kernel
theorem dX10_from_32 : decode cX10_from 32 = .ok (.iaload, 1) := by decide +kernel
theorem dX10_from_33 : decode cX10_from 33 = .ok (.goto 4, 3) := by decide +kernel
theorem dX10_from_36 : decode cX10_from 36 = .ok (.iconst (-1), 1) := by decide +kernel
theorem dX10_from_37 : decode cX10_from 37 = .ok (.ireturn, 1) := by decide +kernel
def f_X10_from (x1 : Int32) (M : Mm) : Option (Int32 × Mm) :=
  bv (f_X10_good  M) fun M1_1 => bd (f_X10_isCreeper x1 M1_1) fun v6_4 M6_3 => if v6_4 = 0 then (bd (f_X10_no (nI 1) M6_3) fun v14_9 M14_8 => some (v14_9, M14_8)) else (bd (f_X10_fairest  M6_3) fun v19_6 M19_5 => if v19_6 < 0 then (some ((-1 : Int32), M19_5)) else (gd (inb x1 5) <| some ((M19_5 95 x1.toNatClampNeg), M19_5)))
set_option maxHeartbeats 4000000 in
set_option maxRecDepth 100000 in
theorem s_X10_from {l : Launch} {B : BT} (hA : bA B = false) {d : Nat} {r : Int32} {M' : Mm} {x1 : Int32} {M : Mm}  (h : f_X10_from x1 M = some (r, M')) : Con l B LY (d + 2) yX10_from cX10_from 3 (some .int) 0 0 [.ref 81, .int x1] 97 M (PI r M') := by
  refine con_of (by decide) (Nat.le_of_ble_eq_true rfl) ?_
  show GG l B LY (d + 2) yX10_from cX10_from 3 (some .int) 0 0 (PI r M') 97 0 0 0 [(0, .ref 81), (1, .int x1)] [] M
  rw [f_X10_from] at h
  refine g_aload_n dX10_from_0 rfl 0 rfl ?_
  obtain ⟨M1_1, eM1_1, h⟩ := bv_e h
  refine m_callVv (As := []) (st := []) (s_X10_good (d := d + 1) hA  eM1_1) rfl okX10 ck_X10_good w_1381 rfl (Nat.le_of_ble_eq_true rfl) dX10_from_1 ?_
  refine g_aload_n dX10_from_4 rfl 0 rfl ?_
  refine g_iload_n dX10_from_5 rfl 1 rfl ?_
  obtain ⟨v6_4, M6_3, eM6_3, h⟩ := bd_e h
  refine m_callVi (As := [.int x1]) (st := []) (s_X10_isCreeper (d := d + 0) hA  eM6_3) rfl okX10 ck_X10_isCreeper w_1572 rfl (Nat.le_of_ble_eq_true rfl) dX10_from_6 ?_
  refine g_if_ne (tgt := 18) dX10_from_9 (by decide) (fun c10 => ?_) (fun c10 => ?_)
  · replace h := ite_n c10 h
    refine g_aload_n dX10_from_18 rfl 0 rfl ?_
    obtain ⟨v19_6, M19_5, eM19_5, h⟩ := bd_e h
    refine m_callVi (As := []) (st := []) (s_X10_fairest (d := d + 0) hA  eM19_5) rfl okX10 ck_X10_fairest w_1804 rfl (Nat.le_of_ble_eq_true rfl) dX10_from_19 ?_
    refine g_istore_n (lv' := [(2, .int v19_6), (0, .ref 81), (1, .int x1)]) dX10_from_22 rfl (by decide) rfl ?_
    refine g_iload_n dX10_from_23 rfl 0 rfl ?_
    refine g_if_lt (tgt := 36) dX10_from_24 (by decide) (fun c7 => ?_) (fun c7 => ?_)
    · replace h := ite_p c7 h
      refine g_iconst (v := (-1 : Int32)) dX10_from_36 (by decide) ?_
      exact g_zret rfl rfl (pi_of h) dX10_from_37
    · replace h := ite_n c7 h
      refine g_aload_n dX10_from_27 rfl 1 rfl ?_
      refine m_getr (k := 31) okX10 rfl rfl (by decide) w_1300 rfl dX10_from_28 ?_
      refine g_iload_n dX10_from_31 rfl 2 rfl ?_
      obtain ⟨hz, h⟩ := gd_s h
      refine m_iald rfl hz dX10_from_32 ?_
      refine g_goto (tgt := 37) dX10_from_33 (by decide) ?_
      exact g_zret rfl rfl (pi_of h) dX10_from_37
  · replace h := ite_p c10 h
    refine g_aload_n dX10_from_12 rfl 0 rfl ?_
    refine g_iconst (v := (nI 1)) dX10_from_13 (by decide) ?_
    obtain ⟨v14_9, M14_8, eM14_8, h⟩ := bd_e h
    refine m_callVi (As := [.int (nI 1)]) (st := []) (s_X10_no (d := d + 1) hA  eM14_8) rfl okX10 ck_X10_no w_1388 rfl (Nat.le_of_ble_eq_true rfl) dX10_from_14 ?_
    exact g_zret rfl rfl (pi_of h) dX10_from_17
theorem ck_X10_from : CKV yX10_from cX10_from 3 (some .int) 1 := ⟨⟨by decide, by decide, by decide +kernel⟩, w_1812, w_81, ⟨w_1810, w_1811⟩, by decide⟩
