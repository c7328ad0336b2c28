/-! walks: X5_part X5_verseLine X5_chances X5_oneLine X5_gravelLine X5_isKept X8_isTokenAt X5_name X5_trait X5_way. Written by wip/programs/parts.py. -/
theorem dX5_part_0 : decode cX5_part 0 = .ok (.aload_n 0, 1) := by decide +kernel
theorem dX5_part_1 : decode cX5_part 1 = .ok (.iconst 1, 1) := by decide +kernel
theorem dX5_part_2 : decode cX5_part 2 = .ok (.bipush 20, 2) := by decide +kernel
theorem dX5_part_4 : decode cX5_part 4 = .ok (.aload_n 0, 1) := by decide +kernel
theorem dX5_part_5 : decode cX5_part 5 = .ok (.getfield 22, 3) := by decide +kernel
theorem dX5_part_8 : decode cX5_part 8 = .ok (.getfield 120, 3) := by decide +kernel
theorem dX5_part_11 : decode cX5_part 11 = .ok (.iconst 5, 1) := by decide +kernel
theorem dX5_part_12 : decode cX5_part 12 = .ok (.if_icmp .ge 7, 3) := by decide +kernel
theorem dX5_part_15 : decode cX5_part 15 = .ok (.iconst 1, 1) := by decide +kernel
theorem dX5_part_16 : decode cX5_part 16 = .ok (.goto 4, 3) := by decide +kernel
theorem dX5_part_19 : decode cX5_part 19 = .ok (.iconst 0, 1) := by decide +kernel
theorem dX5_part_20 : decode cX5_part 20 = .ok (.invokevirtual 99, 3) := by decide +kernel
theorem dX5_part_23 : decode cX5_part 23 = .ok (.ifCond .ne 5, 3) := by decide +kernel
theorem dX5_part_26 : decode cX5_part 26 = .ok (.iconst 0, 1) := by decide +kernel
theorem dX5_part_27 : decode cX5_part 27 = .ok (.ireturn, 1) := by decide +kernel
theorem dX5_part_28 : decode cX5_part 28 = .ok (.aload_n 0, 1) := by decide +kernel
theorem dX5_part_29 : decode cX5_part 29 = .ok (.getfield 22, 3) := by decide +kernel
theorem dX5_part_32 : decode cX5_part 32 = .ok (.invokevirtual 126, 3) := by decide +kernel
theorem dX5_part_35 : decode cX5_part 35 = .ok (.aload_n 0, 1) := by decide +kernel
theorem dX5_part_36 : decode cX5_part 36 = .ok (.getfield 22, 3) := by decide +kernel
theorem dX5_part_39 : decode cX5_part 39 = .ok (.aload_n 0, 1) := by decide +kernel
theorem dX5_part_40 : decode cX5_part 40 = .ok (.getfield 93, 3) := by decide +kernel
theorem dX5_part_43 : decode cX5_part 43 = .ok (.invokevirtual 129, 3) := by decide +kernel
theorem dX5_part_46 : decode cX5_part 46 = .ok (.iconst 1, 1) := by decide +kernel
theorem dX5_part_47 : decode cX5_part 47 = .ok (.istore_n 1, 1) := by decide +kernel
theorem dX5_part_48 : decode cX5_part 48 = .ok (.iload_n 1, 1) := by decide +kernel
theorem dX5_part_49 : decode cX5_part 49 = .ok (.sipush 900, 3) := by decide +kernel
theorem dX5_part_52 : decode cX5_part 52 = .ok (.if_icmp .ge 53, 3) := by decide +kernel
theorem dX5_part_55 : decode cX5_part 55 = .ok (.aload_n 0, 1) := by decide +kernel
theorem dX5_part_56 : decode cX5_part 56 = .ok (.getfield 18, 3) := by decide +kernel
theorem dX5_part_59 : decode cX5_part 59 = .ok (.getfield 78, 3) := by decide +kernel
theorem dX5_part_62 : decode cX5_part 62 = .ok (.iconst 2, 1) := by decide +kernel
theorem dX5_part_63 : decode cX5_part 63 = .ok (.if_icmp .ne 42, 3) := by decide +kernel
theorem dX5_part_66 : decode cX5_part 66 = .ok (.aload_n 0, 1) := by decide +kernel
theorem dX5_part_67 : decode cX5_part 67 = .ok (.iconst 1, 1) := by decide +kernel
theorem dX5_part_68 : decode cX5_part 68 = .ok (.bipush 20, 2) := by decide +kernel
theorem dX5_part_70 : decode cX5_part 70 = .ok (.iload_n 1, 1) := by decide +kernel
theorem dX5_part_71 : decode cX5_part 71 = .ok (.iconst 4, 1) := by decide +kernel
theorem dX5_part_72 : decode cX5_part 72 = .ok (.if_icmp .ge 7, 3) := by decide +kernel
theorem dX5_part_75 : decode cX5_part 75 = .ok (.iconst 1, 1) := by decide +kernel
theorem dX5_part_76 : decode cX5_part 76 = .ok (.goto 4, 3) := by decide +kernel
theorem dX5_part_79 : decode cX5_part 79 = .ok (.iconst 0, 1) := by decide +kernel
theorem dX5_part_80 : decode cX5_part 80 = .ok (.invokevirtual 99, 3) := by decide +kernel
theorem dX5_part_83 : decode cX5_part 83 = .ok (.ifCond .ne 5, 3) := by decide +kernel
theorem dX5_part_86 : decode cX5_part 86 = .ok (.iconst 0, 1) := by decide +kernel
theorem dX5_part_87 : decode cX5_part 87 = .ok (.ireturn, 1) := by decide +kernel
theorem dX5_part_88 : decode cX5_part 88 = .ok (.aload_n 0, 1) := by decide +kernel
theorem dX5_part_89 : decode cX5_part 89 = .ok (.getfield 22, 3) := by decide +kernel
theorem dX5_part_92 : decode cX5_part 92 = .ok (.aload_n 0, 1) := by decide +kernel
theorem dX5_part_93 : decode cX5_part 93 = .ok (.getfield 93, 3) := by decide +kernel
theorem dX5_part_96 : decode cX5_part 96 = .ok (.invokevirtual 129, 3) := by decide +kernel
theorem dX5_part_99 : decode cX5_part 99 = .ok (.iinc 1 1, 3) := by decide +kernel
theorem dX5_part_102 : decode cX5_part 102 = .ok (.goto (-54), 3) := by decide +kernel
theorem dX5_part_105 : decode cX5_part 105 = .ok (.iconst 1, 1) := by decide +kernel
theorem dX5_part_106 : decode cX5_part 106 = .ok (.ireturn, 1) := by decide +kernel
def lp_X5_part_48   : Nat → Int32 → Mm → Option (Int32 × Mm)
  | 0, _, _ => none
  | n + 1, y1, M =>
    if (nI 900) ≤ y1 then (some ((nI 1), M)) else (if (M 15 3) = (nI 2) then (jn (fun (s13 : Int32) (M14 : Mm) => bd (f_X5_whole (nI 1) (nI 20) s13 M14) fun v80_17 M80_16 => if v80_17 = 0 then (some ((nI 0), M80_16)) else (bg (M80_16 17 3) fun g18 => bv (f_X0_addSyllable g18 (M80_16 17 6) M80_16) fun M96_19 => lp_X5_part_48 n (y1 + (nI 1)) M96_19)) fun j15 => if (nI 4) ≤ y1 then (j15 (nI 0) M) else (j15 (nI 1) M)) else (some ((nI 1), M)))
def f_X5_part  (M : Mm) : Option (Int32 × Mm) :=
  bg (M 17 3) fun g1 => jn (fun (s2 : Int32) (M3 : Mm) => bd (f_X5_whole (nI 1) (nI 20) s2 M3) fun v20_6 M20_5 => if v20_6 = 0 then (some ((nI 0), M20_5)) else (bg (M20_5 17 3) fun g7 => bv (f_X0_addPart g7 M20_5) fun M32_8 => bg (M32_8 17 3) fun g10 => bv (f_X0_addSyllable g10 (M32_8 17 6) M32_8) fun M43_11 => lp_X5_part_48   N0 (nI 1) M43_11)) fun j4 => if (nI 5) ≤ (M g1 9) then (j4 (nI 0) M) else (j4 (nI 1) M)
set_option maxHeartbeats 4000000 in
set_option maxRecDepth 100000 in
theorem sl_X5_part_48 {l : Launch} {B : BT} (hA : bA B = false) {d : Nat} {r : Int32} {M' : Mm}     :
    ∀ (n : Nat) (y1 : Int32) (M : Mm), lp_X5_part_48 n y1 M = some (r, M') → GG l B LY (d + 3) yX5_part cX5_part 2 (some .boolean) 0 0 (PI r M') 97 0 0 48 [(0, .ref 17), (1, .int y1)] [] M := by
  intro n
  induction n with
  | zero => intro y1 M h; cases h
  | succ n ih =>
    intro y1 M h
    rw [lp_X5_part_48] at h
    refine g_iload_n dX5_part_48 rfl 1 rfl ?_
    refine g_sipush (v := (nI 900)) dX5_part_49 (by decide) ?_
    refine g_icmp_ge (tgt := 105) dX5_part_52 (by decide) (fun c24 => ?_) (fun c24 => ?_)
    · replace h := ite_p c24 h
      refine g_iconst (v := (nI 1)) dX5_part_105 (by decide) ?_
      exact g_zret rfl rfl (pi_of h) dX5_part_106
    · replace h := ite_n c24 h
      refine g_aload_n dX5_part_55 rfl 0 rfl ?_
      refine m_geta (k := 0) okX5 rfl rfl (by decide) w_229 rfl dX5_part_56 ?_
      refine m_geti (k := 3) okX8 rfl rfl (by decide) w_199 rfl dX5_part_59 ?_
      refine g_iconst (v := (nI 2)) dX5_part_62 (by decide) ?_
      refine g_icmp_ne (tgt := 105) dX5_part_63 (by decide) (fun c23 => ?_) (fun c23 => ?_)
      · replace h := ite_n c23 h
        refine g_iconst (v := (nI 1)) dX5_part_105 (by decide) ?_
        exact g_zret rfl rfl (pi_of h) dX5_part_106
      · replace h := ite_p c23 h
        refine g_aload_n dX5_part_66 rfl 0 rfl ?_
        refine g_iconst (v := (nI 1)) dX5_part_67 (by decide) ?_
        refine g_bipush (v := (nI 20)) dX5_part_68 (by decide) ?_
        refine g_iload_n dX5_part_70 rfl 1 rfl ?_
        refine g_iconst (v := (nI 4)) dX5_part_71 (by decide) ?_
        obtain ⟨j15, ej15, h⟩ := jn_e h
        have hj15 : ∀ (s13 : Int32) (M14 : Mm), j15 s13 M14 = some (r, M') → GG l B LY (d + 3) yX5_part cX5_part 2 (some .boolean) 0 0 (PI r M') 97 0 0 80 [(0, .ref 17), (1, .int y1)] [.int s13, .int (nI 20), .int (nI 1), .ref 17] M14 := by
          intro s13 M14 h
          rw [ej15] at h
          obtain ⟨v80_17, M80_16, eM80_16, h⟩ := bd_e h
          refine m_callVi (As := [.int (nI 1), .int (nI 20), .int s13]) (st := []) (s_X5_whole (d := d + 0) hA  eM80_16) rfl okX5 ck_X5_whole w_569 rfl (Nat.le_of_ble_eq_true rfl) dX5_part_80 ?_
          refine g_if_ne (tgt := 88) dX5_part_83 (by decide) (fun c21 => ?_) (fun c21 => ?_)
          · replace h := ite_n c21 h
            refine g_aload_n dX5_part_88 rfl 0 rfl ?_
            obtain ⟨g18, eg18, hg18, h⟩ := bg_e h
            refine m_getm (k := 3) okX5 rfl rfl (by decide) w_232 rfl dX5_part_89 eg18 hg18 ?_
            refine g_aload_n dX5_part_92 rfl 0 rfl ?_
            refine m_geti (k := 6) okX5 rfl rfl (by decide) w_237 rfl dX5_part_93 ?_
            obtain ⟨M96_19, eM96_19, h⟩ := bv_e h
            refine m_callVv (As := [.int (M80_16 17 6)]) (st := []) (s_X0_addSyllable (d := d + 0) hA hg18 eM96_19) hg18 okX0 ck_X0_addSyllable w_595 rfl (Nat.le_of_ble_eq_true rfl) dX5_part_96 ?_
            refine g_iinc (v := (y1 + (nI 1))) (lv' := [(1, .int (y1 + (nI 1))), (0, .ref 17)]) dX5_part_99 1 rfl rfl (by decide) rfl ?_
            refine g_goto (tgt := 48) dX5_part_102 (by decide) ?_
            refine g_sub [1, 0] (lv' := [(0, .ref 17), (1, .int (y1 + (nI 1)))]) rfl ?_
            exact ih _  _ h
          · replace h := ite_p c21 h
            refine g_iconst (v := (nI 0)) dX5_part_86 (by decide) ?_
            exact g_zret rfl rfl (pi_of h) dX5_part_87
        refine g_icmp_ge (tgt := 79) dX5_part_72 (by decide) (fun c22 => ?_) (fun c22 => ?_)
        · replace h := ite_p c22 h
          refine g_iconst (v := (nI 0)) dX5_part_79 (by decide) ?_
          refine g_sub [0, 1] (lv' := [(0, .ref 17), (1, .int y1)]) rfl ?_
          exact hj15 _ _ h
        · replace h := ite_n c22 h
          refine g_iconst (v := (nI 1)) dX5_part_75 (by decide) ?_
          refine g_goto (tgt := 80) dX5_part_76 (by decide) ?_
          refine g_sub [0, 1] (lv' := [(0, .ref 17), (1, .int y1)]) rfl ?_
          exact hj15 _ _ h
set_option maxHeartbeats 4000000 in
set_option maxRecDepth 100000 in
theorem s_X5_part {l : Launch} {B : BT} (hA : bA B = false) {d : Nat} {r : Int32} {M' : Mm}  {M : Mm}  (h : f_X5_part  M = some (r, M')) : Con l B LY (d + 3) yX5_part cX5_part 2 (some .boolean) 0 0 [.ref 17] 97 M (PI r M') := by
  refine con_of (by decide) (Nat.le_of_ble_eq_true rfl) ?_
  show GG l B LY (d + 3) yX5_part cX5_part 2 (some .boolean) 0 0 (PI r M') 97 0 0 0 [(0, .ref 17)] [] M
  rw [f_X5_part] at h
  refine g_aload_n dX5_part_0 rfl 0 rfl ?_
  refine g_iconst (v := (nI 1)) dX5_part_1 (by decide) ?_
  refine g_bipush (v := (nI 20)) dX5_part_2 (by decide) ?_
  refine g_aload_n dX5_part_4 rfl 0 rfl ?_
  obtain ⟨g1, eg1, hg1, h⟩ := bg_e h
  refine m_getm (k := 3) okX5 rfl rfl (by decide) w_232 rfl dX5_part_5 eg1 hg1 ?_
  refine m_geti (k := 9) okX0 hg1 rfl (by decide) w_135 rfl dX5_part_8 ?_
  refine g_iconst (v := (nI 5)) dX5_part_11 (by decide) ?_
  obtain ⟨j4, ej4, h⟩ := jn_e h
  have hj4 : ∀ (s2 : Int32) (M3 : Mm), j4 s2 M3 = some (r, M') → GG l B LY (d + 3) yX5_part cX5_part 2 (some .boolean) 0 0 (PI r M') 97 0 0 20 [(0, .ref 17)] [.int s2, .int (nI 20), .int (nI 1), .ref 17] M3 := by
    intro s2 M3 h
    rw [ej4] at h
    obtain ⟨v20_6, M20_5, eM20_5, h⟩ := bd_e h
    refine m_callVi (As := [.int (nI 1), .int (nI 20), .int s2]) (st := []) (s_X5_whole (d := d + 0) hA  eM20_5) rfl okX5 ck_X5_whole w_569 rfl (Nat.le_of_ble_eq_true rfl) dX5_part_20 ?_
    refine g_if_ne (tgt := 28) dX5_part_23 (by decide) (fun c25 => ?_) (fun c25 => ?_)
    · replace h := ite_n c25 h
      refine g_aload_n dX5_part_28 rfl 0 rfl ?_
      obtain ⟨g7, eg7, hg7, h⟩ := bg_e h
      refine m_getm (k := 3) okX5 rfl rfl (by decide) w_232 rfl dX5_part_29 eg7 hg7 ?_
      obtain ⟨M32_8, eM32_8, h⟩ := bv_e h
      refine m_callVv (As := []) (st := []) (s_X0_addPart (d := d + 1) hA hg7 eM32_8) hg7 okX0 ck_X0_addPart w_584 rfl (Nat.le_of_ble_eq_true rfl) dX5_part_32 ?_
      refine g_aload_n dX5_part_35 rfl 0 rfl ?_
      obtain ⟨g10, eg10, hg10, h⟩ := bg_e h
      refine m_getm (k := 3) okX5 rfl rfl (by decide) w_232 rfl dX5_part_36 eg10 hg10 ?_
      refine g_aload_n dX5_part_39 rfl 0 rfl ?_
      refine m_geti (k := 6) okX5 rfl rfl (by decide) w_237 rfl dX5_part_40 ?_
      obtain ⟨M43_11, eM43_11, h⟩ := bv_e h
      refine m_callVv (As := [.int (M32_8 17 6)]) (st := []) (s_X0_addSyllable (d := d + 0) hA hg10 eM43_11) hg10 okX0 ck_X0_addSyllable w_595 rfl (Nat.le_of_ble_eq_true rfl) dX5_part_43 ?_
      refine g_iconst (v := (nI 1)) dX5_part_46 (by decide) ?_
      refine g_istore_n (lv' := [(1, .int (nI 1)), (0, .ref 17)]) dX5_part_47 rfl (by decide) rfl ?_
      refine g_sub [1, 0] (lv' := [(0, .ref 17), (1, .int (nI 1))]) rfl ?_
      refine sl_X5_part_48 hA   _ _ _ h
    · replace h := ite_p c25 h
      refine g_iconst (v := (nI 0)) dX5_part_26 (by decide) ?_
      exact g_zret rfl rfl (pi_of h) dX5_part_27
  refine g_icmp_ge (tgt := 19) dX5_part_12 (by decide) (fun c26 => ?_) (fun c26 => ?_)
  · replace h := ite_p c26 h
    refine g_iconst (v := (nI 0)) dX5_part_19 (by decide) ?_
    refine g_sub [0] (lv' := [(0, .ref 17)]) rfl ?_
    exact hj4 _ _ h
  · replace h := ite_n c26 h
    refine g_iconst (v := (nI 1)) dX5_part_15 (by decide) ?_
    refine g_goto (tgt := 20) dX5_part_16 (by decide) ?_
    refine g_sub [0] (lv' := [(0, .ref 17)]) rfl ?_
    exact hj4 _ _ h
theorem ck_X5_part : CKV yX5_part cX5_part 2 (some .boolean) 0 := ⟨⟨by decide, by decide, by decide +kernel⟩, w_583, w_75, ⟨w_581, w_582⟩, by decide⟩
theorem dX5_verseLine_0 : decode cX5_verseLine 0 = .ok (.aload_n 0, 1) := by decide +kernel
theorem dX5_verseLine_1 : decode cX5_verseLine 1 = .ok (.getfield 22, 3) := by decide +kernel
theorem dX5_verseLine_4 : decode cX5_verseLine 4 = .ok (.getfield 120, 3) := by decide +kernel
theorem dX5_verseLine_7 : decode cX5_verseLine 7 = .ok (.ifCond .le 9, 3) := by decide +kernel
theorem dX5_verseLine_10 : decode cX5_verseLine 10 = .ok (.aload_n 0, 1) := by decide +kernel
theorem dX5_verseLine_11 : decode cX5_verseLine 11 = .ok (.iconst 3, 1) := by decide +kernel
theorem dX5_verseLine_12 : decode cX5_verseLine 12 = .ok (.invokevirtual 74, 3) := by decide +kernel
theorem dX5_verseLine_15 : decode cX5_verseLine 15 = .ok (.ireturn, 1) := by decide +kernel
theorem dX5_verseLine_16 : decode cX5_verseLine 16 = .ok (.aload_n 0, 1) := by decide +kernel
theorem dX5_verseLine_17 : decode cX5_verseLine 17 = .ok (.getfield 18, 3) := by decide +kernel
theorem dX5_verseLine_20 : decode cX5_verseLine 20 = .ok (.invokevirtual 84, 3) := by decide +kernel
theorem dX5_verseLine_23 : decode cX5_verseLine 23 = .ok (.aload_n 0, 1) := by decide +kernel
theorem dX5_verseLine_24 : decode cX5_verseLine 24 = .ok (.invokevirtual 123, 3) := by decide +kernel
theorem dX5_verseLine_27 : decode cX5_verseLine 27 = .ok (.ifCond .ne 5, 3) := by decide +kernel
theorem dX5_verseLine_30 : decode cX5_verseLine 30 = .ok (.iconst 0, 1) := by decide +kernel
theorem dX5_verseLine_31 : decode cX5_verseLine 31 = .ok (.ireturn, 1) := by decide +kernel
theorem dX5_verseLine_32 : decode cX5_verseLine 32 = .ok (.iconst 0, 1) := by decide +kernel
theorem dX5_verseLine_33 : decode cX5_verseLine 33 = .ok (.istore_n 1, 1) := by decide +kernel
theorem dX5_verseLine_34 : decode cX5_verseLine 34 = .ok (.iload_n 1, 1) := by decide +kernel
theorem dX5_verseLine_35 : decode cX5_verseLine 35 = .ok (.sipush 900, 3) := by decide +kernel
theorem dX5_verseLine_38 : decode cX5_verseLine 38 = .ok (.if_icmp .ge 36, 3) := by decide +kernel
theorem dX5_verseLine_41 : decode cX5_verseLine 41 = .ok (.aload_n 0, 1) := by decide +kernel
theorem dX5_verseLine_42 : decode cX5_verseLine 42 = .ok (.getfield 18, 3) := by decide +kernel
theorem dX5_verseLine_45 : decode cX5_verseLine 45 = .ok (.getfield 78, 3) := by decide +kernel
theorem dX5_verseLine_48 : decode cX5_verseLine 48 = .ok (.iconst 4, 1) := by decide +kernel
theorem dX5_verseLine_49 : decode cX5_verseLine 49 = .ok (.if_icmp .ne 25, 3) := by decide +kernel
theorem dX5_verseLine_52 : decode cX5_verseLine 52 = .ok (.aload_n 0, 1) := by decide +kernel
theorem dX5_verseLine_53 : decode cX5_verseLine 53 = .ok (.getfield 18, 3) := by decide +kernel
theorem dX5_verseLine_56 : decode cX5_verseLine 56 = .ok (.invokevirtual 84, 3) := by decide +kernel
theorem dX5_verseLine_59 : decode cX5_verseLine 59 = .ok (.aload_n 0, 1) := by decide +kernel
theorem dX5_verseLine_60 : decode cX5_verseLine 60 = .ok (.invokevirtual 123, 3) := by decide +kernel
theorem dX5_verseLine_63 : decode cX5_verseLine 63 = .ok (.ifCond .ne 5, 3) := by decide +kernel
theorem dX5_verseLine_66 : decode cX5_verseLine 66 = .ok (.iconst 0, 1) := by decide +kernel
theorem dX5_verseLine_67 : decode cX5_verseLine 67 = .ok (.ireturn, 1) := by decide +kernel
theorem dX5_verseLine_68 : decode cX5_verseLine 68 = .ok (.iinc 1 1, 3) := by decide +kernel
theorem dX5_verseLine_71 : decode cX5_verseLine 71 = .ok (.goto (-37), 3) := by decide +kernel
theorem dX5_verseLine_74 : decode cX5_verseLine 74 = .ok (.iconst 1, 1) := by decide +kernel
theorem dX5_verseLine_75 : decode cX5_verseLine 75 = .ok (.ireturn, 1) := by decide +kernel
def lp_X5_verseLine_34   : Nat → Int32 → Mm → Option (Int32 × Mm)
  | 0, _, _ => none
  | n + 1, y1, M =>
    if (nI 900) ≤ y1 then (some ((nI 1), M)) else (if (M 15 3) = (nI 4) then (bv (f_X8_advance  M) fun M56_6 => bd (f_X5_part  M56_6) fun v60_9 M60_8 => if v60_9 = 0 then (some ((nI 0), M60_8)) else (lp_X5_verseLine_34 n (y1 + (nI 1)) M60_8)) else (some ((nI 1), M)))
def f_X5_verseLine  (M : Mm) : Option (Int32 × Mm) :=
  bg (M 17 3) fun g1 => if (M g1 9) ≤ 0 then (bv (f_X8_advance  M) fun M20_2 => bd (f_X5_part  M20_2) fun v24_5 M24_4 => if v24_5 = 0 then (some ((nI 0), M24_4)) else (lp_X5_verseLine_34   N0 (nI 0) M24_4)) else (bd (f_X5_fail (nI 3) M) fun v12_15 M12_14 => gd (zo v12_15) <| some (v12_15, M12_14))
set_option maxHeartbeats 4000000 in
set_option maxRecDepth 100000 in
theorem sl_X5_verseLine_34 {l : Launch} {B : BT} (hA : bA B = false) {d : Nat} {r : Int32} {M' : Mm}     :
    ∀ (n : Nat) (y1 : Int32) (M : Mm), lp_X5_verseLine_34 n y1 M = some (r, M') → GG l B LY (d + 4) yX5_verseLine cX5_verseLine 2 (some .boolean) 0 0 (PI r M') 97 0 0 34 [(0, .ref 17), (1, .int y1)] [] M := by
  intro n
  induction n with
  | zero => intro y1 M h; cases h
  | succ n ih =>
    intro y1 M h
    rw [lp_X5_verseLine_34] at h
    refine g_iload_n dX5_verseLine_34 rfl 1 rfl ?_
    refine g_sipush (v := (nI 900)) dX5_verseLine_35 (by decide) ?_
    refine g_icmp_ge (tgt := 74) dX5_verseLine_38 (by decide) (fun c12 => ?_) (fun c12 => ?_)
    · replace h := ite_p c12 h
      refine g_iconst (v := (nI 1)) dX5_verseLine_74 (by decide) ?_
      exact g_zret rfl rfl (pi_of h) dX5_verseLine_75
    · replace h := ite_n c12 h
      refine g_aload_n dX5_verseLine_41 rfl 0 rfl ?_
      refine m_geta (k := 0) okX5 rfl rfl (by decide) w_229 rfl dX5_verseLine_42 ?_
      refine m_geti (k := 3) okX8 rfl rfl (by decide) w_199 rfl dX5_verseLine_45 ?_
      refine g_iconst (v := (nI 4)) dX5_verseLine_48 (by decide) ?_
      refine g_icmp_ne (tgt := 74) dX5_verseLine_49 (by decide) (fun c11 => ?_) (fun c11 => ?_)
      · replace h := ite_n c11 h
        refine g_iconst (v := (nI 1)) dX5_verseLine_74 (by decide) ?_
        exact g_zret rfl rfl (pi_of h) dX5_verseLine_75
      · replace h := ite_p c11 h
        refine g_aload_n dX5_verseLine_52 rfl 0 rfl ?_
        refine m_geta (k := 0) okX5 rfl rfl (by decide) w_229 rfl dX5_verseLine_53 ?_
        obtain ⟨M56_6, eM56_6, h⟩ := bv_e h
        refine m_callVv (As := []) (st := []) (s_X8_advance (d := d + 2) hA  eM56_6) rfl okX8 ck_X8_advance w_559 rfl (Nat.le_of_ble_eq_true rfl) dX5_verseLine_56 ?_
        refine g_aload_n dX5_verseLine_59 rfl 0 rfl ?_
        obtain ⟨v60_9, M60_8, eM60_8, h⟩ := bd_e h
        refine m_callVi (As := []) (st := []) (s_X5_part (d := d + 0) hA  eM60_8) rfl okX5 ck_X5_part w_580 rfl (Nat.le_of_ble_eq_true rfl) dX5_verseLine_60 ?_
        refine g_if_ne (tgt := 68) dX5_verseLine_63 (by decide) (fun c10 => ?_) (fun c10 => ?_)
        · replace h := ite_n c10 h
          refine g_iinc (v := (y1 + (nI 1))) (lv' := [(1, .int (y1 + (nI 1))), (0, .ref 17)]) dX5_verseLine_68 1 rfl rfl (by decide) rfl ?_
          refine g_goto (tgt := 34) dX5_verseLine_71 (by decide) ?_
          refine g_sub [1, 0] (lv' := [(0, .ref 17), (1, .int (y1 + (nI 1)))]) rfl ?_
          exact ih _  _ h
        · replace h := ite_p c10 h
          refine g_iconst (v := (nI 0)) dX5_verseLine_66 (by decide) ?_
          exact g_zret rfl rfl (pi_of h) dX5_verseLine_67
set_option maxHeartbeats 4000000 in
set_option maxRecDepth 100000 in
theorem s_X5_verseLine {l : Launch} {B : BT} (hA : bA B = false) {d : Nat} {r : Int32} {M' : Mm}  {M : Mm}  (h : f_X5_verseLine  M = some (r, M')) : Con l B LY (d + 4) yX5_verseLine cX5_verseLine 2 (some .boolean) 0 0 [.ref 17] 97 M (PI r M') := by
  refine con_of (by decide) (Nat.le_of_ble_eq_true rfl) ?_
  show GG l B LY (d + 4) yX5_verseLine cX5_verseLine 2 (some .boolean) 0 0 (PI r M') 97 0 0 0 [(0, .ref 17)] [] M
  rw [f_X5_verseLine] at h
  refine g_aload_n dX5_verseLine_0 rfl 0 rfl ?_
  obtain ⟨g1, eg1, hg1, h⟩ := bg_e h
  refine m_getm (k := 3) okX5 rfl rfl (by decide) w_232 rfl dX5_verseLine_1 eg1 hg1 ?_
  refine m_geti (k := 9) okX0 hg1 rfl (by decide) w_135 rfl dX5_verseLine_4 ?_
  refine g_if_le (tgt := 16) dX5_verseLine_7 (by decide) (fun c16 => ?_) (fun c16 => ?_)
  · replace h := ite_p c16 h
    refine g_aload_n dX5_verseLine_16 rfl 0 rfl ?_
    refine m_geta (k := 0) okX5 rfl rfl (by decide) w_229 rfl dX5_verseLine_17 ?_
    obtain ⟨M20_2, eM20_2, h⟩ := bv_e h
    refine m_callVv (As := []) (st := []) (s_X8_advance (d := d + 2) hA  eM20_2) rfl okX8 ck_X8_advance w_559 rfl (Nat.le_of_ble_eq_true rfl) dX5_verseLine_20 ?_
    refine g_aload_n dX5_verseLine_23 rfl 0 rfl ?_
    obtain ⟨v24_5, M24_4, eM24_4, h⟩ := bd_e h
    refine m_callVi (As := []) (st := []) (s_X5_part (d := d + 0) hA  eM24_4) rfl okX5 ck_X5_part w_580 rfl (Nat.le_of_ble_eq_true rfl) dX5_verseLine_24 ?_
    refine g_if_ne (tgt := 32) dX5_verseLine_27 (by decide) (fun c13 => ?_) (fun c13 => ?_)
    · replace h := ite_n c13 h
      refine g_iconst (v := (nI 0)) dX5_verseLine_32 (by decide) ?_
      refine g_istore_n (lv' := [(1, .int (nI 0)), (0, .ref 17)]) dX5_verseLine_33 rfl (by decide) rfl ?_
      refine g_sub [1, 0] (lv' := [(0, .ref 17), (1, .int (nI 0))]) rfl ?_
      refine sl_X5_verseLine_34 hA   _ _ _ h
    · replace h := ite_p c13 h
      refine g_iconst (v := (nI 0)) dX5_verseLine_30 (by decide) ?_
      exact g_zret rfl rfl (pi_of h) dX5_verseLine_31
  · replace h := ite_n c16 h
    refine g_aload_n dX5_verseLine_10 rfl 0 rfl ?_
    refine g_iconst (v := (nI 3)) dX5_verseLine_11 (by decide) ?_
    obtain ⟨v12_15, M12_14, eM12_14, h⟩ := bd_e h
    refine m_callVi (As := [.int (nI 3)]) (st := []) (s_X5_fail (d := d + 3) hA  eM12_14) rfl okX5 ck_X5_fail w_555 rfl (Nat.le_of_ble_eq_true rfl) dX5_verseLine_12 ?_
    obtain ⟨hz, h⟩ := gd_s h
    exact g_zret rfl (nar_zo hz) (pi_of h) dX5_verseLine_15
theorem ck_X5_verseLine : CKV yX5_verseLine cX5_verseLine 2 (some .boolean) 0 := ⟨⟨by decide, by decide, by decide +kernel⟩, w_579, w_75, ⟨w_577, w_578⟩, by decide⟩
theorem dX5_chances_0 : decode cX5_chances 0 = .ok (.aload_n 0, 1) := by decide +kernel
theorem dX5_chances_1 : decode cX5_chances 1 = .ok (.ldc 147, 2) := by decide +kernel
theorem dX5_chances_3 : decode cX5_chances 3 = .ok (.invokevirtual 96, 3) := by decide +kernel
theorem dX5_chances_6 : decode cX5_chances 6 = .ok (.ifCond .eq 14, 3) := by decide +kernel
theorem dX5_chances_9 : decode cX5_chances 9 = .ok (.aload_n 0, 1) := by decide +kernel
theorem dX5_chances_10 : decode cX5_chances 10 = .ok (.iconst 0, 1) := by decide +kernel
theorem dX5_chances_11 : decode cX5_chances 11 = .ok (.bipush 100, 2) := by decide +kernel
theorem dX5_chances_13 : decode cX5_chances 13 = .ok (.iconst 1, 1) := by decide +kernel
theorem dX5_chances_14 : decode cX5_chances 14 = .ok (.invokevirtual 99, 3) := by decide +kernel
theorem dX5_chances_17 : decode cX5_chances 17 = .ok (.ifCond .ne 5, 3) := by decide +kernel
theorem dX5_chances_20 : decode cX5_chances 20 = .ok (.iconst 0, 1) := by decide +kernel
theorem dX5_chances_21 : decode cX5_chances 21 = .ok (.ireturn, 1) := by decide +kernel
theorem dX5_chances_22 : decode cX5_chances 22 = .ok (.aload_n 0, 1) := by decide +kernel
theorem dX5_chances_23 : decode cX5_chances 23 = .ok (.getfield 22, 3) := by decide +kernel
theorem dX5_chances_26 : decode cX5_chances 26 = .ok (.getfield 149, 3) := by decide +kernel
theorem dX5_chances_29 : decode cX5_chances 29 = .ok (.iconst 0, 1) := by decide +kernel
theorem dX5_chances_30 : decode cX5_chances 30 = .ok (.aload_n 0, 1) := by decide +kernel
theorem dX5_chances_31 : decode cX5_chances 31 = .ok (.getfield 93, 3) := by decide +kernel
theorem dX5_chances_34 : decode cX5_chances 34 = .ok (.invokestatic 151, 3) := by decide +kernel
theorem dX5_chances_37 : decode cX5_chances 37 = .ok (.iconst 1, 1) := by decide +kernel
theorem dX5_chances_38 : decode cX5_chances 38 = .ok (.istore_n 1, 1) := by decide +kernel
theorem dX5_chances_39 : decode cX5_chances 39 = .ok (.iload_n 1, 1) := by decide +kernel
theorem dX5_chances_40 : decode cX5_chances 40 = .ok (.sipush 900, 3) := by decide +kernel
theorem dX5_chances_43 : decode cX5_chances 43 = .ok (.if_icmp .ge 72, 3) := by decide +kernel
theorem dX5_chances_46 : decode cX5_chances 46 = .ok (.aload_n 0, 1) := by decide +kernel
theorem dX5_chances_47 : decode cX5_chances 47 = .ok (.getfield 18, 3) := by decide +kernel
theorem dX5_chances_50 : decode cX5_chances 50 = .ok (.getfield 78, 3) := by decide +kernel
theorem dX5_chances_53 : decode cX5_chances 53 = .ok (.iconst 4, 1) := by decide +kernel
theorem dX5_chances_54 : decode cX5_chances 54 = .ok (.if_icmp .ne 61, 3) := by decide +kernel
theorem dX5_chances_57 : decode cX5_chances 57 = .ok (.aload_n 0, 1) := by decide +kernel
theorem dX5_chances_58 : decode cX5_chances 58 = .ok (.getfield 18, 3) := by decide +kernel
theorem dX5_chances_61 : decode cX5_chances 61 = .ok (.invokevirtual 84, 3) := by decide +kernel
theorem dX5_chances_64 : decode cX5_chances 64 = .ok (.aload_n 0, 1) := by decide +kernel
theorem dX5_chances_65 : decode cX5_chances 65 = .ok (.iconst 0, 1) := by decide +kernel
theorem dX5_chances_66 : decode cX5_chances 66 = .ok (.bipush 100, 2) := by decide +kernel
theorem dX5_chances_68 : decode cX5_chances 68 = .ok (.iload_n 1, 1) := by decide +kernel
theorem dX5_chances_69 : decode cX5_chances 69 = .ok (.aload_n 0, 1) := by decide +kernel
theorem dX5_chances_70 : decode cX5_chances 70 = .ok (.getfield 22, 3) := by decide +kernel
theorem dX5_chances_73 : decode cX5_chances 73 = .ok (.getfield 120, 3) := by decide +kernel
theorem dX5_chances_76 : decode cX5_chances 76 = .ok (.iconst 1, 1) := by decide +kernel
theorem dX5_chances_77 : decode cX5_chances 77 = .ok (.isub, 1) := by decide +kernel
theorem dX5_chances_78 : decode cX5_chances 78 = .ok (.if_icmp .ge 7, 3) := by decide +kernel
theorem dX5_chances_81 : decode cX5_chances 81 = .ok (.iconst 1, 1) := by decide +kernel
theorem dX5_chances_82 : decode cX5_chances 82 = .ok (.goto 4, 3) := by decide +kernel
theorem dX5_chances_85 : decode cX5_chances 85 = .ok (.iconst 0, 1) := by decide +kernel
theorem dX5_chances_86 : decode cX5_chances 86 = .ok (.invokevirtual 99, 3) := by decide +kernel
theorem dX5_chances_89 : decode cX5_chances 89 = .ok (.ifCond .ne 5, 3) := by decide +kernel
theorem dX5_chances_92 : decode cX5_chances 92 = .ok (.iconst 0, 1) := by decide +kernel
theorem dX5_chances_93 : decode cX5_chances 93 = .ok (.ireturn, 1) := by decide +kernel
theorem dX5_chances_94 : decode cX5_chances 94 = .ok (.aload_n 0, 1) := by decide +kernel
theorem dX5_chances_95 : decode cX5_chances 95 = .ok (.getfield 22, 3) := by decide +kernel
theorem dX5_chances_98 : decode cX5_chances 98 = .ok (.getfield 149, 3) := by decide +kernel
theorem dX5_chances_101 : decode cX5_chances 101 = .ok (.iload_n 1, 1) := by decide +kernel
theorem dX5_chances_102 : decode cX5_chances 102 = .ok (.aload_n 0, 1) := by decide +kernel
theorem dX5_chances_103 : decode cX5_chances 103 = .ok (.getfield 93, 3) := by decide +kernel
theorem dX5_chances_106 : decode cX5_chances 106 = .ok (.invokestatic 151, 3) := by decide +kernel
theorem dX5_chances_109 : decode cX5_chances 109 = .ok (.iinc 1 1, 3) := by decide +kernel
theorem dX5_chances_112 : decode cX5_chances 112 = .ok (.goto (-73), 3) := by decide +kernel
theorem dX5_chances_115 : decode cX5_chances 115 = .ok (.iload_n 1, 1) := by decide +kernel
theorem dX5_chances_116 : decode cX5_chances 116 = .ok (.aload_n 0, 1) := by decide +kernel
theorem dX5_chances_117 : decode cX5_chances 117 = .ok (.getfield 22, 3) := by decide +kernel
theorem dX5_chances_120 : decode cX5_chances 120 = .ok (.getfield 120, 3) := by decide +kernel
theorem dX5_chances_123 : decode cX5_chances 123 = .ok (.iconst 1, 1) := by decide +kernel
theorem dX5_chances_124 : decode cX5_chances 124 = .ok (.isub, 1) := by decide +kernel
theorem dX5_chances_125 : decode cX5_chances 125 = .ok (.if_icmp .eq 11, 3) := by decide +kernel
theorem dX5_chances_128 : decode cX5_chances 128 = .ok (.aload_n 0, 1) := by decide +kernel
theorem dX5_chances_129 : decode cX5_chances 129 = .ok (.iconst 1, 1) := by decide +kernel
theorem dX5_chances_130 : decode cX5_chances 130 = .ok (.invokevirtual 74, 3) := by decide +kernel
theorem dX5_chances_133 : decode cX5_chances 133 = .ok (.ifCond .eq 7, 3) := by decide +kernel
theorem dX5_chances_136 : decode cX5_chances 136 = .ok (.iconst 1, 1) := by decide +kernel
theorem dX5_chances_137 : decode cX5_chances 137 = .ok (.goto 4, 3) := by decide +kernel
theorem dX5_chances_140 : decode cX5_chances 140 = .ok (.iconst 0, 1) := by decide +kernel
theorem dX5_chances_141 : decode cX5_chances 141 = .ok (.ireturn, 1) := by decide +kernel
def lp_X5_chances_39  (k115 : Int32 → Mm → Option (Int32 × Mm)) : Nat → Int32 → Mm → Option (Int32 × Mm)
  | 0, _, _ => none
  | n + 1, y1, M =>
    if (nI 900) ≤ y1 then (k115 y1 M) else (if (M 15 3) = (nI 4) then (bv (f_X8_advance  M) fun M61_8 => bg (M61_8 17 3) fun g10 => jn (fun (s11 : Int32) (M12 : Mm) => bd (f_X5_whole (nI 0) (nI 100) s11 M12) fun v86_15 M86_14 => if v86_15 = 0 then (some ((nI 0), M86_14)) else (bg (M86_14 17 3) fun g16 => bv (f_X9_put (g16 + 4) y1 (M86_14 17 6) M86_14) fun M106_17 => lp_X5_chances_39 k115 n (y1 + (nI 1)) M106_17)) fun j13 => if ((M61_8 g10 9) - (nI 1)) ≤ y1 then (j13 (nI 0) M61_8) else (j13 (nI 1) M61_8)) else (k115 y1 M))
def f_X5_chances  (M : Mm) : Option (Int32 × Mm) :=
  bd (f_X5_word 6 M) fun v3_2 M3_1 => if v3_2 = 0 then (some ((nI 0), M3_1)) else (bd (f_X5_whole (nI 0) (nI 100) (nI 1) M3_1) fun v14_4 M14_3 => if v14_4 = 0 then (some ((nI 0), M14_3)) else (bg (M14_3 17 3) fun g5 => bv (f_X9_put (g5 + 4) (nI 0) (M14_3 17 6) M14_3) fun M34_6 => lp_X5_chances_39  (fun (u23 : Int32) (M24 : Mm) => bg (M24 17 3) fun g25 => jn (fun (M26 : Mm) => some ((nI 1), M26)) fun j27 => if u23 = ((M24 g25 9) - (nI 1)) then (j27  M24) else (bd (f_X5_fail (nI 1) M24) fun v130_29 M130_28 => if v130_29 = 0 then (some ((nI 0), M130_28)) else (j27  M130_28))) N0 (nI 1) M34_6))
set_option maxHeartbeats 4000000 in
set_option maxRecDepth 100000 in
theorem sl_X5_chances_39 {l : Launch} {B : BT} (hA : bA B = false) {d : Nat} {r : Int32} {M' : Mm}   {k115 : Int32 → Mm → Option (Int32 × Mm)} (hk115 : ∀ (z1 : Int32) (M9 : Mm), k115 z1 M9 = some (r, M') → GG l B LY (d + 6) yX5_chances cX5_chances 2 (some .boolean) 0 0 (PI r M') 97 0 0 115 [(0, .ref 17), (1, .int z1)] [] M9) :
    ∀ (n : Nat) (y1 : Int32) (M : Mm), lp_X5_chances_39 k115 n y1 M = some (r, M') → GG l B LY (d + 6) yX5_chances cX5_chances 2 (some .boolean) 0 0 (PI r M') 97 0 0 39 [(0, .ref 17), (1, .int y1)] [] M := by
  intro n
  induction n with
  | zero => intro y1 M h; cases h
  | succ n ih =>
    intro y1 M h
    rw [lp_X5_chances_39] at h
    refine g_iload_n dX5_chances_39 rfl 1 rfl ?_
    refine g_sipush (v := (nI 900)) dX5_chances_40 (by decide) ?_
    refine g_icmp_ge (tgt := 115) dX5_chances_43 (by decide) (fun c22 => ?_) (fun c22 => ?_)
    · replace h := ite_p c22 h
      refine g_sub [0, 1] (lv' := [(0, .ref 17), (1, .int y1)]) rfl ?_
      exact hk115 _ _ h
    · replace h := ite_n c22 h
      refine g_aload_n dX5_chances_46 rfl 0 rfl ?_
      refine m_geta (k := 0) okX5 rfl rfl (by decide) w_229 rfl dX5_chances_47 ?_
      refine m_geti (k := 3) okX8 rfl rfl (by decide) w_199 rfl dX5_chances_50 ?_
      refine g_iconst (v := (nI 4)) dX5_chances_53 (by decide) ?_
      refine g_icmp_ne (tgt := 115) dX5_chances_54 (by decide) (fun c21 => ?_) (fun c21 => ?_)
      · replace h := ite_n c21 h
        refine g_sub [0, 1] (lv' := [(0, .ref 17), (1, .int y1)]) rfl ?_
        exact hk115 _ _ h
      · replace h := ite_p c21 h
        refine g_aload_n dX5_chances_57 rfl 0 rfl ?_
        refine m_geta (k := 0) okX5 rfl rfl (by decide) w_229 rfl dX5_chances_58 ?_
        obtain ⟨M61_8, eM61_8, h⟩ := bv_e h
        refine m_callVv (As := []) (st := []) (s_X8_advance (d := d + 4) hA  eM61_8) rfl okX8 ck_X8_advance w_559 rfl (Nat.le_of_ble_eq_true rfl) dX5_chances_61 ?_
        refine g_aload_n dX5_chances_64 rfl 0 rfl ?_
        refine g_iconst (v := (nI 0)) dX5_chances_65 (by decide) ?_
        refine g_bipush (v := (nI 100)) dX5_chances_66 (by decide) ?_
        refine g_iload_n dX5_chances_68 rfl 1 rfl ?_
        refine g_aload_n dX5_chances_69 rfl 0 rfl ?_
        obtain ⟨g10, eg10, hg10, h⟩ := bg_e h
        refine m_getm (k := 3) okX5 rfl rfl (by decide) w_232 rfl dX5_chances_70 eg10 hg10 ?_
        refine m_geti (k := 9) okX0 hg10 rfl (by decide) w_135 rfl dX5_chances_73 ?_
        refine g_iconst (v := (nI 1)) dX5_chances_76 (by decide) ?_
        refine g_isub dX5_chances_77 ?_
        obtain ⟨j13, ej13, h⟩ := jn_e h
        have hj13 : ∀ (s11 : Int32) (M12 : Mm), j13 s11 M12 = some (r, M') → GG l B LY (d + 6) yX5_chances cX5_chances 2 (some .boolean) 0 0 (PI r M') 97 0 0 86 [(0, .ref 17), (1, .int y1)] [.int s11, .int (nI 100), .int (nI 0), .ref 17] M12 := by
          intro s11 M12 h
          rw [ej13] at h
          obtain ⟨v86_15, M86_14, eM86_14, h⟩ := bd_e h
          refine m_callVi (As := [.int (nI 0), .int (nI 100), .int s11]) (st := []) (s_X5_whole (d := d + 3) hA  eM86_14) rfl okX5 ck_X5_whole w_569 rfl (Nat.le_of_ble_eq_true rfl) dX5_chances_86 ?_
          refine g_if_ne (tgt := 94) dX5_chances_89 (by decide) (fun c19 => ?_) (fun c19 => ?_)
          · replace h := ite_n c19 h
            refine g_aload_n dX5_chances_94 rfl 0 rfl ?_
            obtain ⟨g16, eg16, hg16, h⟩ := bg_e h
            refine m_getm (k := 3) okX5 rfl rfl (by decide) w_232 rfl dX5_chances_95 eg16 hg16 ?_
            refine m_getr (k := 3) okX0 hg16 rfl (by decide) w_114 rfl dX5_chances_98 ?_
            refine g_iload_n dX5_chances_101 rfl 1 rfl ?_
            refine g_aload_n dX5_chances_102 rfl 0 rfl ?_
            refine m_geti (k := 6) okX5 rfl rfl (by decide) w_237 rfl dX5_chances_103 ?_
            obtain ⟨M106_17, eM106_17, h⟩ := bv_e h
            refine m_callNv (As := [.ref (g16 + 4), .int y1, .int (M86_14 17 6)]) (st := []) (s_X9_put (d := d + 5) hA (al_of (aX0_4 hg16)) eM106_17) ck_X9_put (host := "StillYard") (List.mem_of_getElem? (i := 12) rfl) rfl (Nat.le_of_ble_eq_true rfl) dX5_chances_106 ?_
            refine g_iinc (v := (y1 + (nI 1))) (lv' := [(1, .int (y1 + (nI 1))), (0, .ref 17)]) dX5_chances_109 1 rfl rfl (by decide) rfl ?_
            refine g_goto (tgt := 39) dX5_chances_112 (by decide) ?_
            refine g_sub [1, 0] (lv' := [(0, .ref 17), (1, .int (y1 + (nI 1)))]) rfl ?_
            exact ih _  _ h
          · replace h := ite_p c19 h
            refine g_iconst (v := (nI 0)) dX5_chances_92 (by decide) ?_
            exact g_zret rfl rfl (pi_of h) dX5_chances_93
        refine g_icmp_ge (tgt := 85) dX5_chances_78 (by decide) (fun c20 => ?_) (fun c20 => ?_)
        · replace h := ite_p c20 h
          refine g_iconst (v := (nI 0)) dX5_chances_85 (by decide) ?_
          refine g_sub [0, 1] (lv' := [(0, .ref 17), (1, .int y1)]) rfl ?_
          exact hj13 _ _ h
        · replace h := ite_n c20 h
          refine g_iconst (v := (nI 1)) dX5_chances_81 (by decide) ?_
          refine g_goto (tgt := 86) dX5_chances_82 (by decide) ?_
          refine g_sub [0, 1] (lv' := [(0, .ref 17), (1, .int y1)]) rfl ?_
          exact hj13 _ _ h
set_option maxHeartbeats 4000000 in
set_option maxRecDepth 100000 in
theorem s_X5_chances {l : Launch} {B : BT} (hA : bA B = false) {d : Nat} {r : Int32} {M' : Mm}  {M : Mm}  (h : f_X5_chances  M = some (r, M')) : Con l B LY (d + 6) yX5_chances cX5_chances 2 (some .boolean) 0 0 [.ref 17] 97 M (PI r M') := by
  refine con_of (by decide) (Nat.le_of_ble_eq_true rfl) ?_
  show GG l B LY (d + 6) yX5_chances cX5_chances 2 (some .boolean) 0 0 (PI r M') 97 0 0 0 [(0, .ref 17)] [] M
  rw [f_X5_chances] at h
  refine g_aload_n dX5_chances_0 rfl 0 rfl ?_
  refine g_ldcS (j := 6) rfl dX5_chances_1 ?_
  obtain ⟨v3_2, M3_1, eM3_1, h⟩ := bd_e h
  refine m_callVi (As := [.ref (1000 + 6)]) (st := []) (s_X5_word (d := d + 0) hA (by decide) eM3_1) rfl okX5 ck_X5_word w_565 rfl (Nat.le_of_ble_eq_true rfl) dX5_chances_3 ?_
  refine g_if_eq (tgt := 20) dX5_chances_6 (by decide) (fun c33 => ?_) (fun c33 => ?_)
  · replace h := ite_p c33 h
    refine g_iconst (v := (nI 0)) dX5_chances_20 (by decide) ?_
    exact g_zret rfl rfl (pi_of h) dX5_chances_21
  · replace h := ite_n c33 h
    refine g_aload_n dX5_chances_9 rfl 0 rfl ?_
    refine g_iconst (v := (nI 0)) dX5_chances_10 (by decide) ?_
    refine g_bipush (v := (nI 100)) dX5_chances_11 (by decide) ?_
    refine g_iconst (v := (nI 1)) dX5_chances_13 (by decide) ?_
    obtain ⟨v14_4, M14_3, eM14_3, h⟩ := bd_e h
    refine m_callVi (As := [.int (nI 0), .int (nI 100), .int (nI 1)]) (st := []) (s_X5_whole (d := d + 3) hA  eM14_3) rfl okX5 ck_X5_whole w_569 rfl (Nat.le_of_ble_eq_true rfl) dX5_chances_14 ?_
    refine g_if_ne (tgt := 22) dX5_chances_17 (by decide) (fun c32 => ?_) (fun c32 => ?_)
    · replace h := ite_n c32 h
      refine g_aload_n dX5_chances_22 rfl 0 rfl ?_
      obtain ⟨g5, eg5, hg5, h⟩ := bg_e h
      refine m_getm (k := 3) okX5 rfl rfl (by decide) w_232 rfl dX5_chances_23 eg5 hg5 ?_
      refine m_getr (k := 3) okX0 hg5 rfl (by decide) w_114 rfl dX5_chances_26 ?_
      refine g_iconst (v := (nI 0)) dX5_chances_29 (by decide) ?_
      refine g_aload_n dX5_chances_30 rfl 0 rfl ?_
      refine m_geti (k := 6) okX5 rfl rfl (by decide) w_237 rfl dX5_chances_31 ?_
      obtain ⟨M34_6, eM34_6, h⟩ := bv_e h
      refine m_callNv (As := [.ref (g5 + 4), .int (nI 0), .int (M14_3 17 6)]) (st := []) (s_X9_put (d := d + 5) hA (al_of (aX0_4 hg5)) eM34_6) ck_X9_put (host := "StillYard") (List.mem_of_getElem? (i := 12) rfl) rfl (Nat.le_of_ble_eq_true rfl) dX5_chances_34 ?_
      refine g_iconst (v := (nI 1)) dX5_chances_37 (by decide) ?_
      refine g_istore_n (lv' := [(1, .int (nI 1)), (0, .ref 17)]) dX5_chances_38 rfl (by decide) rfl ?_
      refine g_sub [1, 0] (lv' := [(0, .ref 17), (1, .int (nI 1))]) rfl ?_
      refine sl_X5_chances_39 hA  ?_ _ _ _ h
      · intro u23 M24 h
        refine g_iload_n dX5_chances_115 rfl 1 rfl ?_
        refine g_aload_n dX5_chances_116 rfl 0 rfl ?_
        obtain ⟨g25, eg25, hg25, h⟩ := bg_e h
        refine m_getm (k := 3) okX5 rfl rfl (by decide) w_232 rfl dX5_chances_117 eg25 hg25 ?_
        refine m_geti (k := 9) okX0 hg25 rfl (by decide) w_135 rfl dX5_chances_120 ?_
        refine g_iconst (v := (nI 1)) dX5_chances_123 (by decide) ?_
        refine g_isub dX5_chances_124 ?_
        obtain ⟨j27, ej27, h⟩ := jn_e h
        have hj27 : ∀ (M26 : Mm), j27 M26 = some (r, M') → GG l B LY (d + 6) yX5_chances cX5_chances 2 (some .boolean) 0 0 (PI r M') 97 0 0 136 [] [] M26 := by
          intro M26 h
          rw [ej27] at h
          refine g_iconst (v := (nI 1)) dX5_chances_136 (by decide) ?_
          refine g_goto (tgt := 141) dX5_chances_137 (by decide) ?_
          exact g_zret rfl rfl (pi_of h) dX5_chances_141
        refine g_icmp_eq (tgt := 136) dX5_chances_125 (by decide) (fun c31 => ?_) (fun c31 => ?_)
        · replace h := ite_p c31 h
          refine g_sub [] (lv' := []) rfl ?_
          exact hj27  _ h
        · replace h := ite_n c31 h
          refine g_aload_n dX5_chances_128 rfl 0 rfl ?_
          refine g_iconst (v := (nI 1)) dX5_chances_129 (by decide) ?_
          obtain ⟨v130_29, M130_28, eM130_28, h⟩ := bd_e h
          refine m_callVi (As := [.int (nI 1)]) (st := []) (s_X5_fail (d := d + 5) hA  eM130_28) rfl okX5 ck_X5_fail w_555 rfl (Nat.le_of_ble_eq_true rfl) dX5_chances_130 ?_
          refine g_if_eq (tgt := 140) dX5_chances_133 (by decide) (fun c30 => ?_) (fun c30 => ?_)
          · replace h := ite_p c30 h
            refine g_iconst (v := (nI 0)) dX5_chances_140 (by decide) ?_
            exact g_zret rfl rfl (pi_of h) dX5_chances_141
          · replace h := ite_n c30 h
            refine g_sub [] (lv' := []) rfl ?_
            exact hj27  _ h
    · replace h := ite_p c32 h
      refine g_iconst (v := (nI 0)) dX5_chances_20 (by decide) ?_
      exact g_zret rfl rfl (pi_of h) dX5_chances_21
theorem ck_X5_chances : CKV yX5_chances cX5_chances 2 (some .boolean) 0 := ⟨⟨by decide, by decide, by decide +kernel⟩, w_615, w_75, ⟨w_613, w_614⟩, by decide⟩
theorem dX5_oneLine_0 : decode cX5_oneLine 0 = .ok (.aload_n 0, 1) := by decide +kernel
theorem dX5_oneLine_1 : decode cX5_oneLine 1 = .ok (.getfield 22, 3) := by decide +kernel
theorem dX5_oneLine_4 : decode cX5_oneLine 4 = .ok (.getfield 120, 3) := by decide +kernel
theorem dX5_oneLine_7 : decode cX5_oneLine 7 = .ok (.ifCond .ne 10, 3) := by decide +kernel
theorem dX5_oneLine_10 : decode cX5_oneLine 10 = .ok (.aload_n 0, 1) := by decide +kernel
theorem dX5_oneLine_11 : decode cX5_oneLine 11 = .ok (.bipush 6, 2) := by decide +kernel
theorem dX5_oneLine_13 : decode cX5_oneLine 13 = .ok (.invokevirtual 74, 3) := by decide +kernel
theorem dX5_oneLine_16 : decode cX5_oneLine 16 = .ok (.ireturn, 1) := by decide +kernel
theorem dX5_oneLine_17 : decode cX5_oneLine 17 = .ok (.aload_n 0, 1) := by decide +kernel
theorem dX5_oneLine_18 : decode cX5_oneLine 18 = .ok (.getfield 22, 3) := by decide +kernel
theorem dX5_oneLine_21 : decode cX5_oneLine 21 = .ok (.getfield 132, 3) := by decide +kernel
theorem dX5_oneLine_24 : decode cX5_oneLine 24 = .ok (.ifCond .le 9, 3) := by decide +kernel
theorem dX5_oneLine_27 : decode cX5_oneLine 27 = .ok (.aload_n 0, 1) := by decide +kernel
theorem dX5_oneLine_28 : decode cX5_oneLine 28 = .ok (.iconst 3, 1) := by decide +kernel
theorem dX5_oneLine_29 : decode cX5_oneLine 29 = .ok (.invokevirtual 74, 3) := by decide +kernel
theorem dX5_oneLine_32 : decode cX5_oneLine 32 = .ok (.ireturn, 1) := by decide +kernel
theorem dX5_oneLine_33 : decode cX5_oneLine 33 = .ok (.aload_n 0, 1) := by decide +kernel
theorem dX5_oneLine_34 : decode cX5_oneLine 34 = .ok (.getfield 18, 3) := by decide +kernel
theorem dX5_oneLine_37 : decode cX5_oneLine 37 = .ok (.invokevirtual 84, 3) := by decide +kernel
theorem dX5_oneLine_40 : decode cX5_oneLine 40 = .ok (.aload_n 0, 1) := by decide +kernel
theorem dX5_oneLine_41 : decode cX5_oneLine 41 = .ok (.getfield 22, 3) := by decide +kernel
theorem dX5_oneLine_44 : decode cX5_oneLine 44 = .ok (.getfield 120, 3) := by decide +kernel
theorem dX5_oneLine_47 : decode cX5_oneLine 47 = .ok (.iconst 1, 1) := by decide +kernel
theorem dX5_oneLine_48 : decode cX5_oneLine 48 = .ok (.if_icmp .le 12, 3) := by decide +kernel
theorem dX5_oneLine_51 : decode cX5_oneLine 51 = .ok (.aload_n 0, 1) := by decide +kernel
theorem dX5_oneLine_52 : decode cX5_oneLine 52 = .ok (.invokevirtual 135, 3) := by decide +kernel
theorem dX5_oneLine_55 : decode cX5_oneLine 55 = .ok (.ifCond .ne 5, 3) := by decide +kernel
theorem dX5_oneLine_58 : decode cX5_oneLine 58 = .ok (.iconst 0, 1) := by decide +kernel
theorem dX5_oneLine_59 : decode cX5_oneLine 59 = .ok (.ireturn, 1) := by decide +kernel
theorem dX5_oneLine_60 : decode cX5_oneLine 60 = .ok (.aload_n 0, 1) := by decide +kernel
theorem dX5_oneLine_61 : decode cX5_oneLine 61 = .ok (.ldc 138, 2) := by decide +kernel
theorem dX5_oneLine_63 : decode cX5_oneLine 63 = .ok (.iconst 1, 1) := by decide +kernel
theorem dX5_oneLine_64 : decode cX5_oneLine 64 = .ok (.bipush 60, 2) := by decide +kernel
theorem dX5_oneLine_66 : decode cX5_oneLine 66 = .ok (.invokevirtual 108, 3) := by decide +kernel
theorem dX5_oneLine_69 : decode cX5_oneLine 69 = .ok (.ifCond .ne 5, 3) := by decide +kernel
theorem dX5_oneLine_72 : decode cX5_oneLine 72 = .ok (.iconst 0, 1) := by decide +kernel
theorem dX5_oneLine_73 : decode cX5_oneLine 73 = .ok (.ireturn, 1) := by decide +kernel
theorem dX5_oneLine_74 : decode cX5_oneLine 74 = .ok (.aload_n 0, 1) := by decide +kernel
theorem dX5_oneLine_75 : decode cX5_oneLine 75 = .ok (.getfield 22, 3) := by decide +kernel
theorem dX5_oneLine_78 : decode cX5_oneLine 78 = .ok (.aload_n 0, 1) := by decide +kernel
theorem dX5_oneLine_79 : decode cX5_oneLine 79 = .ok (.getfield 93, 3) := by decide +kernel
theorem dX5_oneLine_82 : decode cX5_oneLine 82 = .ok (.putfield 140, 3) := by decide +kernel
theorem dX5_oneLine_85 : decode cX5_oneLine 85 = .ok (.aload_n 0, 1) := by decide +kernel
theorem dX5_oneLine_86 : decode cX5_oneLine 86 = .ok (.ldc 142, 2) := by decide +kernel
theorem dX5_oneLine_88 : decode cX5_oneLine 88 = .ok (.iconst 1, 1) := by decide +kernel
theorem dX5_oneLine_89 : decode cX5_oneLine 89 = .ok (.bipush 20, 2) := by decide +kernel
theorem dX5_oneLine_91 : decode cX5_oneLine 91 = .ok (.invokevirtual 108, 3) := by decide +kernel
theorem dX5_oneLine_94 : decode cX5_oneLine 94 = .ok (.ifCond .ne 5, 3) := by decide +kernel
theorem dX5_oneLine_97 : decode cX5_oneLine 97 = .ok (.iconst 0, 1) := by decide +kernel
theorem dX5_oneLine_98 : decode cX5_oneLine 98 = .ok (.ireturn, 1) := by decide +kernel
theorem dX5_oneLine_99 : decode cX5_oneLine 99 = .ok (.aload_n 0, 1) := by decide +kernel
theorem dX5_oneLine_100 : decode cX5_oneLine 100 = .ok (.getfield 22, 3) := by decide +kernel
theorem dX5_oneLine_103 : decode cX5_oneLine 103 = .ok (.aload_n 0, 1) := by decide +kernel
theorem dX5_oneLine_104 : decode cX5_oneLine 104 = .ok (.getfield 93, 3) := by decide +kernel
theorem dX5_oneLine_107 : decode cX5_oneLine 107 = .ok (.putfield 132, 3) := by decide +kernel
theorem dX5_oneLine_110 : decode cX5_oneLine 110 = .ok (.aload_n 0, 1) := by decide +kernel
theorem dX5_oneLine_111 : decode cX5_oneLine 111 = .ok (.ldc 143, 2) := by decide +kernel
theorem dX5_oneLine_113 : decode cX5_oneLine 113 = .ok (.iconst 0, 1) := by decide +kernel
theorem dX5_oneLine_114 : decode cX5_oneLine 114 = .ok (.bipush 100, 2) := by decide +kernel
theorem dX5_oneLine_116 : decode cX5_oneLine 116 = .ok (.invokevirtual 108, 3) := by decide +kernel
theorem dX5_oneLine_119 : decode cX5_oneLine 119 = .ok (.ifCond .ne 5, 3) := by decide +kernel
theorem dX5_oneLine_122 : decode cX5_oneLine 122 = .ok (.iconst 0, 1) := by decide +kernel
theorem dX5_oneLine_123 : decode cX5_oneLine 123 = .ok (.ireturn, 1) := by decide +kernel
theorem dX5_oneLine_124 : decode cX5_oneLine 124 = .ok (.aload_n 0, 1) := by decide +kernel
theorem dX5_oneLine_125 : decode cX5_oneLine 125 = .ok (.getfield 22, 3) := by decide +kernel
theorem dX5_oneLine_128 : decode cX5_oneLine 128 = .ok (.aload_n 0, 1) := by decide +kernel
theorem dX5_oneLine_129 : decode cX5_oneLine 129 = .ok (.getfield 93, 3) := by decide +kernel
theorem dX5_oneLine_132 : decode cX5_oneLine 132 = .ok (.putfield 145, 3) := by decide +kernel
theorem dX5_oneLine_135 : decode cX5_oneLine 135 = .ok (.iconst 1, 1) := by decide +kernel
theorem dX5_oneLine_136 : decode cX5_oneLine 136 = .ok (.ireturn, 1) := by decide +kernel
def f_X5_oneLine  (M : Mm) : Option (Int32 × Mm) :=
  bg (M 17 3) fun g1 => if (M g1 9) = 0 then (bd (f_X5_fail (nI 6) M) fun v13_28 M13_27 => gd (zo v13_28) <| some (v13_28, M13_27)) else (bg (M 17 3) fun g2 => if (M g2 11) ≤ 0 then (bv (f_X8_advance  M) fun M37_3 => bg (M37_3 17 3) fun g5 => jn (fun (M6 : Mm) => bd (f_X5_told 7 (nI 1) (nI 60) M6) fun v66_9 M66_8 => if v66_9 = 0 then (some ((nI 0), M66_8)) else (bg (M66_8 17 3) fun g10 => bd (f_X5_told 8 (nI 1) (nI 20) (mset M66_8 g10 10 (M66_8 17 6))) fun v91_12 M91_11 => if v91_12 = 0 then (some ((nI 0), M91_11)) else (bg (M91_11 17 3) fun g13 => bd (f_X5_told 9 (nI 0) (nI 100) (mset M91_11 g13 11 (M91_11 17 6))) fun v116_15 M116_14 => if v116_15 = 0 then (some ((nI 0), M116_14)) else (bg (M116_14 17 3) fun g16 => some ((nI 1), (mset M116_14 g16 12 (M116_14 17 6))))))) fun j7 => if (M37_3 g5 9) ≤ (nI 1) then (j7  M37_3) else (bd (f_X5_chances  M37_3) fun v52_21 M52_20 => if v52_21 = 0 then (some ((nI 0), M52_20)) else (j7  M52_20))) else (bd (f_X5_fail (nI 3) M) fun v29_25 M29_24 => gd (zo v29_25) <| some (v29_25, M29_24)))
set_option maxHeartbeats 4000000 in
set_option maxRecDepth 100000 in
theorem s_X5_oneLine {l : Launch} {B : BT} (hA : bA B = false) {d : Nat} {r : Int32} {M' : Mm}  {M : Mm}  (h : f_X5_oneLine  M = some (r, M')) : Con l B LY (d + 7) yX5_oneLine cX5_oneLine 1 (some .boolean) 0 0 [.ref 17] 97 M (PI r M') := by
  refine con_of (by decide) (Nat.le_of_ble_eq_true rfl) ?_
  show GG l B LY (d + 7) yX5_oneLine cX5_oneLine 1 (some .boolean) 0 0 (PI r M') 97 0 0 0 [(0, .ref 17)] [] M
  rw [f_X5_oneLine] at h
  refine g_aload_n dX5_oneLine_0 rfl 0 rfl ?_
  obtain ⟨g1, eg1, hg1, h⟩ := bg_e h
  refine m_getm (k := 3) okX5 rfl rfl (by decide) w_232 rfl dX5_oneLine_1 eg1 hg1 ?_
  refine m_geti (k := 9) okX0 hg1 rfl (by decide) w_135 rfl dX5_oneLine_4 ?_
  refine g_if_ne (tgt := 17) dX5_oneLine_7 (by decide) (fun c29 => ?_) (fun c29 => ?_)
  · replace h := ite_n c29 h
    refine g_aload_n dX5_oneLine_17 rfl 0 rfl ?_
    obtain ⟨g2, eg2, hg2, h⟩ := bg_e h
    refine m_getm (k := 3) okX5 rfl rfl (by decide) w_232 rfl dX5_oneLine_18 eg2 hg2 ?_
    refine m_geti (k := 11) okX0 hg2 rfl (by decide) w_141 rfl dX5_oneLine_21 ?_
    refine g_if_le (tgt := 33) dX5_oneLine_24 (by decide) (fun c26 => ?_) (fun c26 => ?_)
    · replace h := ite_p c26 h
      refine g_aload_n dX5_oneLine_33 rfl 0 rfl ?_
      refine m_geta (k := 0) okX5 rfl rfl (by decide) w_229 rfl dX5_oneLine_34 ?_
      obtain ⟨M37_3, eM37_3, h⟩ := bv_e h
      refine m_callVv (As := []) (st := []) (s_X8_advance (d := d + 5) hA  eM37_3) rfl okX8 ck_X8_advance w_559 rfl (Nat.le_of_ble_eq_true rfl) dX5_oneLine_37 ?_
      refine g_aload_n dX5_oneLine_40 rfl 0 rfl ?_
      obtain ⟨g5, eg5, hg5, h⟩ := bg_e h
      refine m_getm (k := 3) okX5 rfl rfl (by decide) w_232 rfl dX5_oneLine_41 eg5 hg5 ?_
      refine m_geti (k := 9) okX0 hg5 rfl (by decide) w_135 rfl dX5_oneLine_44 ?_
      refine g_iconst (v := (nI 1)) dX5_oneLine_47 (by decide) ?_
      obtain ⟨j7, ej7, h⟩ := jn_e h
      have hj7 : ∀ (M6 : Mm), j7 M6 = some (r, M') → GG l B LY (d + 7) yX5_oneLine cX5_oneLine 1 (some .boolean) 0 0 (PI r M') 97 0 0 60 [(0, .ref 17)] [] M6 := by
        intro M6 h
        rw [ej7] at h
        refine g_aload_n dX5_oneLine_60 rfl 0 rfl ?_
        refine g_ldcS (j := 7) rfl dX5_oneLine_61 ?_
        refine g_iconst (v := (nI 1)) dX5_oneLine_63 (by decide) ?_
        refine g_bipush (v := (nI 60)) dX5_oneLine_64 (by decide) ?_
        obtain ⟨v66_9, M66_8, eM66_8, h⟩ := bd_e h
        refine m_callVi (As := [.ref (1000 + 7), .int (nI 1), .int (nI 60)]) (st := []) (s_X5_told (d := d + 0) hA (by decide) eM66_8) rfl okX5 ck_X5_told w_561 rfl (Nat.le_of_ble_eq_true rfl) dX5_oneLine_66 ?_
        refine g_if_ne (tgt := 74) dX5_oneLine_69 (by decide) (fun c19 => ?_) (fun c19 => ?_)
        · replace h := ite_n c19 h
          refine g_aload_n dX5_oneLine_74 rfl 0 rfl ?_
          obtain ⟨g10, eg10, hg10, h⟩ := bg_e h
          refine m_getm (k := 3) okX5 rfl rfl (by decide) w_232 rfl dX5_oneLine_75 eg10 hg10 ?_
          refine g_aload_n dX5_oneLine_78 rfl 0 rfl ?_
          refine m_geti (k := 6) okX5 rfl rfl (by decide) w_237 rfl dX5_oneLine_79 ?_
          refine m_puti (k := 10) okX0 hg10 rfl (by decide) w_139 rfl rfl rfl dX5_oneLine_82 ?_
          refine g_aload_n dX5_oneLine_85 rfl 0 rfl ?_
          refine g_ldcS (j := 8) rfl dX5_oneLine_86 ?_
          refine g_iconst (v := (nI 1)) dX5_oneLine_88 (by decide) ?_
          refine g_bipush (v := (nI 20)) dX5_oneLine_89 (by decide) ?_
          obtain ⟨v91_12, M91_11, eM91_11, h⟩ := bd_e h
          refine m_callVi (As := [.ref (1000 + 8), .int (nI 1), .int (nI 20)]) (st := []) (s_X5_told (d := d + 0) hA (by decide) eM91_11) rfl okX5 ck_X5_told w_561 rfl (Nat.le_of_ble_eq_true rfl) dX5_oneLine_91 ?_
          refine g_if_ne (tgt := 99) dX5_oneLine_94 (by decide) (fun c18 => ?_) (fun c18 => ?_)
          · replace h := ite_n c18 h
            refine g_aload_n dX5_oneLine_99 rfl 0 rfl ?_
            obtain ⟨g13, eg13, hg13, h⟩ := bg_e h
            refine m_getm (k := 3) okX5 rfl rfl (by decide) w_232 rfl dX5_oneLine_100 eg13 hg13 ?_
            refine g_aload_n dX5_oneLine_103 rfl 0 rfl ?_
            refine m_geti (k := 6) okX5 rfl rfl (by decide) w_237 rfl dX5_oneLine_104 ?_
            refine m_puti (k := 11) okX0 hg13 rfl (by decide) w_141 rfl rfl rfl dX5_oneLine_107 ?_
            refine g_aload_n dX5_oneLine_110 rfl 0 rfl ?_
            refine g_ldcS (j := 9) rfl dX5_oneLine_111 ?_
            refine g_iconst (v := (nI 0)) dX5_oneLine_113 (by decide) ?_
            refine g_bipush (v := (nI 100)) dX5_oneLine_114 (by decide) ?_
            obtain ⟨v116_15, M116_14, eM116_14, h⟩ := bd_e h
            refine m_callVi (As := [.ref (1000 + 9), .int (nI 0), .int (nI 100)]) (st := []) (s_X5_told (d := d + 0) hA (by decide) eM116_14) rfl okX5 ck_X5_told w_561 rfl (Nat.le_of_ble_eq_true rfl) dX5_oneLine_116 ?_
            refine g_if_ne (tgt := 124) dX5_oneLine_119 (by decide) (fun c17 => ?_) (fun c17 => ?_)
            · replace h := ite_n c17 h
              refine g_aload_n dX5_oneLine_124 rfl 0 rfl ?_
              obtain ⟨g16, eg16, hg16, h⟩ := bg_e h
              refine m_getm (k := 3) okX5 rfl rfl (by decide) w_232 rfl dX5_oneLine_125 eg16 hg16 ?_
              refine g_aload_n dX5_oneLine_128 rfl 0 rfl ?_
              refine m_geti (k := 6) okX5 rfl rfl (by decide) w_237 rfl dX5_oneLine_129 ?_
              refine m_puti (k := 12) okX0 hg16 rfl (by decide) w_144 rfl rfl rfl dX5_oneLine_132 ?_
              refine g_iconst (v := (nI 1)) dX5_oneLine_135 (by decide) ?_
              exact g_zret rfl rfl (pi_of h) dX5_oneLine_136
            · replace h := ite_p c17 h
              refine g_iconst (v := (nI 0)) dX5_oneLine_122 (by decide) ?_
              exact g_zret rfl rfl (pi_of h) dX5_oneLine_123
          · replace h := ite_p c18 h
            refine g_iconst (v := (nI 0)) dX5_oneLine_97 (by decide) ?_
            exact g_zret rfl rfl (pi_of h) dX5_oneLine_98
        · replace h := ite_p c19 h
          refine g_iconst (v := (nI 0)) dX5_oneLine_72 (by decide) ?_
          exact g_zret rfl rfl (pi_of h) dX5_oneLine_73
      refine g_icmp_le (tgt := 60) dX5_oneLine_48 (by decide) (fun c23 => ?_) (fun c23 => ?_)
      · replace h := ite_p c23 h
        refine g_sub [0] (lv' := [(0, .ref 17)]) rfl ?_
        exact hj7  _ h
      · replace h := ite_n c23 h
        refine g_aload_n dX5_oneLine_51 rfl 0 rfl ?_
        obtain ⟨v52_21, M52_20, eM52_20, h⟩ := bd_e h
        refine m_callVi (As := []) (st := []) (s_X5_chances (d := d + 0) hA  eM52_20) rfl okX5 ck_X5_chances w_612 rfl (Nat.le_of_ble_eq_true rfl) dX5_oneLine_52 ?_
        refine g_if_ne (tgt := 60) dX5_oneLine_55 (by decide) (fun c22 => ?_) (fun c22 => ?_)
        · replace h := ite_n c22 h
          refine g_sub [0] (lv' := [(0, .ref 17)]) rfl ?_
          exact hj7  _ h
        · replace h := ite_p c22 h
          refine g_iconst (v := (nI 0)) dX5_oneLine_58 (by decide) ?_
          exact g_zret rfl rfl (pi_of h) dX5_oneLine_59
    · replace h := ite_n c26 h
      refine g_aload_n dX5_oneLine_27 rfl 0 rfl ?_
      refine g_iconst (v := (nI 3)) dX5_oneLine_28 (by decide) ?_
      obtain ⟨v29_25, M29_24, eM29_24, h⟩ := bd_e h
      refine m_callVi (As := [.int (nI 3)]) (st := []) (s_X5_fail (d := d + 6) hA  eM29_24) rfl okX5 ck_X5_fail w_555 rfl (Nat.le_of_ble_eq_true rfl) dX5_oneLine_29 ?_
      obtain ⟨hz, h⟩ := gd_s h
      exact g_zret rfl (nar_zo hz) (pi_of h) dX5_oneLine_32
  · replace h := ite_p c29 h
    refine g_aload_n dX5_oneLine_10 rfl 0 rfl ?_
    refine g_bipush (v := (nI 6)) dX5_oneLine_11 (by decide) ?_
    obtain ⟨v13_28, M13_27, eM13_27, h⟩ := bd_e h
    refine m_callVi (As := [.int (nI 6)]) (st := []) (s_X5_fail (d := d + 6) hA  eM13_27) rfl okX5 ck_X5_fail w_555 rfl (Nat.le_of_ble_eq_true rfl) dX5_oneLine_13 ?_
    obtain ⟨hz, h⟩ := gd_s h
    exact g_zret rfl (nar_zo hz) (pi_of h) dX5_oneLine_16
theorem ck_X5_oneLine : CKV yX5_oneLine cX5_oneLine 1 (some .boolean) 0 := ⟨⟨by decide, by decide, by decide +kernel⟩, w_611, w_75, ⟨w_609, w_610⟩, by decide⟩
theorem dX5_gravelLine_0 : decode cX5_gravelLine 0 = .ok (.aload_n 0, 1) := by decide +kernel
theorem dX5_gravelLine_1 : decode cX5_gravelLine 1 = .ok (.getfield 22, 3) := by decide +kernel
theorem dX5_gravelLine_4 : decode cX5_gravelLine 4 = .ok (.getfield 103, 3) := by decide +kernel
theorem dX5_gravelLine_7 : decode cX5_gravelLine 7 = .ok (.ifCond .ne 10, 3) := by decide +kernel
theorem dX5_gravelLine_10 : decode cX5_gravelLine 10 = .ok (.aload_n 0, 1) := by decide +kernel
theorem dX5_gravelLine_11 : decode cX5_gravelLine 11 = .ok (.bipush 6, 2) := by decide +kernel
theorem dX5_gravelLine_13 : decode cX5_gravelLine 13 = .ok (.invokevirtual 74, 3) := by decide +kernel
theorem dX5_gravelLine_16 : decode cX5_gravelLine 16 = .ok (.ireturn, 1) := by decide +kernel
theorem dX5_gravelLine_17 : decode cX5_gravelLine 17 = .ok (.aload_n 0, 1) := by decide +kernel
theorem dX5_gravelLine_18 : decode cX5_gravelLine 18 = .ok (.getfield 22, 3) := by decide +kernel
theorem dX5_gravelLine_21 : decode cX5_gravelLine 21 = .ok (.getfield 155, 3) := by decide +kernel
theorem dX5_gravelLine_24 : decode cX5_gravelLine 24 = .ok (.iconst 5, 1) := by decide +kernel
theorem dX5_gravelLine_25 : decode cX5_gravelLine 25 = .ok (.if_icmp .lt 9, 3) := by decide +kernel
theorem dX5_gravelLine_28 : decode cX5_gravelLine 28 = .ok (.aload_n 0, 1) := by decide +kernel
theorem dX5_gravelLine_29 : decode cX5_gravelLine 29 = .ok (.iconst 5, 1) := by decide +kernel
theorem dX5_gravelLine_30 : decode cX5_gravelLine 30 = .ok (.invokevirtual 74, 3) := by decide +kernel
theorem dX5_gravelLine_33 : decode cX5_gravelLine 33 = .ok (.ireturn, 1) := by decide +kernel
theorem dX5_gravelLine_34 : decode cX5_gravelLine 34 = .ok (.aload_n 0, 1) := by decide +kernel
theorem dX5_gravelLine_35 : decode cX5_gravelLine 35 = .ok (.getfield 18, 3) := by decide +kernel
theorem dX5_gravelLine_38 : decode cX5_gravelLine 38 = .ok (.invokevirtual 84, 3) := by decide +kernel
theorem dX5_gravelLine_41 : decode cX5_gravelLine 41 = .ok (.aload_n 0, 1) := by decide +kernel
theorem dX5_gravelLine_42 : decode cX5_gravelLine 42 = .ok (.getfield 22, 3) := by decide +kernel
theorem dX5_gravelLine_45 : decode cX5_gravelLine 45 = .ok (.getfield 155, 3) := by decide +kernel
theorem dX5_gravelLine_48 : decode cX5_gravelLine 48 = .ok (.iconst 4, 1) := by decide +kernel
theorem dX5_gravelLine_49 : decode cX5_gravelLine 49 = .ok (.imul, 1) := by decide +kernel
theorem dX5_gravelLine_50 : decode cX5_gravelLine 50 = .ok (.istore_n 1, 1) := by decide +kernel
theorem dX5_gravelLine_51 : decode cX5_gravelLine 51 = .ok (.aload_n 0, 1) := by decide +kernel
theorem dX5_gravelLine_52 : decode cX5_gravelLine 52 = .ok (.ldc 158, 2) := by decide +kernel
theorem dX5_gravelLine_54 : decode cX5_gravelLine 54 = .ok (.iconst 0, 1) := by decide +kernel
theorem dX5_gravelLine_55 : decode cX5_gravelLine 55 = .ok (.aload_n 0, 1) := by decide +kernel
theorem dX5_gravelLine_56 : decode cX5_gravelLine 56 = .ok (.getfield 22, 3) := by decide +kernel
theorem dX5_gravelLine_59 : decode cX5_gravelLine 59 = .ok (.getfield 114, 3) := by decide +kernel
theorem dX5_gravelLine_62 : decode cX5_gravelLine 62 = .ok (.iconst 1, 1) := by decide +kernel
theorem dX5_gravelLine_63 : decode cX5_gravelLine 63 = .ok (.isub, 1) := by decide +kernel
theorem dX5_gravelLine_64 : decode cX5_gravelLine 64 = .ok (.invokevirtual 108, 3) := by decide +kernel
theorem dX5_gravelLine_67 : decode cX5_gravelLine 67 = .ok (.ifCond .ne 5, 3) := by decide +kernel
theorem dX5_gravelLine_70 : decode cX5_gravelLine 70 = .ok (.iconst 0, 1) := by decide +kernel
theorem dX5_gravelLine_71 : decode cX5_gravelLine 71 = .ok (.ireturn, 1) := by decide +kernel
theorem dX5_gravelLine_72 : decode cX5_gravelLine 72 = .ok (.aload_n 0, 1) := by decide +kernel
theorem dX5_gravelLine_73 : decode cX5_gravelLine 73 = .ok (.getfield 22, 3) := by decide +kernel
theorem dX5_gravelLine_76 : decode cX5_gravelLine 76 = .ok (.getfield 160, 3) := by decide +kernel
theorem dX5_gravelLine_79 : decode cX5_gravelLine 79 = .ok (.iload_n 1, 1) := by decide +kernel
theorem dX5_gravelLine_80 : decode cX5_gravelLine 80 = .ok (.iconst 0, 1) := by decide +kernel
theorem dX5_gravelLine_81 : decode cX5_gravelLine 81 = .ok (.iadd, 1) := by decide +kernel
theorem dX5_gravelLine_82 : decode cX5_gravelLine 82 = .ok (.aload_n 0, 1) := by decide +kernel
theorem dX5_gravelLine_83 : decode cX5_gravelLine 83 = .ok (.getfield 93, 3) := by decide +kernel
theorem dX5_gravelLine_86 : decode cX5_gravelLine 86 = .ok (.invokestatic 151, 3) := by decide +kernel
theorem dX5_gravelLine_89 : decode cX5_gravelLine 89 = .ok (.aload_n 0, 1) := by decide +kernel
theorem dX5_gravelLine_90 : decode cX5_gravelLine 90 = .ok (.ldc 162, 2) := by decide +kernel
theorem dX5_gravelLine_92 : decode cX5_gravelLine 92 = .ok (.iconst 1, 1) := by decide +kernel
theorem dX5_gravelLine_93 : decode cX5_gravelLine 93 = .ok (.aload_n 0, 1) := by decide +kernel
theorem dX5_gravelLine_94 : decode cX5_gravelLine 94 = .ok (.getfield 22, 3) := by decide +kernel
theorem dX5_gravelLine_97 : decode cX5_gravelLine 97 = .ok (.getfield 103, 3) := by decide +kernel
theorem dX5_gravelLine_100 : decode cX5_gravelLine 100 = .ok (.invokevirtual 108, 3) := by decide +kernel
theorem dX5_gravelLine_103 : decode cX5_gravelLine 103 = .ok (.ifCond .ne 5, 3) := by decide +kernel
theorem dX5_gravelLine_106 : decode cX5_gravelLine 106 = .ok (.iconst 0, 1) := by decide +kernel
theorem dX5_gravelLine_107 : decode cX5_gravelLine 107 = .ok (.ireturn, 1) := by decide +kernel
theorem dX5_gravelLine_108 : decode cX5_gravelLine 108 = .ok (.aload_n 0, 1) := by decide +kernel
theorem dX5_gravelLine_109 : decode cX5_gravelLine 109 = .ok (.getfield 22, 3) := by decide +kernel
theorem dX5_gravelLine_112 : decode cX5_gravelLine 112 = .ok (.getfield 160, 3) := by decide +kernel
theorem dX5_gravelLine_115 : decode cX5_gravelLine 115 = .ok (.iload_n 1, 1) := by decide +kernel
theorem dX5_gravelLine_116 : decode cX5_gravelLine 116 = .ok (.iconst 1, 1) := by decide +kernel
theorem dX5_gravelLine_117 : decode cX5_gravelLine 117 = .ok (.iadd, 1) := by decide +kernel
theorem dX5_gravelLine_118 : decode cX5_gravelLine 118 = .ok (.aload_n 0, 1) := by decide +kernel
theorem dX5_gravelLine_119 : decode cX5_gravelLine 119 = .ok (.getfield 93, 3) := by decide +kernel
theorem dX5_gravelLine_122 : decode cX5_gravelLine 122 = .ok (.invokestatic 151, 3) := by decide +kernel
theorem dX5_gravelLine_125 : decode cX5_gravelLine 125 = .ok (.aload_n 0, 1) := by decide +kernel
theorem dX5_gravelLine_126 : decode cX5_gravelLine 126 = .ok (.ldc 164, 2) := by decide +kernel
theorem dX5_gravelLine_128 : decode cX5_gravelLine 128 = .ok (.aload_n 0, 1) := by decide +kernel
theorem dX5_gravelLine_129 : decode cX5_gravelLine 129 = .ok (.getfield 93, 3) := by decide +kernel
theorem dX5_gravelLine_132 : decode cX5_gravelLine 132 = .ok (.aload_n 0, 1) := by decide +kernel
theorem dX5_gravelLine_133 : decode cX5_gravelLine 133 = .ok (.getfield 22, 3) := by decide +kernel
theorem dX5_gravelLine_136 : decode cX5_gravelLine 136 = .ok (.getfield 103, 3) := by decide +kernel
theorem dX5_gravelLine_139 : decode cX5_gravelLine 139 = .ok (.invokevirtual 108, 3) := by decide +kernel
theorem dX5_gravelLine_142 : decode cX5_gravelLine 142 = .ok (.ifCond .ne 5, 3) := by decide +kernel
theorem dX5_gravelLine_145 : decode cX5_gravelLine 145 = .ok (.iconst 0, 1) := by decide +kernel
theorem dX5_gravelLine_146 : decode cX5_gravelLine 146 = .ok (.ireturn, 1) := by decide +kernel
theorem dX5_gravelLine_147 : decode cX5_gravelLine 147 = .ok (.aload_n 0, 1) := by decide +kernel
theorem dX5_gravelLine_148 : decode cX5_gravelLine 148 = .ok (.getfield 22, 3) := by decide +kernel
theorem dX5_gravelLine_151 : decode cX5_gravelLine 151 = .ok (.getfield 160, 3) := by decide +kernel
theorem dX5_gravelLine_154 : decode cX5_gravelLine 154 = .ok (.iload_n 1, 1) := by decide +kernel
theorem dX5_gravelLine_155 : decode cX5_gravelLine 155 = .ok (.iconst 2, 1) := by decide +kernel
theorem dX5_gravelLine_156 : decode cX5_gravelLine 156 = .ok (.iadd, 1) := by decide +kernel
theorem dX5_gravelLine_157 : decode cX5_gravelLine 157 = .ok (.aload_n 0, 1) := by decide +kernel
theorem dX5_gravelLine_158 : decode cX5_gravelLine 158 = .ok (.getfield 93, 3) := by decide +kernel
theorem dX5_gravelLine_161 : decode cX5_gravelLine 161 = .ok (.invokestatic 151, 3) := by decide +kernel
theorem dX5_gravelLine_164 : decode cX5_gravelLine 164 = .ok (.aload_n 0, 1) := by decide +kernel
theorem dX5_gravelLine_165 : decode cX5_gravelLine 165 = .ok (.ldc 166, 2) := by decide +kernel
theorem dX5_gravelLine_167 : decode cX5_gravelLine 167 = .ok (.iconst 1, 1) := by decide +kernel
theorem dX5_gravelLine_168 : decode cX5_gravelLine 168 = .ok (.bipush 99, 2) := by decide +kernel
theorem dX5_gravelLine_170 : decode cX5_gravelLine 170 = .ok (.invokevirtual 108, 3) := by decide +kernel
theorem dX5_gravelLine_173 : decode cX5_gravelLine 173 = .ok (.ifCond .ne 5, 3) := by decide +kernel
theorem dX5_gravelLine_176 : decode cX5_gravelLine 176 = .ok (.iconst 0, 1) := by decide +kernel
theorem dX5_gravelLine_177 : decode cX5_gravelLine 177 = .ok (.ireturn, 1) := by decide +kernel
theorem dX5_gravelLine_178 : decode cX5_gravelLine 178 = .ok (.aload_n 0, 1) := by decide +kernel
theorem dX5_gravelLine_179 : decode cX5_gravelLine 179 = .ok (.getfield 22, 3) := by decide +kernel
theorem dX5_gravelLine_182 : decode cX5_gravelLine 182 = .ok (.getfield 160, 3) := by decide +kernel
theorem dX5_gravelLine_185 : decode cX5_gravelLine 185 = .ok (.iload_n 1, 1) := by decide +kernel
theorem dX5_gravelLine_186 : decode cX5_gravelLine 186 = .ok (.iconst 3, 1) := by decide +kernel
theorem dX5_gravelLine_187 : decode cX5_gravelLine 187 = .ok (.iadd, 1) := by decide +kernel
theorem dX5_gravelLine_188 : decode cX5_gravelLine 188 = .ok (.aload_n 0, 1) := by decide +kernel
theorem dX5_gravelLine_189 : decode cX5_gravelLine 189 = .ok (.getfield 93, 3) := by decide +kernel
theorem dX5_gravelLine_192 : decode cX5_gravelLine 192 = .ok (.invokestatic 151, 3) := by decide +kernel
theorem dX5_gravelLine_195 : decode cX5_gravelLine 195 = .ok (.aload_n 0, 1) := by decide +kernel
theorem dX5_gravelLine_196 : decode cX5_gravelLine 196 = .ok (.getfield 22, 3) := by decide +kernel
theorem dX5_gravelLine_199 : decode cX5_gravelLine 199 = .ok (.dup, 1) := by decide +kernel
theorem dX5_gravelLine_200 : decode cX5_gravelLine 200 = .ok (.getfield 155, 3) := by decide +kernel
theorem dX5_gravelLine_203 : decode cX5_gravelLine 203 = .ok (.iconst 1, 1) := by decide +kernel
theorem dX5_gravelLine_204 : decode cX5_gravelLine 204 = .ok (.iadd, 1) := by decide +kernel
theorem dX5_gravelLine_205 : decode cX5_gravelLine 205 = .ok (.putfield 155, 3) := by decide +kernel
theorem dX5_gravelLine_208 : decode cX5_gravelLine 208 = .ok (.iconst 1, 1) := by decide +kernel
theorem dX5_gravelLine_209 : decode cX5_gravelLine 209 = .ok (.ireturn, 1) := by decide +kernel
def f_X5_gravelLine  (M : Mm) : Option (Int32 × Mm) :=
  bg (M 17 3) fun g1 => if (M g1 6) = 0 then (bd (f_X5_fail (nI 6) M) fun v13_39 M13_38 => gd (zo v13_39) <| some (v13_39, M13_38)) else (bg (M 17 3) fun g2 => if (M g2 13) < (nI 5) then (bv (f_X8_advance  M) fun M38_3 => bg (M38_3 17 3) fun g5 => lt (((M38_3 g5 13) * (nI 4))) fun t6 => bg (M38_3 17 3) fun g7 => bd (f_X5_told 11 (nI 0) ((M38_3 g7 7) - (nI 1)) M38_3) fun v64_9 M64_8 => if v64_9 = 0 then (some ((nI 0), M64_8)) else (bg (M64_8 17 3) fun g10 => bv (f_X9_put (g10 + 5) (t6 + (nI 0)) (M64_8 17 6) M64_8) fun M86_11 => bg (M86_11 17 3) fun g13 => bd (f_X5_told 12 (nI 1) (M86_11 g13 6) M86_11) fun v100_15 M100_14 => if v100_15 = 0 then (some ((nI 0), M100_14)) else (bg (M100_14 17 3) fun g16 => bv (f_X9_put (g16 + 5) (t6 + (nI 1)) (M100_14 17 6) M100_14) fun M122_17 => bg (M122_17 17 3) fun g19 => bd (f_X5_told 13 (M122_17 17 6) (M122_17 g19 6) M122_17) fun v139_21 M139_20 => if v139_21 = 0 then (some ((nI 0), M139_20)) else (bg (M139_20 17 3) fun g22 => bv (f_X9_put (g22 + 5) (t6 + (nI 2)) (M139_20 17 6) M139_20) fun M161_23 => bd (f_X5_told 14 (nI 1) (nI 99) M161_23) fun v170_26 M170_25 => if v170_26 = 0 then (some ((nI 0), M170_25)) else (bg (M170_25 17 3) fun g27 => bv (f_X9_put (g27 + 5) (t6 + (nI 3)) (M170_25 17 6) M170_25) fun M192_28 => bg (M192_28 17 3) fun g30 => some ((nI 1), (mset M192_28 g30 13 ((M192_28 g30 13) + (nI 1))))))))) else (bd (f_X5_fail (nI 5) M) fun v30_36 M30_35 => gd (zo v30_36) <| some (v30_36, M30_35)))
set_option maxHeartbeats 4000000 in
set_option maxRecDepth 100000 in
theorem s_X5_gravelLine {l : Launch} {B : BT} (hA : bA B = false) {d : Nat} {r : Int32} {M' : Mm}  {M : Mm}  (h : f_X5_gravelLine  M = some (r, M')) : Con l B LY (d + 7) yX5_gravelLine cX5_gravelLine 2 (some .boolean) 0 0 [.ref 17] 97 M (PI r M') := by
  refine con_of (by decide) (Nat.le_of_ble_eq_true rfl) ?_
  show GG l B LY (d + 7) yX5_gravelLine cX5_gravelLine 2 (some .boolean) 0 0 (PI r M') 97 0 0 0 [(0, .ref 17)] [] M
  rw [f_X5_gravelLine] at h
  refine g_aload_n dX5_gravelLine_0 rfl 0 rfl ?_
  obtain ⟨g1, eg1, hg1, h⟩ := bg_e h
  refine m_getm (k := 3) okX5 rfl rfl (by decide) w_232 rfl dX5_gravelLine_1 eg1 hg1 ?_
  refine m_geti (k := 6) okX0 hg1 rfl (by decide) w_124 rfl dX5_gravelLine_4 ?_
  refine g_if_ne (tgt := 17) dX5_gravelLine_7 (by decide) (fun c40 => ?_) (fun c40 => ?_)
  · replace h := ite_n c40 h
    refine g_aload_n dX5_gravelLine_17 rfl 0 rfl ?_
    obtain ⟨g2, eg2, hg2, h⟩ := bg_e h
    refine m_getm (k := 3) okX5 rfl rfl (by decide) w_232 rfl dX5_gravelLine_18 eg2 hg2 ?_
    refine m_geti (k := 13) okX0 hg2 rfl (by decide) w_147 rfl dX5_gravelLine_21 ?_
    refine g_iconst (v := (nI 5)) dX5_gravelLine_24 (by decide) ?_
    refine g_icmp_lt (tgt := 34) dX5_gravelLine_25 (by decide) (fun c37 => ?_) (fun c37 => ?_)
    · replace h := ite_p c37 h
      refine g_aload_n dX5_gravelLine_34 rfl 0 rfl ?_
      refine m_geta (k := 0) okX5 rfl rfl (by decide) w_229 rfl dX5_gravelLine_35 ?_
      obtain ⟨M38_3, eM38_3, h⟩ := bv_e h
      refine m_callVv (As := []) (st := []) (s_X8_advance (d := d + 5) hA  eM38_3) rfl okX8 ck_X8_advance w_559 rfl (Nat.le_of_ble_eq_true rfl) dX5_gravelLine_38 ?_
      refine g_aload_n dX5_gravelLine_41 rfl 0 rfl ?_
      obtain ⟨g5, eg5, hg5, h⟩ := bg_e h
      refine m_getm (k := 3) okX5 rfl rfl (by decide) w_232 rfl dX5_gravelLine_42 eg5 hg5 ?_
      refine m_geti (k := 13) okX0 hg5 rfl (by decide) w_147 rfl dX5_gravelLine_45 ?_
      refine g_iconst (v := (nI 4)) dX5_gravelLine_48 (by decide) ?_
      refine g_imul dX5_gravelLine_49 ?_
      obtain ⟨t6, et6, h⟩ := lt_e h
      refine g_cuti et6 ?_
      refine g_istore_n (lv' := [(1, .int t6), (0, .ref 17)]) dX5_gravelLine_50 rfl (by decide) rfl ?_
      refine g_aload_n dX5_gravelLine_51 rfl 1 rfl ?_
      refine g_ldcS (j := 11) rfl dX5_gravelLine_52 ?_
      refine g_iconst (v := (nI 0)) dX5_gravelLine_54 (by decide) ?_
      refine g_aload_n dX5_gravelLine_55 rfl 1 rfl ?_
      obtain ⟨g7, eg7, hg7, h⟩ := bg_e h
      refine m_getm (k := 3) okX5 rfl rfl (by decide) w_232 rfl dX5_gravelLine_56 eg7 hg7 ?_
      refine m_geti (k := 7) okX0 hg7 rfl (by decide) w_129 rfl dX5_gravelLine_59 ?_
      refine g_iconst (v := (nI 1)) dX5_gravelLine_62 (by decide) ?_
      refine g_isub dX5_gravelLine_63 ?_
      obtain ⟨v64_9, M64_8, eM64_8, h⟩ := bd_e h
      refine m_callVi (As := [.ref (1000 + 11), .int (nI 0), .int ((M38_3 g7 7) - (nI 1))]) (st := []) (s_X5_told (d := d + 0) hA (by decide) eM64_8) rfl okX5 ck_X5_told w_561 rfl (Nat.le_of_ble_eq_true rfl) dX5_gravelLine_64 ?_
      refine g_if_ne (tgt := 72) dX5_gravelLine_67 (by decide) (fun c34 => ?_) (fun c34 => ?_)
      · replace h := ite_n c34 h
        refine g_aload_n dX5_gravelLine_72 rfl 1 rfl ?_
        obtain ⟨g10, eg10, hg10, h⟩ := bg_e h
        refine m_getm (k := 3) okX5 rfl rfl (by decide) w_232 rfl dX5_gravelLine_73 eg10 hg10 ?_
        refine m_getr (k := 4) okX0 hg10 rfl (by decide) w_117 rfl dX5_gravelLine_76 ?_
        refine g_iload_n dX5_gravelLine_79 rfl 0 rfl ?_
        refine g_iconst (v := (nI 0)) dX5_gravelLine_80 (by decide) ?_
        refine g_iadd dX5_gravelLine_81 ?_
        refine g_aload_n dX5_gravelLine_82 rfl 1 rfl ?_
        refine m_geti (k := 6) okX5 rfl rfl (by decide) w_237 rfl dX5_gravelLine_83 ?_
        obtain ⟨M86_11, eM86_11, h⟩ := bv_e h
        refine m_callNv (As := [.ref (g10 + 5), .int (t6 + (nI 0)), .int (M64_8 17 6)]) (st := []) (s_X9_put (d := d + 6) hA (al_of (aX0_5 hg10)) eM86_11) ck_X9_put (host := "StillYard") (List.mem_of_getElem? (i := 12) rfl) rfl (Nat.le_of_ble_eq_true rfl) dX5_gravelLine_86 ?_
        refine g_aload_n dX5_gravelLine_89 rfl 1 rfl ?_
        refine g_ldcS (j := 12) rfl dX5_gravelLine_90 ?_
        refine g_iconst (v := (nI 1)) dX5_gravelLine_92 (by decide) ?_
        refine g_aload_n dX5_gravelLine_93 rfl 1 rfl ?_
        obtain ⟨g13, eg13, hg13, h⟩ := bg_e h
        refine m_getm (k := 3) okX5 rfl rfl (by decide) w_232 rfl dX5_gravelLine_94 eg13 hg13 ?_
        refine m_geti (k := 6) okX0 hg13 rfl (by decide) w_124 rfl dX5_gravelLine_97 ?_
        obtain ⟨v100_15, M100_14, eM100_14, h⟩ := bd_e h
        refine m_callVi (As := [.ref (1000 + 12), .int (nI 1), .int (M86_11 g13 6)]) (st := []) (s_X5_told (d := d + 0) hA (by decide) eM100_14) rfl okX5 ck_X5_told w_561 rfl (Nat.le_of_ble_eq_true rfl) dX5_gravelLine_100 ?_
        refine g_if_ne (tgt := 108) dX5_gravelLine_103 (by decide) (fun c33 => ?_) (fun c33 => ?_)
        · replace h := ite_n c33 h
          refine g_aload_n dX5_gravelLine_108 rfl 1 rfl ?_
          obtain ⟨g16, eg16, hg16, h⟩ := bg_e h
          refine m_getm (k := 3) okX5 rfl rfl (by decide) w_232 rfl dX5_gravelLine_109 eg16 hg16 ?_
          refine m_getr (k := 4) okX0 hg16 rfl (by decide) w_117 rfl dX5_gravelLine_112 ?_
          refine g_iload_n dX5_gravelLine_115 rfl 0 rfl ?_
          refine g_iconst (v := (nI 1)) dX5_gravelLine_116 (by decide) ?_
          refine g_iadd dX5_gravelLine_117 ?_
          refine g_aload_n dX5_gravelLine_118 rfl 1 rfl ?_
          refine m_geti (k := 6) okX5 rfl rfl (by decide) w_237 rfl dX5_gravelLine_119 ?_
          obtain ⟨M122_17, eM122_17, h⟩ := bv_e h
          refine m_callNv (As := [.ref (g16 + 5), .int (t6 + (nI 1)), .int (M100_14 17 6)]) (st := []) (s_X9_put (d := d + 6) hA (al_of (aX0_5 hg16)) eM122_17) ck_X9_put (host := "StillYard") (List.mem_of_getElem? (i := 12) rfl) rfl (Nat.le_of_ble_eq_true rfl) dX5_gravelLine_122 ?_
          refine g_aload_n dX5_gravelLine_125 rfl 1 rfl ?_
          refine g_ldcS (j := 13) rfl dX5_gravelLine_126 ?_
          refine g_aload_n dX5_gravelLine_128 rfl 1 rfl ?_
          refine m_geti (k := 6) okX5 rfl rfl (by decide) w_237 rfl dX5_gravelLine_129 ?_
          refine g_aload_n dX5_gravelLine_132 rfl 1 rfl ?_
          obtain ⟨g19, eg19, hg19, h⟩ := bg_e h
          refine m_getm (k := 3) okX5 rfl rfl (by decide) w_232 rfl dX5_gravelLine_133 eg19 hg19 ?_
          refine m_geti (k := 6) okX0 hg19 rfl (by decide) w_124 rfl dX5_gravelLine_136 ?_
          obtain ⟨v139_21, M139_20, eM139_20, h⟩ := bd_e h
          refine m_callVi (As := [.ref (1000 + 13), .int (M122_17 17 6), .int (M122_17 g19 6)]) (st := []) (s_X5_told (d := d + 0) hA (by decide) eM139_20) rfl okX5 ck_X5_told w_561 rfl (Nat.le_of_ble_eq_true rfl) dX5_gravelLine_139 ?_
          refine g_if_ne (tgt := 147) dX5_gravelLine_142 (by decide) (fun c32 => ?_) (fun c32 => ?_)
          · replace h := ite_n c32 h
            refine g_aload_n dX5_gravelLine_147 rfl 1 rfl ?_
            obtain ⟨g22, eg22, hg22, h⟩ := bg_e h
            refine m_getm (k := 3) okX5 rfl rfl (by decide) w_232 rfl dX5_gravelLine_148 eg22 hg22 ?_
            refine m_getr (k := 4) okX0 hg22 rfl (by decide) w_117 rfl dX5_gravelLine_151 ?_
            refine g_iload_n dX5_gravelLine_154 rfl 0 rfl ?_
            refine g_iconst (v := (nI 2)) dX5_gravelLine_155 (by decide) ?_
            refine g_iadd dX5_gravelLine_156 ?_
            refine g_aload_n dX5_gravelLine_157 rfl 1 rfl ?_
            refine m_geti (k := 6) okX5 rfl rfl (by decide) w_237 rfl dX5_gravelLine_158 ?_
            obtain ⟨M161_23, eM161_23, h⟩ := bv_e h
            refine m_callNv (As := [.ref (g22 + 5), .int (t6 + (nI 2)), .int (M139_20 17 6)]) (st := []) (s_X9_put (d := d + 6) hA (al_of (aX0_5 hg22)) eM161_23) ck_X9_put (host := "StillYard") (List.mem_of_getElem? (i := 12) rfl) rfl (Nat.le_of_ble_eq_true rfl) dX5_gravelLine_161 ?_
            refine g_aload_n dX5_gravelLine_164 rfl 1 rfl ?_
            refine g_ldcS (j := 14) rfl dX5_gravelLine_165 ?_
            refine g_iconst (v := (nI 1)) dX5_gravelLine_167 (by decide) ?_
            refine g_bipush (v := (nI 99)) dX5_gravelLine_168 (by decide) ?_
            obtain ⟨v170_26, M170_25, eM170_25, h⟩ := bd_e h
            refine m_callVi (As := [.ref (1000 + 14), .int (nI 1), .int (nI 99)]) (st := []) (s_X5_told (d := d + 0) hA (by decide) eM170_25) rfl okX5 ck_X5_told w_561 rfl (Nat.le_of_ble_eq_true rfl) dX5_gravelLine_170 ?_
            refine g_if_ne (tgt := 178) dX5_gravelLine_173 (by decide) (fun c31 => ?_) (fun c31 => ?_)
            · replace h := ite_n c31 h
              refine g_aload_n dX5_gravelLine_178 rfl 1 rfl ?_
              obtain ⟨g27, eg27, hg27, h⟩ := bg_e h
              refine m_getm (k := 3) okX5 rfl rfl (by decide) w_232 rfl dX5_gravelLine_179 eg27 hg27 ?_
              refine m_getr (k := 4) okX0 hg27 rfl (by decide) w_117 rfl dX5_gravelLine_182 ?_
              refine g_iload_n dX5_gravelLine_185 rfl 0 rfl ?_
              refine g_iconst (v := (nI 3)) dX5_gravelLine_186 (by decide) ?_
              refine g_iadd dX5_gravelLine_187 ?_
              refine g_aload_n dX5_gravelLine_188 rfl 1 rfl ?_
              refine m_geti (k := 6) okX5 rfl rfl (by decide) w_237 rfl dX5_gravelLine_189 ?_
              obtain ⟨M192_28, eM192_28, h⟩ := bv_e h
              refine m_callNv (As := [.ref (g27 + 5), .int (t6 + (nI 3)), .int (M170_25 17 6)]) (st := []) (s_X9_put (d := d + 6) hA (al_of (aX0_5 hg27)) eM192_28) ck_X9_put (host := "StillYard") (List.mem_of_getElem? (i := 12) rfl) rfl (Nat.le_of_ble_eq_true rfl) dX5_gravelLine_192 ?_
              refine g_aload_n dX5_gravelLine_195 rfl 1 rfl ?_
              obtain ⟨g30, eg30, hg30, h⟩ := bg_e h
              refine m_getm (k := 3) okX5 rfl rfl (by decide) w_232 rfl dX5_gravelLine_196 eg30 hg30 ?_
              refine g_dup dX5_gravelLine_199 rfl ?_
              refine m_geti (k := 13) okX0 hg30 rfl (by decide) w_147 rfl dX5_gravelLine_200 ?_
              refine g_iconst (v := (nI 1)) dX5_gravelLine_203 (by decide) ?_
              refine g_iadd dX5_gravelLine_204 ?_
              refine m_puti (k := 13) okX0 hg30 rfl (by decide) w_147 rfl rfl rfl dX5_gravelLine_205 ?_
              refine g_iconst (v := (nI 1)) dX5_gravelLine_208 (by decide) ?_
              exact g_zret rfl rfl (pi_of h) dX5_gravelLine_209
            · replace h := ite_p c31 h
              refine g_iconst (v := (nI 0)) dX5_gravelLine_176 (by decide) ?_
              exact g_zret rfl rfl (pi_of h) dX5_gravelLine_177
          · replace h := ite_p c32 h
            refine g_iconst (v := (nI 0)) dX5_gravelLine_145 (by decide) ?_
            exact g_zret rfl rfl (pi_of h) dX5_gravelLine_146
        · replace h := ite_p c33 h
          refine g_iconst (v := (nI 0)) dX5_gravelLine_106 (by decide) ?_
          exact g_zret rfl rfl (pi_of h) dX5_gravelLine_107
      · replace h := ite_p c34 h
        refine g_iconst (v := (nI 0)) dX5_gravelLine_70 (by decide) ?_
        exact g_zret rfl rfl (pi_of h) dX5_gravelLine_71
    · replace h := ite_n c37 h
      refine g_aload_n dX5_gravelLine_28 rfl 0 rfl ?_
      refine g_iconst (v := (nI 5)) dX5_gravelLine_29 (by decide) ?_
      obtain ⟨v30_36, M30_35, eM30_35, h⟩ := bd_e h
      refine m_callVi (As := [.int (nI 5)]) (st := []) (s_X5_fail (d := d + 6) hA  eM30_35) rfl okX5 ck_X5_fail w_555 rfl (Nat.le_of_ble_eq_true rfl) dX5_gravelLine_30 ?_
      obtain ⟨hz, h⟩ := gd_s h
      exact g_zret rfl (nar_zo hz) (pi_of h) dX5_gravelLine_33
  · replace h := ite_p c40 h
    refine g_aload_n dX5_gravelLine_10 rfl 0 rfl ?_
    refine g_bipush (v := (nI 6)) dX5_gravelLine_11 (by decide) ?_
    obtain ⟨v13_39, M13_38, eM13_38, h⟩ := bd_e h
    refine m_callVi (As := [.int (nI 6)]) (st := []) (s_X5_fail (d := d + 6) hA  eM13_38) rfl okX5 ck_X5_fail w_555 rfl (Nat.le_of_ble_eq_true rfl) dX5_gravelLine_13 ?_
    obtain ⟨hz, h⟩ := gd_s h
    exact g_zret rfl (nar_zo hz) (pi_of h) dX5_gravelLine_16
theorem ck_X5_gravelLine : CKV yX5_gravelLine cX5_gravelLine 2 (some .boolean) 0 := ⟨⟨by decide, by decide, by decide +kernel⟩, w_625, w_75, ⟨w_623, w_624⟩, by decide⟩
theorem dX5_isKept_0 : decode cX5_isKept 0 = .ok (.aload_n 0, 1) := by decide +kernel
theorem dX5_isKept_1 : decode cX5_isKept 1 = .ok (.getfield 18, 3) := by decide +kernel
theorem dX5_isKept_4 : decode cX5_isKept 4 = .ok (.ldc 44, 2) := by decide +kernel
theorem dX5_isKept_6 : decode cX5_isKept 6 = .ok (.invokevirtual 46, 3) := by decide +kernel
theorem dX5_isKept_9 : decode cX5_isKept 9 = .ok (.ifCond .ne 87, 3) := by decide +kernel
theorem dX5_isKept_12 : decode cX5_isKept 12 = .ok (.aload_n 0, 1) := by decide +kernel
theorem dX5_isKept_13 : decode cX5_isKept 13 = .ok (.getfield 18, 3) := by decide +kernel
theorem dX5_isKept_16 : decode cX5_isKept 16 = .ok (.ldc 54, 2) := by decide +kernel
theorem dX5_isKept_18 : decode cX5_isKept 18 = .ok (.invokevirtual 46, 3) := by decide +kernel
theorem dX5_isKept_21 : decode cX5_isKept 21 = .ok (.ifCond .ne 75, 3) := by decide +kernel
theorem dX5_isKept_24 : decode cX5_isKept 24 = .ok (.aload_n 0, 1) := by decide +kernel
theorem dX5_isKept_25 : decode cX5_isKept 25 = .ok (.getfield 18, 3) := by decide +kernel
theorem dX5_isKept_28 : decode cX5_isKept 28 = .ok (.ldc 59, 2) := by decide +kernel
theorem dX5_isKept_30 : decode cX5_isKept 30 = .ok (.invokevirtual 46, 3) := by decide +kernel
theorem dX5_isKept_33 : decode cX5_isKept 33 = .ok (.ifCond .ne 63, 3) := by decide +kernel
theorem dX5_isKept_36 : decode cX5_isKept 36 = .ok (.aload_n 0, 1) := by decide +kernel
theorem dX5_isKept_37 : decode cX5_isKept 37 = .ok (.getfield 18, 3) := by decide +kernel
theorem dX5_isKept_40 : decode cX5_isKept 40 = .ok (.ldc 64, 2) := by decide +kernel
theorem dX5_isKept_42 : decode cX5_isKept 42 = .ok (.invokevirtual 46, 3) := by decide +kernel
theorem dX5_isKept_45 : decode cX5_isKept 45 = .ok (.ifCond .ne 51, 3) := by decide +kernel
theorem dX5_isKept_48 : decode cX5_isKept 48 = .ok (.aload_n 0, 1) := by decide +kernel
theorem dX5_isKept_49 : decode cX5_isKept 49 = .ok (.getfield 18, 3) := by decide +kernel
theorem dX5_isKept_52 : decode cX5_isKept 52 = .ok (.ldc 69, 2) := by decide +kernel
theorem dX5_isKept_54 : decode cX5_isKept 54 = .ok (.invokevirtual 46, 3) := by decide +kernel
theorem dX5_isKept_57 : decode cX5_isKept 57 = .ok (.ifCond .ne 39, 3) := by decide +kernel
theorem dX5_isKept_60 : decode cX5_isKept 60 = .ok (.aload_n 0, 1) := by decide +kernel
theorem dX5_isKept_61 : decode cX5_isKept 61 = .ok (.getfield 18, 3) := by decide +kernel
theorem dX5_isKept_64 : decode cX5_isKept 64 = .ok (.ldc 203, 2) := by decide +kernel
theorem dX5_isKept_66 : decode cX5_isKept 66 = .ok (.invokevirtual 46, 3) := by decide +kernel
theorem dX5_isKept_69 : decode cX5_isKept 69 = .ok (.ifCond .ne 27, 3) := by decide +kernel
theorem dX5_isKept_72 : decode cX5_isKept 72 = .ok (.aload_n 0, 1) := by decide +kernel
theorem dX5_isKept_73 : decode cX5_isKept 73 = .ok (.getfield 18, 3) := by decide +kernel
theorem dX5_isKept_76 : decode cX5_isKept 76 = .ok (.ldc 205, 2) := by decide +kernel
theorem dX5_isKept_78 : decode cX5_isKept 78 = .ok (.invokevirtual 46, 3) := by decide +kernel
theorem dX5_isKept_81 : decode cX5_isKept 81 = .ok (.ifCond .ne 15, 3) := by decide +kernel
theorem dX5_isKept_84 : decode cX5_isKept 84 = .ok (.aload_n 0, 1) := by decide +kernel
theorem dX5_isKept_85 : decode cX5_isKept 85 = .ok (.getfield 18, 3) := by decide +kernel
theorem dX5_isKept_88 : decode cX5_isKept 88 = .ok (.ldc 207, 2) := by decide +kernel
theorem dX5_isKept_90 : decode cX5_isKept 90 = .ok (.invokevirtual 46, 3) := by decide +kernel
theorem dX5_isKept_93 : decode cX5_isKept 93 = .ok (.ifCond .eq 7, 3) := by decide +kernel
theorem dX5_isKept_96 : decode cX5_isKept 96 = .ok (.iconst 1, 1) := by decide +kernel
theorem dX5_isKept_97 : decode cX5_isKept 97 = .ok (.goto 4, 3) := by decide +kernel
theorem dX5_isKept_100 : decode cX5_isKept 100 = .ok (.iconst 0, 1) := by decide +kernel
theorem dX5_isKept_101 : decode cX5_isKept 101 = .ok (.ireturn, 1) := by decide +kernel
def f_X5_isKept  (M : Mm) : Option (Int32 × Mm) :=
  bd (f_X8_isWord 0 M) fun v6_2 M6_1 => jn (fun (M3 : Mm) => some ((nI 1), M3)) fun j4 => if v6_2 = 0 then (bd (f_X8_isWord 4 M6_1) fun v18_6 M18_5 => if v18_6 = 0 then (bd (f_X8_isWord 5 M18_5) fun v30_8 M30_7 => if v30_8 = 0 then (bd (f_X8_isWord 10 M30_7) fun v42_10 M42_9 => if v42_10 = 0 then (bd (f_X8_isWord 15 M42_9) fun v54_12 M54_11 => if v54_12 = 0 then (bd (f_X8_isWord 16 M54_11) fun v66_14 M66_13 => if v66_14 = 0 then (bd (f_X8_isWord 17 M66_13) fun v78_16 M78_15 => if v78_16 = 0 then (bd (f_X8_isWord 18 M78_15) fun v90_18 M90_17 => if v90_18 = 0 then (some ((nI 0), M90_17)) else (j4  M90_17)) else (j4  M78_15)) else (j4  M66_13)) else (j4  M54_11)) else (j4  M42_9)) else (j4  M30_7)) else (j4  M18_5)) else (j4  M6_1)
set_option maxHeartbeats 4000000 in
set_option maxRecDepth 100000 in
theorem s_X5_isKept {l : Launch} {B : BT} (hA : bA B = false) {d : Nat} {r : Int32} {M' : Mm}  {M : Mm}  (h : f_X5_isKept  M = some (r, M')) : Con l B LY (d + 5) yX5_isKept cX5_isKept 1 (some .boolean) 0 0 [.ref 17] 97 M (PI r M') := by
  refine con_of (by decide) (Nat.le_of_ble_eq_true rfl) ?_
  show GG l B LY (d + 5) yX5_isKept cX5_isKept 1 (some .boolean) 0 0 (PI r M') 97 0 0 0 [(0, .ref 17)] [] M
  rw [f_X5_isKept] at h
  refine g_aload_n dX5_isKept_0 rfl 0 rfl ?_
  refine m_geta (k := 0) okX5 rfl rfl (by decide) w_229 rfl dX5_isKept_1 ?_
  refine g_ldcS (j := 0) rfl dX5_isKept_4 ?_
  obtain ⟨v6_2, M6_1, eM6_1, h⟩ := bd_e h
  refine m_callVi (As := [.ref (1000 + 0)]) (st := []) (s_X8_isWord (d := d + 0) hA (by decide) eM6_1) rfl okX8 ck_X8_isWord w_499 rfl (Nat.le_of_ble_eq_true rfl) dX5_isKept_6 ?_
  obtain ⟨j4, ej4, h⟩ := jn_e h
  have hj4 : ∀ (M3 : Mm), j4 M3 = some (r, M') → GG l B LY (d + 5) yX5_isKept cX5_isKept 1 (some .boolean) 0 0 (PI r M') 97 0 0 96 [] [] M3 := by
    intro M3 h
    rw [ej4] at h
    refine g_iconst (v := (nI 1)) dX5_isKept_96 (by decide) ?_
    refine g_goto (tgt := 101) dX5_isKept_97 (by decide) ?_
    exact g_zret rfl rfl (pi_of h) dX5_isKept_101
  refine g_if_ne (tgt := 96) dX5_isKept_9 (by decide) (fun c26 => ?_) (fun c26 => ?_)
  · replace h := ite_n c26 h
    refine g_sub [] (lv' := []) rfl ?_
    exact hj4  _ h
  · replace h := ite_p c26 h
    refine g_aload_n dX5_isKept_12 rfl 0 rfl ?_
    refine m_geta (k := 0) okX5 rfl rfl (by decide) w_229 rfl dX5_isKept_13 ?_
    refine g_ldcS (j := 4) rfl dX5_isKept_16 ?_
    obtain ⟨v18_6, M18_5, eM18_5, h⟩ := bd_e h
    refine m_callVi (As := [.ref (1000 + 4)]) (st := []) (s_X8_isWord (d := d + 0) hA (by decide) eM18_5) rfl okX8 ck_X8_isWord w_499 rfl (Nat.le_of_ble_eq_true rfl) dX5_isKept_18 ?_
    refine g_if_ne (tgt := 96) dX5_isKept_21 (by decide) (fun c25 => ?_) (fun c25 => ?_)
    · replace h := ite_n c25 h
      refine g_sub [] (lv' := []) rfl ?_
      exact hj4  _ h
    · replace h := ite_p c25 h
      refine g_aload_n dX5_isKept_24 rfl 0 rfl ?_
      refine m_geta (k := 0) okX5 rfl rfl (by decide) w_229 rfl dX5_isKept_25 ?_
      refine g_ldcS (j := 5) rfl dX5_isKept_28 ?_
      obtain ⟨v30_8, M30_7, eM30_7, h⟩ := bd_e h
      refine m_callVi (As := [.ref (1000 + 5)]) (st := []) (s_X8_isWord (d := d + 0) hA (by decide) eM30_7) rfl okX8 ck_X8_isWord w_499 rfl (Nat.le_of_ble_eq_true rfl) dX5_isKept_30 ?_
      refine g_if_ne (tgt := 96) dX5_isKept_33 (by decide) (fun c24 => ?_) (fun c24 => ?_)
      · replace h := ite_n c24 h
        refine g_sub [] (lv' := []) rfl ?_
        exact hj4  _ h
      · replace h := ite_p c24 h
        refine g_aload_n dX5_isKept_36 rfl 0 rfl ?_
        refine m_geta (k := 0) okX5 rfl rfl (by decide) w_229 rfl dX5_isKept_37 ?_
        refine g_ldcS (j := 10) rfl dX5_isKept_40 ?_
        obtain ⟨v42_10, M42_9, eM42_9, h⟩ := bd_e h
        refine m_callVi (As := [.ref (1000 + 10)]) (st := []) (s_X8_isWord (d := d + 0) hA (by decide) eM42_9) rfl okX8 ck_X8_isWord w_499 rfl (Nat.le_of_ble_eq_true rfl) dX5_isKept_42 ?_
        refine g_if_ne (tgt := 96) dX5_isKept_45 (by decide) (fun c23 => ?_) (fun c23 => ?_)
        · replace h := ite_n c23 h
          refine g_sub [] (lv' := []) rfl ?_
          exact hj4  _ h
        · replace h := ite_p c23 h
          refine g_aload_n dX5_isKept_48 rfl 0 rfl ?_
          refine m_geta (k := 0) okX5 rfl rfl (by decide) w_229 rfl dX5_isKept_49 ?_
          refine g_ldcS (j := 15) rfl dX5_isKept_52 ?_
          obtain ⟨v54_12, M54_11, eM54_11, h⟩ := bd_e h
          refine m_callVi (As := [.ref (1000 + 15)]) (st := []) (s_X8_isWord (d := d + 0) hA (by decide) eM54_11) rfl okX8 ck_X8_isWord w_499 rfl (Nat.le_of_ble_eq_true rfl) dX5_isKept_54 ?_
          refine g_if_ne (tgt := 96) dX5_isKept_57 (by decide) (fun c22 => ?_) (fun c22 => ?_)
          · replace h := ite_n c22 h
            refine g_sub [] (lv' := []) rfl ?_
            exact hj4  _ h
          · replace h := ite_p c22 h
            refine g_aload_n dX5_isKept_60 rfl 0 rfl ?_
            refine m_geta (k := 0) okX5 rfl rfl (by decide) w_229 rfl dX5_isKept_61 ?_
            refine g_ldcS (j := 16) rfl dX5_isKept_64 ?_
            obtain ⟨v66_14, M66_13, eM66_13, h⟩ := bd_e h
            refine m_callVi (As := [.ref (1000 + 16)]) (st := []) (s_X8_isWord (d := d + 0) hA (by decide) eM66_13) rfl okX8 ck_X8_isWord w_499 rfl (Nat.le_of_ble_eq_true rfl) dX5_isKept_66 ?_
            refine g_if_ne (tgt := 96) dX5_isKept_69 (by decide) (fun c21 => ?_) (fun c21 => ?_)
            · replace h := ite_n c21 h
              refine g_sub [] (lv' := []) rfl ?_
              exact hj4  _ h
            · replace h := ite_p c21 h
              refine g_aload_n dX5_isKept_72 rfl 0 rfl ?_
              refine m_geta (k := 0) okX5 rfl rfl (by decide) w_229 rfl dX5_isKept_73 ?_
              refine g_ldcS (j := 17) rfl dX5_isKept_76 ?_
              obtain ⟨v78_16, M78_15, eM78_15, h⟩ := bd_e h
              refine m_callVi (As := [.ref (1000 + 17)]) (st := []) (s_X8_isWord (d := d + 0) hA (by decide) eM78_15) rfl okX8 ck_X8_isWord w_499 rfl (Nat.le_of_ble_eq_true rfl) dX5_isKept_78 ?_
              refine g_if_ne (tgt := 96) dX5_isKept_81 (by decide) (fun c20 => ?_) (fun c20 => ?_)
              · replace h := ite_n c20 h
                refine g_sub [] (lv' := []) rfl ?_
                exact hj4  _ h
              · replace h := ite_p c20 h
                refine g_aload_n dX5_isKept_84 rfl 0 rfl ?_
                refine m_geta (k := 0) okX5 rfl rfl (by decide) w_229 rfl dX5_isKept_85 ?_
                refine g_ldcS (j := 18) rfl dX5_isKept_88 ?_
                obtain ⟨v90_18, M90_17, eM90_17, h⟩ := bd_e h
                refine m_callVi (As := [.ref (1000 + 18)]) (st := []) (s_X8_isWord (d := d + 0) hA (by decide) eM90_17) rfl okX8 ck_X8_isWord w_499 rfl (Nat.le_of_ble_eq_true rfl) dX5_isKept_90 ?_
                refine g_if_eq (tgt := 100) dX5_isKept_93 (by decide) (fun c19 => ?_) (fun c19 => ?_)
                · replace h := ite_p c19 h
                  refine g_iconst (v := (nI 0)) dX5_isKept_100 (by decide) ?_
                  exact g_zret rfl rfl (pi_of h) dX5_isKept_101
                · replace h := ite_n c19 h
                  refine g_sub [] (lv' := []) rfl ?_
                  exact hj4  _ h
theorem ck_X5_isKept : CKV yX5_isKept cX5_isKept 1 (some .boolean) 0 := ⟨⟨by decide, by decide, by decide +kernel⟩, w_642, w_75, ⟨w_640, w_641⟩, by decide⟩
theorem dX8_isTokenAt_0 : decode cX8_isTokenAt 0 = .ok (.aload_n 0, 1) := by decide +kernel
theorem dX8_isTokenAt_1 : decode cX8_isTokenAt 1 = .ok (.getfield 25, 3) := by decide +kernel
theorem dX8_isTokenAt_4 : decode cX8_isTokenAt 4 = .ok (.iload_n 2, 1) := by decide +kernel
theorem dX8_isTokenAt_5 : decode cX8_isTokenAt 5 = .ok (.if_icmp .eq 5, 3) := by decide +kernel
theorem dX8_isTokenAt_8 : decode cX8_isTokenAt 8 = .ok (.iconst 0, 1) := by decide +kernel
theorem dX8_isTokenAt_9 : decode cX8_isTokenAt 9 = .ok (.ireturn, 1) := by decide +kernel
theorem dX8_isTokenAt_10 : decode cX8_isTokenAt 10 = .ok (.iconst 0, 1) := by decide +kernel
theorem dX8_isTokenAt_11 : decode cX8_isTokenAt 11 = .ok (.istore_n 3, 1) := by decide +kernel
theorem dX8_isTokenAt_12 : decode cX8_isTokenAt 12 = .ok (.iload_n 3, 1) := by decide +kernel
theorem dX8_isTokenAt_13 : decode cX8_isTokenAt 13 = .ok (.iload_n 2, 1) := by decide +kernel
theorem dX8_isTokenAt_14 : decode cX8_isTokenAt 14 = .ok (.if_icmp .ge 31, 3) := by decide +kernel
theorem dX8_isTokenAt_17 : decode cX8_isTokenAt 17 = .ok (.aload_n 0, 1) := by decide +kernel
theorem dX8_isTokenAt_18 : decode cX8_isTokenAt 18 = .ok (.aload_n 0, 1) := by decide +kernel
theorem dX8_isTokenAt_19 : decode cX8_isTokenAt 19 = .ok (.getfield 22, 3) := by decide +kernel
theorem dX8_isTokenAt_22 : decode cX8_isTokenAt 22 = .ok (.iload_n 3, 1) := by decide +kernel
theorem dX8_isTokenAt_23 : decode cX8_isTokenAt 23 = .ok (.iadd, 1) := by decide +kernel
theorem dX8_isTokenAt_24 : decode cX8_isTokenAt 24 = .ok (.invokevirtual 31, 3) := by decide +kernel
theorem dX8_isTokenAt_27 : decode cX8_isTokenAt 27 = .ok (.aload_n 0, 1) := by decide +kernel
theorem dX8_isTokenAt_28 : decode cX8_isTokenAt 28 = .ok (.iload_n 1, 1) := by decide +kernel
theorem dX8_isTokenAt_29 : decode cX8_isTokenAt 29 = .ok (.iload_n 3, 1) := by decide +kernel
theorem dX8_isTokenAt_30 : decode cX8_isTokenAt 30 = .ok (.iadd, 1) := by decide +kernel
theorem dX8_isTokenAt_31 : decode cX8_isTokenAt 31 = .ok (.invokevirtual 31, 3) := by decide +kernel
theorem dX8_isTokenAt_34 : decode cX8_isTokenAt 34 = .ok (.if_icmp .eq 5, 3) := by decide +kernel
theorem dX8_isTokenAt_37 : decode cX8_isTokenAt 37 = .ok (.iconst 0, 1) := by decide +kernel
theorem dX8_isTokenAt_38 : decode cX8_isTokenAt 38 = .ok (.ireturn, 1) := by decide +kernel
theorem dX8_isTokenAt_39 : decode cX8_isTokenAt 39 = .ok (.iinc 3 1, 3) := by decide +kernel
theorem dX8_isTokenAt_42 : decode cX8_isTokenAt 42 = .ok (.goto (-30), 3) := by decide +kernel
theorem dX8_isTokenAt_45 : decode cX8_isTokenAt 45 = .ok (.iconst 1, 1) := by decide +kernel
theorem dX8_isTokenAt_46 : decode cX8_isTokenAt 46 = .ok (.ireturn, 1) := by decide +kernel
def lp_X8_isTokenAt_12 (y1 : Int32) (y2 : Int32)  : Nat → Int32 → Mm → Option (Int32 × Mm)
  | 0, _, _ => none
  | n + 1, y3, M =>
    if y2 ≤ y3 then (some ((nI 1), M)) else (bd (f_X8_byteAt ((M 15 4) + y3) M) fun v24_2 M24_1 => bd (f_X8_byteAt (y1 + y3) M24_1) fun v31_4 M31_3 => if v24_2 = v31_4 then (lp_X8_isTokenAt_12 y1 y2 n (y3 + (nI 1)) M31_3) else (some ((nI 0), M31_3)))
def f_X8_isTokenAt (x1 : Int32) (x2 : Int32) (M : Mm) : Option (Int32 × Mm) :=
  if (M 15 5) = x2 then (lp_X8_isTokenAt_12 x1 x2  N0 (nI 0) M) else (some ((nI 0), M))
set_option maxHeartbeats 4000000 in
set_option maxRecDepth 100000 in
theorem sl_X8_isTokenAt_12 {l : Launch} {B : BT} (hA : bA B = false) {d : Nat} {r : Int32} {M' : Mm} {y1 : Int32} {y2 : Int32}    :
    ∀ (n : Nat) (y3 : Int32) (M : Mm), lp_X8_isTokenAt_12 y1 y2 n y3 M = some (r, M') → GG l B LY (d + 1) yX8_isTokenAt cX8_isTokenAt 4 (some .boolean) 0 0 (PI r M') 97 0 0 12 [(0, .ref 15), (1, .int y1), (2, .int y2), (3, .int y3)] [] M := by
  intro n
  induction n with
  | zero => intro y3 M h; cases h
  | succ n ih =>
    intro y3 M h
    rw [lp_X8_isTokenAt_12] at h
    refine g_iload_n dX8_isTokenAt_12 rfl 3 rfl ?_
    refine g_iload_n dX8_isTokenAt_13 rfl 2 rfl ?_
    refine g_icmp_ge (tgt := 45) dX8_isTokenAt_14 (by decide) (fun c6 => ?_) (fun c6 => ?_)
    · replace h := ite_p c6 h
      refine g_iconst (v := (nI 1)) dX8_isTokenAt_45 (by decide) ?_
      exact g_zret rfl rfl (pi_of h) dX8_isTokenAt_46
    · replace h := ite_n c6 h
      refine g_aload_n dX8_isTokenAt_17 rfl 0 rfl ?_
      refine g_aload_n dX8_isTokenAt_18 rfl 0 rfl ?_
      refine m_geti (k := 4) okX8 rfl rfl (by decide) w_201 rfl dX8_isTokenAt_19 ?_
      refine g_iload_n dX8_isTokenAt_22 rfl 3 rfl ?_
      refine g_iadd dX8_isTokenAt_23 ?_
      obtain ⟨v24_2, M24_1, eM24_1, h⟩ := bd_e h
      refine m_callVi (As := [.int ((M 15 4) + y3)]) (st := []) (s_X8_byteAt (d := d + 0) hA  eM24_1) rfl okX8 ck_X8_byteAt w_491 rfl (Nat.le_of_ble_eq_true rfl) dX8_isTokenAt_24 ?_
      refine g_aload_n dX8_isTokenAt_27 rfl 0 rfl ?_
      refine g_iload_n dX8_isTokenAt_28 rfl 1 rfl ?_
      refine g_iload_n dX8_isTokenAt_29 rfl 3 rfl ?_
      refine g_iadd dX8_isTokenAt_30 ?_
      obtain ⟨v31_4, M31_3, eM31_3, h⟩ := bd_e h
      refine m_callVi (As := [.int (y1 + y3)]) (st := [.int v24_2]) (s_X8_byteAt (d := d + 0) hA  eM31_3) rfl okX8 ck_X8_byteAt w_491 rfl (Nat.le_of_ble_eq_true rfl) dX8_isTokenAt_31 ?_
      refine g_icmp_eq (tgt := 39) dX8_isTokenAt_34 (by decide) (fun c5 => ?_) (fun c5 => ?_)
      · replace h := ite_p c5 h
        refine g_iinc (v := (y3 + (nI 1))) (lv' := [(3, .int (y3 + (nI 1))), (0, .ref 15), (1, .int y1), (2, .int y2)]) dX8_isTokenAt_39 3 rfl rfl (by decide) rfl ?_
        refine g_goto (tgt := 12) dX8_isTokenAt_42 (by decide) ?_
        refine g_sub [1, 2, 3, 0] (lv' := [(0, .ref 15), (1, .int y1), (2, .int y2), (3, .int (y3 + (nI 1)))]) rfl ?_
        exact ih _  _ h
      · replace h := ite_n c5 h
        refine g_iconst (v := (nI 0)) dX8_isTokenAt_37 (by decide) ?_
        exact g_zret rfl rfl (pi_of h) dX8_isTokenAt_38
set_option maxHeartbeats 4000000 in
set_option maxRecDepth 100000 in
theorem s_X8_isTokenAt {l : Launch} {B : BT} (hA : bA B = false) {d : Nat} {r : Int32} {M' : Mm} {x1 : Int32} {x2 : Int32} {M : Mm}  (h : f_X8_isTokenAt x1 x2 M = some (r, M')) : Con l B LY (d + 1) yX8_isTokenAt cX8_isTokenAt 4 (some .boolean) 0 0 [.ref 15, .int x1, .int x2] 97 M (PI r M') := by
  refine con_of (by decide) (Nat.le_of_ble_eq_true rfl) ?_
  show GG l B LY (d + 1) yX8_isTokenAt cX8_isTokenAt 4 (some .boolean) 0 0 (PI r M') 97 0 0 0 [(0, .ref 15), (1, .int x1), (2, .int x2)] [] M
  rw [f_X8_isTokenAt] at h
  refine g_aload_n dX8_isTokenAt_0 rfl 0 rfl ?_
  refine m_geti (k := 5) okX8 rfl rfl (by decide) w_203 rfl dX8_isTokenAt_1 ?_
  refine g_iload_n dX8_isTokenAt_4 rfl 2 rfl ?_
  refine g_icmp_eq (tgt := 10) dX8_isTokenAt_5 (by decide) (fun c7 => ?_) (fun c7 => ?_)
  · replace h := ite_p c7 h
    refine g_iconst (v := (nI 0)) dX8_isTokenAt_10 (by decide) ?_
    refine g_istore_n (lv' := [(3, .int (nI 0)), (0, .ref 15), (1, .int x1), (2, .int x2)]) dX8_isTokenAt_11 rfl (by decide) rfl ?_
    refine g_sub [1, 2, 3, 0] (lv' := [(0, .ref 15), (1, .int x1), (2, .int x2), (3, .int (nI 0))]) rfl ?_
    refine sl_X8_isTokenAt_12 hA   _ _ _ h
  · replace h := ite_n c7 h
    refine g_iconst (v := (nI 0)) dX8_isTokenAt_8 (by decide) ?_
    exact g_zret rfl rfl (pi_of h) dX8_isTokenAt_9
theorem ck_X8_isTokenAt : CKV yX8_isTokenAt cX8_isTokenAt 4 (some .boolean) 2 := ⟨⟨by decide, by decide, by decide +kernel⟩, w_650, w_74, ⟨w_648, w_649⟩, by decide⟩
theorem dX5_name_0 : decode cX5_name 0 = .ok (.aload_n 0, 1) := by decide +kernel
theorem dX5_name_1 : decode cX5_name 1 = .ok (.getfield 18, 3) := by decide +kernel
theorem dX5_name_4 : decode cX5_name 4 = .ok (.getfield 78, 3) := by decide +kernel
theorem dX5_name_7 : decode cX5_name 7 = .ok (.iconst 1, 1) := by decide +kernel
theorem dX5_name_8 : decode cX5_name 8 = .ok (.if_icmp .ne 10, 3) := by decide +kernel
theorem dX5_name_11 : decode cX5_name 11 = .ok (.aload_n 0, 1) := by decide +kernel
theorem dX5_name_12 : decode cX5_name 12 = .ok (.invokevirtual 189, 3) := by decide +kernel
theorem dX5_name_15 : decode cX5_name 15 = .ok (.ifCond .eq 9, 3) := by decide +kernel
theorem dX5_name_18 : decode cX5_name 18 = .ok (.aload_n 0, 1) := by decide +kernel
theorem dX5_name_19 : decode cX5_name 19 = .ok (.iconst 1, 1) := by decide +kernel
theorem dX5_name_20 : decode cX5_name 20 = .ok (.invokevirtual 74, 3) := by decide +kernel
theorem dX5_name_23 : decode cX5_name 23 = .ok (.ireturn, 1) := by decide +kernel
theorem dX5_name_24 : decode cX5_name 24 = .ok (.iconst 0, 1) := by decide +kernel
theorem dX5_name_25 : decode cX5_name 25 = .ok (.istore_n 1, 1) := by decide +kernel
theorem dX5_name_26 : decode cX5_name 26 = .ok (.iload_n 1, 1) := by decide +kernel
theorem dX5_name_27 : decode cX5_name 27 = .ok (.aload_n 0, 1) := by decide +kernel
theorem dX5_name_28 : decode cX5_name 28 = .ok (.getfield 22, 3) := by decide +kernel
theorem dX5_name_31 : decode cX5_name 31 = .ok (.getfield 168, 3) := by decide +kernel
theorem dX5_name_34 : decode cX5_name 34 = .ok (.if_icmp .ge 41, 3) := by decide +kernel
theorem dX5_name_37 : decode cX5_name 37 = .ok (.aload_n 0, 1) := by decide +kernel
theorem dX5_name_38 : decode cX5_name 38 = .ok (.getfield 18, 3) := by decide +kernel
theorem dX5_name_41 : decode cX5_name 41 = .ok (.aload_n 0, 1) := by decide +kernel
theorem dX5_name_42 : decode cX5_name 42 = .ok (.getfield 9, 3) := by decide +kernel
theorem dX5_name_45 : decode cX5_name 45 = .ok (.iload_n 1, 1) := by decide +kernel
theorem dX5_name_46 : decode cX5_name 46 = .ok (.invokestatic 192, 3) := by decide +kernel
theorem dX5_name_49 : decode cX5_name 49 = .ok (.aload_n 0, 1) := by decide +kernel
theorem dX5_name_50 : decode cX5_name 50 = .ok (.getfield 15, 3) := by decide +kernel
theorem dX5_name_53 : decode cX5_name 53 = .ok (.iload_n 1, 1) := by decide +kernel
theorem dX5_name_54 : decode cX5_name 54 = .ok (.invokestatic 192, 3) := by decide +kernel
theorem dX5_name_57 : decode cX5_name 57 = .ok (.invokevirtual 196, 3) := by decide +kernel
theorem dX5_name_60 : decode cX5_name 60 = .ok (.ifCond .eq 9, 3) := by decide +kernel
theorem dX5_name_63 : decode cX5_name 63 = .ok (.aload_n 0, 1) := by decide +kernel
theorem dX5_name_64 : decode cX5_name 64 = .ok (.iconst 3, 1) := by decide +kernel
theorem dX5_name_65 : decode cX5_name 65 = .ok (.invokevirtual 74, 3) := by decide +kernel
theorem dX5_name_68 : decode cX5_name 68 = .ok (.ireturn, 1) := by decide +kernel
theorem dX5_name_69 : decode cX5_name 69 = .ok (.iinc 1 1, 3) := by decide +kernel
theorem dX5_name_72 : decode cX5_name 72 = .ok (.goto (-46), 3) := by decide +kernel
theorem dX5_name_75 : decode cX5_name 75 = .ok (.aload_n 0, 1) := by decide +kernel
theorem dX5_name_76 : decode cX5_name 76 = .ok (.getfield 9, 3) := by decide +kernel
theorem dX5_name_79 : decode cX5_name 79 = .ok (.aload_n 0, 1) := by decide +kernel
theorem dX5_name_80 : decode cX5_name 80 = .ok (.getfield 22, 3) := by decide +kernel
theorem dX5_name_83 : decode cX5_name 83 = .ok (.getfield 168, 3) := by decide +kernel
theorem dX5_name_86 : decode cX5_name 86 = .ok (.aload_n 0, 1) := by decide +kernel
theorem dX5_name_87 : decode cX5_name 87 = .ok (.getfield 18, 3) := by decide +kernel
theorem dX5_name_90 : decode cX5_name 90 = .ok (.getfield 87, 3) := by decide +kernel
theorem dX5_name_93 : decode cX5_name 93 = .ok (.invokestatic 151, 3) := by decide +kernel
theorem dX5_name_96 : decode cX5_name 96 = .ok (.aload_n 0, 1) := by decide +kernel
theorem dX5_name_97 : decode cX5_name 97 = .ok (.getfield 15, 3) := by decide +kernel
theorem dX5_name_100 : decode cX5_name 100 = .ok (.aload_n 0, 1) := by decide +kernel
theorem dX5_name_101 : decode cX5_name 101 = .ok (.getfield 22, 3) := by decide +kernel
theorem dX5_name_104 : decode cX5_name 104 = .ok (.getfield 168, 3) := by decide +kernel
theorem dX5_name_107 : decode cX5_name 107 = .ok (.aload_n 0, 1) := by decide +kernel
theorem dX5_name_108 : decode cX5_name 108 = .ok (.getfield 18, 3) := by decide +kernel
theorem dX5_name_111 : decode cX5_name 111 = .ok (.getfield 200, 3) := by decide +kernel
theorem dX5_name_114 : decode cX5_name 114 = .ok (.invokestatic 151, 3) := by decide +kernel
theorem dX5_name_117 : decode cX5_name 117 = .ok (.aload_n 0, 1) := by decide +kernel
theorem dX5_name_118 : decode cX5_name 118 = .ok (.getfield 18, 3) := by decide +kernel
theorem dX5_name_121 : decode cX5_name 121 = .ok (.invokevirtual 84, 3) := by decide +kernel
theorem dX5_name_124 : decode cX5_name 124 = .ok (.iconst 1, 1) := by decide +kernel
theorem dX5_name_125 : decode cX5_name 125 = .ok (.ireturn, 1) := by decide +kernel
def lp_X5_name_26  (k63 : Mm → Option (Int32 × Mm)) (k75 : Mm → Option (Int32 × Mm)) : Nat → Int32 → Mm → Option (Int32 × Mm)
  | 0, _, _ => none
  | n + 1, y1, M =>
    bg (M 17 3) fun g7 => if (M g7 14) ≤ y1 then (k75  M) else (bd (f_X9_at 18 y1 M) fun v46_9 M46_8 => bd (f_X9_at 19 y1 M46_8) fun v54_11 M54_10 => bd (f_X8_isTokenAt v46_9 v54_11 M54_10) fun v57_13 M57_12 => if v57_13 = 0 then (lp_X5_name_26 k63 k75 n (y1 + (nI 1)) M57_12) else (k63  M57_12))
def f_X5_name  (M : Mm) : Option (Int32 × Mm) :=
  jn (fun (M1 : Mm) => bd (f_X5_fail (nI 1) M1) fun v20_4 M20_3 => gd (zo v20_4) <| some (v20_4, M20_3)) fun j2 => if (M 15 3) = (nI 1) then (bd (f_X5_isKept  M) fun v12_6 M12_5 => if v12_6 = 0 then (lp_X5_name_26  (fun  (M16 : Mm) => bd (f_X5_fail (nI 3) M16) fun v65_18 M65_17 => gd (zo v65_18) <| some (v65_18, M65_17)) (fun  (M19 : Mm) => bg (M19 17 3) fun g20 => bv (f_X9_put 18 (M19 g20 14) (M19 15 4) M19) fun M93_21 => bg (M93_21 17 3) fun g23 => bv (f_X9_put 19 (M93_21 g23 14) (M93_21 15 5) M93_21) fun M114_24 => bv (f_X8_advance  M114_24) fun M121_26 => some ((nI 1), M121_26)) N0 (nI 0) M12_5) else (j2  M12_5)) else (j2  M)
set_option maxHeartbeats 4000000 in
set_option maxRecDepth 100000 in
theorem sl_X5_name_26 {l : Launch} {B : BT} (hA : bA B = false) {d : Nat} {r : Int32} {M' : Mm}   {k63 : Mm → Option (Int32 × Mm)} {k75 : Mm → Option (Int32 × Mm)} (hk63 : ∀  (M9 : Mm), k63  M9 = some (r, M') → GG l B LY (d + 6) yX5_name cX5_name 2 (some .boolean) 0 0 (PI r M') 97 0 0 63 [(0, .ref 17)] [] M9) (hk75 : ∀  (M9 : Mm), k75  M9 = some (r, M') → GG l B LY (d + 6) yX5_name cX5_name 2 (some .boolean) 0 0 (PI r M') 97 0 0 75 [(0, .ref 17)] [] M9) :
    ∀ (n : Nat) (y1 : Int32) (M : Mm), lp_X5_name_26 k63 k75 n y1 M = some (r, M') → GG l B LY (d + 6) yX5_name cX5_name 2 (some .boolean) 0 0 (PI r M') 97 0 0 26 [(0, .ref 17), (1, .int y1)] [] M := by
  intro n
  induction n with
  | zero => intro y1 M h; cases h
  | succ n ih =>
    intro y1 M h
    rw [lp_X5_name_26] at h
    refine g_iload_n dX5_name_26 rfl 1 rfl ?_
    refine g_aload_n dX5_name_27 rfl 0 rfl ?_
    obtain ⟨g7, eg7, hg7, h⟩ := bg_e h
    refine m_getm (k := 3) okX5 rfl rfl (by decide) w_232 rfl dX5_name_28 eg7 hg7 ?_
    refine m_geti (k := 14) okX0 hg7 rfl (by decide) w_155 rfl dX5_name_31 ?_
    refine g_icmp_ge (tgt := 75) dX5_name_34 (by decide) (fun c15 => ?_) (fun c15 => ?_)
    · replace h := ite_p c15 h
      refine g_sub [0] (lv' := [(0, .ref 17)]) rfl ?_
      exact hk75  _ h
    · replace h := ite_n c15 h
      refine g_aload_n dX5_name_37 rfl 0 rfl ?_
      refine m_geta (k := 0) okX5 rfl rfl (by decide) w_229 rfl dX5_name_38 ?_
      refine g_aload_n dX5_name_41 rfl 0 rfl ?_
      refine m_getr (k := 1) okX5 rfl rfl (by decide) w_230 rfl dX5_name_42 ?_
      refine g_iload_n dX5_name_45 rfl 1 rfl ?_
      obtain ⟨v46_9, M46_8, eM46_8, h⟩ := bd_e h
      refine m_callNi (As := [.ref 18, .int y1]) (st := [.ref 15]) (s_X9_at (d := d + 5) hA (al_of rfl) eM46_8) ck_X9_at (host := "StillYard") (List.mem_of_getElem? (i := 13) rfl) rfl (Nat.le_of_ble_eq_true rfl) dX5_name_46 ?_
      refine g_aload_n dX5_name_49 rfl 0 rfl ?_
      refine m_getr (k := 2) okX5 rfl rfl (by decide) w_231 rfl dX5_name_50 ?_
      refine g_iload_n dX5_name_53 rfl 1 rfl ?_
      obtain ⟨v54_11, M54_10, eM54_10, h⟩ := bd_e h
      refine m_callNi (As := [.ref 19, .int y1]) (st := [.int v46_9, .ref 15]) (s_X9_at (d := d + 5) hA (al_of rfl) eM54_10) ck_X9_at (host := "StillYard") (List.mem_of_getElem? (i := 13) rfl) rfl (Nat.le_of_ble_eq_true rfl) dX5_name_54 ?_
      obtain ⟨v57_13, M57_12, eM57_12, h⟩ := bd_e h
      refine m_callVi (As := [.int v46_9, .int v54_11]) (st := []) (s_X8_isTokenAt (d := d + 4) hA  eM57_12) rfl okX8 ck_X8_isTokenAt w_647 rfl (Nat.le_of_ble_eq_true rfl) dX5_name_57 ?_
      refine g_if_eq (tgt := 69) dX5_name_60 (by decide) (fun c14 => ?_) (fun c14 => ?_)
      · replace h := ite_p c14 h
        refine g_iinc (v := (y1 + (nI 1))) (lv' := [(1, .int (y1 + (nI 1))), (0, .ref 17)]) dX5_name_69 1 rfl rfl (by decide) rfl ?_
        refine g_goto (tgt := 26) dX5_name_72 (by decide) ?_
        refine g_sub [1, 0] (lv' := [(0, .ref 17), (1, .int (y1 + (nI 1)))]) rfl ?_
        exact ih _  _ h
      · replace h := ite_n c14 h
        refine g_sub [0] (lv' := [(0, .ref 17)]) rfl ?_
        exact hk63  _ h
set_option maxHeartbeats 4000000 in
set_option maxRecDepth 100000 in
theorem s_X5_name {l : Launch} {B : BT} (hA : bA B = false) {d : Nat} {r : Int32} {M' : Mm}  {M : Mm}  (h : f_X5_name  M = some (r, M')) : Con l B LY (d + 6) yX5_name cX5_name 2 (some .boolean) 0 0 [.ref 17] 97 M (PI r M') := by
  refine con_of (by decide) (Nat.le_of_ble_eq_true rfl) ?_
  show GG l B LY (d + 6) yX5_name cX5_name 2 (some .boolean) 0 0 (PI r M') 97 0 0 0 [(0, .ref 17)] [] M
  rw [f_X5_name] at h
  refine g_aload_n dX5_name_0 rfl 0 rfl ?_
  refine m_geta (k := 0) okX5 rfl rfl (by decide) w_229 rfl dX5_name_1 ?_
  refine m_geti (k := 3) okX8 rfl rfl (by decide) w_199 rfl dX5_name_4 ?_
  refine g_iconst (v := (nI 1)) dX5_name_7 (by decide) ?_
  obtain ⟨j2, ej2, h⟩ := jn_e h
  have hj2 : ∀ (M1 : Mm), j2 M1 = some (r, M') → GG l B LY (d + 6) yX5_name cX5_name 2 (some .boolean) 0 0 (PI r M') 97 0 0 18 [(0, .ref 17)] [] M1 := by
    intro M1 h
    rw [ej2] at h
    refine g_aload_n dX5_name_18 rfl 0 rfl ?_
    refine g_iconst (v := (nI 1)) dX5_name_19 (by decide) ?_
    obtain ⟨v20_4, M20_3, eM20_3, h⟩ := bd_e h
    refine m_callVi (As := [.int (nI 1)]) (st := []) (s_X5_fail (d := d + 5) hA  eM20_3) rfl okX5 ck_X5_fail w_555 rfl (Nat.le_of_ble_eq_true rfl) dX5_name_20 ?_
    obtain ⟨hz, h⟩ := gd_s h
    exact g_zret rfl (nar_zo hz) (pi_of h) dX5_name_23
  refine g_icmp_ne (tgt := 18) dX5_name_8 (by decide) (fun c29 => ?_) (fun c29 => ?_)
  · replace h := ite_n c29 h
    refine g_sub [0] (lv' := [(0, .ref 17)]) rfl ?_
    exact hj2  _ h
  · replace h := ite_p c29 h
    refine g_aload_n dX5_name_11 rfl 0 rfl ?_
    obtain ⟨v12_6, M12_5, eM12_5, h⟩ := bd_e h
    refine m_callVi (As := []) (st := []) (s_X5_isKept (d := d + 0) hA  eM12_5) rfl okX5 ck_X5_isKept w_639 rfl (Nat.le_of_ble_eq_true rfl) dX5_name_12 ?_
    refine g_if_eq (tgt := 24) dX5_name_15 (by decide) (fun c28 => ?_) (fun c28 => ?_)
    · replace h := ite_p c28 h
      refine g_iconst (v := (nI 0)) dX5_name_24 (by decide) ?_
      refine g_istore_n (lv' := [(1, .int (nI 0)), (0, .ref 17)]) dX5_name_25 rfl (by decide) rfl ?_
      refine g_sub [1, 0] (lv' := [(0, .ref 17), (1, .int (nI 0))]) rfl ?_
      refine sl_X5_name_26 hA  ?_ ?_ _ _ _ h
      · intro  M16 h
        refine g_aload_n dX5_name_63 rfl 0 rfl ?_
        refine g_iconst (v := (nI 3)) dX5_name_64 (by decide) ?_
        obtain ⟨v65_18, M65_17, eM65_17, h⟩ := bd_e h
        refine m_callVi (As := [.int (nI 3)]) (st := []) (s_X5_fail (d := d + 5) hA  eM65_17) rfl okX5 ck_X5_fail w_555 rfl (Nat.le_of_ble_eq_true rfl) dX5_name_65 ?_
        obtain ⟨hz, h⟩ := gd_s h
        exact g_zret rfl (nar_zo hz) (pi_of h) dX5_name_68
      · intro  M19 h
        refine g_aload_n dX5_name_75 rfl 0 rfl ?_
        refine m_getr (k := 1) okX5 rfl rfl (by decide) w_230 rfl dX5_name_76 ?_
        refine g_aload_n dX5_name_79 rfl 0 rfl ?_
        obtain ⟨g20, eg20, hg20, h⟩ := bg_e h
        refine m_getm (k := 3) okX5 rfl rfl (by decide) w_232 rfl dX5_name_80 eg20 hg20 ?_
        refine m_geti (k := 14) okX0 hg20 rfl (by decide) w_155 rfl dX5_name_83 ?_
        refine g_aload_n dX5_name_86 rfl 0 rfl ?_
        refine m_geta (k := 0) okX5 rfl rfl (by decide) w_229 rfl dX5_name_87 ?_
        refine m_geti (k := 4) okX8 rfl rfl (by decide) w_202 rfl dX5_name_90 ?_
        obtain ⟨M93_21, eM93_21, h⟩ := bv_e h
        refine m_callNv (As := [.ref 18, .int (M19 g20 14), .int (M19 15 4)]) (st := []) (s_X9_put (d := d + 5) hA (al_of rfl) eM93_21) ck_X9_put (host := "StillYard") (List.mem_of_getElem? (i := 12) rfl) rfl (Nat.le_of_ble_eq_true rfl) dX5_name_93 ?_
        refine g_aload_n dX5_name_96 rfl 0 rfl ?_
        refine m_getr (k := 2) okX5 rfl rfl (by decide) w_231 rfl dX5_name_97 ?_
        refine g_aload_n dX5_name_100 rfl 0 rfl ?_
        obtain ⟨g23, eg23, hg23, h⟩ := bg_e h
        refine m_getm (k := 3) okX5 rfl rfl (by decide) w_232 rfl dX5_name_101 eg23 hg23 ?_
        refine m_geti (k := 14) okX0 hg23 rfl (by decide) w_155 rfl dX5_name_104 ?_
        refine g_aload_n dX5_name_107 rfl 0 rfl ?_
        refine m_geta (k := 0) okX5 rfl rfl (by decide) w_229 rfl dX5_name_108 ?_
        refine m_geti (k := 5) okX8 rfl rfl (by decide) w_204 rfl dX5_name_111 ?_
        obtain ⟨M114_24, eM114_24, h⟩ := bv_e h
        refine m_callNv (As := [.ref 19, .int (M93_21 g23 14), .int (M93_21 15 5)]) (st := []) (s_X9_put (d := d + 5) hA (al_of rfl) eM114_24) ck_X9_put (host := "StillYard") (List.mem_of_getElem? (i := 12) rfl) rfl (Nat.le_of_ble_eq_true rfl) dX5_name_114 ?_
        refine g_aload_n dX5_name_117 rfl 0 rfl ?_
        refine m_geta (k := 0) okX5 rfl rfl (by decide) w_229 rfl dX5_name_118 ?_
        obtain ⟨M121_26, eM121_26, h⟩ := bv_e h
        refine m_callVv (As := []) (st := []) (s_X8_advance (d := d + 4) hA  eM121_26) rfl okX8 ck_X8_advance w_559 rfl (Nat.le_of_ble_eq_true rfl) dX5_name_121 ?_
        refine g_iconst (v := (nI 1)) dX5_name_124 (by decide) ?_
        exact g_zret rfl rfl (pi_of h) dX5_name_125
    · replace h := ite_n c28 h
      refine g_sub [0] (lv' := [(0, .ref 17)]) rfl ?_
      exact hj2  _ h
theorem ck_X5_name : CKV yX5_name cX5_name 2 (some .boolean) 0 := ⟨⟨by decide, by decide, by decide +kernel⟩, w_638, w_75, ⟨w_636, w_637⟩, by decide⟩
theorem dX5_trait_0 : decode cX5_trait 0 = .ok (.aload_n 0, 1) := by decide +kernel
theorem dX5_trait_1 : decode cX5_trait 1 = .ok (.aload_n 1, 1) := by decide +kernel
theorem dX5_trait_2 : decode cX5_trait 2 = .ok (.invokevirtual 96, 3) := by decide +kernel
theorem dX5_trait_5 : decode cX5_trait 5 = .ok (.ifCond .eq 14, 3) := by decide +kernel
theorem dX5_trait_8 : decode cX5_trait 8 = .ok (.aload_n 0, 1) := by decide +kernel
theorem dX5_trait_9 : decode cX5_trait 9 = .ok (.iload_n 3, 1) := by decide +kernel
theorem dX5_trait_10 : decode cX5_trait 10 = .ok (.iload 4, 2) := by decide +kernel
theorem dX5_trait_12 : decode cX5_trait 12 = .ok (.iconst 1, 1) := by decide +kernel
theorem dX5_trait_13 : decode cX5_trait 13 = .ok (.invokevirtual 99, 3) := by decide +kernel
theorem dX5_trait_16 : decode cX5_trait 16 = .ok (.ifCond .ne 5, 3) := by decide +kernel
theorem dX5_trait_19 : decode cX5_trait 19 = .ok (.iconst 0, 1) := by decide +kernel
theorem dX5_trait_20 : decode cX5_trait 20 = .ok (.ireturn, 1) := by decide +kernel
theorem dX5_trait_21 : decode cX5_trait 21 = .ok (.aload_n 0, 1) := by decide +kernel
theorem dX5_trait_22 : decode cX5_trait 22 = .ok (.getfield 22, 3) := by decide +kernel
theorem dX5_trait_25 : decode cX5_trait 25 = .ok (.getfield 209, 3) := by decide +kernel
theorem dX5_trait_28 : decode cX5_trait 28 = .ok (.aload_n 0, 1) := by decide +kernel
theorem dX5_trait_29 : decode cX5_trait 29 = .ok (.getfield 22, 3) := by decide +kernel
theorem dX5_trait_32 : decode cX5_trait 32 = .ok (.getfield 168, 3) := by decide +kernel
theorem dX5_trait_35 : decode cX5_trait 35 = .ok (.bipush 7, 2) := by decide +kernel
theorem dX5_trait_37 : decode cX5_trait 37 = .ok (.imul, 1) := by decide +kernel
theorem dX5_trait_38 : decode cX5_trait 38 = .ok (.iload_n 2, 1) := by decide +kernel
theorem dX5_trait_39 : decode cX5_trait 39 = .ok (.iadd, 1) := by decide +kernel
theorem dX5_trait_40 : decode cX5_trait 40 = .ok (.aload_n 0, 1) := by decide +kernel
theorem dX5_trait_41 : decode cX5_trait 41 = .ok (.getfield 93, 3) := by decide +kernel
theorem dX5_trait_44 : decode cX5_trait 44 = .ok (.invokestatic 151, 3) := by decide +kernel
theorem dX5_trait_47 : decode cX5_trait 47 = .ok (.iconst 1, 1) := by decide +kernel
theorem dX5_trait_48 : decode cX5_trait 48 = .ok (.ireturn, 1) := by decide +kernel
def f_X5_trait (x1 : Nat) (x2 : Int32) (x3 : Int32) (x4 : Int32) (M : Mm) : Option (Int32 × Mm) :=
  bd (f_X5_word x1 M) fun v2_2 M2_1 => if v2_2 = 0 then (some ((nI 0), M2_1)) else (bd (f_X5_whole x3 x4 (nI 1) M2_1) fun v13_4 M13_3 => if v13_4 = 0 then (some ((nI 0), M13_3)) else (bg (M13_3 17 3) fun g5 => bg (M13_3 17 3) fun g6 => bv (f_X9_put (g5 + 6) (((M13_3 g6 14) * (nI 7)) + x2) (M13_3 17 6) M13_3) fun M44_7 => some ((nI 1), M44_7)))
set_option maxHeartbeats 4000000 in
set_option maxRecDepth 100000 in
theorem s_X5_trait {l : Launch} {B : BT} (hA : bA B = false) {d : Nat} {r : Int32} {M' : Mm} {x1 : Nat} {x2 : Int32} {x3 : Int32} {x4 : Int32} {M : Mm} (hx1 : x1 < 46) (h : f_X5_trait x1 x2 x3 x4 M = some (r, M')) : Con l B LY (d + 6) yX5_trait cX5_trait 5 (some .boolean) 0 0 [.ref 17, .ref (1000 + x1), .int x2, .int x3, .int x4] 97 M (PI r M') := by
  refine con_of (by decide) (Nat.le_of_ble_eq_true rfl) ?_
  show GG l B LY (d + 6) yX5_trait cX5_trait 5 (some .boolean) 0 0 (PI r M') 97 0 0 0 [(0, .ref 17), (1, .ref (1000 + x1)), (2, .int x2), (3, .int x3), (4, .int x4)] [] M
  rw [f_X5_trait] at h
  refine g_aload_n dX5_trait_0 rfl 0 rfl ?_
  refine g_aload_n dX5_trait_1 rfl 1 rfl ?_
  obtain ⟨v2_2, M2_1, eM2_1, h⟩ := bd_e h
  refine m_callVi (As := [.ref (1000 + x1)]) (st := []) (s_X5_word (d := d + 0) hA hx1 eM2_1) rfl okX5 ck_X5_word w_565 rfl (Nat.le_of_ble_eq_true rfl) dX5_trait_2 ?_
  refine g_if_eq (tgt := 19) dX5_trait_5 (by decide) (fun c10 => ?_) (fun c10 => ?_)
  · replace h := ite_p c10 h
    refine g_iconst (v := (nI 0)) dX5_trait_19 (by decide) ?_
    exact g_zret rfl rfl (pi_of h) dX5_trait_20
  · replace h := ite_n c10 h
    refine g_aload_n dX5_trait_8 rfl 0 rfl ?_
    refine g_iload_n dX5_trait_9 rfl 3 rfl ?_
    refine g_iload dX5_trait_10 4 rfl ?_
    refine g_iconst (v := (nI 1)) dX5_trait_12 (by decide) ?_
    obtain ⟨v13_4, M13_3, eM13_3, h⟩ := bd_e h
    refine m_callVi (As := [.int x3, .int x4, .int (nI 1)]) (st := []) (s_X5_whole (d := d + 3) hA  eM13_3) rfl okX5 ck_X5_whole w_569 rfl (Nat.le_of_ble_eq_true rfl) dX5_trait_13 ?_
    refine g_if_ne (tgt := 21) dX5_trait_16 (by decide) (fun c9 => ?_) (fun c9 => ?_)
    · replace h := ite_n c9 h
      refine g_aload_n dX5_trait_21 rfl 0 rfl ?_
      obtain ⟨g5, eg5, hg5, h⟩ := bg_e h
      refine m_getm (k := 3) okX5 rfl rfl (by decide) w_232 rfl dX5_trait_22 eg5 hg5 ?_
      refine m_getr (k := 5) okX0 hg5 rfl (by decide) w_119 rfl dX5_trait_25 ?_
      refine g_aload_n dX5_trait_28 rfl 0 rfl ?_
      obtain ⟨g6, eg6, hg6, h⟩ := bg_e h
      refine m_getm (k := 3) okX5 rfl rfl (by decide) w_232 rfl dX5_trait_29 eg6 hg6 ?_
      refine m_geti (k := 14) okX0 hg6 rfl (by decide) w_155 rfl dX5_trait_32 ?_
      refine g_bipush (v := (nI 7)) dX5_trait_35 (by decide) ?_
      refine g_imul dX5_trait_37 ?_
      refine g_iload_n dX5_trait_38 rfl 2 rfl ?_
      refine g_iadd dX5_trait_39 ?_
      refine g_aload_n dX5_trait_40 rfl 0 rfl ?_
      refine m_geti (k := 6) okX5 rfl rfl (by decide) w_237 rfl dX5_trait_41 ?_
      obtain ⟨M44_7, eM44_7, h⟩ := bv_e h
      refine m_callNv (As := [.ref (g5 + 6), .int (((M13_3 g6 14) * (nI 7)) + x2), .int (M13_3 17 6)]) (st := []) (s_X9_put (d := d + 5) hA (al_of (aX0_6 hg5)) eM44_7) ck_X9_put (host := "StillYard") (List.mem_of_getElem? (i := 12) rfl) rfl (Nat.le_of_ble_eq_true rfl) dX5_trait_44 ?_
      refine g_iconst (v := (nI 1)) dX5_trait_47 (by decide) ?_
      exact g_zret rfl rfl (pi_of h) dX5_trait_48
    · replace h := ite_p c9 h
      refine g_iconst (v := (nI 0)) dX5_trait_19 (by decide) ?_
      exact g_zret rfl rfl (pi_of h) dX5_trait_20
theorem ck_X5_trait : CKV yX5_trait cX5_trait 5 (some .boolean) 4 := ⟨⟨by decide, by decide, by decide +kernel⟩, w_654, w_75, ⟨w_652, w_653⟩, by decide⟩
theorem dX5_way_0 : decode cX5_way 0 = .ok (.aload_n 0, 1) := by decide +kernel
theorem dX5_way_1 : decode cX5_way 1 = .ok (.getfield 18, 3) := by decide +kernel
theorem dX5_way_4 : decode cX5_way 4 = .ok (.ldc 203, 2) := by decide +kernel
theorem dX5_way_6 : decode cX5_way 6 = .ok (.invokevirtual 46, 3) := by decide +kernel
theorem dX5_way_9 : decode cX5_way 9 = .ok (.istore_n 1, 1) := by decide +kernel
theorem dX5_way_10 : decode cX5_way 10 = .ok (.aload_n 0, 1) := by decide +kernel
theorem dX5_way_11 : decode cX5_way 11 = .ok (.getfield 18, 3) := by decide +kernel
theorem dX5_way_14 : decode cX5_way 14 = .ok (.ldc 205, 2) := by decide +kernel
theorem dX5_way_16 : decode cX5_way 16 = .ok (.invokevirtual 46, 3) := by decide +kernel
theorem dX5_way_19 : decode cX5_way 19 = .ok (.istore_n 2, 1) := by decide +kernel
theorem dX5_way_20 : decode cX5_way 20 = .ok (.iload_n 1, 1) := by decide +kernel
theorem dX5_way_21 : decode cX5_way 21 = .ok (.ifCond .ne 25, 3) := by decide +kernel
theorem dX5_way_24 : decode cX5_way 24 = .ok (.iload_n 2, 1) := by decide +kernel
theorem dX5_way_25 : decode cX5_way 25 = .ok (.ifCond .ne 21, 3) := by decide +kernel
theorem dX5_way_28 : decode cX5_way 28 = .ok (.aload_n 0, 1) := by decide +kernel
theorem dX5_way_29 : decode cX5_way 29 = .ok (.getfield 18, 3) := by decide +kernel
theorem dX5_way_32 : decode cX5_way 32 = .ok (.ldc 207, 2) := by decide +kernel
theorem dX5_way_34 : decode cX5_way 34 = .ok (.invokevirtual 46, 3) := by decide +kernel
theorem dX5_way_37 : decode cX5_way 37 = .ok (.ifCond .ne 9, 3) := by decide +kernel
theorem dX5_way_40 : decode cX5_way 40 = .ok (.aload_n 0, 1) := by decide +kernel
theorem dX5_way_41 : decode cX5_way 41 = .ok (.iconst 1, 1) := by decide +kernel
theorem dX5_way_42 : decode cX5_way 42 = .ok (.invokevirtual 74, 3) := by decide +kernel
theorem dX5_way_45 : decode cX5_way 45 = .ok (.ireturn, 1) := by decide +kernel
theorem dX5_way_46 : decode cX5_way 46 = .ok (.aload_n 0, 1) := by decide +kernel
theorem dX5_way_47 : decode cX5_way 47 = .ok (.getfield 18, 3) := by decide +kernel
theorem dX5_way_50 : decode cX5_way 50 = .ok (.invokevirtual 84, 3) := by decide +kernel
theorem dX5_way_53 : decode cX5_way 53 = .ok (.aload_n 0, 1) := by decide +kernel
theorem dX5_way_54 : decode cX5_way 54 = .ok (.iconst 0, 1) := by decide +kernel
theorem dX5_way_55 : decode cX5_way 55 = .ok (.putfield 93, 3) := by decide +kernel
theorem dX5_way_58 : decode cX5_way 58 = .ok (.iload_n 1, 1) := by decide +kernel
theorem dX5_way_59 : decode cX5_way 59 = .ok (.ifCond .ne 24, 3) := by decide +kernel
theorem dX5_way_62 : decode cX5_way 62 = .ok (.aload_n 0, 1) := by decide +kernel
theorem dX5_way_63 : decode cX5_way 63 = .ok (.iconst 1, 1) := by decide +kernel
theorem dX5_way_64 : decode cX5_way 64 = .ok (.iload_n 2, 1) := by decide +kernel
theorem dX5_way_65 : decode cX5_way 65 = .ok (.ifCond .eq 7, 3) := by decide +kernel
theorem dX5_way_68 : decode cX5_way 68 = .ok (.iconst 5, 1) := by decide +kernel
theorem dX5_way_69 : decode cX5_way 69 = .ok (.goto 5, 3) := by decide +kernel
theorem dX5_way_72 : decode cX5_way 72 = .ok (.bipush 20, 2) := by decide +kernel
theorem dX5_way_74 : decode cX5_way 74 = .ok (.iconst 1, 1) := by decide +kernel
theorem dX5_way_75 : decode cX5_way 75 = .ok (.invokevirtual 99, 3) := by decide +kernel
theorem dX5_way_78 : decode cX5_way 78 = .ok (.ifCond .ne 5, 3) := by decide +kernel
theorem dX5_way_81 : decode cX5_way 81 = .ok (.iconst 0, 1) := by decide +kernel
theorem dX5_way_82 : decode cX5_way 82 = .ok (.ireturn, 1) := by decide +kernel
theorem dX5_way_83 : decode cX5_way 83 = .ok (.aload_n 0, 1) := by decide +kernel
theorem dX5_way_84 : decode cX5_way 84 = .ok (.getfield 22, 3) := by decide +kernel
theorem dX5_way_87 : decode cX5_way 87 = .ok (.getfield 168, 3) := by decide +kernel
theorem dX5_way_90 : decode cX5_way 90 = .ok (.bipush 7, 2) := by decide +kernel
theorem dX5_way_92 : decode cX5_way 92 = .ok (.imul, 1) := by decide +kernel
theorem dX5_way_93 : decode cX5_way 93 = .ok (.istore_n 3, 1) := by decide +kernel
theorem dX5_way_94 : decode cX5_way 94 = .ok (.aload_n 0, 1) := by decide +kernel
theorem dX5_way_95 : decode cX5_way 95 = .ok (.getfield 22, 3) := by decide +kernel
theorem dX5_way_98 : decode cX5_way 98 = .ok (.getfield 209, 3) := by decide +kernel
theorem dX5_way_101 : decode cX5_way 101 = .ok (.iload_n 3, 1) := by decide +kernel
theorem dX5_way_102 : decode cX5_way 102 = .ok (.iconst 5, 1) := by decide +kernel
theorem dX5_way_103 : decode cX5_way 103 = .ok (.iadd, 1) := by decide +kernel
theorem dX5_way_104 : decode cX5_way 104 = .ok (.iload_n 1, 1) := by decide +kernel
theorem dX5_way_105 : decode cX5_way 105 = .ok (.ifCond .eq 7, 3) := by decide +kernel
theorem dX5_way_108 : decode cX5_way 108 = .ok (.iconst 0, 1) := by decide +kernel
theorem dX5_way_109 : decode cX5_way 109 = .ok (.goto 12, 3) := by decide +kernel
theorem dX5_way_112 : decode cX5_way 112 = .ok (.iload_n 2, 1) := by decide +kernel
theorem dX5_way_113 : decode cX5_way 113 = .ok (.ifCond .eq 7, 3) := by decide +kernel
theorem dX5_way_116 : decode cX5_way 116 = .ok (.iconst 1, 1) := by decide +kernel
theorem dX5_way_117 : decode cX5_way 117 = .ok (.goto 4, 3) := by decide +kernel
theorem dX5_way_120 : decode cX5_way 120 = .ok (.iconst 2, 1) := by decide +kernel
theorem dX5_way_121 : decode cX5_way 121 = .ok (.invokestatic 151, 3) := by decide +kernel
theorem dX5_way_124 : decode cX5_way 124 = .ok (.aload_n 0, 1) := by decide +kernel
theorem dX5_way_125 : decode cX5_way 125 = .ok (.getfield 22, 3) := by decide +kernel
theorem dX5_way_128 : decode cX5_way 128 = .ok (.getfield 209, 3) := by decide +kernel
theorem dX5_way_131 : decode cX5_way 131 = .ok (.iload_n 3, 1) := by decide +kernel
theorem dX5_way_132 : decode cX5_way 132 = .ok (.bipush 6, 2) := by decide +kernel
theorem dX5_way_134 : decode cX5_way 134 = .ok (.iadd, 1) := by decide +kernel
theorem dX5_way_135 : decode cX5_way 135 = .ok (.aload_n 0, 1) := by decide +kernel
theorem dX5_way_136 : decode cX5_way 136 = .ok (.getfield 93, 3) := by decide +kernel
theorem dX5_way_139 : decode cX5_way 139 = .ok (.invokestatic 151, 3) := by decide +kernel
theorem dX5_way_142 : decode cX5_way 142 = .ok (.iconst 1, 1) := by decide +kernel
theorem dX5_way_143 : decode cX5_way 143 = .ok (.ireturn, 1) := by decide +kernel
def f_X5_way  (M : Mm) : Option (Int32 × Mm) :=
  bd (f_X8_isWord 16 M) fun v6_2 M6_1 => bd (f_X8_isWord 17 M6_1) fun v16_4 M16_3 => jn (fun (M5 : Mm) => bv (f_X8_advance  M5) fun M50_7 => jn (fun (M9 : Mm) => bg (M9 17 3) fun g11 => bg (M9 17 3) fun g12 => jn (fun (s13 : Int32) (M14 : Mm) => bv (f_X9_put (g12 + 6) (((M9 g11 14) * (nI 7)) + (nI 5)) s13 M14) fun M121_16 => bg (M121_16 17 3) fun g18 => bv (f_X9_put (g18 + 6) (((M9 g11 14) * (nI 7)) + (nI 6)) (M121_16 17 6) M121_16) fun M139_19 => some ((nI 1), M139_19)) fun j15 => if v6_2 = 0 then (if v16_4 = 0 then (j15 (nI 2) M9) else (j15 (nI 1) M9)) else (j15 (nI 0) M9)) fun j10 => if v6_2 = 0 then (jn (fun (s23 : Int32) (M24 : Mm) => bd (f_X5_whole (nI 1) s23 (nI 1) M24) fun v75_27 M75_26 => if v75_27 = 0 then (some ((nI 0), M75_26)) else (j10  M75_26)) fun j25 => if v16_4 = 0 then (j25 (nI 20) (mset M50_7 17 6 (nI 0))) else (j25 (nI 5) (mset M50_7 17 6 (nI 0)))) else (j10  (mset M50_7 17 6 (nI 0)))) fun j6 => if v6_2 = 0 then (if v16_4 = 0 then (bd (f_X8_isWord 18 M16_3) fun v34_32 M34_31 => if v34_32 = 0 then (bd (f_X5_fail (nI 1) M34_31) fun v42_34 M42_33 => gd (zo v42_34) <| some (v42_34, M42_33)) else (j6  M34_31)) else (j6  M16_3)) else (j6  M16_3)
set_option maxHeartbeats 4000000 in
set_option maxRecDepth 100000 in
theorem s_X5_way {l : Launch} {B : BT} (hA : bA B = false) {d : Nat} {r : Int32} {M' : Mm}  {M : Mm}  (h : f_X5_way  M = some (r, M')) : Con l B LY (d + 5) yX5_way cX5_way 4 (some .boolean) 0 0 [.ref 17] 97 M (PI r M') := by
  refine con_of (by decide) (Nat.le_of_ble_eq_true rfl) ?_
  show GG l B LY (d + 5) yX5_way cX5_way 4 (some .boolean) 0 0 (PI r M') 97 0 0 0 [(0, .ref 17)] [] M
  rw [f_X5_way] at h
  refine g_aload_n dX5_way_0 rfl 0 rfl ?_
  refine m_geta (k := 0) okX5 rfl rfl (by decide) w_229 rfl dX5_way_1 ?_
  refine g_ldcS (j := 16) rfl dX5_way_4 ?_
  obtain ⟨v6_2, M6_1, eM6_1, h⟩ := bd_e h
  refine m_callVi (As := [.ref (1000 + 16)]) (st := []) (s_X8_isWord (d := d + 0) hA (by decide) eM6_1) rfl okX8 ck_X8_isWord w_499 rfl (Nat.le_of_ble_eq_true rfl) dX5_way_6 ?_
  refine g_istore_n (lv' := [(1, .int v6_2), (0, .ref 17)]) dX5_way_9 rfl (by decide) rfl ?_
  refine g_aload_n dX5_way_10 rfl 1 rfl ?_
  refine m_geta (k := 0) okX5 rfl rfl (by decide) w_229 rfl dX5_way_11 ?_
  refine g_ldcS (j := 17) rfl dX5_way_14 ?_
  obtain ⟨v16_4, M16_3, eM16_3, h⟩ := bd_e h
  refine m_callVi (As := [.ref (1000 + 17)]) (st := []) (s_X8_isWord (d := d + 0) hA (by decide) eM16_3) rfl okX8 ck_X8_isWord w_499 rfl (Nat.le_of_ble_eq_true rfl) dX5_way_16 ?_
  refine g_istore_n (lv' := [(2, .int v16_4), (1, .int v6_2), (0, .ref 17)]) dX5_way_19 rfl (by decide) rfl ?_
  refine g_iload_n dX5_way_20 rfl 1 rfl ?_
  obtain ⟨j6, ej6, h⟩ := jn_e h
  have hj6 : ∀ (M5 : Mm), j6 M5 = some (r, M') → GG l B LY (d + 5) yX5_way cX5_way 4 (some .boolean) 0 0 (PI r M') 97 0 0 46 [(0, .ref 17), (1, .int v6_2), (2, .int v16_4)] [] M5 := by
    intro M5 h
    rw [ej6] at h
    refine g_aload_n dX5_way_46 rfl 0 rfl ?_
    refine m_geta (k := 0) okX5 rfl rfl (by decide) w_229 rfl dX5_way_47 ?_
    obtain ⟨M50_7, eM50_7, h⟩ := bv_e h
    refine m_callVv (As := []) (st := []) (s_X8_advance (d := d + 3) hA  eM50_7) rfl okX8 ck_X8_advance w_559 rfl (Nat.le_of_ble_eq_true rfl) dX5_way_50 ?_
    refine g_aload_n dX5_way_53 rfl 0 rfl ?_
    refine g_iconst (v := (nI 0)) dX5_way_54 (by decide) ?_
    refine m_puti (k := 6) okX5 rfl rfl (by decide) w_237 rfl rfl rfl dX5_way_55 ?_
    refine g_iload_n dX5_way_58 rfl 1 rfl ?_
    obtain ⟨j10, ej10, h⟩ := jn_e h
    have hj10 : ∀ (M9 : Mm), j10 M9 = some (r, M') → GG l B LY (d + 5) yX5_way cX5_way 4 (some .boolean) 0 0 (PI r M') 97 0 0 83 [(0, .ref 17), (1, .int v6_2), (2, .int v16_4)] [] M9 := by
      intro M9 h
      rw [ej10] at h
      refine g_aload_n dX5_way_83 rfl 0 rfl ?_
      obtain ⟨g11, eg11, hg11, h⟩ := bg_e h
      refine m_getm (k := 3) okX5 rfl rfl (by decide) w_232 rfl dX5_way_84 eg11 hg11 ?_
      refine m_geti (k := 14) okX0 hg11 rfl (by decide) w_155 rfl dX5_way_87 ?_
      refine g_bipush (v := (nI 7)) dX5_way_90 (by decide) ?_
      refine g_imul dX5_way_92 ?_
      refine g_istore_n (lv' := [(3, .int ((M9 g11 14) * (nI 7))), (0, .ref 17), (1, .int v6_2), (2, .int v16_4)]) dX5_way_93 rfl (by decide) rfl ?_
      refine g_aload_n dX5_way_94 rfl 1 rfl ?_
      obtain ⟨g12, eg12, hg12, h⟩ := bg_e h
      refine m_getm (k := 3) okX5 rfl rfl (by decide) w_232 rfl dX5_way_95 eg12 hg12 ?_
      refine m_getr (k := 5) okX0 hg12 rfl (by decide) w_119 rfl dX5_way_98 ?_
      refine g_iload_n dX5_way_101 rfl 0 rfl ?_
      refine g_iconst (v := (nI 5)) dX5_way_102 (by decide) ?_
      refine g_iadd dX5_way_103 ?_
      refine g_iload_n dX5_way_104 rfl 2 rfl ?_
      obtain ⟨j15, ej15, h⟩ := jn_e h
      have hj15 : ∀ (s13 : Int32) (M14 : Mm), j15 s13 M14 = some (r, M') → GG l B LY (d + 5) yX5_way cX5_way 4 (some .boolean) 0 0 (PI r M') 97 0 0 121 [(0, .ref 17), (3, .int ((M9 g11 14) * (nI 7)))] [.int s13, .int (((M9 g11 14) * (nI 7)) + (nI 5)), .ref (g12 + 6)] M14 := by
        intro s13 M14 h
        rw [ej15] at h
        obtain ⟨M121_16, eM121_16, h⟩ := bv_e h
        refine m_callNv (As := [.ref (g12 + 6), .int (((M9 g11 14) * (nI 7)) + (nI 5)), .int s13]) (st := []) (s_X9_put (d := d + 4) hA (al_of (aX0_6 hg12)) eM121_16) ck_X9_put (host := "StillYard") (List.mem_of_getElem? (i := 12) rfl) rfl (Nat.le_of_ble_eq_true rfl) dX5_way_121 ?_
        refine g_aload_n dX5_way_124 rfl 0 rfl ?_
        obtain ⟨g18, eg18, hg18, h⟩ := bg_e h
        refine m_getm (k := 3) okX5 rfl rfl (by decide) w_232 rfl dX5_way_125 eg18 hg18 ?_
        refine m_getr (k := 5) okX0 hg18 rfl (by decide) w_119 rfl dX5_way_128 ?_
        refine g_iload_n dX5_way_131 rfl 1 rfl ?_
        refine g_bipush (v := (nI 6)) dX5_way_132 (by decide) ?_
        refine g_iadd dX5_way_134 ?_
        refine g_aload_n dX5_way_135 rfl 0 rfl ?_
        refine m_geti (k := 6) okX5 rfl rfl (by decide) w_237 rfl dX5_way_136 ?_
        obtain ⟨M139_19, eM139_19, h⟩ := bv_e h
        refine m_callNv (As := [.ref (g18 + 6), .int (((M9 g11 14) * (nI 7)) + (nI 6)), .int (M121_16 17 6)]) (st := []) (s_X9_put (d := d + 4) hA (al_of (aX0_6 hg18)) eM139_19) ck_X9_put (host := "StillYard") (List.mem_of_getElem? (i := 12) rfl) rfl (Nat.le_of_ble_eq_true rfl) dX5_way_139 ?_
        refine g_iconst (v := (nI 1)) dX5_way_142 (by decide) ?_
        exact g_zret rfl rfl (pi_of h) dX5_way_143
      refine g_if_eq (tgt := 112) dX5_way_105 (by decide) (fun c22 => ?_) (fun c22 => ?_)
      · replace h := ite_p c22 h
        refine g_iload_n dX5_way_112 rfl 3 rfl ?_
        refine g_if_eq (tgt := 120) dX5_way_113 (by decide) (fun c21 => ?_) (fun c21 => ?_)
        · replace h := ite_p c21 h
          refine g_iconst (v := (nI 2)) dX5_way_120 (by decide) ?_
          refine g_sub [1, 0] (lv' := [(0, .ref 17), (3, .int ((M9 g11 14) * (nI 7)))]) rfl ?_
          exact hj15 _ _ h
        · replace h := ite_n c21 h
          refine g_iconst (v := (nI 1)) dX5_way_116 (by decide) ?_
          refine g_goto (tgt := 121) dX5_way_117 (by decide) ?_
          refine g_sub [1, 0] (lv' := [(0, .ref 17), (3, .int ((M9 g11 14) * (nI 7)))]) rfl ?_
          exact hj15 _ _ h
      · replace h := ite_n c22 h
        refine g_iconst (v := (nI 0)) dX5_way_108 (by decide) ?_
        refine g_goto (tgt := 121) dX5_way_109 (by decide) ?_
        refine g_sub [1, 0] (lv' := [(0, .ref 17), (3, .int ((M9 g11 14) * (nI 7)))]) rfl ?_
        exact hj15 _ _ h
    refine g_if_ne (tgt := 83) dX5_way_59 (by decide) (fun c30 => ?_) (fun c30 => ?_)
    · replace h := ite_n c30 h
      refine g_sub [0, 1, 2] (lv' := [(0, .ref 17), (1, .int v6_2), (2, .int v16_4)]) rfl ?_
      exact hj10  _ h
    · replace h := ite_p c30 h
      refine g_aload_n dX5_way_62 rfl 0 rfl ?_
      refine g_iconst (v := (nI 1)) dX5_way_63 (by decide) ?_
      refine g_iload_n dX5_way_64 rfl 2 rfl ?_
      obtain ⟨j25, ej25, h⟩ := jn_e h
      have hj25 : ∀ (s23 : Int32) (M24 : Mm), j25 s23 M24 = some (r, M') → GG l B LY (d + 5) yX5_way cX5_way 4 (some .boolean) 0 0 (PI r M') 97 0 0 74 [(0, .ref 17), (1, .int v6_2), (2, .int v16_4)] [.int s23, .int (nI 1), .ref 17] M24 := by
        intro s23 M24 h
        rw [ej25] at h
        refine g_iconst (v := (nI 1)) dX5_way_74 (by decide) ?_
        obtain ⟨v75_27, M75_26, eM75_26, h⟩ := bd_e h
        refine m_callVi (As := [.int (nI 1), .int s23, .int (nI 1)]) (st := []) (s_X5_whole (d := d + 2) hA  eM75_26) rfl okX5 ck_X5_whole w_569 rfl (Nat.le_of_ble_eq_true rfl) dX5_way_75 ?_
        refine g_if_ne (tgt := 83) dX5_way_78 (by decide) (fun c28 => ?_) (fun c28 => ?_)
        · replace h := ite_n c28 h
          refine g_sub [0, 1, 2] (lv' := [(0, .ref 17), (1, .int v6_2), (2, .int v16_4)]) rfl ?_
          exact hj10  _ h
        · replace h := ite_p c28 h
          refine g_iconst (v := (nI 0)) dX5_way_81 (by decide) ?_
          exact g_zret rfl rfl (pi_of h) dX5_way_82
      refine g_if_eq (tgt := 72) dX5_way_65 (by decide) (fun c29 => ?_) (fun c29 => ?_)
      · replace h := ite_p c29 h
        refine g_bipush (v := (nI 20)) dX5_way_72 (by decide) ?_
        refine g_sub [0, 1, 2] (lv' := [(0, .ref 17), (1, .int v6_2), (2, .int v16_4)]) rfl ?_
        exact hj25 _ _ h
      · replace h := ite_n c29 h
        refine g_iconst (v := (nI 5)) dX5_way_68 (by decide) ?_
        refine g_goto (tgt := 74) dX5_way_69 (by decide) ?_
        refine g_sub [0, 1, 2] (lv' := [(0, .ref 17), (1, .int v6_2), (2, .int v16_4)]) rfl ?_
        exact hj25 _ _ h
  refine g_if_ne (tgt := 46) dX5_way_21 (by decide) (fun c37 => ?_) (fun c37 => ?_)
  · replace h := ite_n c37 h
    refine g_sub [2, 1, 0] (lv' := [(0, .ref 17), (1, .int v6_2), (2, .int v16_4)]) rfl ?_
    exact hj6  _ h
  · replace h := ite_p c37 h
    refine g_iload_n dX5_way_24 rfl 0 rfl ?_
    refine g_if_ne (tgt := 46) dX5_way_25 (by decide) (fun c36 => ?_) (fun c36 => ?_)
    · replace h := ite_n c36 h
      refine g_sub [2, 1, 0] (lv' := [(0, .ref 17), (1, .int v6_2), (2, .int v16_4)]) rfl ?_
      exact hj6  _ h
    · replace h := ite_p c36 h
      refine g_aload_n dX5_way_28 rfl 2 rfl ?_
      refine m_geta (k := 0) okX5 rfl rfl (by decide) w_229 rfl dX5_way_29 ?_
      refine g_ldcS (j := 18) rfl dX5_way_32 ?_
      obtain ⟨v34_32, M34_31, eM34_31, h⟩ := bd_e h
      refine m_callVi (As := [.ref (1000 + 18)]) (st := []) (s_X8_isWord (d := d + 0) hA (by decide) eM34_31) rfl okX8 ck_X8_isWord w_499 rfl (Nat.le_of_ble_eq_true rfl) dX5_way_34 ?_
      refine g_if_ne (tgt := 46) dX5_way_37 (by decide) (fun c35 => ?_) (fun c35 => ?_)
      · replace h := ite_n c35 h
        refine g_sub [2, 1, 0] (lv' := [(0, .ref 17), (1, .int v6_2), (2, .int v16_4)]) rfl ?_
        exact hj6  _ h
      · replace h := ite_p c35 h
        refine g_aload_n dX5_way_40 rfl 2 rfl ?_
        refine g_iconst (v := (nI 1)) dX5_way_41 (by decide) ?_
        obtain ⟨v42_34, M42_33, eM42_33, h⟩ := bd_e h
        refine m_callVi (As := [.int (nI 1)]) (st := []) (s_X5_fail (d := d + 4) hA  eM42_33) rfl okX5 ck_X5_fail w_555 rfl (Nat.le_of_ble_eq_true rfl) dX5_way_42 ?_
        obtain ⟨hz, h⟩ := gd_s h
        exact g_zret rfl (nar_zo hz) (pi_of h) dX5_way_45
theorem ck_X5_way : CKV yX5_way cX5_way 4 (some .boolean) 0 := ⟨⟨by decide, by decide, by decide +kernel⟩, w_662, w_75, ⟨w_660, w_661⟩, by decide⟩
