/-! walks: X5_creeperLine X5_read X6_unfold X6_consider X6_find X7_creepersBefore X7_stepsOnto X7_find X8_append X9_feed X9_refused X9_well X9_game X9_fault X9_where X9_hasGame X9_denied. Written by wip/programs/parts.py. -/
theorem dX5_creeperLine_0 : decode cX5_creeperLine 0 = .ok (.aload_n 0, 1) := by decide +kernel
theorem dX5_creeperLine_1 : decode cX5_creeperLine 1 = .ok (.getfield 22, 3) := by decide +kernel
theorem dX5_creeperLine_4 : decode cX5_creeperLine 4 = .ok (.getfield 103, 3) := by decide +kernel
theorem dX5_creeperLine_7 : decode cX5_creeperLine 7 = .ok (.ifCond .ne 10, 3) := by decide +kernel
theorem dX5_creeperLine_10 : decode cX5_creeperLine 10 = .ok (.aload_n 0, 1) := by decide +kernel
theorem dX5_creeperLine_11 : decode cX5_creeperLine 11 = .ok (.bipush 6, 2) := by decide +kernel
theorem dX5_creeperLine_13 : decode cX5_creeperLine 13 = .ok (.invokevirtual 74, 3) := by decide +kernel
theorem dX5_creeperLine_16 : decode cX5_creeperLine 16 = .ok (.ireturn, 1) := by decide +kernel
theorem dX5_creeperLine_17 : decode cX5_creeperLine 17 = .ok (.aload_n 0, 1) := by decide +kernel
theorem dX5_creeperLine_18 : decode cX5_creeperLine 18 = .ok (.getfield 22, 3) := by decide +kernel
theorem dX5_creeperLine_21 : decode cX5_creeperLine 21 = .ok (.getfield 168, 3) := by decide +kernel
theorem dX5_creeperLine_24 : decode cX5_creeperLine 24 = .ok (.iconst 5, 1) := by decide +kernel
theorem dX5_creeperLine_25 : decode cX5_creeperLine 25 = .ok (.if_icmp .lt 9, 3) := by decide +kernel
theorem dX5_creeperLine_28 : decode cX5_creeperLine 28 = .ok (.aload_n 0, 1) := by decide +kernel
theorem dX5_creeperLine_29 : decode cX5_creeperLine 29 = .ok (.iconst 5, 1) := by decide +kernel
theorem dX5_creeperLine_30 : decode cX5_creeperLine 30 = .ok (.invokevirtual 74, 3) := by decide +kernel
theorem dX5_creeperLine_33 : decode cX5_creeperLine 33 = .ok (.ireturn, 1) := by decide +kernel
theorem dX5_creeperLine_34 : decode cX5_creeperLine 34 = .ok (.aload_n 0, 1) := by decide +kernel
theorem dX5_creeperLine_35 : decode cX5_creeperLine 35 = .ok (.getfield 18, 3) := by decide +kernel
theorem dX5_creeperLine_38 : decode cX5_creeperLine 38 = .ok (.invokevirtual 84, 3) := by decide +kernel
theorem dX5_creeperLine_41 : decode cX5_creeperLine 41 = .ok (.aload_n 0, 1) := by decide +kernel
theorem dX5_creeperLine_42 : decode cX5_creeperLine 42 = .ok (.invokevirtual 171, 3) := by decide +kernel
theorem dX5_creeperLine_45 : decode cX5_creeperLine 45 = .ok (.ifCond .eq 88, 3) := by decide +kernel
theorem dX5_creeperLine_48 : decode cX5_creeperLine 48 = .ok (.aload_n 0, 1) := by decide +kernel
theorem dX5_creeperLine_49 : decode cX5_creeperLine 49 = .ok (.ldc 158, 2) := by decide +kernel
theorem dX5_creeperLine_51 : decode cX5_creeperLine 51 = .ok (.iconst 0, 1) := by decide +kernel
theorem dX5_creeperLine_52 : decode cX5_creeperLine 52 = .ok (.iconst 0, 1) := by decide +kernel
theorem dX5_creeperLine_53 : decode cX5_creeperLine 53 = .ok (.aload_n 0, 1) := by decide +kernel
theorem dX5_creeperLine_54 : decode cX5_creeperLine 54 = .ok (.getfield 22, 3) := by decide +kernel
theorem dX5_creeperLine_57 : decode cX5_creeperLine 57 = .ok (.getfield 114, 3) := by decide +kernel
theorem dX5_creeperLine_60 : decode cX5_creeperLine 60 = .ok (.iconst 1, 1) := by decide +kernel
theorem dX5_creeperLine_61 : decode cX5_creeperLine 61 = .ok (.isub, 1) := by decide +kernel
theorem dX5_creeperLine_62 : decode cX5_creeperLine 62 = .ok (.invokevirtual 174, 3) := by decide +kernel
theorem dX5_creeperLine_65 : decode cX5_creeperLine 65 = .ok (.ifCond .eq 68, 3) := by decide +kernel
theorem dX5_creeperLine_68 : decode cX5_creeperLine 68 = .ok (.aload_n 0, 1) := by decide +kernel
theorem dX5_creeperLine_69 : decode cX5_creeperLine 69 = .ok (.ldc 178, 2) := by decide +kernel
theorem dX5_creeperLine_71 : decode cX5_creeperLine 71 = .ok (.iconst 1, 1) := by decide +kernel
theorem dX5_creeperLine_72 : decode cX5_creeperLine 72 = .ok (.iconst 1, 1) := by decide +kernel
theorem dX5_creeperLine_73 : decode cX5_creeperLine 73 = .ok (.bipush 20, 2) := by decide +kernel
theorem dX5_creeperLine_75 : decode cX5_creeperLine 75 = .ok (.invokevirtual 174, 3) := by decide +kernel
theorem dX5_creeperLine_78 : decode cX5_creeperLine 78 = .ok (.ifCond .eq 55, 3) := by decide +kernel
theorem dX5_creeperLine_81 : decode cX5_creeperLine 81 = .ok (.aload_n 0, 1) := by decide +kernel
theorem dX5_creeperLine_82 : decode cX5_creeperLine 82 = .ok (.ldc 180, 2) := by decide +kernel
theorem dX5_creeperLine_84 : decode cX5_creeperLine 84 = .ok (.iconst 2, 1) := by decide +kernel
theorem dX5_creeperLine_85 : decode cX5_creeperLine 85 = .ok (.iconst 0, 1) := by decide +kernel
theorem dX5_creeperLine_86 : decode cX5_creeperLine 86 = .ok (.bipush 100, 2) := by decide +kernel
theorem dX5_creeperLine_88 : decode cX5_creeperLine 88 = .ok (.invokevirtual 174, 3) := by decide +kernel
theorem dX5_creeperLine_91 : decode cX5_creeperLine 91 = .ok (.ifCond .eq 42, 3) := by decide +kernel
theorem dX5_creeperLine_94 : decode cX5_creeperLine 94 = .ok (.aload_n 0, 1) := by decide +kernel
theorem dX5_creeperLine_95 : decode cX5_creeperLine 95 = .ok (.ldc 182, 2) := by decide +kernel
theorem dX5_creeperLine_97 : decode cX5_creeperLine 97 = .ok (.iconst 3, 1) := by decide +kernel
theorem dX5_creeperLine_98 : decode cX5_creeperLine 98 = .ok (.bipush 60, 2) := by decide +kernel
theorem dX5_creeperLine_100 : decode cX5_creeperLine 100 = .ok (.sipush 199, 3) := by decide +kernel
theorem dX5_creeperLine_103 : decode cX5_creeperLine 103 = .ok (.invokevirtual 174, 3) := by decide +kernel
theorem dX5_creeperLine_106 : decode cX5_creeperLine 106 = .ok (.ifCond .eq 27, 3) := by decide +kernel
theorem dX5_creeperLine_109 : decode cX5_creeperLine 109 = .ok (.aload_n 0, 1) := by decide +kernel
theorem dX5_creeperLine_110 : decode cX5_creeperLine 110 = .ok (.ldc 184, 2) := by decide +kernel
theorem dX5_creeperLine_112 : decode cX5_creeperLine 112 = .ok (.iconst 4, 1) := by decide +kernel
theorem dX5_creeperLine_113 : decode cX5_creeperLine 113 = .ok (.iconst 0, 1) := by decide +kernel
theorem dX5_creeperLine_114 : decode cX5_creeperLine 114 = .ok (.bipush 100, 2) := by decide +kernel
theorem dX5_creeperLine_116 : decode cX5_creeperLine 116 = .ok (.invokevirtual 174, 3) := by decide +kernel
theorem dX5_creeperLine_119 : decode cX5_creeperLine 119 = .ok (.ifCond .eq 14, 3) := by decide +kernel
theorem dX5_creeperLine_122 : decode cX5_creeperLine 122 = .ok (.aload_n 0, 1) := by decide +kernel
theorem dX5_creeperLine_123 : decode cX5_creeperLine 123 = .ok (.invokevirtual 186, 3) := by decide +kernel
theorem dX5_creeperLine_126 : decode cX5_creeperLine 126 = .ok (.ifCond .eq 7, 3) := by decide +kernel
theorem dX5_creeperLine_129 : decode cX5_creeperLine 129 = .ok (.iconst 1, 1) := by decide +kernel
theorem dX5_creeperLine_130 : decode cX5_creeperLine 130 = .ok (.goto 4, 3) := by decide +kernel
theorem dX5_creeperLine_133 : decode cX5_creeperLine 133 = .ok (.iconst 0, 1) := by decide +kernel
theorem dX5_creeperLine_134 : decode cX5_creeperLine 134 = .ok (.istore_n 1, 1) := by decide +kernel
theorem dX5_creeperLine_135 : decode cX5_creeperLine 135 = .ok (.iload_n 1, 1) := by decide +kernel
theorem dX5_creeperLine_136 : decode cX5_creeperLine 136 = .ok (.ifCond .eq 16, 3) := by decide +kernel
theorem dX5_creeperLine_139 : decode cX5_creeperLine 139 = .ok (.aload_n 0, 1) := by decide +kernel
theorem dX5_creeperLine_140 : decode cX5_creeperLine 140 = .ok (.getfield 22, 3) := by decide +kernel
theorem dX5_creeperLine_143 : decode cX5_creeperLine 143 = .ok (.dup, 1) := by decide +kernel
theorem dX5_creeperLine_144 : decode cX5_creeperLine 144 = .ok (.getfield 168, 3) := by decide +kernel
theorem dX5_creeperLine_147 : decode cX5_creeperLine 147 = .ok (.iconst 1, 1) := by decide +kernel
theorem dX5_creeperLine_148 : decode cX5_creeperLine 148 = .ok (.iadd, 1) := by decide +kernel
theorem dX5_creeperLine_149 : decode cX5_creeperLine 149 = .ok (.putfield 168, 3) := by decide +kernel
theorem dX5_creeperLine_152 : decode cX5_creeperLine 152 = .ok (.iload_n 1, 1) := by decide +kernel
theorem dX5_creeperLine_153 : decode cX5_creeperLine 153 = .ok (.ireturn, 1) := by decide +kernel
def f_X5_creeperLine  (M : Mm) : Option (Int32 × Mm) :=
  bg (M 17 3) fun g1 => if (M g1 6) = 0 then (bd (f_X5_fail (nI 6) M) fun v13_38 M13_37 => gd (zo v13_38) <| some (v13_38, M13_37)) else (bg (M 17 3) fun g2 => if (M g2 14) < (nI 5) then (bv (f_X8_advance  M) fun M38_3 => bd (f_X5_name  M38_3) fun v42_6 M42_5 => jn (fun (s7 : Int32) (M8 : Mm) => if s7 = 0 then (gd (zo s7) <| some (s7, M8)) else (bg (M8 17 3) fun g10 => gd (zo s7) <| some (s7, (mset M8 g10 14 ((M8 g10 14) + (nI 1)))))) fun j9 => jn (fun (M12 : Mm) => j9 (nI 0) M12) fun j13 => if v42_6 = 0 then (j13  M42_5) else (bg (M42_5 17 3) fun g14 => bd (f_X5_trait 11 (nI 0) (nI 0) ((M42_5 g14 7) - (nI 1)) M42_5) fun v62_16 M62_15 => if v62_16 = 0 then (j13  M62_15) else (bd (f_X5_trait 19 (nI 1) (nI 1) (nI 20) M62_15) fun v75_18 M75_17 => if v75_18 = 0 then (j13  M75_17) else (bd (f_X5_trait 20 (nI 2) (nI 0) (nI 100) M75_17) fun v88_20 M88_19 => if v88_20 = 0 then (j13  M88_19) else (bd (f_X5_trait 21 (nI 3) (nI 60) (nI 199) M88_19) fun v103_22 M103_21 => if v103_22 = 0 then (j13  M103_21) else (bd (f_X5_trait 22 (nI 4) (nI 0) (nI 100) M103_21) fun v116_24 M116_23 => if v116_24 = 0 then (j13  M116_23) else (bd (f_X5_way  M116_23) fun v123_26 M123_25 => if v123_26 = 0 then (j13  M123_25) else (j9 (nI 1) M123_25)))))))) else (bd (f_X5_fail (nI 5) M) fun v30_35 M30_34 => gd (zo v30_35) <| some (v30_35, M30_34)))
set_option maxHeartbeats 4000000 in
set_option maxRecDepth 100000 in
theorem s_X5_creeperLine {l : Launch} {B : BT} (hA : bA B = false) {d : Nat} {r : Int32} {M' : Mm}  {M : Mm}  (h : f_X5_creeperLine  M = some (r, M')) : Con l B LY (d + 7) yX5_creeperLine cX5_creeperLine 2 (some .boolean) 0 0 [.ref 17] 97 M (PI r M') := by
  refine con_of (by decide) (Nat.le_of_ble_eq_true rfl) ?_
  show GG l B LY (d + 7) yX5_creeperLine cX5_creeperLine 2 (some .boolean) 0 0 (PI r M') 97 0 0 0 [(0, .ref 17)] [] M
  rw [f_X5_creeperLine] at h
  refine g_aload_n dX5_creeperLine_0 rfl 0 rfl ?_
  obtain ⟨g1, eg1, hg1, h⟩ := bg_e h
  refine m_getm (k := 3) okX5 rfl rfl (by decide) w_232 rfl dX5_creeperLine_1 eg1 hg1 ?_
  refine m_geti (k := 6) okX0 hg1 rfl (by decide) w_124 rfl dX5_creeperLine_4 ?_
  refine g_if_ne (tgt := 17) dX5_creeperLine_7 (by decide) (fun c39 => ?_) (fun c39 => ?_)
  · replace h := ite_n c39 h
    refine g_aload_n dX5_creeperLine_17 rfl 0 rfl ?_
    obtain ⟨g2, eg2, hg2, h⟩ := bg_e h
    refine m_getm (k := 3) okX5 rfl rfl (by decide) w_232 rfl dX5_creeperLine_18 eg2 hg2 ?_
    refine m_geti (k := 14) okX0 hg2 rfl (by decide) w_155 rfl dX5_creeperLine_21 ?_
    refine g_iconst (v := (nI 5)) dX5_creeperLine_24 (by decide) ?_
    refine g_icmp_lt (tgt := 34) dX5_creeperLine_25 (by decide) (fun c36 => ?_) (fun c36 => ?_)
    · replace h := ite_p c36 h
      refine g_aload_n dX5_creeperLine_34 rfl 0 rfl ?_
      refine m_geta (k := 0) okX5 rfl rfl (by decide) w_229 rfl dX5_creeperLine_35 ?_
      obtain ⟨M38_3, eM38_3, h⟩ := bv_e h
      refine m_callVv (As := []) (st := []) (s_X8_advance (d := d + 5) hA  eM38_3) rfl okX8 ck_X8_advance w_559 rfl (Nat.le_of_ble_eq_true rfl) dX5_creeperLine_38 ?_
      refine g_aload_n dX5_creeperLine_41 rfl 0 rfl ?_
      obtain ⟨v42_6, M42_5, eM42_5, h⟩ := bd_e h
      refine m_callVi (As := []) (st := []) (s_X5_name (d := d + 0) hA  eM42_5) rfl okX5 ck_X5_name w_635 rfl (Nat.le_of_ble_eq_true rfl) dX5_creeperLine_42 ?_
      obtain ⟨j9, ej9, h⟩ := jn_e h
      have hj9 : ∀ (s7 : Int32) (M8 : Mm), j9 s7 M8 = some (r, M') → GG l B LY (d + 7) yX5_creeperLine cX5_creeperLine 2 (some .boolean) 0 0 (PI r M') 97 0 0 134 [(0, .ref 17)] [.int s7] M8 := by
        intro s7 M8 h
        rw [ej9] at h
        refine g_istore_n (lv' := [(1, .int s7), (0, .ref 17)]) dX5_creeperLine_134 rfl (by decide) rfl ?_
        refine g_iload_n dX5_creeperLine_135 rfl 0 rfl ?_
        refine g_if_eq (tgt := 152) dX5_creeperLine_136 (by decide) (fun c11 => ?_) (fun c11 => ?_)
        · replace h := ite_p c11 h
          refine g_iload_n dX5_creeperLine_152 rfl 0 rfl ?_
          obtain ⟨hz, h⟩ := gd_s h
          exact g_zret rfl (nar_zo hz) (pi_of h) dX5_creeperLine_153
        · replace h := ite_n c11 h
          refine g_aload_n dX5_creeperLine_139 rfl 1 rfl ?_
          obtain ⟨g10, eg10, hg10, h⟩ := bg_e h
          refine m_getm (k := 3) okX5 rfl rfl (by decide) w_232 rfl dX5_creeperLine_140 eg10 hg10 ?_
          refine g_dup dX5_creeperLine_143 rfl ?_
          refine m_geti (k := 14) okX0 hg10 rfl (by decide) w_155 rfl dX5_creeperLine_144 ?_
          refine g_iconst (v := (nI 1)) dX5_creeperLine_147 (by decide) ?_
          refine g_iadd dX5_creeperLine_148 ?_
          refine m_puti (k := 14) okX0 hg10 rfl (by decide) w_155 rfl rfl rfl dX5_creeperLine_149 ?_
          refine g_iload_n dX5_creeperLine_152 rfl 0 rfl ?_
          obtain ⟨hz, h⟩ := gd_s h
          exact g_zret rfl (nar_zo hz) (pi_of h) dX5_creeperLine_153
      obtain ⟨j13, ej13, h⟩ := jn_e h
      have hj13 : ∀ (M12 : Mm), j13 M12 = some (r, M') → GG l B LY (d + 7) yX5_creeperLine cX5_creeperLine 2 (some .boolean) 0 0 (PI r M') 97 0 0 133 [(0, .ref 17)] [] M12 := by
        intro M12 h
        rw [ej13] at h
        refine g_iconst (v := (nI 0)) dX5_creeperLine_133 (by decide) ?_
        refine g_sub [0] (lv' := [(0, .ref 17)]) rfl ?_
        exact hj9 _ _ h
      refine g_if_eq (tgt := 133) dX5_creeperLine_45 (by decide) (fun c33 => ?_) (fun c33 => ?_)
      · replace h := ite_p c33 h
        refine g_sub [0] (lv' := [(0, .ref 17)]) rfl ?_
        exact hj13  _ h
      · replace h := ite_n c33 h
        refine g_aload_n dX5_creeperLine_48 rfl 0 rfl ?_
        refine g_ldcS (j := 11) rfl dX5_creeperLine_49 ?_
        refine g_iconst (v := (nI 0)) dX5_creeperLine_51 (by decide) ?_
        refine g_iconst (v := (nI 0)) dX5_creeperLine_52 (by decide) ?_
        refine g_aload_n dX5_creeperLine_53 rfl 0 rfl ?_
        obtain ⟨g14, eg14, hg14, h⟩ := bg_e h
        refine m_getm (k := 3) okX5 rfl rfl (by decide) w_232 rfl dX5_creeperLine_54 eg14 hg14 ?_
        refine m_geti (k := 7) okX0 hg14 rfl (by decide) w_129 rfl dX5_creeperLine_57 ?_
        refine g_iconst (v := (nI 1)) dX5_creeperLine_60 (by decide) ?_
        refine g_isub dX5_creeperLine_61 ?_
        obtain ⟨v62_16, M62_15, eM62_15, h⟩ := bd_e h
        refine m_callVi (As := [.ref (1000 + 11), .int (nI 0), .int (nI 0), .int ((M42_5 g14 7) - (nI 1))]) (st := []) (s_X5_trait (d := d + 0) hA (by decide) eM62_15) rfl okX5 ck_X5_trait w_651 rfl (Nat.le_of_ble_eq_true rfl) dX5_creeperLine_62 ?_
        refine g_if_eq (tgt := 133) dX5_creeperLine_65 (by decide) (fun c32 => ?_) (fun c32 => ?_)
        · replace h := ite_p c32 h
          refine g_sub [0] (lv' := [(0, .ref 17)]) rfl ?_
          exact hj13  _ h
        · replace h := ite_n c32 h
          refine g_aload_n dX5_creeperLine_68 rfl 0 rfl ?_
          refine g_ldcS (j := 19) rfl dX5_creeperLine_69 ?_
          refine g_iconst (v := (nI 1)) dX5_creeperLine_71 (by decide) ?_
          refine g_iconst (v := (nI 1)) dX5_creeperLine_72 (by decide) ?_
          refine g_bipush (v := (nI 20)) dX5_creeperLine_73 (by decide) ?_
          obtain ⟨v75_18, M75_17, eM75_17, h⟩ := bd_e h
          refine m_callVi (As := [.ref (1000 + 19), .int (nI 1), .int (nI 1), .int (nI 20)]) (st := []) (s_X5_trait (d := d + 0) hA (by decide) eM75_17) rfl okX5 ck_X5_trait w_651 rfl (Nat.le_of_ble_eq_true rfl) dX5_creeperLine_75 ?_
          refine g_if_eq (tgt := 133) dX5_creeperLine_78 (by decide) (fun c31 => ?_) (fun c31 => ?_)
          · replace h := ite_p c31 h
            refine g_sub [0] (lv' := [(0, .ref 17)]) rfl ?_
            exact hj13  _ h
          · replace h := ite_n c31 h
            refine g_aload_n dX5_creeperLine_81 rfl 0 rfl ?_
            refine g_ldcS (j := 20) rfl dX5_creeperLine_82 ?_
            refine g_iconst (v := (nI 2)) dX5_creeperLine_84 (by decide) ?_
            refine g_iconst (v := (nI 0)) dX5_creeperLine_85 (by decide) ?_
            refine g_bipush (v := (nI 100)) dX5_creeperLine_86 (by decide) ?_
            obtain ⟨v88_20, M88_19, eM88_19, h⟩ := bd_e h
            refine m_callVi (As := [.ref (1000 + 20), .int (nI 2), .int (nI 0), .int (nI 100)]) (st := []) (s_X5_trait (d := d + 0) hA (by decide) eM88_19) rfl okX5 ck_X5_trait w_651 rfl (Nat.le_of_ble_eq_true rfl) dX5_creeperLine_88 ?_
            refine g_if_eq (tgt := 133) dX5_creeperLine_91 (by decide) (fun c30 => ?_) (fun c30 => ?_)
            · replace h := ite_p c30 h
              refine g_sub [0] (lv' := [(0, .ref 17)]) rfl ?_
              exact hj13  _ h
            · replace h := ite_n c30 h
              refine g_aload_n dX5_creeperLine_94 rfl 0 rfl ?_
              refine g_ldcS (j := 21) rfl dX5_creeperLine_95 ?_
              refine g_iconst (v := (nI 3)) dX5_creeperLine_97 (by decide) ?_
              refine g_bipush (v := (nI 60)) dX5_creeperLine_98 (by decide) ?_
              refine g_sipush (v := (nI 199)) dX5_creeperLine_100 (by decide) ?_
              obtain ⟨v103_22, M103_21, eM103_21, h⟩ := bd_e h
              refine m_callVi (As := [.ref (1000 + 21), .int (nI 3), .int (nI 60), .int (nI 199)]) (st := []) (s_X5_trait (d := d + 0) hA (by decide) eM103_21) rfl okX5 ck_X5_trait w_651 rfl (Nat.le_of_ble_eq_true rfl) dX5_creeperLine_103 ?_
              refine g_if_eq (tgt := 133) dX5_creeperLine_106 (by decide) (fun c29 => ?_) (fun c29 => ?_)
              · replace h := ite_p c29 h
                refine g_sub [0] (lv' := [(0, .ref 17)]) rfl ?_
                exact hj13  _ h
              · replace h := ite_n c29 h
                refine g_aload_n dX5_creeperLine_109 rfl 0 rfl ?_
                refine g_ldcS (j := 22) rfl dX5_creeperLine_110 ?_
                refine g_iconst (v := (nI 4)) dX5_creeperLine_112 (by decide) ?_
                refine g_iconst (v := (nI 0)) dX5_creeperLine_113 (by decide) ?_
                refine g_bipush (v := (nI 100)) dX5_creeperLine_114 (by decide) ?_
                obtain ⟨v116_24, M116_23, eM116_23, h⟩ := bd_e h
                refine m_callVi (As := [.ref (1000 + 22), .int (nI 4), .int (nI 0), .int (nI 100)]) (st := []) (s_X5_trait (d := d + 0) hA (by decide) eM116_23) rfl okX5 ck_X5_trait w_651 rfl (Nat.le_of_ble_eq_true rfl) dX5_creeperLine_116 ?_
                refine g_if_eq (tgt := 133) dX5_creeperLine_119 (by decide) (fun c28 => ?_) (fun c28 => ?_)
                · replace h := ite_p c28 h
                  refine g_sub [0] (lv' := [(0, .ref 17)]) rfl ?_
                  exact hj13  _ h
                · replace h := ite_n c28 h
                  refine g_aload_n dX5_creeperLine_122 rfl 0 rfl ?_
                  obtain ⟨v123_26, M123_25, eM123_25, h⟩ := bd_e h
                  refine m_callVi (As := []) (st := []) (s_X5_way (d := d + 1) hA  eM123_25) rfl okX5 ck_X5_way w_659 rfl (Nat.le_of_ble_eq_true rfl) dX5_creeperLine_123 ?_
                  refine g_if_eq (tgt := 133) dX5_creeperLine_126 (by decide) (fun c27 => ?_) (fun c27 => ?_)
                  · replace h := ite_p c27 h
                    refine g_sub [0] (lv' := [(0, .ref 17)]) rfl ?_
                    exact hj13  _ h
                  · replace h := ite_n c27 h
                    refine g_iconst (v := (nI 1)) dX5_creeperLine_129 (by decide) ?_
                    refine g_goto (tgt := 134) dX5_creeperLine_130 (by decide) ?_
                    refine g_sub [0] (lv' := [(0, .ref 17)]) rfl ?_
                    exact hj9 _ _ h
    · replace h := ite_n c36 h
      refine g_aload_n dX5_creeperLine_28 rfl 0 rfl ?_
      refine g_iconst (v := (nI 5)) dX5_creeperLine_29 (by decide) ?_
      obtain ⟨v30_35, M30_34, eM30_34, h⟩ := bd_e h
      refine m_callVi (As := [.int (nI 5)]) (st := []) (s_X5_fail (d := d + 6) hA  eM30_34) rfl okX5 ck_X5_fail w_555 rfl (Nat.le_of_ble_eq_true rfl) dX5_creeperLine_30 ?_
      obtain ⟨hz, h⟩ := gd_s h
      exact g_zret rfl (nar_zo hz) (pi_of h) dX5_creeperLine_33
  · replace h := ite_p c39 h
    refine g_aload_n dX5_creeperLine_10 rfl 0 rfl ?_
    refine g_bipush (v := (nI 6)) dX5_creeperLine_11 (by decide) ?_
    obtain ⟨v13_38, M13_37, eM13_37, h⟩ := bd_e h
    refine m_callVi (As := [.int (nI 6)]) (st := []) (s_X5_fail (d := d + 6) hA  eM13_37) rfl okX5 ck_X5_fail w_555 rfl (Nat.le_of_ble_eq_true rfl) dX5_creeperLine_13 ?_
    obtain ⟨hz, h⟩ := gd_s h
    exact g_zret rfl (nar_zo hz) (pi_of h) dX5_creeperLine_16
theorem ck_X5_creeperLine : CKV yX5_creeperLine cX5_creeperLine 2 (some .boolean) 0 := ⟨⟨by decide, by decide, by decide +kernel⟩, w_634, w_75, ⟨w_632, w_633⟩, by decide⟩
theorem dX5_read_0 : decode cX5_read 0 = .ok (.aload_n 0, 1) := by decide +kernel
theorem dX5_read_1 : decode cX5_read 1 = .ok (.aload_n 1, 1) := by decide +kernel
theorem dX5_read_2 : decode cX5_read 2 = .ok (.putfield 22, 3) := by decide +kernel
theorem dX5_read_5 : decode cX5_read 5 = .ok (.aload_n 0, 1) := by decide +kernel
theorem dX5_read_6 : decode cX5_read 6 = .ok (.getfield 22, 3) := by decide +kernel
theorem dX5_read_9 : decode cX5_read 9 = .ok (.invokevirtual 26, 3) := by decide +kernel
theorem dX5_read_12 : decode cX5_read 12 = .ok (.aload_n 0, 1) := by decide +kernel
theorem dX5_read_13 : decode cX5_read 13 = .ok (.iconst 0, 1) := by decide +kernel
theorem dX5_read_14 : decode cX5_read 14 = .ok (.putfield 31, 3) := by decide +kernel
theorem dX5_read_17 : decode cX5_read 17 = .ok (.aload_n 0, 1) := by decide +kernel
theorem dX5_read_18 : decode cX5_read 18 = .ok (.iconst 0, 1) := by decide +kernel
theorem dX5_read_19 : decode cX5_read 19 = .ok (.putfield 35, 3) := by decide +kernel
theorem dX5_read_22 : decode cX5_read 22 = .ok (.aload_n 0, 1) := by decide +kernel
theorem dX5_read_23 : decode cX5_read 23 = .ok (.getfield 18, 3) := by decide +kernel
theorem dX5_read_26 : decode cX5_read 26 = .ok (.iload_n 2, 1) := by decide +kernel
theorem dX5_read_27 : decode cX5_read 27 = .ok (.invokevirtual 38, 3) := by decide +kernel
theorem dX5_read_30 : decode cX5_read 30 = .ok (.iconst 0, 1) := by decide +kernel
theorem dX5_read_31 : decode cX5_read 31 = .ok (.istore_n 3, 1) := by decide +kernel
theorem dX5_read_32 : decode cX5_read 32 = .ok (.iload_n 3, 1) := by decide +kernel
theorem dX5_read_33 : decode cX5_read 33 = .ok (.sipush 900, 3) := by decide +kernel
theorem dX5_read_36 : decode cX5_read 36 = .ok (.if_icmp .gt 177, 3) := by decide +kernel
theorem dX5_read_39 : decode cX5_read 39 = .ok (.aload_n 0, 1) := by decide +kernel
theorem dX5_read_40 : decode cX5_read 40 = .ok (.getfield 18, 3) := by decide +kernel
theorem dX5_read_43 : decode cX5_read 43 = .ok (.ldc 44, 2) := by decide +kernel
theorem dX5_read_45 : decode cX5_read 45 = .ok (.invokevirtual 46, 3) := by decide +kernel
theorem dX5_read_48 : decode cX5_read 48 = .ok (.ifCond .eq 10, 3) := by decide +kernel
theorem dX5_read_51 : decode cX5_read 51 = .ok (.aload_n 0, 1) := by decide +kernel
theorem dX5_read_52 : decode cX5_read 52 = .ok (.invokevirtual 50, 3) := by decide +kernel
theorem dX5_read_55 : decode cX5_read 55 = .ok (.goto 84, 3) := by decide +kernel
theorem dX5_read_58 : decode cX5_read 58 = .ok (.aload_n 0, 1) := by decide +kernel
theorem dX5_read_59 : decode cX5_read 59 = .ok (.getfield 18, 3) := by decide +kernel
theorem dX5_read_62 : decode cX5_read 62 = .ok (.ldc 54, 2) := by decide +kernel
theorem dX5_read_64 : decode cX5_read 64 = .ok (.invokevirtual 46, 3) := by decide +kernel
theorem dX5_read_67 : decode cX5_read 67 = .ok (.ifCond .eq 10, 3) := by decide +kernel
theorem dX5_read_70 : decode cX5_read 70 = .ok (.aload_n 0, 1) := by decide +kernel
theorem dX5_read_71 : decode cX5_read 71 = .ok (.invokevirtual 56, 3) := by decide +kernel
theorem dX5_read_74 : decode cX5_read 74 = .ok (.goto 65, 3) := by decide +kernel
theorem dX5_read_77 : decode cX5_read 77 = .ok (.aload_n 0, 1) := by decide +kernel
theorem dX5_read_78 : decode cX5_read 78 = .ok (.getfield 18, 3) := by decide +kernel
theorem dX5_read_81 : decode cX5_read 81 = .ok (.ldc 59, 2) := by decide +kernel
theorem dX5_read_83 : decode cX5_read 83 = .ok (.invokevirtual 46, 3) := by decide +kernel
theorem dX5_read_86 : decode cX5_read 86 = .ok (.ifCond .eq 10, 3) := by decide +kernel
theorem dX5_read_89 : decode cX5_read 89 = .ok (.aload_n 0, 1) := by decide +kernel
theorem dX5_read_90 : decode cX5_read 90 = .ok (.invokevirtual 61, 3) := by decide +kernel
theorem dX5_read_93 : decode cX5_read 93 = .ok (.goto 46, 3) := by decide +kernel
theorem dX5_read_96 : decode cX5_read 96 = .ok (.aload_n 0, 1) := by decide +kernel
theorem dX5_read_97 : decode cX5_read 97 = .ok (.getfield 18, 3) := by decide +kernel
theorem dX5_read_100 : decode cX5_read 100 = .ok (.ldc 64, 2) := by decide +kernel
theorem dX5_read_102 : decode cX5_read 102 = .ok (.invokevirtual 46, 3) := by decide +kernel
theorem dX5_read_105 : decode cX5_read 105 = .ok (.ifCond .eq 10, 3) := by decide +kernel
theorem dX5_read_108 : decode cX5_read 108 = .ok (.aload_n 0, 1) := by decide +kernel
theorem dX5_read_109 : decode cX5_read 109 = .ok (.invokevirtual 66, 3) := by decide +kernel
theorem dX5_read_112 : decode cX5_read 112 = .ok (.goto 27, 3) := by decide +kernel
theorem dX5_read_115 : decode cX5_read 115 = .ok (.aload_n 0, 1) := by decide +kernel
theorem dX5_read_116 : decode cX5_read 116 = .ok (.getfield 18, 3) := by decide +kernel
theorem dX5_read_119 : decode cX5_read 119 = .ok (.ldc 69, 2) := by decide +kernel
theorem dX5_read_121 : decode cX5_read 121 = .ok (.invokevirtual 46, 3) := by decide +kernel
theorem dX5_read_124 : decode cX5_read 124 = .ok (.ifCond .eq 10, 3) := by decide +kernel
theorem dX5_read_127 : decode cX5_read 127 = .ok (.aload_n 0, 1) := by decide +kernel
theorem dX5_read_128 : decode cX5_read 128 = .ok (.invokevirtual 71, 3) := by decide +kernel
theorem dX5_read_131 : decode cX5_read 131 = .ok (.goto 8, 3) := by decide +kernel
theorem dX5_read_134 : decode cX5_read 134 = .ok (.aload_n 0, 1) := by decide +kernel
theorem dX5_read_135 : decode cX5_read 135 = .ok (.iconst 1, 1) := by decide +kernel
theorem dX5_read_136 : decode cX5_read 136 = .ok (.invokevirtual 74, 3) := by decide +kernel
theorem dX5_read_139 : decode cX5_read 139 = .ok (.istore 4, 2) := by decide +kernel
theorem dX5_read_141 : decode cX5_read 141 = .ok (.iload 4, 2) := by decide +kernel
theorem dX5_read_143 : decode cX5_read 143 = .ok (.ifCond .ne 5, 3) := by decide +kernel
theorem dX5_read_146 : decode cX5_read 146 = .ok (.iconst 0, 1) := by decide +kernel
theorem dX5_read_147 : decode cX5_read 147 = .ok (.ireturn, 1) := by decide +kernel
theorem dX5_read_148 : decode cX5_read 148 = .ok (.aload_n 0, 1) := by decide +kernel
theorem dX5_read_149 : decode cX5_read 149 = .ok (.getfield 18, 3) := by decide +kernel
theorem dX5_read_152 : decode cX5_read 152 = .ok (.getfield 78, 3) := by decide +kernel
theorem dX5_read_155 : decode cX5_read 155 = .ok (.ifCond .ne 28, 3) := by decide +kernel
theorem dX5_read_158 : decode cX5_read 158 = .ok (.aload_n 0, 1) := by decide +kernel
theorem dX5_read_159 : decode cX5_read 159 = .ok (.getfield 22, 3) := by decide +kernel
theorem dX5_read_162 : decode cX5_read 162 = .ok (.invokevirtual 81, 3) := by decide +kernel
theorem dX5_read_165 : decode cX5_read 165 = .ok (.ifCond .ne 12, 3) := by decide +kernel
theorem dX5_read_168 : decode cX5_read 168 = .ok (.aload_n 0, 1) := by decide +kernel
theorem dX5_read_169 : decode cX5_read 169 = .ok (.bipush 6, 2) := by decide +kernel
theorem dX5_read_171 : decode cX5_read 171 = .ok (.invokevirtual 74, 3) := by decide +kernel
theorem dX5_read_174 : decode cX5_read 174 = .ok (.ifCond .eq 7, 3) := by decide +kernel
theorem dX5_read_177 : decode cX5_read 177 = .ok (.iconst 1, 1) := by decide +kernel
theorem dX5_read_178 : decode cX5_read 178 = .ok (.goto 4, 3) := by decide +kernel
theorem dX5_read_181 : decode cX5_read 181 = .ok (.iconst 0, 1) := by decide +kernel
theorem dX5_read_182 : decode cX5_read 182 = .ok (.ireturn, 1) := by decide +kernel
theorem dX5_read_183 : decode cX5_read 183 = .ok (.aload_n 0, 1) := by decide +kernel
theorem dX5_read_184 : decode cX5_read 184 = .ok (.getfield 18, 3) := by decide +kernel
theorem dX5_read_187 : decode cX5_read 187 = .ok (.getfield 78, 3) := by decide +kernel
theorem dX5_read_190 : decode cX5_read 190 = .ok (.iconst 3, 1) := by decide +kernel
theorem dX5_read_191 : decode cX5_read 191 = .ok (.if_icmp .eq 9, 3) := by decide +kernel
theorem dX5_read_194 : decode cX5_read 194 = .ok (.aload_n 0, 1) := by decide +kernel
theorem dX5_read_195 : decode cX5_read 195 = .ok (.iconst 1, 1) := by decide +kernel
theorem dX5_read_196 : decode cX5_read 196 = .ok (.invokevirtual 74, 3) := by decide +kernel
theorem dX5_read_199 : decode cX5_read 199 = .ok (.ireturn, 1) := by decide +kernel
theorem dX5_read_200 : decode cX5_read 200 = .ok (.aload_n 0, 1) := by decide +kernel
theorem dX5_read_201 : decode cX5_read 201 = .ok (.getfield 18, 3) := by decide +kernel
theorem dX5_read_204 : decode cX5_read 204 = .ok (.invokevirtual 84, 3) := by decide +kernel
theorem dX5_read_207 : decode cX5_read 207 = .ok (.iinc 3 1, 3) := by decide +kernel
theorem dX5_read_210 : decode cX5_read 210 = .ok (.goto (-178), 3) := by decide +kernel
theorem dX5_read_213 : decode cX5_read 213 = .ok (.aload_n 0, 1) := by decide +kernel
theorem dX5_read_214 : decode cX5_read 214 = .ok (.iconst 1, 1) := by decide +kernel
theorem dX5_read_215 : decode cX5_read 215 = .ok (.invokevirtual 74, 3) := by decide +kernel
theorem dX5_read_218 : decode cX5_read 218 = .ok (.ireturn, 1) := by decide +kernel
def lp_X5_read_32  (k158 : Mm → Option (Int32 × Mm)) (k194 : Mm → Option (Int32 × Mm)) (k213 : Mm → Option (Int32 × Mm)) : Nat → Int32 → Mm → Option (Int32 × Mm)
  | 0, _, _ => none
  | n + 1, y3, M =>
    if (nI 900) < y3 then (k213  M) else (bd (f_X8_isWord 0 M) fun v45_7 M45_6 => jn (fun (s8 : Int32) (M9 : Mm) => if s8 = 0 then (some ((nI 0), M9)) else (if (M9 15 3) = 0 then (k158  M9) else (if (M9 15 3) = (nI 3) then (bv (f_X8_advance  M9) fun M204_11 => lp_X5_read_32 k158 k194 k213 n (y3 + (nI 1)) M204_11) else (k194  M9)))) fun j10 => if v45_7 = 0 then (bd (f_X8_isWord 4 M45_6) fun v64_17 M64_16 => if v64_17 = 0 then (bd (f_X8_isWord 5 M64_16) fun v83_19 M83_18 => if v83_19 = 0 then (bd (f_X8_isWord 10 M83_18) fun v102_21 M102_20 => if v102_21 = 0 then (bd (f_X8_isWord 15 M102_20) fun v121_23 M121_22 => if v121_23 = 0 then (bd (f_X5_fail (nI 1) M121_22) fun v136_25 M136_24 => j10 v136_25 M136_24) else (bd (f_X5_creeperLine  M121_22) fun v128_27 M128_26 => j10 v128_27 M128_26)) else (bd (f_X5_gravelLine  M102_20) fun v109_30 M109_29 => j10 v109_30 M109_29)) else (bd (f_X5_oneLine  M83_18) fun v90_33 M90_32 => j10 v90_33 M90_32)) else (bd (f_X5_verseLine  M64_16) fun v71_36 M71_35 => j10 v71_36 M71_35)) else (bd (f_X5_yardLine  M45_6) fun v52_39 M52_38 => j10 v52_39 M52_38))
def f_X5_read (x1 : Nat) (x2 : Int32) (M : Mm) : Option (Int32 × Mm) :=
  bg ((mset M 17 3 (nI x1)) 17 3) fun g1 => bv (f_X0_clear g1 (mset M 17 3 (nI x1))) fun M9_2 => bv (f_X8_open x2 (mset (mset M9_2 17 4 (nI 0)) 17 5 (nI 0))) fun M27_4 => lp_X5_read_32  (fun  (M42 : Mm) => bg (M42 17 3) fun g43 => bd (f_X0_isWhole g43 M42) fun v162_45 M162_44 => jn (fun (M46 : Mm) => some ((nI 1), M46)) fun j47 => if v162_45 = 0 then (bd (f_X5_fail (nI 6) M162_44) fun v171_49 M171_48 => if v171_49 = 0 then (some ((nI 0), M171_48)) else (j47  M171_48)) else (j47  M162_44)) (fun  (M52 : Mm) => bd (f_X5_fail (nI 1) M52) fun v196_54 M196_53 => gd (zo v196_54) <| some (v196_54, M196_53)) (fun  (M55 : Mm) => bd (f_X5_fail (nI 1) M55) fun v215_57 M215_56 => gd (zo v215_57) <| some (v215_57, M215_56)) N0 (nI 0) M27_4
set_option maxHeartbeats 4000000 in
set_option maxRecDepth 100000 in
theorem sl_X5_read_32 {l : Launch} {B : BT} (hA : bA B = false) {d : Nat} {r : Int32} {M' : Mm}   {k158 : Mm → Option (Int32 × Mm)} {k194 : Mm → Option (Int32 × Mm)} {k213 : Mm → Option (Int32 × Mm)} (hk158 : ∀  (M9 : Mm), k158  M9 = some (r, M') → GG l B LY (d + 8) yX5_read cX5_read 5 (some .boolean) 0 0 (PI r M') 97 0 0 158 [(0, .ref 17)] [] M9) (hk194 : ∀  (M9 : Mm), k194  M9 = some (r, M') → GG l B LY (d + 8) yX5_read cX5_read 5 (some .boolean) 0 0 (PI r M') 97 0 0 194 [(0, .ref 17)] [] M9) (hk213 : ∀  (M9 : Mm), k213  M9 = some (r, M') → GG l B LY (d + 8) yX5_read cX5_read 5 (some .boolean) 0 0 (PI r M') 97 0 0 213 [(0, .ref 17)] [] M9) :
    ∀ (n : Nat) (y3 : Int32) (M : Mm), lp_X5_read_32 k158 k194 k213 n y3 M = some (r, M') → GG l B LY (d + 8) yX5_read cX5_read 5 (some .boolean) 0 0 (PI r M') 97 0 0 32 [(0, .ref 17), (3, .int y3)] [] M := by
  intro n
  induction n with
  | zero => intro y3 M h; cases h
  | succ n ih =>
    intro y3 M h
    rw [lp_X5_read_32] at h
    refine g_iload_n dX5_read_32 rfl 1 rfl ?_
    refine g_sipush (v := (nI 900)) dX5_read_33 (by decide) ?_
    refine g_icmp_gt (tgt := 213) dX5_read_36 (by decide) (fun c41 => ?_) (fun c41 => ?_)
    · replace h := ite_p c41 h
      refine g_sub [0] (lv' := [(0, .ref 17)]) rfl ?_
      exact hk213  _ h
    · replace h := ite_n c41 h
      refine g_aload_n dX5_read_39 rfl 0 rfl ?_
      refine m_geta (k := 0) okX5 rfl rfl (by decide) w_229 rfl dX5_read_40 ?_
      refine g_ldcS (j := 0) rfl dX5_read_43 ?_
      obtain ⟨v45_7, M45_6, eM45_6, h⟩ := bd_e h
      refine m_callVi (As := [.ref (1000 + 0)]) (st := []) (s_X8_isWord (d := d + 3) hA (by decide) eM45_6) rfl okX8 ck_X8_isWord w_499 rfl (Nat.le_of_ble_eq_true rfl) dX5_read_45 ?_
      obtain ⟨j10, ej10, h⟩ := jn_e h
      have hj10 : ∀ (s8 : Int32) (M9 : Mm), j10 s8 M9 = some (r, M') → GG l B LY (d + 8) yX5_read cX5_read 5 (some .boolean) 0 0 (PI r M') 97 0 0 139 [(0, .ref 17), (3, .int y3)] [.int s8] M9 := by
        intro s8 M9 h
        rw [ej10] at h
        refine g_istore (lv' := [(4, .int s8), (0, .ref 17), (3, .int y3)]) dX5_read_139 (by decide) rfl ?_
        refine g_iload dX5_read_141 0 rfl ?_
        refine g_if_ne (tgt := 148) dX5_read_143 (by decide) (fun c15 => ?_) (fun c15 => ?_)
        · replace h := ite_n c15 h
          refine g_aload_n dX5_read_148 rfl 1 rfl ?_
          refine m_geta (k := 0) okX5 rfl rfl (by decide) w_229 rfl dX5_read_149 ?_
          refine m_geti (k := 3) okX8 rfl rfl (by decide) w_199 rfl dX5_read_152 ?_
          refine g_if_ne (tgt := 183) dX5_read_155 (by decide) (fun c14 => ?_) (fun c14 => ?_)
          · replace h := ite_n c14 h
            refine g_aload_n dX5_read_183 rfl 1 rfl ?_
            refine m_geta (k := 0) okX5 rfl rfl (by decide) w_229 rfl dX5_read_184 ?_
            refine m_geti (k := 3) okX8 rfl rfl (by decide) w_199 rfl dX5_read_187 ?_
            refine g_iconst (v := (nI 3)) dX5_read_190 (by decide) ?_
            refine g_icmp_eq (tgt := 200) dX5_read_191 (by decide) (fun c13 => ?_) (fun c13 => ?_)
            · replace h := ite_p c13 h
              refine g_aload_n dX5_read_200 rfl 1 rfl ?_
              refine m_geta (k := 0) okX5 rfl rfl (by decide) w_229 rfl dX5_read_201 ?_
              obtain ⟨M204_11, eM204_11, h⟩ := bv_e h
              refine m_callVv (As := []) (st := []) (s_X8_advance (d := d + 6) hA  eM204_11) rfl okX8 ck_X8_advance w_559 rfl (Nat.le_of_ble_eq_true rfl) dX5_read_204 ?_
              refine g_iinc (v := (y3 + (nI 1))) (lv' := [(3, .int (y3 + (nI 1))), (4, .int s8), (0, .ref 17)]) dX5_read_207 2 rfl rfl (by decide) rfl ?_
              refine g_goto (tgt := 32) dX5_read_210 (by decide) ?_
              refine g_sub [2, 0] (lv' := [(0, .ref 17), (3, .int (y3 + (nI 1)))]) rfl ?_
              exact ih _  _ h
            · replace h := ite_n c13 h
              refine g_sub [1] (lv' := [(0, .ref 17)]) rfl ?_
              exact hk194  _ h
          · replace h := ite_p c14 h
            refine g_sub [1] (lv' := [(0, .ref 17)]) rfl ?_
            exact hk158  _ h
        · replace h := ite_p c15 h
          refine g_iconst (v := (nI 0)) dX5_read_146 (by decide) ?_
          exact g_zret rfl rfl (pi_of h) dX5_read_147
      refine g_if_eq (tgt := 58) dX5_read_48 (by decide) (fun c40 => ?_) (fun c40 => ?_)
      · replace h := ite_p c40 h
        refine g_aload_n dX5_read_58 rfl 0 rfl ?_
        refine m_geta (k := 0) okX5 rfl rfl (by decide) w_229 rfl dX5_read_59 ?_
        refine g_ldcS (j := 4) rfl dX5_read_62 ?_
        obtain ⟨v64_17, M64_16, eM64_16, h⟩ := bd_e h
        refine m_callVi (As := [.ref (1000 + 4)]) (st := []) (s_X8_isWord (d := d + 3) hA (by decide) eM64_16) rfl okX8 ck_X8_isWord w_499 rfl (Nat.le_of_ble_eq_true rfl) dX5_read_64 ?_
        refine g_if_eq (tgt := 77) dX5_read_67 (by decide) (fun c37 => ?_) (fun c37 => ?_)
        · replace h := ite_p c37 h
          refine g_aload_n dX5_read_77 rfl 0 rfl ?_
          refine m_geta (k := 0) okX5 rfl rfl (by decide) w_229 rfl dX5_read_78 ?_
          refine g_ldcS (j := 5) rfl dX5_read_81 ?_
          obtain ⟨v83_19, M83_18, eM83_18, h⟩ := bd_e h
          refine m_callVi (As := [.ref (1000 + 5)]) (st := []) (s_X8_isWord (d := d + 3) hA (by decide) eM83_18) rfl okX8 ck_X8_isWord w_499 rfl (Nat.le_of_ble_eq_true rfl) dX5_read_83 ?_
          refine g_if_eq (tgt := 96) dX5_read_86 (by decide) (fun c34 => ?_) (fun c34 => ?_)
          · replace h := ite_p c34 h
            refine g_aload_n dX5_read_96 rfl 0 rfl ?_
            refine m_geta (k := 0) okX5 rfl rfl (by decide) w_229 rfl dX5_read_97 ?_
            refine g_ldcS (j := 10) rfl dX5_read_100 ?_
            obtain ⟨v102_21, M102_20, eM102_20, h⟩ := bd_e h
            refine m_callVi (As := [.ref (1000 + 10)]) (st := []) (s_X8_isWord (d := d + 3) hA (by decide) eM102_20) rfl okX8 ck_X8_isWord w_499 rfl (Nat.le_of_ble_eq_true rfl) dX5_read_102 ?_
            refine g_if_eq (tgt := 115) dX5_read_105 (by decide) (fun c31 => ?_) (fun c31 => ?_)
            · replace h := ite_p c31 h
              refine g_aload_n dX5_read_115 rfl 0 rfl ?_
              refine m_geta (k := 0) okX5 rfl rfl (by decide) w_229 rfl dX5_read_116 ?_
              refine g_ldcS (j := 15) rfl dX5_read_119 ?_
              obtain ⟨v121_23, M121_22, eM121_22, h⟩ := bd_e h
              refine m_callVi (As := [.ref (1000 + 15)]) (st := []) (s_X8_isWord (d := d + 3) hA (by decide) eM121_22) rfl okX8 ck_X8_isWord w_499 rfl (Nat.le_of_ble_eq_true rfl) dX5_read_121 ?_
              refine g_if_eq (tgt := 134) dX5_read_124 (by decide) (fun c28 => ?_) (fun c28 => ?_)
              · replace h := ite_p c28 h
                refine g_aload_n dX5_read_134 rfl 0 rfl ?_
                refine g_iconst (v := (nI 1)) dX5_read_135 (by decide) ?_
                obtain ⟨v136_25, M136_24, eM136_24, h⟩ := bd_e h
                refine m_callVi (As := [.int (nI 1)]) (st := []) (s_X5_fail (d := d + 7) hA  eM136_24) rfl okX5 ck_X5_fail w_555 rfl (Nat.le_of_ble_eq_true rfl) dX5_read_136 ?_
                refine g_sub [0, 1] (lv' := [(0, .ref 17), (3, .int y3)]) rfl ?_
                exact hj10 _ _ h
              · replace h := ite_n c28 h
                refine g_aload_n dX5_read_127 rfl 0 rfl ?_
                obtain ⟨v128_27, M128_26, eM128_26, h⟩ := bd_e h
                refine m_callVi (As := []) (st := []) (s_X5_creeperLine (d := d + 0) hA  eM128_26) rfl okX5 ck_X5_creeperLine w_631 rfl (Nat.le_of_ble_eq_true rfl) dX5_read_128 ?_
                refine g_goto (tgt := 139) dX5_read_131 (by decide) ?_
                refine g_sub [0, 1] (lv' := [(0, .ref 17), (3, .int y3)]) rfl ?_
                exact hj10 _ _ h
            · replace h := ite_n c31 h
              refine g_aload_n dX5_read_108 rfl 0 rfl ?_
              obtain ⟨v109_30, M109_29, eM109_29, h⟩ := bd_e h
              refine m_callVi (As := []) (st := []) (s_X5_gravelLine (d := d + 0) hA  eM109_29) rfl okX5 ck_X5_gravelLine w_622 rfl (Nat.le_of_ble_eq_true rfl) dX5_read_109 ?_
              refine g_goto (tgt := 139) dX5_read_112 (by decide) ?_
              refine g_sub [0, 1] (lv' := [(0, .ref 17), (3, .int y3)]) rfl ?_
              exact hj10 _ _ h
          · replace h := ite_n c34 h
            refine g_aload_n dX5_read_89 rfl 0 rfl ?_
            obtain ⟨v90_33, M90_32, eM90_32, h⟩ := bd_e h
            refine m_callVi (As := []) (st := []) (s_X5_oneLine (d := d + 0) hA  eM90_32) rfl okX5 ck_X5_oneLine w_608 rfl (Nat.le_of_ble_eq_true rfl) dX5_read_90 ?_
            refine g_goto (tgt := 139) dX5_read_93 (by decide) ?_
            refine g_sub [0, 1] (lv' := [(0, .ref 17), (3, .int y3)]) rfl ?_
            exact hj10 _ _ h
        · replace h := ite_n c37 h
          refine g_aload_n dX5_read_70 rfl 0 rfl ?_
          obtain ⟨v71_36, M71_35, eM71_35, h⟩ := bd_e h
          refine m_callVi (As := []) (st := []) (s_X5_verseLine (d := d + 3) hA  eM71_35) rfl okX5 ck_X5_verseLine w_576 rfl (Nat.le_of_ble_eq_true rfl) dX5_read_71 ?_
          refine g_goto (tgt := 139) dX5_read_74 (by decide) ?_
          refine g_sub [0, 1] (lv' := [(0, .ref 17), (3, .int y3)]) rfl ?_
          exact hj10 _ _ h
      · replace h := ite_n c40 h
        refine g_aload_n dX5_read_51 rfl 0 rfl ?_
        obtain ⟨v52_39, M52_38, eM52_38, h⟩ := bd_e h
        refine m_callVi (As := []) (st := []) (s_X5_yardLine (d := d + 0) hA  eM52_38) rfl okX5 ck_X5_yardLine w_551 rfl (Nat.le_of_ble_eq_true rfl) dX5_read_52 ?_
        refine g_goto (tgt := 139) dX5_read_55 (by decide) ?_
        refine g_sub [0, 1] (lv' := [(0, .ref 17), (3, .int y3)]) rfl ?_
        exact hj10 _ _ h
set_option maxHeartbeats 4000000 in
set_option maxRecDepth 100000 in
theorem s_X5_read {l : Launch} {B : BT} (hA : bA B = false) {d : Nat} {r : Int32} {M' : Mm} {x1 : Nat} {x2 : Int32} {M : Mm} (hx1 : LY x1 = .inl (0, fk0)) (h : f_X5_read x1 x2 M = some (r, M')) : Con l B LY (d + 8) yX5_read cX5_read 5 (some .boolean) 0 0 [.ref 17, .ref x1, .int x2] 97 M (PI r M') := by
  refine con_of (by decide) (Nat.le_of_ble_eq_true rfl) ?_
  show GG l B LY (d + 8) yX5_read cX5_read 5 (some .boolean) 0 0 (PI r M') 97 0 0 0 [(0, .ref 17), (1, .ref x1), (2, .int x2)] [] M
  rw [f_X5_read] at h
  refine g_aload_n dX5_read_0 rfl 0 rfl ?_
  refine g_aload_n dX5_read_1 rfl 1 rfl ?_
  refine m_putm (k := 3) okX5 rfl rfl (by decide) w_232 rfl rfl rfl (Or.inl ⟨_, rfl⟩) hx1 dX5_read_2 ?_
  refine g_aload_n dX5_read_5 rfl 0 rfl ?_
  obtain ⟨g1, eg1, hg1, h⟩ := bg_e h
  refine m_getm (k := 3) okX5 rfl rfl (by decide) w_232 rfl dX5_read_6 eg1 hg1 ?_
  obtain ⟨M9_2, eM9_2, h⟩ := bv_e h
  refine m_callVv (As := []) (st := []) (s_X0_clear (d := d + 6) hA hg1 eM9_2) hg1 okX0 ck_X0_clear w_476 rfl (Nat.le_of_ble_eq_true rfl) dX5_read_9 ?_
  refine g_aload_n dX5_read_12 rfl 0 rfl ?_
  refine g_iconst (v := (nI 0)) dX5_read_13 (by decide) ?_
  refine m_puti (k := 4) okX5 rfl rfl (by decide) w_233 rfl rfl rfl dX5_read_14 ?_
  refine g_aload_n dX5_read_17 rfl 0 rfl ?_
  refine g_iconst (v := (nI 0)) dX5_read_18 (by decide) ?_
  refine m_puti (k := 5) okX5 rfl rfl (by decide) w_235 rfl rfl rfl dX5_read_19 ?_
  refine g_aload_n dX5_read_22 rfl 0 rfl ?_
  refine m_geta (k := 0) okX5 rfl rfl (by decide) w_229 rfl dX5_read_23 ?_
  refine g_iload_n dX5_read_26 rfl 2 rfl ?_
  obtain ⟨M27_4, eM27_4, h⟩ := bv_e h
  refine m_callVv (As := [.int x2]) (st := []) (s_X8_open (d := d + 5) hA  eM27_4) rfl okX8 ck_X8_open w_483 rfl (Nat.le_of_ble_eq_true rfl) dX5_read_27 ?_
  refine g_iconst (v := (nI 0)) dX5_read_30 (by decide) ?_
  refine g_istore_n (lv' := [(3, .int (nI 0)), (0, .ref 17), (1, .ref x1), (2, .int x2)]) dX5_read_31 rfl (by decide) rfl ?_
  refine g_sub [1, 0] (lv' := [(0, .ref 17), (3, .int (nI 0))]) rfl ?_
  refine sl_X5_read_32 hA  ?_ ?_ ?_ _ _ _ h
  · intro  M42 h
    refine g_aload_n dX5_read_158 rfl 0 rfl ?_
    obtain ⟨g43, eg43, hg43, h⟩ := bg_e h
    refine m_getm (k := 3) okX5 rfl rfl (by decide) w_232 rfl dX5_read_159 eg43 hg43 ?_
    obtain ⟨v162_45, M162_44, eM162_44, h⟩ := bd_e h
    refine m_callVi (As := []) (st := []) (s_X0_isWhole (d := d + 7) hA hg43 eM162_44) hg43 okX0 ck_X0_isWhole w_663 rfl (Nat.le_of_ble_eq_true rfl) dX5_read_162 ?_
    obtain ⟨j47, ej47, h⟩ := jn_e h
    have hj47 : ∀ (M46 : Mm), j47 M46 = some (r, M') → GG l B LY (d + 8) yX5_read cX5_read 5 (some .boolean) 0 0 (PI r M') 97 0 0 177 [] [] M46 := by
      intro M46 h
      rw [ej47] at h
      refine g_iconst (v := (nI 1)) dX5_read_177 (by decide) ?_
      refine g_goto (tgt := 182) dX5_read_178 (by decide) ?_
      exact g_zret rfl rfl (pi_of h) dX5_read_182
    refine g_if_ne (tgt := 177) dX5_read_165 (by decide) (fun c51 => ?_) (fun c51 => ?_)
    · replace h := ite_n c51 h
      refine g_sub [] (lv' := []) rfl ?_
      exact hj47  _ h
    · replace h := ite_p c51 h
      refine g_aload_n dX5_read_168 rfl 0 rfl ?_
      refine g_bipush (v := (nI 6)) dX5_read_169 (by decide) ?_
      obtain ⟨v171_49, M171_48, eM171_48, h⟩ := bd_e h
      refine m_callVi (As := [.int (nI 6)]) (st := []) (s_X5_fail (d := d + 7) hA  eM171_48) rfl okX5 ck_X5_fail w_555 rfl (Nat.le_of_ble_eq_true rfl) dX5_read_171 ?_
      refine g_if_eq (tgt := 181) dX5_read_174 (by decide) (fun c50 => ?_) (fun c50 => ?_)
      · replace h := ite_p c50 h
        refine g_iconst (v := (nI 0)) dX5_read_181 (by decide) ?_
        exact g_zret rfl rfl (pi_of h) dX5_read_182
      · replace h := ite_n c50 h
        refine g_sub [] (lv' := []) rfl ?_
        exact hj47  _ h
  · intro  M52 h
    refine g_aload_n dX5_read_194 rfl 0 rfl ?_
    refine g_iconst (v := (nI 1)) dX5_read_195 (by decide) ?_
    obtain ⟨v196_54, M196_53, eM196_53, h⟩ := bd_e h
    refine m_callVi (As := [.int (nI 1)]) (st := []) (s_X5_fail (d := d + 7) hA  eM196_53) rfl okX5 ck_X5_fail w_555 rfl (Nat.le_of_ble_eq_true rfl) dX5_read_196 ?_
    obtain ⟨hz, h⟩ := gd_s h
    exact g_zret rfl (nar_zo hz) (pi_of h) dX5_read_199
  · intro  M55 h
    refine g_aload_n dX5_read_213 rfl 0 rfl ?_
    refine g_iconst (v := (nI 1)) dX5_read_214 (by decide) ?_
    obtain ⟨v215_57, M215_56, eM215_56, h⟩ := bd_e h
    refine m_callVi (As := [.int (nI 1)]) (st := []) (s_X5_fail (d := d + 7) hA  eM215_56) rfl okX5 ck_X5_fail w_555 rfl (Nat.le_of_ble_eq_true rfl) dX5_read_215 ?_
    obtain ⟨hz, h⟩ := gd_s h
    exact g_zret rfl (nar_zo hz) (pi_of h) dX5_read_218
theorem ck_X5_read : CKV yX5_read cX5_read 5 (some .boolean) 2 := ⟨⟨by decide, by decide, by decide +kernel⟩, w_475, w_75, ⟨w_473, w_474⟩, by decide⟩
theorem dX6_unfold_0 : decode cX6_unfold 0 = .ok (.iload_n 2, 1) := by decide +kernel
theorem dX6_unfold_1 : decode cX6_unfold 1 = .ok (.istore 4, 2) := by decide +kernel
theorem dX6_unfold_3 : decode cX6_unfold 3 = .ok (.aload_n 1, 1) := by decide +kernel
theorem dX6_unfold_4 : decode cX6_unfold 4 = .ok (.getfield 30, 3) := by decide +kernel
theorem dX6_unfold_7 : decode cX6_unfold 7 = .ok (.iconst 1, 1) := by decide +kernel
theorem dX6_unfold_8 : decode cX6_unfold 8 = .ok (.isub, 1) := by decide +kernel
theorem dX6_unfold_9 : decode cX6_unfold 9 = .ok (.istore 5, 2) := by decide +kernel
theorem dX6_unfold_11 : decode cX6_unfold 11 = .ok (.iload 5, 2) := by decide +kernel
theorem dX6_unfold_13 : decode cX6_unfold 13 = .ok (.ifCond .lt 32, 3) := by decide +kernel
theorem dX6_unfold_16 : decode cX6_unfold 16 = .ok (.aload_n 0, 1) := by decide +kernel
theorem dX6_unfold_17 : decode cX6_unfold 17 = .ok (.getfield 9, 3) := by decide +kernel
theorem dX6_unfold_20 : decode cX6_unfold 20 = .ok (.iload 5, 2) := by decide +kernel
theorem dX6_unfold_22 : decode cX6_unfold 22 = .ok (.iload 4, 2) := by decide +kernel
theorem dX6_unfold_24 : decode cX6_unfold 24 = .ok (.iload_n 3, 1) := by decide +kernel
theorem dX6_unfold_25 : decode cX6_unfold 25 = .ok (.invokestatic 41, 3) := by decide +kernel
theorem dX6_unfold_28 : decode cX6_unfold 28 = .ok (.invokestatic 44, 3) := by decide +kernel
theorem dX6_unfold_31 : decode cX6_unfold 31 = .ok (.iload 4, 2) := by decide +kernel
theorem dX6_unfold_33 : decode cX6_unfold 33 = .ok (.iload_n 3, 1) := by decide +kernel
theorem dX6_unfold_34 : decode cX6_unfold 34 = .ok (.invokestatic 48, 3) := by decide +kernel
theorem dX6_unfold_37 : decode cX6_unfold 37 = .ok (.istore 4, 2) := by decide +kernel
theorem dX6_unfold_39 : decode cX6_unfold 39 = .ok (.iinc 5 (-1), 3) := by decide +kernel
theorem dX6_unfold_42 : decode cX6_unfold 42 = .ok (.goto (-31), 3) := by decide +kernel
theorem dX6_unfold_45 : decode cX6_unfold 45 = .ok (.return_, 1) := by decide +kernel
def lp_X6_unfold_11 (y3 : Int32)  : Nat → Int32 → Int32 → Mm → Option (Mm)
  | 0, _, _, _ => none
  | n + 1, y4, y5, M =>
    if y5 < 0 then (some M) else (bd (f_X9_leftOver y4 y3 M) fun v25_2 M25_1 => bv (f_X9_put 78 y5 v25_2 M25_1) fun M28_3 => bd (f_X9_by y4 y3 M28_3) fun v34_6 M34_5 => lp_X6_unfold_11 y3 n v34_6 (y5 + (-1 : Int32)) M34_5)
def f_X6_unfold (x1 : Nat) (x2 : Int32) (x3 : Int32) (M : Mm) : Option (Mm) :=
  lp_X6_unfold_11 x3  N0 x2 ((M x1 14) - (nI 1)) M
set_option maxHeartbeats 4000000 in
set_option maxRecDepth 100000 in
theorem sl_X6_unfold_11 {l : Launch} {B : BT} (hA : bA B = false) {d : Nat} {M' : Mm} {y3 : Int32}    :
    ∀ (n : Nat) (y4 : Int32) (y5 : Int32) (M : Mm), lp_X6_unfold_11 y3 n y4 y5 M = some M' → GG l B LY (d + 1) yX6_unfold cX6_unfold 6 none 0 0 (PV M') 97 0 0 11 [(0, .ref 77), (3, .int y3), (4, .int y4), (5, .int y5)] [] M := by
  intro n
  induction n with
  | zero => intro y4 y5 M h; cases h
  | succ n ih =>
    intro y4 y5 M h
    rw [lp_X6_unfold_11] at h
    refine g_iload dX6_unfold_11 3 rfl ?_
    refine g_if_lt (tgt := 45) dX6_unfold_13 (by decide) (fun c7 => ?_) (fun c7 => ?_)
    · replace h := ite_p c7 h
      exact g_vret rfl (pv_of h) dX6_unfold_45
    · replace h := ite_n c7 h
      refine g_aload_n dX6_unfold_16 rfl 0 rfl ?_
      refine m_getr (k := 0) okX6 rfl rfl (by decide) w_379 rfl dX6_unfold_17 ?_
      refine g_iload dX6_unfold_20 3 rfl ?_
      refine g_iload dX6_unfold_22 2 rfl ?_
      refine g_iload_n dX6_unfold_24 rfl 1 rfl ?_
      obtain ⟨v25_2, M25_1, eM25_1, h⟩ := bd_e h
      refine m_callNi (As := [.int y4, .int y3]) (st := [.int y5, .ref 78]) (s_X9_leftOver (d := d + 0) hA  eM25_1) ck_X9_leftOver (host := "StillYard") (List.mem_of_getElem? (i := 31) rfl) rfl (Nat.le_of_ble_eq_true rfl) dX6_unfold_25 ?_
      obtain ⟨M28_3, eM28_3, h⟩ := bv_e h
      refine m_callNv (As := [.ref 78, .int y5, .int v25_2]) (st := []) (s_X9_put (d := d + 0) hA (al_of rfl) eM28_3) ck_X9_put (host := "StillYard") (List.mem_of_getElem? (i := 32) rfl) rfl (Nat.le_of_ble_eq_true rfl) dX6_unfold_28 ?_
      refine g_iload dX6_unfold_31 2 rfl ?_
      refine g_iload_n dX6_unfold_33 rfl 1 rfl ?_
      obtain ⟨v34_6, M34_5, eM34_5, h⟩ := bd_e h
      refine m_callNi (As := [.int y4, .int y3]) (st := []) (s_X9_by (d := d + 0) hA  eM34_5) ck_X9_by (host := "StillYard") (List.mem_of_getElem? (i := 33) rfl) rfl (Nat.le_of_ble_eq_true rfl) dX6_unfold_34 ?_
      refine g_istore (lv' := [(4, .int v34_6), (0, .ref 77), (3, .int y3), (5, .int y5)]) dX6_unfold_37 (by decide) rfl ?_
      refine g_iinc (v := (y5 + (-1 : Int32))) (lv' := [(5, .int (y5 + (-1 : Int32))), (4, .int v34_6), (0, .ref 77), (3, .int y3)]) dX6_unfold_39 3 rfl rfl (by decide) rfl ?_
      refine g_goto (tgt := 11) dX6_unfold_42 (by decide) ?_
      refine g_sub [2, 3, 1, 0] (lv' := [(0, .ref 77), (3, .int y3), (4, .int v34_6), (5, .int (y5 + (-1 : Int32)))]) rfl ?_
      exact ih _ _  _ h
set_option maxHeartbeats 4000000 in
set_option maxRecDepth 100000 in
theorem s_X6_unfold {l : Launch} {B : BT} (hA : bA B = false) {d : Nat} {M' : Mm} {x1 : Nat} {x2 : Int32} {x3 : Int32} {M : Mm} (hx1 : LY x1 = .inl (0, fk0)) (h : f_X6_unfold x1 x2 x3 M = some M') : Con l B LY (d + 1) yX6_unfold cX6_unfold 6 none 0 0 [.ref 77, .ref x1, .int x2, .int x3] 97 M (PV M') := by
  refine con_of (by decide) (Nat.le_of_ble_eq_true rfl) ?_
  show GG l B LY (d + 1) yX6_unfold cX6_unfold 6 none 0 0 (PV M') 97 0 0 0 [(0, .ref 77), (1, .ref x1), (2, .int x2), (3, .int x3)] [] M
  rw [f_X6_unfold] at h
  refine g_iload_n dX6_unfold_0 rfl 2 rfl ?_
  refine g_istore (lv' := [(4, .int x2), (0, .ref 77), (1, .ref x1), (2, .int x2), (3, .int x3)]) dX6_unfold_1 (by decide) rfl ?_
  refine g_aload_n dX6_unfold_3 rfl 2 rfl ?_
  refine m_geti (k := 14) okX0 hx1 rfl (by decide) w_149 rfl dX6_unfold_4 ?_
  refine g_iconst (v := (nI 1)) dX6_unfold_7 (by decide) ?_
  refine g_isub dX6_unfold_8 ?_
  refine g_istore (lv' := [(5, .int ((M x1 14) - (nI 1))), (4, .int x2), (0, .ref 77), (1, .ref x1), (2, .int x2), (3, .int x3)]) dX6_unfold_9 (by decide) rfl ?_
  refine g_sub [2, 5, 1, 0] (lv' := [(0, .ref 77), (3, .int x3), (4, .int x2), (5, .int ((M x1 14) - (nI 1)))]) rfl ?_
  refine sl_X6_unfold_11 hA   _ _ _ _ h
theorem ck_X6_unfold : CKV yX6_unfold cX6_unfold 6 none 3 := ⟨⟨by decide, by decide, by decide +kernel⟩, w_1139, w_79, ⟨w_1137, w_1138⟩, by decide⟩
theorem dX6_consider_0 : decode cX6_consider 0 = .ok (.iconst 0, 1) := by decide +kernel
theorem dX6_consider_1 : decode cX6_consider 1 = .ok (.istore_n 3, 1) := by decide +kernel
theorem dX6_consider_2 : decode cX6_consider 2 = .ok (.iconst 0, 1) := by decide +kernel
theorem dX6_consider_3 : decode cX6_consider 3 = .ok (.istore 4, 2) := by decide +kernel
theorem dX6_consider_5 : decode cX6_consider 5 = .ok (.iconst 0, 1) := by decide +kernel
theorem dX6_consider_6 : decode cX6_consider 6 = .ok (.istore 5, 2) := by decide +kernel
theorem dX6_consider_8 : decode cX6_consider 8 = .ok (.iconst 0, 1) := by decide +kernel
theorem dX6_consider_9 : decode cX6_consider 9 = .ok (.istore 6, 2) := by decide +kernel
theorem dX6_consider_11 : decode cX6_consider 11 = .ok (.iload 6, 2) := by decide +kernel
theorem dX6_consider_13 : decode cX6_consider 13 = .ok (.aload_n 1, 1) := by decide +kernel
theorem dX6_consider_14 : decode cX6_consider 14 = .ok (.getfield 30, 3) := by decide +kernel
theorem dX6_consider_17 : decode cX6_consider 17 = .ok (.if_icmp .ge 73, 3) := by decide +kernel
theorem dX6_consider_20 : decode cX6_consider 20 = .ok (.aload_n 1, 1) := by decide +kernel
theorem dX6_consider_21 : decode cX6_consider 21 = .ok (.getfield 18, 3) := by decide +kernel
theorem dX6_consider_24 : decode cX6_consider 24 = .ok (.aload_n 0, 1) := by decide +kernel
theorem dX6_consider_25 : decode cX6_consider 25 = .ok (.getfield 9, 3) := by decide +kernel
theorem dX6_consider_28 : decode cX6_consider 28 = .ok (.iload 6, 2) := by decide +kernel
theorem dX6_consider_30 : decode cX6_consider 30 = .ok (.invokestatic 51, 3) := by decide +kernel
theorem dX6_consider_33 : decode cX6_consider 33 = .ok (.isub, 1) := by decide +kernel
theorem dX6_consider_34 : decode cX6_consider 34 = .ok (.aload_n 1, 1) := by decide +kernel
theorem dX6_consider_35 : decode cX6_consider 35 = .ok (.iload 6, 2) := by decide +kernel
theorem dX6_consider_37 : decode cX6_consider 37 = .ok (.iconst 1, 1) := by decide +kernel
theorem dX6_consider_38 : decode cX6_consider 38 = .ok (.invokevirtual 55, 3) := by decide +kernel
theorem dX6_consider_41 : decode cX6_consider 41 = .ok (.imul, 1) := by decide +kernel
theorem dX6_consider_42 : decode cX6_consider 42 = .ok (.istore 7, 2) := by decide +kernel
theorem dX6_consider_44 : decode cX6_consider 44 = .ok (.iload 6, 2) := by decide +kernel
theorem dX6_consider_46 : decode cX6_consider 46 = .ok (.ifCond .ne 8, 3) := by decide +kernel
theorem dX6_consider_49 : decode cX6_consider 49 = .ok (.iload 7, 2) := by decide +kernel
theorem dX6_consider_51 : decode cX6_consider 51 = .ok (.goto 9, 3) := by decide +kernel
theorem dX6_consider_54 : decode cX6_consider 54 = .ok (.iload_n 3, 1) := by decide +kernel
theorem dX6_consider_55 : decode cX6_consider 55 = .ok (.iload 7, 2) := by decide +kernel
theorem dX6_consider_57 : decode cX6_consider 57 = .ok (.invokestatic 24, 3) := by decide +kernel
theorem dX6_consider_60 : decode cX6_consider 60 = .ok (.istore_n 3, 1) := by decide +kernel
theorem dX6_consider_61 : decode cX6_consider 61 = .ok (.iload 4, 2) := by decide +kernel
theorem dX6_consider_63 : decode cX6_consider 63 = .ok (.iload 7, 2) := by decide +kernel
theorem dX6_consider_65 : decode cX6_consider 65 = .ok (.invokestatic 58, 3) := by decide +kernel
theorem dX6_consider_68 : decode cX6_consider 68 = .ok (.istore 4, 2) := by decide +kernel
theorem dX6_consider_70 : decode cX6_consider 70 = .ok (.iload 5, 2) := by decide +kernel
theorem dX6_consider_72 : decode cX6_consider 72 = .ok (.aload_n 0, 1) := by decide +kernel
theorem dX6_consider_73 : decode cX6_consider 73 = .ok (.getfield 9, 3) := by decide +kernel
theorem dX6_consider_76 : decode cX6_consider 76 = .ok (.iload 6, 2) := by decide +kernel
theorem dX6_consider_78 : decode cX6_consider 78 = .ok (.invokestatic 51, 3) := by decide +kernel
theorem dX6_consider_81 : decode cX6_consider 81 = .ok (.iadd, 1) := by decide +kernel
theorem dX6_consider_82 : decode cX6_consider 82 = .ok (.istore 5, 2) := by decide +kernel
theorem dX6_consider_84 : decode cX6_consider 84 = .ok (.iinc 6 1, 3) := by decide +kernel
theorem dX6_consider_87 : decode cX6_consider 87 = .ok (.goto (-76), 3) := by decide +kernel
theorem dX6_consider_90 : decode cX6_consider 90 = .ok (.iload 4, 2) := by decide +kernel
theorem dX6_consider_92 : decode cX6_consider 92 = .ok (.iload_n 3, 1) := by decide +kernel
theorem dX6_consider_93 : decode cX6_consider 93 = .ok (.isub, 1) := by decide +kernel
theorem dX6_consider_94 : decode cX6_consider 94 = .ok (.istore 6, 2) := by decide +kernel
theorem dX6_consider_96 : decode cX6_consider 96 = .ok (.iload_n 2, 1) := by decide +kernel
theorem dX6_consider_97 : decode cX6_consider 97 = .ok (.ifCond .ne 30, 3) := by decide +kernel
theorem dX6_consider_100 : decode cX6_consider 100 = .ok (.iload 6, 2) := by decide +kernel
theorem dX6_consider_102 : decode cX6_consider 102 = .ok (.aload_n 0, 1) := by decide +kernel
theorem dX6_consider_103 : decode cX6_consider 103 = .ok (.getfield 61, 3) := by decide +kernel
theorem dX6_consider_106 : decode cX6_consider 106 = .ok (.if_icmp .lt 21, 3) := by decide +kernel
theorem dX6_consider_109 : decode cX6_consider 109 = .ok (.iload 6, 2) := by decide +kernel
theorem dX6_consider_111 : decode cX6_consider 111 = .ok (.aload_n 0, 1) := by decide +kernel
theorem dX6_consider_112 : decode cX6_consider 112 = .ok (.getfield 61, 3) := by decide +kernel
theorem dX6_consider_115 : decode cX6_consider 115 = .ok (.if_icmp .ne 35, 3) := by decide +kernel
theorem dX6_consider_118 : decode cX6_consider 118 = .ok (.iload 5, 2) := by decide +kernel
theorem dX6_consider_120 : decode cX6_consider 120 = .ok (.aload_n 0, 1) := by decide +kernel
theorem dX6_consider_121 : decode cX6_consider 121 = .ok (.getfield 64, 3) := by decide +kernel
theorem dX6_consider_124 : decode cX6_consider 124 = .ok (.if_icmp .ge 26, 3) := by decide +kernel
theorem dX6_consider_127 : decode cX6_consider 127 = .ok (.aload_n 0, 1) := by decide +kernel
theorem dX6_consider_128 : decode cX6_consider 128 = .ok (.iload 6, 2) := by decide +kernel
theorem dX6_consider_130 : decode cX6_consider 130 = .ok (.putfield 61, 3) := by decide +kernel
theorem dX6_consider_133 : decode cX6_consider 133 = .ok (.aload_n 0, 1) := by decide +kernel
theorem dX6_consider_134 : decode cX6_consider 134 = .ok (.iload 5, 2) := by decide +kernel
theorem dX6_consider_136 : decode cX6_consider 136 = .ok (.putfield 64, 3) := by decide +kernel
theorem dX6_consider_139 : decode cX6_consider 139 = .ok (.aload_n 0, 1) := by decide +kernel
theorem dX6_consider_140 : decode cX6_consider 140 = .ok (.getfield 9, 3) := by decide +kernel
theorem dX6_consider_143 : decode cX6_consider 143 = .ok (.aload_n 0, 1) := by decide +kernel
theorem dX6_consider_144 : decode cX6_consider 144 = .ok (.getfield 15, 3) := by decide +kernel
theorem dX6_consider_147 : decode cX6_consider 147 = .ok (.invokestatic 67, 3) := by decide +kernel
theorem dX6_consider_150 : decode cX6_consider 150 = .ok (.return_, 1) := by decide +kernel
def lp_X6_consider_11 (y1 : Nat) (y2 : Int32) (k90 : Int32 → Int32 → Int32 → Mm → Option (Mm)) : Nat → Int32 → Int32 → Int32 → Int32 → Mm → Option (Mm)
  | 0, _, _, _, _, _ => none
  | n + 1, y3, y4, y5, y6, M =>
    if (M y1 14) ≤ y6 then (k90 y3 y4 y5 M) else (bd (f_X9_at 78 y6 M) fun v30_2 M30_1 => bd (f_X0_trait y1 y6 (nI 1) M30_1) fun v38_4 M38_3 => lt ((((M y1 6) - v30_2) * v38_4)) fun t5 => jn (fun (s6 : Int32) (M7 : Mm) => lt ((if y4 < t5 then t5 else y4)) fun t9 => bd (f_X9_at 78 y6 M7) fun v78_11 M78_10 => lp_X6_consider_11 y1 y2 k90 n s6 t9 (y5 + v78_11) (y6 + (nI 1)) M78_10) fun j8 => if y6 = 0 then (j8 t5 M38_3) else (j8 (if t5 < y3 then t5 else y3) M38_3))
def f_X6_consider (x1 : Nat) (x2 : Int32) (M : Mm) : Option (Mm) :=
  lp_X6_consider_11 x1 x2 (fun (u14 : Int32) (u15 : Int32) (u16 : Int32) (M17 : Mm) => jn (fun (M18 : Mm) => bv (f_X9_copy 78 79 (mset (mset M18 77 2 (u15 - u14)) 77 3 u16)) fun M147_20 => some M147_20) fun j19 => if x2 = 0 then (if (u15 - u14) < (M17 77 2) then (j19  M17) else (if (u15 - u14) = (M17 77 2) then (if (M17 77 3) ≤ u16 then (some M17) else (j19  M17)) else (some M17))) else (j19  M17)) N0 (nI 0) (nI 0) (nI 0) (nI 0) M
set_option maxHeartbeats 4000000 in
set_option maxRecDepth 100000 in
theorem sl_X6_consider_11 {l : Launch} {B : BT} (hA : bA B = false) {d : Nat} {M' : Mm} {y1 : Nat} {y2 : Int32} (hy1 : LY y1 = .inl (0, fk0)) {k90 : Int32 → Int32 → Int32 → Mm → Option (Mm)} (hk90 : ∀ (z3 : Int32) (z4 : Int32) (z5 : Int32) (M9 : Mm), k90 z3 z4 z5 M9 = some M' → GG l B LY (d + 2) yX6_consider cX6_consider 8 none 0 0 (PV M') 97 0 0 90 [(0, .ref 77), (2, .int y2), (3, .int z3), (4, .int z4), (5, .int z5)] [] M9) :
    ∀ (n : Nat) (y3 : Int32) (y4 : Int32) (y5 : Int32) (y6 : Int32) (M : Mm), lp_X6_consider_11 y1 y2 k90 n y3 y4 y5 y6 M = some M' → GG l B LY (d + 2) yX6_consider cX6_consider 8 none 0 0 (PV M') 97 0 0 11 [(0, .ref 77), (1, .ref y1), (2, .int y2), (3, .int y3), (4, .int y4), (5, .int y5), (6, .int y6)] [] M := by
  intro n
  induction n with
  | zero => intro y3 y4 y5 y6 M h; cases h
  | succ n ih =>
    intro y3 y4 y5 y6 M h
    rw [lp_X6_consider_11] at h
    refine g_iload dX6_consider_11 6 rfl ?_
    refine g_aload_n dX6_consider_13 rfl 1 rfl ?_
    refine m_geti (k := 14) okX0 hy1 rfl (by decide) w_149 rfl dX6_consider_14 ?_
    refine g_icmp_ge (tgt := 90) dX6_consider_17 (by decide) (fun c13 => ?_) (fun c13 => ?_)
    · replace h := ite_p c13 h
      refine g_sub [0, 2, 3, 4, 5] (lv' := [(0, .ref 77), (2, .int y2), (3, .int y3), (4, .int y4), (5, .int y5)]) rfl ?_
      exact hk90 _ _ _ _ h
    · replace h := ite_n c13 h
      refine g_aload_n dX6_consider_20 rfl 1 rfl ?_
      refine m_geti (k := 6) okX0 hy1 rfl (by decide) w_120 rfl dX6_consider_21 ?_
      refine g_aload_n dX6_consider_24 rfl 0 rfl ?_
      refine m_getr (k := 0) okX6 rfl rfl (by decide) w_379 rfl dX6_consider_25 ?_
      refine g_iload dX6_consider_28 6 rfl ?_
      obtain ⟨v30_2, M30_1, eM30_1, h⟩ := bd_e h
      refine m_callNi (As := [.ref 78, .int y6]) (st := [.int (M y1 6)]) (s_X9_at (d := d + 1) hA (al_of rfl) eM30_1) ck_X9_at (host := "StillYard") (List.mem_of_getElem? (i := 34) rfl) rfl (Nat.le_of_ble_eq_true rfl) dX6_consider_30 ?_
      refine g_isub dX6_consider_33 ?_
      refine g_aload_n dX6_consider_34 rfl 1 rfl ?_
      refine g_iload dX6_consider_35 6 rfl ?_
      refine g_iconst (v := (nI 1)) dX6_consider_37 (by decide) ?_
      obtain ⟨v38_4, M38_3, eM38_3, h⟩ := bd_e h
      refine m_callVi (As := [.int y6, .int (nI 1)]) (st := [.int ((M y1 6) - v30_2)]) (s_X0_trait (d := d + 1) hA hy1 eM38_3) hy1 okX0 ck_X0_trait w_1148 rfl (Nat.le_of_ble_eq_true rfl) dX6_consider_38 ?_
      refine g_imul dX6_consider_41 ?_
      obtain ⟨t5, et5, h⟩ := lt_e h
      refine g_cuti et5 ?_
      refine g_istore (lv' := [(7, .int t5), (0, .ref 77), (1, .ref y1), (2, .int y2), (3, .int y3), (4, .int y4), (5, .int y5), (6, .int y6)]) dX6_consider_42 (by decide) rfl ?_
      refine g_iload dX6_consider_44 7 rfl ?_
      obtain ⟨j8, ej8, h⟩ := jn_e h
      have hj8 : ∀ (s6 : Int32) (M7 : Mm), j8 s6 M7 = some M' → GG l B LY (d + 2) yX6_consider cX6_consider 8 none 0 0 (PV M') 97 0 0 60 [(0, .ref 77), (1, .ref y1), (2, .int y2), (4, .int y4), (5, .int y5), (6, .int y6), (7, .int t5)] [.int s6] M7 := by
        intro s6 M7 h
        rw [ej8] at h
        refine g_istore_n (lv' := [(3, .int s6), (0, .ref 77), (1, .ref y1), (2, .int y2), (4, .int y4), (5, .int y5), (6, .int y6), (7, .int t5)]) dX6_consider_60 rfl (by decide) rfl ?_
        refine g_iload dX6_consider_61 4 rfl ?_
        refine g_iload dX6_consider_63 7 rfl ?_
        refine m_mmax (st := []) w_1149 w_754 w_86 w_755 (Nat.le_of_ble_eq_true rfl) dX6_consider_65 ?_
        obtain ⟨t9, et9, h⟩ := lt_e h
        refine g_cuti et9 ?_
        refine g_istore (lv' := [(4, .int t9), (3, .int s6), (0, .ref 77), (1, .ref y1), (2, .int y2), (5, .int y5), (6, .int y6), (7, .int t5)]) dX6_consider_68 (by decide) rfl ?_
        refine g_iload dX6_consider_70 5 rfl ?_
        refine g_aload_n dX6_consider_72 rfl 2 rfl ?_
        refine m_getr (k := 0) okX6 rfl rfl (by decide) w_379 rfl dX6_consider_73 ?_
        refine g_iload dX6_consider_76 6 rfl ?_
        obtain ⟨v78_11, M78_10, eM78_10, h⟩ := bd_e h
        refine m_callNi (As := [.ref 78, .int y6]) (st := [.int y5]) (s_X9_at (d := d + 1) hA (al_of rfl) eM78_10) ck_X9_at (host := "StillYard") (List.mem_of_getElem? (i := 34) rfl) rfl (Nat.le_of_ble_eq_true rfl) dX6_consider_78 ?_
        refine g_iadd dX6_consider_81 ?_
        refine g_istore (lv' := [(5, .int (y5 + v78_11)), (4, .int t9), (3, .int s6), (0, .ref 77), (1, .ref y1), (2, .int y2), (6, .int y6), (7, .int t5)]) dX6_consider_82 (by decide) rfl ?_
        refine g_iinc (v := (y6 + (nI 1))) (lv' := [(6, .int (y6 + (nI 1))), (5, .int (y5 + v78_11)), (4, .int t9), (3, .int s6), (0, .ref 77), (1, .ref y1), (2, .int y2), (7, .int t5)]) dX6_consider_84 6 rfl rfl (by decide) rfl ?_
        refine g_goto (tgt := 11) dX6_consider_87 (by decide) ?_
        refine g_sub [4, 5, 6, 3, 2, 1, 0] (lv' := [(0, .ref 77), (1, .ref y1), (2, .int y2), (3, .int s6), (4, .int t9), (5, .int (y5 + v78_11)), (6, .int (y6 + (nI 1)))]) rfl ?_
        exact ih _ _ _ _  _ h
      refine g_if_ne (tgt := 54) dX6_consider_46 (by decide) (fun c12 => ?_) (fun c12 => ?_)
      · replace h := ite_n c12 h
        refine g_iload_n dX6_consider_54 rfl 4 rfl ?_
        refine g_iload dX6_consider_55 0 rfl ?_
        refine m_mmin (st := []) w_1135 w_927 w_86 w_928 (Nat.le_of_ble_eq_true rfl) dX6_consider_57 ?_
        refine g_sub [1, 2, 3, 5, 6, 7, 0] (lv' := [(0, .ref 77), (1, .ref y1), (2, .int y2), (4, .int y4), (5, .int y5), (6, .int y6), (7, .int t5)]) rfl ?_
        exact hj8 _ _ h
      · replace h := ite_p c12 h
        refine g_iload dX6_consider_49 0 rfl ?_
        refine g_goto (tgt := 60) dX6_consider_51 (by decide) ?_
        refine g_sub [1, 2, 3, 5, 6, 7, 0] (lv' := [(0, .ref 77), (1, .ref y1), (2, .int y2), (4, .int y4), (5, .int y5), (6, .int y6), (7, .int t5)]) rfl ?_
        exact hj8 _ _ h
set_option maxHeartbeats 4000000 in
set_option maxRecDepth 100000 in
theorem s_X6_consider {l : Launch} {B : BT} (hA : bA B = false) {d : Nat} {M' : Mm} {x1 : Nat} {x2 : Int32} {M : Mm} (hx1 : LY x1 = .inl (0, fk0)) (h : f_X6_consider x1 x2 M = some M') : Con l B LY (d + 2) yX6_consider cX6_consider 8 none 0 0 [.ref 77, .ref x1, .int x2] 97 M (PV M') := by
  refine con_of (by decide) (Nat.le_of_ble_eq_true rfl) ?_
  show GG l B LY (d + 2) yX6_consider cX6_consider 8 none 0 0 (PV M') 97 0 0 0 [(0, .ref 77), (1, .ref x1), (2, .int x2)] [] M
  rw [f_X6_consider] at h
  refine g_iconst (v := (nI 0)) dX6_consider_0 (by decide) ?_
  refine g_istore_n (lv' := [(3, .int (nI 0)), (0, .ref 77), (1, .ref x1), (2, .int x2)]) dX6_consider_1 rfl (by decide) rfl ?_
  refine g_iconst (v := (nI 0)) dX6_consider_2 (by decide) ?_
  refine g_istore (lv' := [(4, .int (nI 0)), (3, .int (nI 0)), (0, .ref 77), (1, .ref x1), (2, .int x2)]) dX6_consider_3 (by decide) rfl ?_
  refine g_iconst (v := (nI 0)) dX6_consider_5 (by decide) ?_
  refine g_istore (lv' := [(5, .int (nI 0)), (4, .int (nI 0)), (3, .int (nI 0)), (0, .ref 77), (1, .ref x1), (2, .int x2)]) dX6_consider_6 (by decide) rfl ?_
  refine g_iconst (v := (nI 0)) dX6_consider_8 (by decide) ?_
  refine g_istore (lv' := [(6, .int (nI 0)), (5, .int (nI 0)), (4, .int (nI 0)), (3, .int (nI 0)), (0, .ref 77), (1, .ref x1), (2, .int x2)]) dX6_consider_9 (by decide) rfl ?_
  refine g_sub [4, 5, 6, 3, 2, 1, 0] (lv' := [(0, .ref 77), (1, .ref x1), (2, .int x2), (3, .int (nI 0)), (4, .int (nI 0)), (5, .int (nI 0)), (6, .int (nI 0))]) rfl ?_
  refine sl_X6_consider_11 hA hx1 ?_ _ _ _ _ _ _ h
  · intro u14 u15 u16 M17 h
    refine g_iload dX6_consider_90 3 rfl ?_
    refine g_iload_n dX6_consider_92 rfl 2 rfl ?_
    refine g_isub dX6_consider_93 ?_
    refine g_istore (lv' := [(6, .int (u15 - u14)), (0, .ref 77), (2, .int x2), (3, .int u14), (4, .int u15), (5, .int u16)]) dX6_consider_94 (by decide) rfl ?_
    refine g_iload_n dX6_consider_96 rfl 2 rfl ?_
    obtain ⟨j19, ej19, h⟩ := jn_e h
    have hj19 : ∀ (M18 : Mm), j19 M18 = some M' → GG l B LY (d + 2) yX6_consider cX6_consider 8 none 0 0 (PV M') 97 0 0 127 [(0, .ref 77), (5, .int u16), (6, .int (u15 - u14))] [] M18 := by
      intro M18 h
      rw [ej19] at h
      refine g_aload_n dX6_consider_127 rfl 0 rfl ?_
      refine g_iload dX6_consider_128 2 rfl ?_
      refine m_puti (k := 2) okX6 rfl rfl (by decide) w_382 rfl rfl rfl dX6_consider_130 ?_
      refine g_aload_n dX6_consider_133 rfl 0 rfl ?_
      refine g_iload dX6_consider_134 1 rfl ?_
      refine m_puti (k := 3) okX6 rfl rfl (by decide) w_384 rfl rfl rfl dX6_consider_136 ?_
      refine g_aload_n dX6_consider_139 rfl 0 rfl ?_
      refine m_getr (k := 0) okX6 rfl rfl (by decide) w_379 rfl dX6_consider_140 ?_
      refine g_aload_n dX6_consider_143 rfl 0 rfl ?_
      refine m_getr (k := 1) okX6 rfl rfl (by decide) w_380 rfl dX6_consider_144 ?_
      obtain ⟨M147_20, eM147_20, h⟩ := bv_e h
      refine m_callNv (As := [.ref 78, .ref 79]) (st := []) (s_X9_copy (d := d + 0) hA (al_of rfl) (al_of rfl) eM147_20) ck_X9_copy (host := "StillYard") (List.mem_of_getElem? (i := 35) rfl) rfl (Nat.le_of_ble_eq_true rfl) dX6_consider_147 ?_
      exact g_vret rfl (pv_of h) dX6_consider_150
    refine g_if_ne (tgt := 127) dX6_consider_97 (by decide) (fun c25 => ?_) (fun c25 => ?_)
    · replace h := ite_n c25 h
      refine g_sub [1, 5, 0] (lv' := [(0, .ref 77), (5, .int u16), (6, .int (u15 - u14))]) rfl ?_
      exact hj19  _ h
    · replace h := ite_p c25 h
      refine g_iload dX6_consider_100 0 rfl ?_
      refine g_aload_n dX6_consider_102 rfl 1 rfl ?_
      refine m_geti (k := 2) okX6 rfl rfl (by decide) w_382 rfl dX6_consider_103 ?_
      refine g_icmp_lt (tgt := 127) dX6_consider_106 (by decide) (fun c24 => ?_) (fun c24 => ?_)
      · replace h := ite_p c24 h
        refine g_sub [1, 5, 0] (lv' := [(0, .ref 77), (5, .int u16), (6, .int (u15 - u14))]) rfl ?_
        exact hj19  _ h
      · replace h := ite_n c24 h
        refine g_iload dX6_consider_109 0 rfl ?_
        refine g_aload_n dX6_consider_111 rfl 1 rfl ?_
        refine m_geti (k := 2) okX6 rfl rfl (by decide) w_382 rfl dX6_consider_112 ?_
        refine g_icmp_ne (tgt := 150) dX6_consider_115 (by decide) (fun c23 => ?_) (fun c23 => ?_)
        · replace h := ite_n c23 h
          exact g_vret rfl (pv_of h) dX6_consider_150
        · replace h := ite_p c23 h
          refine g_iload dX6_consider_118 5 rfl ?_
          refine g_aload_n dX6_consider_120 rfl 1 rfl ?_
          refine m_geti (k := 3) okX6 rfl rfl (by decide) w_384 rfl dX6_consider_121 ?_
          refine g_icmp_ge (tgt := 150) dX6_consider_124 (by decide) (fun c22 => ?_) (fun c22 => ?_)
          · replace h := ite_p c22 h
            exact g_vret rfl (pv_of h) dX6_consider_150
          · replace h := ite_n c22 h
            refine g_sub [1, 5, 0] (lv' := [(0, .ref 77), (5, .int u16), (6, .int (u15 - u14))]) rfl ?_
            exact hj19  _ h
theorem ck_X6_consider : CKV yX6_consider cX6_consider 8 none 2 := ⟨⟨by decide, by decide, by decide +kernel⟩, w_1146, w_79, ⟨w_1144, w_1145⟩, by decide⟩
theorem dX6_find_0 : decode cX6_find 0 = .ok (.bipush 8, 2) := by decide +kernel
theorem dX6_find_2 : decode cX6_find 2 = .ok (.aload_n 1, 1) := by decide +kernel
theorem dX6_find_3 : decode cX6_find 3 = .ok (.getfield 18, 3) := by decide +kernel
theorem dX6_find_6 : decode cX6_find 6 = .ok (.invokestatic 24, 3) := by decide +kernel
theorem dX6_find_9 : decode cX6_find 9 = .ok (.istore_n 2, 1) := by decide +kernel
theorem dX6_find_10 : decode cX6_find 10 = .ok (.iconst 1, 1) := by decide +kernel
theorem dX6_find_11 : decode cX6_find 11 = .ok (.istore_n 3, 1) := by decide +kernel
theorem dX6_find_12 : decode cX6_find 12 = .ok (.iconst 0, 1) := by decide +kernel
theorem dX6_find_13 : decode cX6_find 13 = .ok (.istore 4, 2) := by decide +kernel
theorem dX6_find_15 : decode cX6_find 15 = .ok (.iload 4, 2) := by decide +kernel
theorem dX6_find_17 : decode cX6_find 17 = .ok (.aload_n 1, 1) := by decide +kernel
theorem dX6_find_18 : decode cX6_find 18 = .ok (.getfield 30, 3) := by decide +kernel
theorem dX6_find_21 : decode cX6_find 21 = .ok (.if_icmp .ge 13, 3) := by decide +kernel
theorem dX6_find_24 : decode cX6_find 24 = .ok (.iload_n 3, 1) := by decide +kernel
theorem dX6_find_25 : decode cX6_find 25 = .ok (.iload_n 2, 1) := by decide +kernel
theorem dX6_find_26 : decode cX6_find 26 = .ok (.imul, 1) := by decide +kernel
theorem dX6_find_27 : decode cX6_find 27 = .ok (.istore_n 3, 1) := by decide +kernel
theorem dX6_find_28 : decode cX6_find 28 = .ok (.iinc 4 1, 3) := by decide +kernel
theorem dX6_find_31 : decode cX6_find 31 = .ok (.goto (-16), 3) := by decide +kernel
theorem dX6_find_34 : decode cX6_find 34 = .ok (.iconst 0, 1) := by decide +kernel
theorem dX6_find_35 : decode cX6_find 35 = .ok (.istore 4, 2) := by decide +kernel
theorem dX6_find_37 : decode cX6_find 37 = .ok (.iload 4, 2) := by decide +kernel
theorem dX6_find_39 : decode cX6_find 39 = .ok (.iload_n 3, 1) := by decide +kernel
theorem dX6_find_40 : decode cX6_find 40 = .ok (.if_icmp .ge 32, 3) := by decide +kernel
theorem dX6_find_43 : decode cX6_find 43 = .ok (.aload_n 0, 1) := by decide +kernel
theorem dX6_find_44 : decode cX6_find 44 = .ok (.aload_n 1, 1) := by decide +kernel
theorem dX6_find_45 : decode cX6_find 45 = .ok (.iload 4, 2) := by decide +kernel
theorem dX6_find_47 : decode cX6_find 47 = .ok (.iload_n 2, 1) := by decide +kernel
theorem dX6_find_48 : decode cX6_find 48 = .ok (.invokevirtual 33, 3) := by decide +kernel
theorem dX6_find_51 : decode cX6_find 51 = .ok (.aload_n 0, 1) := by decide +kernel
theorem dX6_find_52 : decode cX6_find 52 = .ok (.aload_n 1, 1) := by decide +kernel
theorem dX6_find_53 : decode cX6_find 53 = .ok (.iload 4, 2) := by decide +kernel
theorem dX6_find_55 : decode cX6_find 55 = .ok (.ifCond .ne 7, 3) := by decide +kernel
theorem dX6_find_58 : decode cX6_find 58 = .ok (.iconst 1, 1) := by decide +kernel
theorem dX6_find_59 : decode cX6_find 59 = .ok (.goto 4, 3) := by decide +kernel
theorem dX6_find_62 : decode cX6_find 62 = .ok (.iconst 0, 1) := by decide +kernel
theorem dX6_find_63 : decode cX6_find 63 = .ok (.invokevirtual 37, 3) := by decide +kernel
theorem dX6_find_66 : decode cX6_find 66 = .ok (.iinc 4 1, 3) := by decide +kernel
theorem dX6_find_69 : decode cX6_find 69 = .ok (.goto (-32), 3) := by decide +kernel
theorem dX6_find_72 : decode cX6_find 72 = .ok (.return_, 1) := by decide +kernel
def lp_X6_find_15 (y1 : Nat) (y2 : Int32) (k34 : Int32 → Mm → Option (Mm)) : Nat → Int32 → Int32 → Mm → Option (Mm)
  | 0, _, _, _ => none
  | n + 1, y3, y4, M =>
    if (M y1 14) ≤ y4 then (k34 y3 M) else (lp_X6_find_15 y1 y2 k34 n (y3 * y2) (y4 + (nI 1)) M)
def lp_X6_find_37 (y1 : Nat) (y2 : Int32) (y3 : Int32)  : Nat → Int32 → Mm → Option (Mm)
  | 0, _, _ => none
  | n + 1, y4, M =>
    if y3 ≤ y4 then (some M) else (bv (f_X6_unfold y1 y4 y2 M) fun M48_5 => jn (fun (s7 : Int32) (M8 : Mm) => bv (f_X6_consider y1 s7 M8) fun M63_10 => lp_X6_find_37 y1 y2 y3 n (y4 + (nI 1)) M63_10) fun j9 => if y4 = 0 then (j9 (nI 1) M48_5) else (j9 (nI 0) M48_5))
def f_X6_find (x1 : Nat) (M : Mm) : Option (Mm) :=
  lt ((if (M x1 6) < (nI 8) then (M x1 6) else (nI 8))) fun t1 => lp_X6_find_15 x1 t1 (fun (u3 : Int32) (M4 : Mm) => lp_X6_find_37 x1 t1 u3  N0 (nI 0) M4) N0 (nI 1) (nI 0) M
set_option maxHeartbeats 4000000 in
set_option maxRecDepth 100000 in
theorem sl_X6_find_15 {l : Launch} {B : BT} (hA : bA B = false) {d : Nat} {M' : Mm} {y1 : Nat} {y2 : Int32} (hy1 : LY y1 = .inl (0, fk0)) {k34 : Int32 → Mm → Option (Mm)} (hk34 : ∀ (z3 : Int32) (M9 : Mm), k34 z3 M9 = some M' → GG l B LY (d + 3) yX6_find cX6_find 5 none 0 0 (PV M') 97 0 0 34 [(0, .ref 77), (1, .ref y1), (2, .int y2), (3, .int z3)] [] M9) :
    ∀ (n : Nat) (y3 : Int32) (y4 : Int32) (M : Mm), lp_X6_find_15 y1 y2 k34 n y3 y4 M = some M' → GG l B LY (d + 3) yX6_find cX6_find 5 none 0 0 (PV M') 97 0 0 15 [(0, .ref 77), (1, .ref y1), (2, .int y2), (3, .int y3), (4, .int y4)] [] M := by
  intro n
  induction n with
  | zero => intro y3 y4 M h; cases h
  | succ n ih =>
    intro y3 y4 M h
    rw [lp_X6_find_15] at h
    refine g_iload dX6_find_15 4 rfl ?_
    refine g_aload_n dX6_find_17 rfl 1 rfl ?_
    refine m_geti (k := 14) okX0 hy1 rfl (by decide) w_149 rfl dX6_find_18 ?_
    refine g_icmp_ge (tgt := 34) dX6_find_21 (by decide) (fun c2 => ?_) (fun c2 => ?_)
    · replace h := ite_p c2 h
      refine g_sub [0, 1, 2, 3] (lv' := [(0, .ref 77), (1, .ref y1), (2, .int y2), (3, .int y3)]) rfl ?_
      exact hk34 _ _ h
    · replace h := ite_n c2 h
      refine g_iload_n dX6_find_24 rfl 3 rfl ?_
      refine g_iload_n dX6_find_25 rfl 2 rfl ?_
      refine g_imul dX6_find_26 ?_
      refine g_istore_n (lv' := [(3, .int (y3 * y2)), (0, .ref 77), (1, .ref y1), (2, .int y2), (4, .int y4)]) dX6_find_27 rfl (by decide) rfl ?_
      refine g_iinc (v := (y4 + (nI 1))) (lv' := [(4, .int (y4 + (nI 1))), (3, .int (y3 * y2)), (0, .ref 77), (1, .ref y1), (2, .int y2)]) dX6_find_28 4 rfl rfl (by decide) rfl ?_
      refine g_goto (tgt := 15) dX6_find_31 (by decide) ?_
      refine g_sub [2, 3, 4, 1, 0] (lv' := [(0, .ref 77), (1, .ref y1), (2, .int y2), (3, .int (y3 * y2)), (4, .int (y4 + (nI 1)))]) rfl ?_
      exact ih _ _  _ h
set_option maxHeartbeats 4000000 in
set_option maxRecDepth 100000 in
theorem sl_X6_find_37 {l : Launch} {B : BT} (hA : bA B = false) {d : Nat} {M' : Mm} {y1 : Nat} {y2 : Int32} {y3 : Int32} (hy1 : LY y1 = .inl (0, fk0))   :
    ∀ (n : Nat) (y4 : Int32) (M : Mm), lp_X6_find_37 y1 y2 y3 n y4 M = some M' → GG l B LY (d + 3) yX6_find cX6_find 5 none 0 0 (PV M') 97 0 0 37 [(0, .ref 77), (1, .ref y1), (2, .int y2), (3, .int y3), (4, .int y4)] [] M := by
  intro n
  induction n with
  | zero => intro y4 M h; cases h
  | succ n ih =>
    intro y4 M h
    rw [lp_X6_find_37] at h
    refine g_iload dX6_find_37 4 rfl ?_
    refine g_iload_n dX6_find_39 rfl 3 rfl ?_
    refine g_icmp_ge (tgt := 72) dX6_find_40 (by decide) (fun c13 => ?_) (fun c13 => ?_)
    · replace h := ite_p c13 h
      exact g_vret rfl (pv_of h) dX6_find_72
    · replace h := ite_n c13 h
      refine g_aload_n dX6_find_43 rfl 0 rfl ?_
      refine g_aload_n dX6_find_44 rfl 1 rfl ?_
      refine g_iload dX6_find_45 4 rfl ?_
      refine g_iload_n dX6_find_47 rfl 2 rfl ?_
      obtain ⟨M48_5, eM48_5, h⟩ := bv_e h
      refine m_callVv (As := [.ref y1, .int y4, .int y2]) (st := []) (s_X6_unfold (d := d + 1) hA hy1 eM48_5) rfl okX6 ck_X6_unfold w_1136 rfl (Nat.le_of_ble_eq_true rfl) dX6_find_48 ?_
      refine g_aload_n dX6_find_51 rfl 0 rfl ?_
      refine g_aload_n dX6_find_52 rfl 1 rfl ?_
      refine g_iload dX6_find_53 4 rfl ?_
      obtain ⟨j9, ej9, h⟩ := jn_e h
      have hj9 : ∀ (s7 : Int32) (M8 : Mm), j9 s7 M8 = some M' → GG l B LY (d + 3) yX6_find cX6_find 5 none 0 0 (PV M') 97 0 0 63 [(0, .ref 77), (1, .ref y1), (2, .int y2), (3, .int y3), (4, .int y4)] [.int s7, .ref y1, .ref 77] M8 := by
        intro s7 M8 h
        rw [ej9] at h
        obtain ⟨M63_10, eM63_10, h⟩ := bv_e h
        refine m_callVv (As := [.ref y1, .int s7]) (st := []) (s_X6_consider (d := d + 0) hA hy1 eM63_10) rfl okX6 ck_X6_consider w_1143 rfl (Nat.le_of_ble_eq_true rfl) dX6_find_63 ?_
        refine g_iinc (v := (y4 + (nI 1))) (lv' := [(4, .int (y4 + (nI 1))), (0, .ref 77), (1, .ref y1), (2, .int y2), (3, .int y3)]) dX6_find_66 4 rfl rfl (by decide) rfl ?_
        refine g_goto (tgt := 37) dX6_find_69 (by decide) ?_
        refine g_sub [1, 2, 3, 4, 0] (lv' := [(0, .ref 77), (1, .ref y1), (2, .int y2), (3, .int y3), (4, .int (y4 + (nI 1)))]) rfl ?_
        exact ih _  _ h
      refine g_if_ne (tgt := 62) dX6_find_55 (by decide) (fun c12 => ?_) (fun c12 => ?_)
      · replace h := ite_n c12 h
        refine g_iconst (v := (nI 0)) dX6_find_62 (by decide) ?_
        refine g_sub [0, 1, 2, 3, 4] (lv' := [(0, .ref 77), (1, .ref y1), (2, .int y2), (3, .int y3), (4, .int y4)]) rfl ?_
        exact hj9 _ _ h
      · replace h := ite_p c12 h
        refine g_iconst (v := (nI 1)) dX6_find_58 (by decide) ?_
        refine g_goto (tgt := 63) dX6_find_59 (by decide) ?_
        refine g_sub [0, 1, 2, 3, 4] (lv' := [(0, .ref 77), (1, .ref y1), (2, .int y2), (3, .int y3), (4, .int y4)]) rfl ?_
        exact hj9 _ _ h
set_option maxHeartbeats 4000000 in
set_option maxRecDepth 100000 in
theorem s_X6_find {l : Launch} {B : BT} (hA : bA B = false) {d : Nat} {M' : Mm} {x1 : Nat} {M : Mm} (hx1 : LY x1 = .inl (0, fk0)) (h : f_X6_find x1 M = some M') : Con l B LY (d + 3) yX6_find cX6_find 5 none 0 0 [.ref 77, .ref x1] 97 M (PV M') := by
  refine con_of (by decide) (Nat.le_of_ble_eq_true rfl) ?_
  show GG l B LY (d + 3) yX6_find cX6_find 5 none 0 0 (PV M') 97 0 0 0 [(0, .ref 77), (1, .ref x1)] [] M
  rw [f_X6_find] at h
  refine g_bipush (v := (nI 8)) dX6_find_0 (by decide) ?_
  refine g_aload_n dX6_find_2 rfl 1 rfl ?_
  refine m_geti (k := 6) okX0 hx1 rfl (by decide) w_120 rfl dX6_find_3 ?_
  refine m_mmin (st := []) w_1135 w_927 w_86 w_928 (Nat.le_of_ble_eq_true rfl) dX6_find_6 ?_
  obtain ⟨t1, et1, h⟩ := lt_e h
  refine g_cuti et1 ?_
  refine g_istore_n (lv' := [(2, .int t1), (0, .ref 77), (1, .ref x1)]) dX6_find_9 rfl (by decide) rfl ?_
  refine g_iconst (v := (nI 1)) dX6_find_10 (by decide) ?_
  refine g_istore_n (lv' := [(3, .int (nI 1)), (2, .int t1), (0, .ref 77), (1, .ref x1)]) dX6_find_11 rfl (by decide) rfl ?_
  refine g_iconst (v := (nI 0)) dX6_find_12 (by decide) ?_
  refine g_istore (lv' := [(4, .int (nI 0)), (3, .int (nI 1)), (2, .int t1), (0, .ref 77), (1, .ref x1)]) dX6_find_13 (by decide) rfl ?_
  refine g_sub [3, 4, 2, 1, 0] (lv' := [(0, .ref 77), (1, .ref x1), (2, .int t1), (3, .int (nI 1)), (4, .int (nI 0))]) rfl ?_
  refine sl_X6_find_15 hA hx1 ?_ _ _ _ _ h
  · intro u3 M4 h
    refine g_iconst (v := (nI 0)) dX6_find_34 (by decide) ?_
    refine g_istore (lv' := [(4, .int (nI 0)), (0, .ref 77), (1, .ref x1), (2, .int t1), (3, .int u3)]) dX6_find_35 (by decide) rfl ?_
    refine g_sub [1, 2, 3, 4, 0] (lv' := [(0, .ref 77), (1, .ref x1), (2, .int t1), (3, .int u3), (4, .int (nI 0))]) rfl ?_
    refine sl_X6_find_37 hA hx1  _ _ _ h
theorem ck_X6_find : CKV yX6_find cX6_find 5 none 1 := ⟨⟨by decide, by decide, by decide +kernel⟩, w_1134, w_79, ⟨w_1132, w_1133⟩, by decide⟩
theorem dX7_creepersBefore_0 : decode cX7_creepersBefore 0 = .ok (.iconst 0, 1) := by decide +kernel
theorem dX7_creepersBefore_1 : decode cX7_creepersBefore 1 = .ok (.istore 4, 2) := by decide +kernel
theorem dX7_creepersBefore_3 : decode cX7_creepersBefore 3 = .ok (.iconst 0, 1) := by decide +kernel
theorem dX7_creepersBefore_4 : decode cX7_creepersBefore 4 = .ok (.istore 5, 2) := by decide +kernel
theorem dX7_creepersBefore_6 : decode cX7_creepersBefore 6 = .ok (.iload 5, 2) := by decide +kernel
theorem dX7_creepersBefore_8 : decode cX7_creepersBefore 8 = .ok (.aload_n 0, 1) := by decide +kernel
theorem dX7_creepersBefore_9 : decode cX7_creepersBefore 9 = .ok (.getfield 41, 3) := by decide +kernel
theorem dX7_creepersBefore_12 : decode cX7_creepersBefore 12 = .ok (.if_icmp .ge 36, 3) := by decide +kernel
theorem dX7_creepersBefore_15 : decode cX7_creepersBefore 15 = .ok (.aload_n 0, 1) := by decide +kernel
theorem dX7_creepersBefore_16 : decode cX7_creepersBefore 16 = .ok (.iload 5, 2) := by decide +kernel
theorem dX7_creepersBefore_18 : decode cX7_creepersBefore 18 = .ok (.iconst 0, 1) := by decide +kernel
theorem dX7_creepersBefore_19 : decode cX7_creepersBefore 19 = .ok (.invokevirtual 44, 3) := by decide +kernel
theorem dX7_creepersBefore_22 : decode cX7_creepersBefore 22 = .ok (.iload_n 2, 1) := by decide +kernel
theorem dX7_creepersBefore_23 : decode cX7_creepersBefore 23 = .ok (.if_icmp .ne 19, 3) := by decide +kernel
theorem dX7_creepersBefore_26 : decode cX7_creepersBefore 26 = .ok (.aload_n 1, 1) := by decide +kernel
theorem dX7_creepersBefore_27 : decode cX7_creepersBefore 27 = .ok (.getfield 47, 3) := by decide +kernel
theorem dX7_creepersBefore_30 : decode cX7_creepersBefore 30 = .ok (.iload 5, 2) := by decide +kernel
theorem dX7_creepersBefore_32 : decode cX7_creepersBefore 32 = .ok (.invokestatic 53, 3) := by decide +kernel
theorem dX7_creepersBefore_35 : decode cX7_creepersBefore 35 = .ok (.iload_n 3, 1) := by decide +kernel
theorem dX7_creepersBefore_36 : decode cX7_creepersBefore 36 = .ok (.if_icmp .ge 6, 3) := by decide +kernel
theorem dX7_creepersBefore_39 : decode cX7_creepersBefore 39 = .ok (.iinc 4 1, 3) := by decide +kernel
theorem dX7_creepersBefore_42 : decode cX7_creepersBefore 42 = .ok (.iinc 5 1, 3) := by decide +kernel
theorem dX7_creepersBefore_45 : decode cX7_creepersBefore 45 = .ok (.goto (-39), 3) := by decide +kernel
theorem dX7_creepersBefore_48 : decode cX7_creepersBefore 48 = .ok (.iload 4, 2) := by decide +kernel
theorem dX7_creepersBefore_50 : decode cX7_creepersBefore 50 = .ok (.ireturn, 1) := by decide +kernel
def lp_X7_creepersBefore_6 (y0 : Nat) (y1 : Nat) (y2 : Int32) (y3 : Int32)  : Nat → Int32 → Int32 → Mm → Option (Int32 × Mm)
  | 0, _, _, _ => none
  | n + 1, y4, y5, M =>
    if (M y0 14) ≤ y5 then (some (y4, M)) else (bd (f_X0_trait y0 y5 (nI 0) M) fun v19_2 M19_1 => jn (fun (u3 : Int32) (M4 : Mm) => lp_X7_creepersBefore_6 y0 y1 y2 y3 n u3 (y5 + (nI 1)) M4) fun j5 => if v19_2 = y2 then (bd (f_X9_at (y1 + 1) y5 M19_1) fun v32_7 M32_6 => if y3 ≤ v32_7 then (j5 y4 M32_6) else (j5 (y4 + (nI 1)) M32_6)) else (j5 y4 M19_1))
def f_X7_creepersBefore (x0 : Nat) (x1 : Nat) (x2 : Int32) (x3 : Int32) (M : Mm) : Option (Int32 × Mm) :=
  lp_X7_creepersBefore_6 x0 x1 x2 x3  N0 (nI 0) (nI 0) M
set_option maxHeartbeats 4000000 in
set_option maxRecDepth 100000 in
theorem sl_X7_creepersBefore_6 {l : Launch} {B : BT} (hA : bA B = false) {d : Nat} {r : Int32} {M' : Mm} {y0 : Nat} {y1 : Nat} {y2 : Int32} {y3 : Int32} (hy0 : LY y0 = .inl (0, fk0)) (hy1 : LY y1 = .inl (3, fk3))   :
    ∀ (n : Nat) (y4 : Int32) (y5 : Int32) (M : Mm), lp_X7_creepersBefore_6 y0 y1 y2 y3 n y4 y5 M = some (r, M') → GG l B LY (d + 1) yX7_creepersBefore cX7_creepersBefore 6 (some .int) 0 0 (PI r M') 97 0 0 6 [(0, .ref y0), (1, .ref y1), (2, .int y2), (3, .int y3), (4, .int y4), (5, .int y5)] [] M := by
  intro n
  induction n with
  | zero => intro y4 y5 M h; cases h
  | succ n ih =>
    intro y4 y5 M h
    rw [lp_X7_creepersBefore_6] at h
    refine g_iload dX7_creepersBefore_6 5 rfl ?_
    refine g_aload_n dX7_creepersBefore_8 rfl 0 rfl ?_
    refine m_geti (k := 14) okX0 hy0 rfl (by decide) w_153 rfl dX7_creepersBefore_9 ?_
    refine g_icmp_ge (tgt := 48) dX7_creepersBefore_12 (by decide) (fun c10 => ?_) (fun c10 => ?_)
    · replace h := ite_p c10 h
      refine g_iload dX7_creepersBefore_48 4 rfl ?_
      exact g_zret rfl rfl (pi_of h) dX7_creepersBefore_50
    · replace h := ite_n c10 h
      refine g_aload_n dX7_creepersBefore_15 rfl 0 rfl ?_
      refine g_iload dX7_creepersBefore_16 5 rfl ?_
      refine g_iconst (v := (nI 0)) dX7_creepersBefore_18 (by decide) ?_
      obtain ⟨v19_2, M19_1, eM19_1, h⟩ := bd_e h
      refine m_callVi (As := [.int y5, .int (nI 0)]) (st := []) (s_X0_trait (d := d + 0) hA hy0 eM19_1) hy0 okX0 ck_X0_trait w_1170 rfl (Nat.le_of_ble_eq_true rfl) dX7_creepersBefore_19 ?_
      refine g_iload_n dX7_creepersBefore_22 rfl 2 rfl ?_
      obtain ⟨j5, ej5, h⟩ := jn_e h
      have hj5 : ∀ (u3 : Int32) (M4 : Mm), j5 u3 M4 = some (r, M') → GG l B LY (d + 1) yX7_creepersBefore cX7_creepersBefore 6 (some .int) 0 0 (PI r M') 97 0 0 42 [(0, .ref y0), (1, .ref y1), (2, .int y2), (3, .int y3), (4, .int u3), (5, .int y5)] [] M4 := by
        intro u3 M4 h
        rw [ej5] at h
        refine g_iinc (v := (y5 + (nI 1))) (lv' := [(5, .int (y5 + (nI 1))), (0, .ref y0), (1, .ref y1), (2, .int y2), (3, .int y3), (4, .int u3)]) dX7_creepersBefore_42 5 rfl rfl (by decide) rfl ?_
        refine g_goto (tgt := 6) dX7_creepersBefore_45 (by decide) ?_
        refine g_sub [1, 2, 3, 4, 5, 0] (lv' := [(0, .ref y0), (1, .ref y1), (2, .int y2), (3, .int y3), (4, .int u3), (5, .int (y5 + (nI 1)))]) rfl ?_
        exact ih _ _  _ h
      refine g_icmp_ne (tgt := 42) dX7_creepersBefore_23 (by decide) (fun c9 => ?_) (fun c9 => ?_)
      · replace h := ite_n c9 h
        refine g_sub [0, 1, 2, 3, 4, 5] (lv' := [(0, .ref y0), (1, .ref y1), (2, .int y2), (3, .int y3), (4, .int y4), (5, .int y5)]) rfl ?_
        exact hj5 _ _ h
      · replace h := ite_p c9 h
        refine g_aload_n dX7_creepersBefore_26 rfl 1 rfl ?_
        refine m_getr (k := 0) okX3 hy1 rfl (by decide) w_260 rfl dX7_creepersBefore_27 ?_
        refine g_iload dX7_creepersBefore_30 5 rfl ?_
        obtain ⟨v32_7, M32_6, eM32_6, h⟩ := bd_e h
        refine m_callNi (As := [.ref (y1 + 1), .int y5]) (st := []) (s_X9_at (d := d + 0) hA (al_of (aX3_1 hy1)) eM32_6) ck_X9_at (host := "StillYard") (List.mem_of_getElem? (i := 36) rfl) rfl (Nat.le_of_ble_eq_true rfl) dX7_creepersBefore_32 ?_
        refine g_iload_n dX7_creepersBefore_35 rfl 3 rfl ?_
        refine g_icmp_ge (tgt := 42) dX7_creepersBefore_36 (by decide) (fun c8 => ?_) (fun c8 => ?_)
        · replace h := ite_p c8 h
          refine g_sub [0, 1, 2, 3, 4, 5] (lv' := [(0, .ref y0), (1, .ref y1), (2, .int y2), (3, .int y3), (4, .int y4), (5, .int y5)]) rfl ?_
          exact hj5 _ _ h
        · replace h := ite_n c8 h
          refine g_iinc (v := (y4 + (nI 1))) (lv' := [(4, .int (y4 + (nI 1))), (0, .ref y0), (1, .ref y1), (2, .int y2), (3, .int y3), (5, .int y5)]) dX7_creepersBefore_39 4 rfl rfl (by decide) rfl ?_
          refine g_sub [1, 2, 3, 4, 0, 5] (lv' := [(0, .ref y0), (1, .ref y1), (2, .int y2), (3, .int y3), (4, .int (y4 + (nI 1))), (5, .int y5)]) rfl ?_
          exact hj5 _ _ h
set_option maxHeartbeats 4000000 in
set_option maxRecDepth 100000 in
theorem s_X7_creepersBefore {l : Launch} {B : BT} (hA : bA B = false) {d : Nat} {r : Int32} {M' : Mm} {x0 : Nat} {x1 : Nat} {x2 : Int32} {x3 : Int32} {M : Mm} (hx0 : LY x0 = .inl (0, fk0)) (hx1 : LY x1 = .inl (3, fk3)) (h : f_X7_creepersBefore x0 x1 x2 x3 M = some (r, M')) : Con l B LY (d + 1) yX7_creepersBefore cX7_creepersBefore 6 (some .int) 0 0 [.ref x0, .ref x1, .int x2, .int x3] 97 M (PI r M') := by
  refine con_of (by decide) (Nat.le_of_ble_eq_true rfl) ?_
  show GG l B LY (d + 1) yX7_creepersBefore cX7_creepersBefore 6 (some .int) 0 0 (PI r M') 97 0 0 0 [(0, .ref x0), (1, .ref x1), (2, .int x2), (3, .int x3)] [] M
  rw [f_X7_creepersBefore] at h
  refine g_iconst (v := (nI 0)) dX7_creepersBefore_0 (by decide) ?_
  refine g_istore (lv' := [(4, .int (nI 0)), (0, .ref x0), (1, .ref x1), (2, .int x2), (3, .int x3)]) dX7_creepersBefore_1 (by decide) rfl ?_
  refine g_iconst (v := (nI 0)) dX7_creepersBefore_3 (by decide) ?_
  refine g_istore (lv' := [(5, .int (nI 0)), (4, .int (nI 0)), (0, .ref x0), (1, .ref x1), (2, .int x2), (3, .int x3)]) dX7_creepersBefore_4 (by decide) rfl ?_
  refine g_sub [2, 3, 4, 5, 1, 0] (lv' := [(0, .ref x0), (1, .ref x1), (2, .int x2), (3, .int x3), (4, .int (nI 0)), (5, .int (nI 0))]) rfl ?_
  refine sl_X7_creepersBefore_6 hA hx0 hx1  _ _ _ _ h
theorem ck_X7_creepersBefore : CKS yX7_creepersBefore cX7_creepersBefore 6 (some .int) 4 := ⟨⟨by decide, by decide, by decide +kernel⟩, w_1169, w_80, w_1168, by decide⟩
theorem dX7_stepsOnto_0 : decode cX7_stepsOnto 0 = .ok (.iconst 0, 1) := by decide +kernel
theorem dX7_stepsOnto_1 : decode cX7_stepsOnto 1 = .ok (.istore 5, 2) := by decide +kernel
theorem dX7_stepsOnto_3 : decode cX7_stepsOnto 3 = .ok (.iload_n 3, 1) := by decide +kernel
theorem dX7_stepsOnto_4 : decode cX7_stepsOnto 4 = .ok (.istore 6, 2) := by decide +kernel
theorem dX7_stepsOnto_6 : decode cX7_stepsOnto 6 = .ok (.iload 6, 2) := by decide +kernel
theorem dX7_stepsOnto_8 : decode cX7_stepsOnto 8 = .ok (.iload_n 3, 1) := by decide +kernel
theorem dX7_stepsOnto_9 : decode cX7_stepsOnto 9 = .ok (.iload 4, 2) := by decide +kernel
theorem dX7_stepsOnto_11 : decode cX7_stepsOnto 11 = .ok (.iadd, 1) := by decide +kernel
theorem dX7_stepsOnto_12 : decode cX7_stepsOnto 12 = .ok (.if_icmp .ge 32, 3) := by decide +kernel
theorem dX7_stepsOnto_15 : decode cX7_stepsOnto 15 = .ok (.aload_n 0, 1) := by decide +kernel
theorem dX7_stepsOnto_16 : decode cX7_stepsOnto 16 = .ok (.iload_n 2, 1) := by decide +kernel
theorem dX7_stepsOnto_17 : decode cX7_stepsOnto 17 = .ok (.iload 6, 2) := by decide +kernel
theorem dX7_stepsOnto_19 : decode cX7_stepsOnto 19 = .ok (.invokevirtual 33, 3) := by decide +kernel
theorem dX7_stepsOnto_22 : decode cX7_stepsOnto 22 = .ok (.ifCond .ne 16, 3) := by decide +kernel
theorem dX7_stepsOnto_25 : decode cX7_stepsOnto 25 = .ok (.iload 5, 2) := by decide +kernel
theorem dX7_stepsOnto_27 : decode cX7_stepsOnto 27 = .ok (.aload_n 0, 1) := by decide +kernel
theorem dX7_stepsOnto_28 : decode cX7_stepsOnto 28 = .ok (.aload_n 1, 1) := by decide +kernel
theorem dX7_stepsOnto_29 : decode cX7_stepsOnto 29 = .ok (.iload_n 2, 1) := by decide +kernel
theorem dX7_stepsOnto_30 : decode cX7_stepsOnto 30 = .ok (.iload 6, 2) := by decide +kernel
theorem dX7_stepsOnto_32 : decode cX7_stepsOnto 32 = .ok (.invokestatic 37, 3) := by decide +kernel
theorem dX7_stepsOnto_35 : decode cX7_stepsOnto 35 = .ok (.iadd, 1) := by decide +kernel
theorem dX7_stepsOnto_36 : decode cX7_stepsOnto 36 = .ok (.istore 5, 2) := by decide +kernel
theorem dX7_stepsOnto_38 : decode cX7_stepsOnto 38 = .ok (.iinc 6 1, 3) := by decide +kernel
theorem dX7_stepsOnto_41 : decode cX7_stepsOnto 41 = .ok (.goto (-35), 3) := by decide +kernel
theorem dX7_stepsOnto_44 : decode cX7_stepsOnto 44 = .ok (.iload 5, 2) := by decide +kernel
theorem dX7_stepsOnto_46 : decode cX7_stepsOnto 46 = .ok (.ireturn, 1) := by decide +kernel
def lp_X7_stepsOnto_6 (y0 : Nat) (y1 : Nat) (y2 : Int32) (y3 : Int32) (y4 : Int32)  : Nat → Int32 → Int32 → Mm → Option (Int32 × Mm)
  | 0, _, _, _ => none
  | n + 1, y5, y6, M =>
    if (y3 + y4) ≤ y6 then (some (y5, M)) else (bd (f_X0_loudnessOf y0 y2 y6 M) fun v19_2 M19_1 => jn (fun (u3 : Int32) (M4 : Mm) => lp_X7_stepsOnto_6 y0 y1 y2 y3 y4 n u3 (y6 + (nI 1)) M4) fun j5 => if v19_2 = 0 then (bd (f_X7_creepersBefore y0 y1 y2 y6 M19_1) fun v32_7 M32_6 => j5 (y5 + v32_7) M32_6) else (j5 y5 M19_1))
def f_X7_stepsOnto (x0 : Nat) (x1 : Nat) (x2 : Int32) (x3 : Int32) (x4 : Int32) (M : Mm) : Option (Int32 × Mm) :=
  lp_X7_stepsOnto_6 x0 x1 x2 x3 x4  N0 (nI 0) x3 M
set_option maxHeartbeats 4000000 in
set_option maxRecDepth 100000 in
theorem sl_X7_stepsOnto_6 {l : Launch} {B : BT} (hA : bA B = false) {d : Nat} {r : Int32} {M' : Mm} {y0 : Nat} {y1 : Nat} {y2 : Int32} {y3 : Int32} {y4 : Int32} (hy0 : LY y0 = .inl (0, fk0)) (hy1 : LY y1 = .inl (3, fk3))   :
    ∀ (n : Nat) (y5 : Int32) (y6 : Int32) (M : Mm), lp_X7_stepsOnto_6 y0 y1 y2 y3 y4 n y5 y6 M = some (r, M') → GG l B LY (d + 2) yX7_stepsOnto cX7_stepsOnto 7 (some .int) 0 0 (PI r M') 97 0 0 6 [(0, .ref y0), (1, .ref y1), (2, .int y2), (3, .int y3), (4, .int y4), (5, .int y5), (6, .int y6)] [] M := by
  intro n
  induction n with
  | zero => intro y5 y6 M h; cases h
  | succ n ih =>
    intro y5 y6 M h
    rw [lp_X7_stepsOnto_6] at h
    refine g_iload dX7_stepsOnto_6 6 rfl ?_
    refine g_iload_n dX7_stepsOnto_8 rfl 3 rfl ?_
    refine g_iload dX7_stepsOnto_9 4 rfl ?_
    refine g_iadd dX7_stepsOnto_11 ?_
    refine g_icmp_ge (tgt := 44) dX7_stepsOnto_12 (by decide) (fun c9 => ?_) (fun c9 => ?_)
    · replace h := ite_p c9 h
      refine g_iload dX7_stepsOnto_44 5 rfl ?_
      exact g_zret rfl rfl (pi_of h) dX7_stepsOnto_46
    · replace h := ite_n c9 h
      refine g_aload_n dX7_stepsOnto_15 rfl 0 rfl ?_
      refine g_iload_n dX7_stepsOnto_16 rfl 2 rfl ?_
      refine g_iload dX7_stepsOnto_17 6 rfl ?_
      obtain ⟨v19_2, M19_1, eM19_1, h⟩ := bd_e h
      refine m_callVi (As := [.int y2, .int y6]) (st := []) (s_X0_loudnessOf (d := d + 0) hA hy0 eM19_1) hy0 okX0 ck_X0_loudnessOf w_1166 rfl (Nat.le_of_ble_eq_true rfl) dX7_stepsOnto_19 ?_
      obtain ⟨j5, ej5, h⟩ := jn_e h
      have hj5 : ∀ (u3 : Int32) (M4 : Mm), j5 u3 M4 = some (r, M') → GG l B LY (d + 2) yX7_stepsOnto cX7_stepsOnto 7 (some .int) 0 0 (PI r M') 97 0 0 38 [(0, .ref y0), (1, .ref y1), (2, .int y2), (3, .int y3), (4, .int y4), (5, .int u3), (6, .int y6)] [] M4 := by
        intro u3 M4 h
        rw [ej5] at h
        refine g_iinc (v := (y6 + (nI 1))) (lv' := [(6, .int (y6 + (nI 1))), (0, .ref y0), (1, .ref y1), (2, .int y2), (3, .int y3), (4, .int y4), (5, .int u3)]) dX7_stepsOnto_38 6 rfl rfl (by decide) rfl ?_
        refine g_goto (tgt := 6) dX7_stepsOnto_41 (by decide) ?_
        refine g_sub [1, 2, 3, 4, 5, 6, 0] (lv' := [(0, .ref y0), (1, .ref y1), (2, .int y2), (3, .int y3), (4, .int y4), (5, .int u3), (6, .int (y6 + (nI 1)))]) rfl ?_
        exact ih _ _  _ h
      refine g_if_ne (tgt := 38) dX7_stepsOnto_22 (by decide) (fun c8 => ?_) (fun c8 => ?_)
      · replace h := ite_n c8 h
        refine g_sub [0, 1, 2, 3, 4, 5, 6] (lv' := [(0, .ref y0), (1, .ref y1), (2, .int y2), (3, .int y3), (4, .int y4), (5, .int y5), (6, .int y6)]) rfl ?_
        exact hj5 _ _ h
      · replace h := ite_p c8 h
        refine g_iload dX7_stepsOnto_25 5 rfl ?_
        refine g_aload_n dX7_stepsOnto_27 rfl 0 rfl ?_
        refine g_aload_n dX7_stepsOnto_28 rfl 1 rfl ?_
        refine g_iload_n dX7_stepsOnto_29 rfl 2 rfl ?_
        refine g_iload dX7_stepsOnto_30 6 rfl ?_
        obtain ⟨v32_7, M32_6, eM32_6, h⟩ := bd_e h
        refine m_callSi (As := [.ref y0, .ref y1, .int y2, .int y6]) (st := [.int y5]) (s_X7_creepersBefore (d := d + 0) hA hy0 hy1 eM32_6) ck_X7_creepersBefore w_1167 rfl (Nat.le_of_ble_eq_true rfl) dX7_stepsOnto_32 ?_
        refine g_iadd dX7_stepsOnto_35 ?_
        refine g_istore (lv' := [(5, .int (y5 + v32_7)), (0, .ref y0), (1, .ref y1), (2, .int y2), (3, .int y3), (4, .int y4), (6, .int y6)]) dX7_stepsOnto_36 (by decide) rfl ?_
        refine g_sub [1, 2, 3, 4, 5, 0, 6] (lv' := [(0, .ref y0), (1, .ref y1), (2, .int y2), (3, .int y3), (4, .int y4), (5, .int (y5 + v32_7)), (6, .int y6)]) rfl ?_
        exact hj5 _ _ h
set_option maxHeartbeats 4000000 in
set_option maxRecDepth 100000 in
theorem s_X7_stepsOnto {l : Launch} {B : BT} (hA : bA B = false) {d : Nat} {r : Int32} {M' : Mm} {x0 : Nat} {x1 : Nat} {x2 : Int32} {x3 : Int32} {x4 : Int32} {M : Mm} (hx0 : LY x0 = .inl (0, fk0)) (hx1 : LY x1 = .inl (3, fk3)) (h : f_X7_stepsOnto x0 x1 x2 x3 x4 M = some (r, M')) : Con l B LY (d + 2) yX7_stepsOnto cX7_stepsOnto 7 (some .int) 0 0 [.ref x0, .ref x1, .int x2, .int x3, .int x4] 97 M (PI r M') := by
  refine con_of (by decide) (Nat.le_of_ble_eq_true rfl) ?_
  show GG l B LY (d + 2) yX7_stepsOnto cX7_stepsOnto 7 (some .int) 0 0 (PI r M') 97 0 0 0 [(0, .ref x0), (1, .ref x1), (2, .int x2), (3, .int x3), (4, .int x4)] [] M
  rw [f_X7_stepsOnto] at h
  refine g_iconst (v := (nI 0)) dX7_stepsOnto_0 (by decide) ?_
  refine g_istore (lv' := [(5, .int (nI 0)), (0, .ref x0), (1, .ref x1), (2, .int x2), (3, .int x3), (4, .int x4)]) dX7_stepsOnto_1 (by decide) rfl ?_
  refine g_iload_n dX7_stepsOnto_3 rfl 4 rfl ?_
  refine g_istore (lv' := [(6, .int x3), (5, .int (nI 0)), (0, .ref x0), (1, .ref x1), (2, .int x2), (3, .int x3), (4, .int x4)]) dX7_stepsOnto_4 (by decide) rfl ?_
  refine g_sub [2, 3, 4, 5, 6, 1, 0] (lv' := [(0, .ref x0), (1, .ref x1), (2, .int x2), (3, .int x3), (4, .int x4), (5, .int (nI 0)), (6, .int x3)]) rfl ?_
  refine sl_X7_stepsOnto_6 hA hx0 hx1  _ _ _ _ h
theorem ck_X7_stepsOnto : CKS yX7_stepsOnto cX7_stepsOnto 7 (some .int) 5 := ⟨⟨by decide, by decide, by decide +kernel⟩, w_1165, w_80, w_1164, by decide⟩
theorem dX7_find_0 : decode cX7_find 0 = .ok (.aload_n 0, 1) := by decide +kernel
theorem dX7_find_1 : decode cX7_find 1 = .ok (.iconst (-1), 1) := by decide +kernel
theorem dX7_find_2 : decode cX7_find 2 = .ok (.putfield 9, 3) := by decide +kernel
theorem dX7_find_5 : decode cX7_find 5 = .ok (.iconst 0, 1) := by decide +kernel
theorem dX7_find_6 : decode cX7_find 6 = .ok (.istore 4, 2) := by decide +kernel
theorem dX7_find_8 : decode cX7_find 8 = .ok (.iload 4, 2) := by decide +kernel
theorem dX7_find_10 : decode cX7_find 10 = .ok (.aload_n 1, 1) := by decide +kernel
theorem dX7_find_11 : decode cX7_find 11 = .ok (.getfield 15, 3) := by decide +kernel
theorem dX7_find_14 : decode cX7_find 14 = .ok (.if_icmp .ge 70, 3) := by decide +kernel
theorem dX7_find_17 : decode cX7_find 17 = .ok (.iconst 1, 1) := by decide +kernel
theorem dX7_find_18 : decode cX7_find 18 = .ok (.istore 5, 2) := by decide +kernel
theorem dX7_find_20 : decode cX7_find 20 = .ok (.iload 5, 2) := by decide +kernel
theorem dX7_find_22 : decode cX7_find 22 = .ok (.iload_n 3, 1) := by decide +kernel
theorem dX7_find_23 : decode cX7_find 23 = .ok (.iadd, 1) := by decide +kernel
theorem dX7_find_24 : decode cX7_find 24 = .ok (.iconst 1, 1) := by decide +kernel
theorem dX7_find_25 : decode cX7_find 25 = .ok (.isub, 1) := by decide +kernel
theorem dX7_find_26 : decode cX7_find 26 = .ok (.aload_n 1, 1) := by decide +kernel
theorem dX7_find_27 : decode cX7_find 27 = .ok (.getfield 20, 3) := by decide +kernel
theorem dX7_find_30 : decode cX7_find 30 = .ok (.if_icmp .gt 48, 3) := by decide +kernel
theorem dX7_find_33 : decode cX7_find 33 = .ok (.aload_n 1, 1) := by decide +kernel
theorem dX7_find_34 : decode cX7_find 34 = .ok (.aload_n 2, 1) := by decide +kernel
theorem dX7_find_35 : decode cX7_find 35 = .ok (.iload 4, 2) := by decide +kernel
theorem dX7_find_37 : decode cX7_find 37 = .ok (.iload 5, 2) := by decide +kernel
theorem dX7_find_39 : decode cX7_find 39 = .ok (.iload_n 3, 1) := by decide +kernel
theorem dX7_find_40 : decode cX7_find 40 = .ok (.invokestatic 23, 3) := by decide +kernel
theorem dX7_find_43 : decode cX7_find 43 = .ok (.istore 6, 2) := by decide +kernel
theorem dX7_find_45 : decode cX7_find 45 = .ok (.iload 6, 2) := by decide +kernel
theorem dX7_find_47 : decode cX7_find 47 = .ok (.aload_n 0, 1) := by decide +kernel
theorem dX7_find_48 : decode cX7_find 48 = .ok (.getfield 9, 3) := by decide +kernel
theorem dX7_find_51 : decode cX7_find 51 = .ok (.if_icmp .le 21, 3) := by decide +kernel
theorem dX7_find_54 : decode cX7_find 54 = .ok (.aload_n 0, 1) := by decide +kernel
theorem dX7_find_55 : decode cX7_find 55 = .ok (.iload 6, 2) := by decide +kernel
theorem dX7_find_57 : decode cX7_find 57 = .ok (.putfield 9, 3) := by decide +kernel
theorem dX7_find_60 : decode cX7_find 60 = .ok (.aload_n 0, 1) := by decide +kernel
theorem dX7_find_61 : decode cX7_find 61 = .ok (.iload 4, 2) := by decide +kernel
theorem dX7_find_63 : decode cX7_find 63 = .ok (.putfield 27, 3) := by decide +kernel
theorem dX7_find_66 : decode cX7_find 66 = .ok (.aload_n 0, 1) := by decide +kernel
theorem dX7_find_67 : decode cX7_find 67 = .ok (.iload 5, 2) := by decide +kernel
theorem dX7_find_69 : decode cX7_find 69 = .ok (.putfield 30, 3) := by decide +kernel
theorem dX7_find_72 : decode cX7_find 72 = .ok (.iinc 5 1, 3) := by decide +kernel
theorem dX7_find_75 : decode cX7_find 75 = .ok (.goto (-55), 3) := by decide +kernel
theorem dX7_find_78 : decode cX7_find 78 = .ok (.iinc 4 1, 3) := by decide +kernel
theorem dX7_find_81 : decode cX7_find 81 = .ok (.goto (-73), 3) := by decide +kernel
theorem dX7_find_84 : decode cX7_find 84 = .ok (.return_, 1) := by decide +kernel
def lp_X7_find_20 (y1 : Nat) (y2 : Nat) (y3 : Int32) (y4 : Int32) (k78 : Mm → Option (Mm)) : Nat → Int32 → Mm → Option (Mm)
  | 0, _, _ => none
  | n + 1, y5, M =>
    if (M y1 6) < ((y5 + y3) - (nI 1)) then (k78  M) else (bd (f_X7_stepsOnto y1 y2 y4 y5 y3 M) fun v40_2 M40_1 => jn (fun (M3 : Mm) => lp_X7_find_20 y1 y2 y3 y4 k78 n (y5 + (nI 1)) M3) fun j4 => if v40_2 ≤ (M40_1 80 2) then (j4  M40_1) else (j4  (mset (mset (mset M40_1 80 2 v40_2) 80 0 y4) 80 1 y5)))
def lp_X7_find_8 (y1 : Nat) (y2 : Nat) (y3 : Int32)  : Nat → Int32 → Mm → Option (Mm)
  | 0, _, _ => none
  | n + 1, y4, M =>
    if (M y1 7) ≤ y4 then (some M) else (lp_X7_find_20 y1 y2 y3 y4 (fun  (M7 : Mm) => lp_X7_find_8 y1 y2 y3 n (y4 + (nI 1)) M7) N0 (nI 1) M)
def f_X7_find (x1 : Nat) (x2 : Nat) (x3 : Int32) (M : Mm) : Option (Mm) :=
  lp_X7_find_8 x1 x2 x3  N0 (nI 0) (mset M 80 2 (-1 : Int32))
set_option maxHeartbeats 4000000 in
set_option maxRecDepth 100000 in
theorem sl_X7_find_20 {l : Launch} {B : BT} (hA : bA B = false) {d : Nat} {M' : Mm} {y1 : Nat} {y2 : Nat} {y3 : Int32} {y4 : Int32} (hy1 : LY y1 = .inl (0, fk0)) (hy2 : LY y2 = .inl (3, fk3)) {k78 : Mm → Option (Mm)} (hk78 : ∀  (M9 : Mm), k78  M9 = some M' → GG l B LY (d + 3) yX7_find cX7_find 7 none 0 0 (PV M') 97 0 0 78 [(0, .ref 80), (1, .ref y1), (2, .ref y2), (3, .int y3), (4, .int y4)] [] M9) :
    ∀ (n : Nat) (y5 : Int32) (M : Mm), lp_X7_find_20 y1 y2 y3 y4 k78 n y5 M = some M' → GG l B LY (d + 3) yX7_find cX7_find 7 none 0 0 (PV M') 97 0 0 20 [(0, .ref 80), (1, .ref y1), (2, .ref y2), (3, .int y3), (4, .int y4), (5, .int y5)] [] M := by
  intro n
  induction n with
  | zero => intro y5 M h; cases h
  | succ n ih =>
    intro y5 M h
    rw [lp_X7_find_20] at h
    refine g_iload dX7_find_20 5 rfl ?_
    refine g_iload_n dX7_find_22 rfl 3 rfl ?_
    refine g_iadd dX7_find_23 ?_
    refine g_iconst (v := (nI 1)) dX7_find_24 (by decide) ?_
    refine g_isub dX7_find_25 ?_
    refine g_aload_n dX7_find_26 rfl 1 rfl ?_
    refine m_geti (k := 6) okX0 hy1 rfl (by decide) w_121 rfl dX7_find_27 ?_
    refine g_icmp_gt (tgt := 78) dX7_find_30 (by decide) (fun c6 => ?_) (fun c6 => ?_)
    · replace h := ite_p c6 h
      refine g_sub [0, 1, 2, 3, 4] (lv' := [(0, .ref 80), (1, .ref y1), (2, .ref y2), (3, .int y3), (4, .int y4)]) rfl ?_
      exact hk78  _ h
    · replace h := ite_n c6 h
      refine g_aload_n dX7_find_33 rfl 1 rfl ?_
      refine g_aload_n dX7_find_34 rfl 2 rfl ?_
      refine g_iload dX7_find_35 4 rfl ?_
      refine g_iload dX7_find_37 5 rfl ?_
      refine g_iload_n dX7_find_39 rfl 3 rfl ?_
      obtain ⟨v40_2, M40_1, eM40_1, h⟩ := bd_e h
      refine m_callSi (As := [.ref y1, .ref y2, .int y4, .int y5, .int y3]) (st := []) (s_X7_stepsOnto (d := d + 0) hA hy1 hy2 eM40_1) ck_X7_stepsOnto w_1163 rfl (Nat.le_of_ble_eq_true rfl) dX7_find_40 ?_
      refine g_istore (lv' := [(6, .int v40_2), (0, .ref 80), (1, .ref y1), (2, .ref y2), (3, .int y3), (4, .int y4), (5, .int y5)]) dX7_find_43 (by decide) rfl ?_
      refine g_iload dX7_find_45 0 rfl ?_
      refine g_aload_n dX7_find_47 rfl 1 rfl ?_
      refine m_geti (k := 2) okX7 rfl rfl (by decide) w_404 rfl dX7_find_48 ?_
      obtain ⟨j4, ej4, h⟩ := jn_e h
      have hj4 : ∀ (M3 : Mm), j4 M3 = some M' → GG l B LY (d + 3) yX7_find cX7_find 7 none 0 0 (PV M') 97 0 0 72 [(0, .ref 80), (1, .ref y1), (2, .ref y2), (3, .int y3), (4, .int y4), (5, .int y5)] [] M3 := by
        intro M3 h
        rw [ej4] at h
        refine g_iinc (v := (y5 + (nI 1))) (lv' := [(5, .int (y5 + (nI 1))), (0, .ref 80), (1, .ref y1), (2, .ref y2), (3, .int y3), (4, .int y4)]) dX7_find_72 5 rfl rfl (by decide) rfl ?_
        refine g_goto (tgt := 20) dX7_find_75 (by decide) ?_
        refine g_sub [1, 2, 3, 4, 5, 0] (lv' := [(0, .ref 80), (1, .ref y1), (2, .ref y2), (3, .int y3), (4, .int y4), (5, .int (y5 + (nI 1)))]) rfl ?_
        exact ih _  _ h
      refine g_icmp_le (tgt := 72) dX7_find_51 (by decide) (fun c5 => ?_) (fun c5 => ?_)
      · replace h := ite_p c5 h
        refine g_sub [1, 2, 3, 4, 5, 6] (lv' := [(0, .ref 80), (1, .ref y1), (2, .ref y2), (3, .int y3), (4, .int y4), (5, .int y5)]) rfl ?_
        exact hj4  _ h
      · replace h := ite_n c5 h
        refine g_aload_n dX7_find_54 rfl 1 rfl ?_
        refine g_iload dX7_find_55 0 rfl ?_
        refine m_puti (k := 2) okX7 rfl rfl (by decide) w_404 rfl rfl rfl dX7_find_57 ?_
        refine g_aload_n dX7_find_60 rfl 1 rfl ?_
        refine g_iload dX7_find_61 5 rfl ?_
        refine m_puti (k := 0) okX7 rfl rfl (by decide) w_400 rfl rfl rfl dX7_find_63 ?_
        refine g_aload_n dX7_find_66 rfl 1 rfl ?_
        refine g_iload dX7_find_67 6 rfl ?_
        refine m_puti (k := 1) okX7 rfl rfl (by decide) w_402 rfl rfl rfl dX7_find_69 ?_
        refine g_sub [1, 2, 3, 4, 5, 6] (lv' := [(0, .ref 80), (1, .ref y1), (2, .ref y2), (3, .int y3), (4, .int y4), (5, .int y5)]) rfl ?_
        exact hj4  _ h
set_option maxHeartbeats 4000000 in
set_option maxRecDepth 100000 in
theorem sl_X7_find_8 {l : Launch} {B : BT} (hA : bA B = false) {d : Nat} {M' : Mm} {y1 : Nat} {y2 : Nat} {y3 : Int32} (hy1 : LY y1 = .inl (0, fk0)) (hy2 : LY y2 = .inl (3, fk3))   :
    ∀ (n : Nat) (y4 : Int32) (M : Mm), lp_X7_find_8 y1 y2 y3 n y4 M = some M' → GG l B LY (d + 3) yX7_find cX7_find 7 none 0 0 (PV M') 97 0 0 8 [(0, .ref 80), (1, .ref y1), (2, .ref y2), (3, .int y3), (4, .int y4)] [] M := by
  intro n
  induction n with
  | zero => intro y4 M h; cases h
  | succ n ih =>
    intro y4 M h
    rw [lp_X7_find_8] at h
    refine g_iload dX7_find_8 4 rfl ?_
    refine g_aload_n dX7_find_10 rfl 1 rfl ?_
    refine m_geti (k := 7) okX0 hy1 rfl (by decide) w_127 rfl dX7_find_11 ?_
    refine g_icmp_ge (tgt := 84) dX7_find_14 (by decide) (fun c8 => ?_) (fun c8 => ?_)
    · replace h := ite_p c8 h
      exact g_vret rfl (pv_of h) dX7_find_84
    · replace h := ite_n c8 h
      refine g_iconst (v := (nI 1)) dX7_find_17 (by decide) ?_
      refine g_istore (lv' := [(5, .int (nI 1)), (0, .ref 80), (1, .ref y1), (2, .ref y2), (3, .int y3), (4, .int y4)]) dX7_find_18 (by decide) rfl ?_
      refine g_sub [1, 2, 3, 4, 5, 0] (lv' := [(0, .ref 80), (1, .ref y1), (2, .ref y2), (3, .int y3), (4, .int y4), (5, .int (nI 1))]) rfl ?_
      refine sl_X7_find_20 hA hy1 hy2 ?_ _ _ _ h
      · intro  M7 h
        refine g_iinc (v := (y4 + (nI 1))) (lv' := [(4, .int (y4 + (nI 1))), (0, .ref 80), (1, .ref y1), (2, .ref y2), (3, .int y3)]) dX7_find_78 4 rfl rfl (by decide) rfl ?_
        refine g_goto (tgt := 8) dX7_find_81 (by decide) ?_
        refine g_sub [1, 2, 3, 4, 0] (lv' := [(0, .ref 80), (1, .ref y1), (2, .ref y2), (3, .int y3), (4, .int (y4 + (nI 1)))]) rfl ?_
        exact ih _  _ h
set_option maxHeartbeats 4000000 in
set_option maxRecDepth 100000 in
theorem s_X7_find {l : Launch} {B : BT} (hA : bA B = false) {d : Nat} {M' : Mm} {x1 : Nat} {x2 : Nat} {x3 : Int32} {M : Mm} (hx1 : LY x1 = .inl (0, fk0)) (hx2 : LY x2 = .inl (3, fk3)) (h : f_X7_find x1 x2 x3 M = some M') : Con l B LY (d + 3) yX7_find cX7_find 7 none 0 0 [.ref 80, .ref x1, .ref x2, .int x3] 97 M (PV M') := by
  refine con_of (by decide) (Nat.le_of_ble_eq_true rfl) ?_
  show GG l B LY (d + 3) yX7_find cX7_find 7 none 0 0 (PV M') 97 0 0 0 [(0, .ref 80), (1, .ref x1), (2, .ref x2), (3, .int x3)] [] M
  rw [f_X7_find] at h
  refine g_aload_n dX7_find_0 rfl 0 rfl ?_
  refine g_iconst (v := (-1 : Int32)) dX7_find_1 (by decide) ?_
  refine m_puti (k := 2) okX7 rfl rfl (by decide) w_404 rfl rfl rfl dX7_find_2 ?_
  refine g_iconst (v := (nI 0)) dX7_find_5 (by decide) ?_
  refine g_istore (lv' := [(4, .int (nI 0)), (0, .ref 80), (1, .ref x1), (2, .ref x2), (3, .int x3)]) dX7_find_6 (by decide) rfl ?_
  refine g_sub [1, 2, 3, 4, 0] (lv' := [(0, .ref 80), (1, .ref x1), (2, .ref x2), (3, .int x3), (4, .int (nI 0))]) rfl ?_
  refine sl_X7_find_8 hA hx1 hx2  _ _ _ h
theorem ck_X7_find : CKV yX7_find cX7_find 7 none 3 := ⟨⟨by decide, by decide, by decide +kernel⟩, w_1162, w_80, ⟨w_1160, w_1161⟩, by decide⟩
theorem dX8_append_0 : decode cX8_append 0 = .ok (.bipush 24, 2) := by decide +kernel
theorem dX8_append_2 : decode cX8_append 2 = .ok (.istore_n 2, 1) := by decide +kernel
theorem dX8_append_3 : decode cX8_append 3 = .ok (.iload_n 2, 1) := by decide +kernel
theorem dX8_append_4 : decode cX8_append 4 = .ok (.ifCond .lt 51, 3) := by decide +kernel
theorem dX8_append_7 : decode cX8_append 7 = .ok (.aload_n 0, 1) := by decide +kernel
theorem dX8_append_8 : decode cX8_append 8 = .ok (.getfield 15, 3) := by decide +kernel
theorem dX8_append_11 : decode cX8_append 11 = .ok (.ifCond .lt 38, 3) := by decide +kernel
theorem dX8_append_14 : decode cX8_append 14 = .ok (.aload_n 0, 1) := by decide +kernel
theorem dX8_append_15 : decode cX8_append 15 = .ok (.getfield 15, 3) := by decide +kernel
theorem dX8_append_18 : decode cX8_append 18 = .ok (.aload_n 0, 1) := by decide +kernel
theorem dX8_append_19 : decode cX8_append 19 = .ok (.getfield 9, 3) := by decide +kernel
theorem dX8_append_22 : decode cX8_append 22 = .ok (.arraylength, 1) := by decide +kernel
theorem dX8_append_23 : decode cX8_append 23 = .ok (.if_icmp .ge 26, 3) := by decide +kernel
theorem dX8_append_26 : decode cX8_append 26 = .ok (.aload_n 0, 1) := by decide +kernel
theorem dX8_append_27 : decode cX8_append 27 = .ok (.getfield 9, 3) := by decide +kernel
theorem dX8_append_30 : decode cX8_append 30 = .ok (.aload_n 0, 1) := by decide +kernel
theorem dX8_append_31 : decode cX8_append 31 = .ok (.getfield 15, 3) := by decide +kernel
theorem dX8_append_34 : decode cX8_append 34 = .ok (.iload_n 1, 1) := by decide +kernel
theorem dX8_append_35 : decode cX8_append 35 = .ok (.iload_n 2, 1) := by decide +kernel
theorem dX8_append_36 : decode cX8_append 36 = .ok (.iushr, 1) := by decide +kernel
theorem dX8_append_37 : decode cX8_append 37 = .ok (.i2b, 1) := by decide +kernel
theorem dX8_append_38 : decode cX8_append 38 = .ok (.bastore, 1) := by decide +kernel
theorem dX8_append_39 : decode cX8_append 39 = .ok (.aload_n 0, 1) := by decide +kernel
theorem dX8_append_40 : decode cX8_append 40 = .ok (.dup, 1) := by decide +kernel
theorem dX8_append_41 : decode cX8_append 41 = .ok (.getfield 15, 3) := by decide +kernel
theorem dX8_append_44 : decode cX8_append 44 = .ok (.iconst 1, 1) := by decide +kernel
theorem dX8_append_45 : decode cX8_append 45 = .ok (.iadd, 1) := by decide +kernel
theorem dX8_append_46 : decode cX8_append 46 = .ok (.putfield 15, 3) := by decide +kernel
theorem dX8_append_49 : decode cX8_append 49 = .ok (.iinc 2 (-8), 3) := by decide +kernel
theorem dX8_append_52 : decode cX8_append 52 = .ok (.goto (-49), 3) := by decide +kernel
theorem dX8_append_55 : decode cX8_append 55 = .ok (.return_, 1) := by decide +kernel
def lp_X8_append_3 (y1 : Int32)  : Nat → Int32 → Mm → Option (Mm)
  | 0, _, _ => none
  | n + 1, y2, M =>
    if y2 < 0 then (some M) else (jn (fun (M1 : Mm) => lp_X8_append_3 y1 n (y2 + (-8 : Int32)) M1) fun j2 => if (M 15 1) < 0 then (j2  M) else (if (nI 900) ≤ (M 15 1) then (j2  M) else (gd (inb (M 15 1) 900) <| j2  (mset (mset M 16 (M 15 1).toNatClampNeg (vp_nar .byte (y1.toUInt32 >>> (y2.toUInt32 &&& Int32.toUInt32 31)).toInt32.toInt8.toInt32)) 15 1 (((mset M 16 (M 15 1).toNatClampNeg (vp_nar .byte (y1.toUInt32 >>> (y2.toUInt32 &&& Int32.toUInt32 31)).toInt32.toInt8.toInt32)) 15 1) + (nI 1))))))
def f_X8_append (x1 : Int32) (M : Mm) : Option (Mm) :=
  lp_X8_append_3 x1  N0 (nI 24) M
set_option maxHeartbeats 4000000 in
set_option maxRecDepth 100000 in
theorem sl_X8_append_3 {l : Launch} {B : BT} (hA : bA B = false) {d : Nat} {M' : Mm} {y1 : Int32}    :
    ∀ (n : Nat) (y2 : Int32) (M : Mm), lp_X8_append_3 y1 n y2 M = some M' → GG l B LY (d + 0) yX8_append cX8_append 3 none 0 0 (PV M') 97 0 0 3 [(0, .ref 15), (1, .int y1), (2, .int y2)] [] M := by
  intro n
  induction n with
  | zero => intro y2 M h; cases h
  | succ n ih =>
    intro y2 M h
    rw [lp_X8_append_3] at h
    refine g_iload_n dX8_append_3 rfl 2 rfl ?_
    refine g_if_lt (tgt := 55) dX8_append_4 (by decide) (fun c5 => ?_) (fun c5 => ?_)
    · replace h := ite_p c5 h
      exact g_vret rfl (pv_of h) dX8_append_55
    · replace h := ite_n c5 h
      refine g_aload_n dX8_append_7 rfl 0 rfl ?_
      refine m_geti (k := 1) okX8 rfl rfl (by decide) w_197 rfl dX8_append_8 ?_
      obtain ⟨j2, ej2, h⟩ := jn_e h
      have hj2 : ∀ (M1 : Mm), j2 M1 = some M' → GG l B LY (d + 0) yX8_append cX8_append 3 none 0 0 (PV M') 97 0 0 49 [(0, .ref 15), (1, .int y1), (2, .int y2)] [] M1 := by
        intro M1 h
        rw [ej2] at h
        refine g_iinc (v := (y2 + (-8 : Int32))) (lv' := [(2, .int (y2 + (-8 : Int32))), (0, .ref 15), (1, .int y1)]) dX8_append_49 2 rfl rfl (by decide) rfl ?_
        refine g_goto (tgt := 3) dX8_append_52 (by decide) ?_
        refine g_sub [1, 2, 0] (lv' := [(0, .ref 15), (1, .int y1), (2, .int (y2 + (-8 : Int32)))]) rfl ?_
        exact ih _  _ h
      refine g_if_lt (tgt := 49) dX8_append_11 (by decide) (fun c4 => ?_) (fun c4 => ?_)
      · replace h := ite_p c4 h
        refine g_sub [0, 1, 2] (lv' := [(0, .ref 15), (1, .int y1), (2, .int y2)]) rfl ?_
        exact hj2  _ h
      · replace h := ite_n c4 h
        refine g_aload_n dX8_append_14 rfl 0 rfl ?_
        refine m_geti (k := 1) okX8 rfl rfl (by decide) w_197 rfl dX8_append_15 ?_
        refine g_aload_n dX8_append_18 rfl 0 rfl ?_
        refine m_getr (k := 0) okX8 rfl rfl (by decide) w_195 rfl dX8_append_19 ?_
        refine m_alen (v := (nI 900)) rfl (by decide) rfl dX8_append_22 ?_
        refine g_icmp_ge (tgt := 49) dX8_append_23 (by decide) (fun c3 => ?_) (fun c3 => ?_)
        · replace h := ite_p c3 h
          refine g_sub [0, 1, 2] (lv' := [(0, .ref 15), (1, .int y1), (2, .int y2)]) rfl ?_
          exact hj2  _ h
        · replace h := ite_n c3 h
          refine g_aload_n dX8_append_26 rfl 0 rfl ?_
          refine m_getr (k := 0) okX8 rfl rfl (by decide) w_195 rfl dX8_append_27 ?_
          refine g_aload_n dX8_append_30 rfl 0 rfl ?_
          refine m_geti (k := 1) okX8 rfl rfl (by decide) w_197 rfl dX8_append_31 ?_
          refine g_iload_n dX8_append_34 rfl 1 rfl ?_
          refine g_iload_n dX8_append_35 rfl 2 rfl ?_
          refine g_iushr dX8_append_36 ?_
          refine g_i2b dX8_append_37 ?_
          obtain ⟨hz, h⟩ := gd_s h
          refine m_bast hA rfl hz dX8_append_38 ?_
          refine g_aload_n dX8_append_39 rfl 0 rfl ?_
          refine g_dup dX8_append_40 rfl ?_
          refine m_geti (k := 1) okX8 rfl rfl (by decide) w_197 rfl dX8_append_41 ?_
          refine g_iconst (v := (nI 1)) dX8_append_44 (by decide) ?_
          refine g_iadd dX8_append_45 ?_
          refine m_puti (k := 1) okX8 rfl rfl (by decide) w_197 rfl rfl rfl dX8_append_46 ?_
          refine g_sub [0, 1, 2] (lv' := [(0, .ref 15), (1, .int y1), (2, .int y2)]) rfl ?_
          exact hj2  _ h
set_option maxHeartbeats 4000000 in
set_option maxRecDepth 100000 in
theorem s_X8_append {l : Launch} {B : BT} (hA : bA B = false) {d : Nat} {M' : Mm} {x1 : Int32} {M : Mm}  (h : f_X8_append x1 M = some M') : Con l B LY (d + 0) yX8_append cX8_append 3 none 0 0 [.ref 15, .int x1] 97 M (PV M') := by
  refine con_of (by decide) (Nat.le_of_ble_eq_true rfl) ?_
  show GG l B LY (d + 0) yX8_append cX8_append 3 none 0 0 (PV M') 97 0 0 0 [(0, .ref 15), (1, .int x1)] [] M
  rw [f_X8_append] at h
  refine g_bipush (v := (nI 24)) dX8_append_0 (by decide) ?_
  refine g_istore_n (lv' := [(2, .int (nI 24)), (0, .ref 15), (1, .int x1)]) dX8_append_2 rfl (by decide) rfl ?_
  refine g_sub [1, 2, 0] (lv' := [(0, .ref 15), (1, .int x1), (2, .int (nI 24))]) rfl ?_
  refine sl_X8_append_3 hA   _ _ _ h
theorem ck_X8_append : CKV yX8_append cX8_append 3 none 1 := ⟨⟨by decide, by decide, by decide +kernel⟩, w_463, w_74, ⟨w_461, w_462⟩, by decide⟩
theorem dX9_feed_0 : decode cX9_feed 0 = .ok (.aload_n 0, 1) := by decide +kernel
theorem dX9_feed_1 : decode cX9_feed 1 = .ok (.getfield 22, 3) := by decide +kernel
theorem dX9_feed_4 : decode cX9_feed 4 = .ok (.getfield 74, 3) := by decide +kernel
theorem dX9_feed_7 : decode cX9_feed 7 = .ok (.bipush 20, 2) := by decide +kernel
theorem dX9_feed_9 : decode cX9_feed 9 = .ok (.iadd, 1) := by decide +kernel
theorem dX9_feed_10 : decode cX9_feed 10 = .ok (.sipush 900, 3) := by decide +kernel
theorem dX9_feed_13 : decode cX9_feed 13 = .ok (.if_icmp .le 5, 3) := by decide +kernel
theorem dX9_feed_16 : decode cX9_feed 16 = .ok (.iconst (-1), 1) := by decide +kernel
theorem dX9_feed_17 : decode cX9_feed 17 = .ok (.ireturn, 1) := by decide +kernel
theorem dX9_feed_18 : decode cX9_feed 18 = .ok (.aload_n 0, 1) := by decide +kernel
theorem dX9_feed_19 : decode cX9_feed 19 = .ok (.getfield 22, 3) := by decide +kernel
theorem dX9_feed_22 : decode cX9_feed 22 = .ok (.iload_n 1, 1) := by decide +kernel
theorem dX9_feed_23 : decode cX9_feed 23 = .ok (.invokevirtual 78, 3) := by decide +kernel
theorem dX9_feed_26 : decode cX9_feed 26 = .ok (.aload_n 0, 1) := by decide +kernel
theorem dX9_feed_27 : decode cX9_feed 27 = .ok (.getfield 22, 3) := by decide +kernel
theorem dX9_feed_30 : decode cX9_feed 30 = .ok (.iload_n 2, 1) := by decide +kernel
theorem dX9_feed_31 : decode cX9_feed 31 = .ok (.invokevirtual 78, 3) := by decide +kernel
theorem dX9_feed_34 : decode cX9_feed 34 = .ok (.aload_n 0, 1) := by decide +kernel
theorem dX9_feed_35 : decode cX9_feed 35 = .ok (.getfield 22, 3) := by decide +kernel
theorem dX9_feed_38 : decode cX9_feed 38 = .ok (.iload_n 3, 1) := by decide +kernel
theorem dX9_feed_39 : decode cX9_feed 39 = .ok (.invokevirtual 78, 3) := by decide +kernel
theorem dX9_feed_42 : decode cX9_feed 42 = .ok (.aload_n 0, 1) := by decide +kernel
theorem dX9_feed_43 : decode cX9_feed 43 = .ok (.getfield 22, 3) := by decide +kernel
theorem dX9_feed_46 : decode cX9_feed 46 = .ok (.iload 4, 2) := by decide +kernel
theorem dX9_feed_48 : decode cX9_feed 48 = .ok (.invokevirtual 78, 3) := by decide +kernel
theorem dX9_feed_51 : decode cX9_feed 51 = .ok (.aload_n 0, 1) := by decide +kernel
theorem dX9_feed_52 : decode cX9_feed 52 = .ok (.getfield 22, 3) := by decide +kernel
theorem dX9_feed_55 : decode cX9_feed 55 = .ok (.iload 5, 2) := by decide +kernel
theorem dX9_feed_57 : decode cX9_feed 57 = .ok (.invokevirtual 78, 3) := by decide +kernel
theorem dX9_feed_60 : decode cX9_feed 60 = .ok (.aload_n 0, 1) := by decide +kernel
theorem dX9_feed_61 : decode cX9_feed 61 = .ok (.getfield 22, 3) := by decide +kernel
theorem dX9_feed_64 : decode cX9_feed 64 = .ok (.getfield 74, 3) := by decide +kernel
theorem dX9_feed_67 : decode cX9_feed 67 = .ok (.ireturn, 1) := by decide +kernel
def f_X9_feed (x1 : Int32) (x2 : Int32) (x3 : Int32) (x4 : Int32) (x5 : Int32) (M : Mm) : Option (Int32 × Mm) :=
  if ((M 15 1) + (nI 20)) ≤ (nI 900) then (bv (f_X8_append x1 M) fun M23_1 => bv (f_X8_append x2 M23_1) fun M31_3 => bv (f_X8_append x3 M31_3) fun M39_5 => bv (f_X8_append x4 M39_5) fun M48_7 => bv (f_X8_append x5 M48_7) fun M57_9 => some ((M57_9 15 1), M57_9)) else (some ((-1 : Int32), M))
set_option maxHeartbeats 4000000 in
set_option maxRecDepth 100000 in
theorem s_X9_feed {l : Launch} {B : BT} (hA : bA B = false) {d : Nat} {r : Int32} {M' : Mm} {x1 : Int32} {x2 : Int32} {x3 : Int32} {x4 : Int32} {x5 : Int32} {M : Mm}  (h : f_X9_feed x1 x2 x3 x4 x5 M = some (r, M')) : Con l B LY (d + 1) yX9_feed cX9_feed 6 (some .int) 0 0 [.ref 0, .int x1, .int x2, .int x3, .int x4, .int x5] 97 M (PI r M') := by
  refine con_of (by decide) (Nat.le_of_ble_eq_true rfl) ?_
  show GG l B LY (d + 1) yX9_feed cX9_feed 6 (some .int) 0 0 (PI r M') 97 0 0 0 [(0, .ref 0), (1, .int x1), (2, .int x2), (3, .int x3), (4, .int x4), (5, .int x5)] [] M
  rw [f_X9_feed] at h
  refine g_aload_n dX9_feed_0 rfl 0 rfl ?_
  refine m_geta (k := 0) okX9 rfl rfl (by decide) w_413 rfl dX9_feed_1 ?_
  refine m_geti (k := 1) okX8 rfl rfl (by decide) w_196 rfl dX9_feed_4 ?_
  refine g_bipush (v := (nI 20)) dX9_feed_7 (by decide) ?_
  refine g_iadd dX9_feed_9 ?_
  refine g_sipush (v := (nI 900)) dX9_feed_10 (by decide) ?_
  refine g_icmp_le (tgt := 18) dX9_feed_13 (by decide) (fun c11 => ?_) (fun c11 => ?_)
  · replace h := ite_p c11 h
    refine g_aload_n dX9_feed_18 rfl 0 rfl ?_
    refine m_geta (k := 0) okX9 rfl rfl (by decide) w_413 rfl dX9_feed_19 ?_
    refine g_iload_n dX9_feed_22 rfl 1 rfl ?_
    obtain ⟨M23_1, eM23_1, h⟩ := bv_e h
    refine m_callVv (As := [.int x1]) (st := []) (s_X8_append (d := d + 0) hA  eM23_1) rfl okX8 ck_X8_append w_460 rfl (Nat.le_of_ble_eq_true rfl) dX9_feed_23 ?_
    refine g_aload_n dX9_feed_26 rfl 0 rfl ?_
    refine m_geta (k := 0) okX9 rfl rfl (by decide) w_413 rfl dX9_feed_27 ?_
    refine g_iload_n dX9_feed_30 rfl 2 rfl ?_
    obtain ⟨M31_3, eM31_3, h⟩ := bv_e h
    refine m_callVv (As := [.int x2]) (st := []) (s_X8_append (d := d + 0) hA  eM31_3) rfl okX8 ck_X8_append w_460 rfl (Nat.le_of_ble_eq_true rfl) dX9_feed_31 ?_
    refine g_aload_n dX9_feed_34 rfl 0 rfl ?_
    refine m_geta (k := 0) okX9 rfl rfl (by decide) w_413 rfl dX9_feed_35 ?_
    refine g_iload_n dX9_feed_38 rfl 3 rfl ?_
    obtain ⟨M39_5, eM39_5, h⟩ := bv_e h
    refine m_callVv (As := [.int x3]) (st := []) (s_X8_append (d := d + 0) hA  eM39_5) rfl okX8 ck_X8_append w_460 rfl (Nat.le_of_ble_eq_true rfl) dX9_feed_39 ?_
    refine g_aload_n dX9_feed_42 rfl 0 rfl ?_
    refine m_geta (k := 0) okX9 rfl rfl (by decide) w_413 rfl dX9_feed_43 ?_
    refine g_iload dX9_feed_46 4 rfl ?_
    obtain ⟨M48_7, eM48_7, h⟩ := bv_e h
    refine m_callVv (As := [.int x4]) (st := []) (s_X8_append (d := d + 0) hA  eM48_7) rfl okX8 ck_X8_append w_460 rfl (Nat.le_of_ble_eq_true rfl) dX9_feed_48 ?_
    refine g_aload_n dX9_feed_51 rfl 0 rfl ?_
    refine m_geta (k := 0) okX9 rfl rfl (by decide) w_413 rfl dX9_feed_52 ?_
    refine g_iload dX9_feed_55 5 rfl ?_
    obtain ⟨M57_9, eM57_9, h⟩ := bv_e h
    refine m_callVv (As := [.int x5]) (st := []) (s_X8_append (d := d + 0) hA  eM57_9) rfl okX8 ck_X8_append w_460 rfl (Nat.le_of_ble_eq_true rfl) dX9_feed_57 ?_
    refine g_aload_n dX9_feed_60 rfl 0 rfl ?_
    refine m_geta (k := 0) okX9 rfl rfl (by decide) w_413 rfl dX9_feed_61 ?_
    refine m_geti (k := 1) okX8 rfl rfl (by decide) w_196 rfl dX9_feed_64 ?_
    exact g_zret rfl rfl (pi_of h) dX9_feed_67
  · replace h := ite_n c11 h
    refine g_iconst (v := (-1 : Int32)) dX9_feed_16 (by decide) ?_
    exact g_zret rfl rfl (pi_of h) dX9_feed_17
theorem ck_X9_feed : CKV yX9_feed cX9_feed 6 (some .int) 5 := ⟨⟨by decide, by decide, by decide +kernel⟩, w_459, w_72, ⟨w_457, w_458⟩, by decide⟩
theorem dX9_refused_0 : decode cX9_refused 0 = .ok (.aload_n 0, 1) := by decide +kernel
theorem dX9_refused_1 : decode cX9_refused 1 = .ok (.iload_n 1, 1) := by decide +kernel
theorem dX9_refused_2 : decode cX9_refused 2 = .ok (.putfield 117, 3) := by decide +kernel
theorem dX9_refused_5 : decode cX9_refused 5 = .ok (.iconst (-1), 1) := by decide +kernel
theorem dX9_refused_6 : decode cX9_refused 6 = .ok (.ireturn, 1) := by decide +kernel
def f_X9_refused (x1 : Int32) (M : Mm) : Option (Int32 × Mm) :=
  some ((-1 : Int32), (mset M 0 11 x1))
set_option maxHeartbeats 4000000 in
set_option maxRecDepth 100000 in
theorem s_X9_refused {l : Launch} {B : BT} (hA : bA B = false) {d : Nat} {r : Int32} {M' : Mm} {x1 : Int32} {M : Mm}  (h : f_X9_refused x1 M = some (r, M')) : Con l B LY (d + 0) yX9_refused cX9_refused 2 (some .int) 0 0 [.ref 0, .int x1] 97 M (PI r M') := by
  refine con_of (by decide) (Nat.le_of_ble_eq_true rfl) ?_
  show GG l B LY (d + 0) yX9_refused cX9_refused 2 (some .int) 0 0 (PI r M') 97 0 0 0 [(0, .ref 0), (1, .int x1)] [] M
  rw [f_X9_refused] at h
  refine g_aload_n dX9_refused_0 rfl 0 rfl ?_
  refine g_iload_n dX9_refused_1 rfl 1 rfl ?_
  refine m_puti (k := 11) okX9 rfl rfl (by decide) w_424 rfl rfl rfl dX9_refused_2 ?_
  refine g_iconst (v := (-1 : Int32)) dX9_refused_5 (by decide) ?_
  exact g_zret rfl rfl (pi_of h) dX9_refused_6
theorem ck_X9_refused : CKV yX9_refused cX9_refused 2 (some .int) 1 := ⟨⟨by decide, by decide, by decide +kernel⟩, w_471, w_72, ⟨w_470, w_0⟩, by decide⟩
theorem dX9_well_0 : decode cX9_well 0 = .ok (.aload_n 0, 1) := by decide +kernel
theorem dX9_well_1 : decode cX9_well 1 = .ok (.iconst 0, 1) := by decide +kernel
theorem dX9_well_2 : decode cX9_well 2 = .ok (.putfield 117, 3) := by decide +kernel
theorem dX9_well_5 : decode cX9_well 5 = .ok (.iload_n 1, 1) := by decide +kernel
theorem dX9_well_6 : decode cX9_well 6 = .ok (.ireturn, 1) := by decide +kernel
def f_X9_well (x1 : Int32) (M : Mm) : Option (Int32 × Mm) :=
  some (x1, (mset M 0 11 (nI 0)))
set_option maxHeartbeats 4000000 in
set_option maxRecDepth 100000 in
theorem s_X9_well {l : Launch} {B : BT} (hA : bA B = false) {d : Nat} {r : Int32} {M' : Mm} {x1 : Int32} {M : Mm}  (h : f_X9_well x1 M = some (r, M')) : Con l B LY (d + 0) yX9_well cX9_well 2 (some .int) 0 0 [.ref 0, .int x1] 97 M (PI r M') := by
  refine con_of (by decide) (Nat.le_of_ble_eq_true rfl) ?_
  show GG l B LY (d + 0) yX9_well cX9_well 2 (some .int) 0 0 (PI r M') 97 0 0 0 [(0, .ref 0), (1, .int x1)] [] M
  rw [f_X9_well] at h
  refine g_aload_n dX9_well_0 rfl 0 rfl ?_
  refine g_iconst (v := (nI 0)) dX9_well_1 (by decide) ?_
  refine m_puti (k := 11) okX9 rfl rfl (by decide) w_424 rfl rfl rfl dX9_well_2 ?_
  refine g_iload_n dX9_well_5 rfl 1 rfl ?_
  exact g_zret rfl rfl (pi_of h) dX9_well_6
theorem ck_X9_well : CKV yX9_well cX9_well 2 (some .int) 1 := ⟨⟨by decide, by decide, by decide +kernel⟩, w_680, w_72, ⟨w_679, w_1⟩, by decide⟩
theorem dX9_game_0 : decode cX9_game 0 = .ok (.iload_n 1, 1) := by decide +kernel
theorem dX9_game_1 : decode cX9_game 1 = .ok (.ifCond .lt 14, 3) := by decide +kernel
theorem dX9_game_4 : decode cX9_game 4 = .ok (.iload_n 1, 1) := by decide +kernel
theorem dX9_game_5 : decode cX9_game 5 = .ok (.aload_n 0, 1) := by decide +kernel
theorem dX9_game_6 : decode cX9_game 6 = .ok (.getfield 22, 3) := by decide +kernel
theorem dX9_game_9 : decode cX9_game 9 = .ok (.getfield 74, 3) := by decide +kernel
theorem dX9_game_12 : decode cX9_game 12 = .ok (.if_icmp .le 9, 3) := by decide +kernel
theorem dX9_game_15 : decode cX9_game 15 = .ok (.aload_n 0, 1) := by decide +kernel
theorem dX9_game_16 : decode cX9_game 16 = .ok (.iconst 2, 1) := by decide +kernel
theorem dX9_game_17 : decode cX9_game 17 = .ok (.invokevirtual 82, 3) := by decide +kernel
theorem dX9_game_20 : decode cX9_game 20 = .ok (.ireturn, 1) := by decide +kernel
theorem dX9_game_21 : decode cX9_game 21 = .ok (.aload_n 0, 1) := by decide +kernel
theorem dX9_game_22 : decode cX9_game 22 = .ok (.getfield 31, 3) := by decide +kernel
theorem dX9_game_25 : decode cX9_game 25 = .ok (.aload_n 0, 1) := by decide +kernel
theorem dX9_game_26 : decode cX9_game 26 = .ok (.getfield 16, 3) := by decide +kernel
theorem dX9_game_29 : decode cX9_game 29 = .ok (.iload_n 1, 1) := by decide +kernel
theorem dX9_game_30 : decode cX9_game 30 = .ok (.invokevirtual 86, 3) := by decide +kernel
theorem dX9_game_33 : decode cX9_game 33 = .ok (.istore_n 2, 1) := by decide +kernel
theorem dX9_game_34 : decode cX9_game 34 = .ok (.aload_n 0, 1) := by decide +kernel
theorem dX9_game_35 : decode cX9_game 35 = .ok (.getfield 22, 3) := by decide +kernel
theorem dX9_game_38 : decode cX9_game 38 = .ok (.iconst 0, 1) := by decide +kernel
theorem dX9_game_39 : decode cX9_game 39 = .ok (.putfield 74, 3) := by decide +kernel
theorem dX9_game_42 : decode cX9_game 42 = .ok (.aload_n 0, 1) := by decide +kernel
theorem dX9_game_43 : decode cX9_game 43 = .ok (.aload_n 0, 1) := by decide +kernel
theorem dX9_game_44 : decode cX9_game 44 = .ok (.getfield 31, 3) := by decide +kernel
theorem dX9_game_47 : decode cX9_game 47 = .ok (.getfield 90, 3) := by decide +kernel
theorem dX9_game_50 : decode cX9_game 50 = .ok (.putfield 93, 3) := by decide +kernel
theorem dX9_game_53 : decode cX9_game 53 = .ok (.aload_n 0, 1) := by decide +kernel
theorem dX9_game_54 : decode cX9_game 54 = .ok (.aload_n 0, 1) := by decide +kernel
theorem dX9_game_55 : decode cX9_game 55 = .ok (.getfield 31, 3) := by decide +kernel
theorem dX9_game_58 : decode cX9_game 58 = .ok (.getfield 96, 3) := by decide +kernel
theorem dX9_game_61 : decode cX9_game 61 = .ok (.putfield 99, 3) := by decide +kernel
theorem dX9_game_64 : decode cX9_game 64 = .ok (.iload_n 2, 1) := by decide +kernel
theorem dX9_game_65 : decode cX9_game 65 = .ok (.ifCond .ne 9, 3) := by decide +kernel
theorem dX9_game_68 : decode cX9_game 68 = .ok (.aload_n 0, 1) := by decide +kernel
theorem dX9_game_69 : decode cX9_game 69 = .ok (.iconst 4, 1) := by decide +kernel
theorem dX9_game_70 : decode cX9_game 70 = .ok (.invokevirtual 82, 3) := by decide +kernel
theorem dX9_game_73 : decode cX9_game 73 = .ok (.ireturn, 1) := by decide +kernel
theorem dX9_game_74 : decode cX9_game 74 = .ok (.aload_n 0, 1) := by decide +kernel
theorem dX9_game_75 : decode cX9_game 75 = .ok (.getfield 10, 3) := by decide +kernel
theorem dX9_game_78 : decode cX9_game 78 = .ok (.astore_n 3, 1) := by decide +kernel
theorem dX9_game_79 : decode cX9_game 79 = .ok (.aload_n 0, 1) := by decide +kernel
theorem dX9_game_80 : decode cX9_game 80 = .ok (.aload_n 0, 1) := by decide +kernel
theorem dX9_game_81 : decode cX9_game 81 = .ok (.getfield 16, 3) := by decide +kernel
theorem dX9_game_84 : decode cX9_game 84 = .ok (.putfield 10, 3) := by decide +kernel
theorem dX9_game_87 : decode cX9_game 87 = .ok (.aload_n 0, 1) := by decide +kernel
theorem dX9_game_88 : decode cX9_game 88 = .ok (.aload_n 3, 1) := by decide +kernel
theorem dX9_game_89 : decode cX9_game 89 = .ok (.putfield 16, 3) := by decide +kernel
theorem dX9_game_92 : decode cX9_game 92 = .ok (.aload_n 0, 1) := by decide +kernel
theorem dX9_game_93 : decode cX9_game 93 = .ok (.getfield 38, 3) := by decide +kernel
theorem dX9_game_96 : decode cX9_game 96 = .ok (.iconst 0, 1) := by decide +kernel
theorem dX9_game_97 : decode cX9_game 97 = .ok (.invokevirtual 102, 3) := by decide +kernel
theorem dX9_game_100 : decode cX9_game 100 = .ok (.aload_n 0, 1) := by decide +kernel
theorem dX9_game_101 : decode cX9_game 101 = .ok (.iconst 0, 1) := by decide +kernel
theorem dX9_game_102 : decode cX9_game 102 = .ok (.putfield 105, 3) := by decide +kernel
theorem dX9_game_105 : decode cX9_game 105 = .ok (.aload_n 0, 1) := by decide +kernel
theorem dX9_game_106 : decode cX9_game 106 = .ok (.getfield 56, 3) := by decide +kernel
theorem dX9_game_109 : decode cX9_game 109 = .ok (.invokevirtual 108, 3) := by decide +kernel
theorem dX9_game_112 : decode cX9_game 112 = .ok (.aload_n 0, 1) := by decide +kernel
theorem dX9_game_113 : decode cX9_game 113 = .ok (.aload_n 0, 1) := by decide +kernel
theorem dX9_game_114 : decode cX9_game 114 = .ok (.getfield 10, 3) := by decide +kernel
theorem dX9_game_117 : decode cX9_game 117 = .ok (.getfield 111, 3) := by decide +kernel
theorem dX9_game_120 : decode cX9_game 120 = .ok (.invokevirtual 114, 3) := by decide +kernel
theorem dX9_game_123 : decode cX9_game 123 = .ok (.ireturn, 1) := by decide +kernel
def f_X9_game (x1 : Int32) (M : Mm) : Option (Int32 × Mm) :=
  jn (fun (M1 : Mm) => bd (f_X9_refused (nI 2) M1) fun v17_4 M17_3 => some (v17_4, M17_3)) fun j2 => if x1 < 0 then (j2  M) else (if x1 ≤ (M 15 1) then (bg (M 0 9) fun g5 => bd (f_X5_read g5 x1 M) fun v30_7 M30_6 => if v30_7 = 0 then (bd (f_X9_refused (nI 4) (mset (mset (mset M30_6 15 1 (nI 0)) 0 12 ((mset M30_6 15 1 (nI 0)) 17 4)) 0 13 ((mset (mset M30_6 15 1 (nI 0)) 0 12 ((mset M30_6 15 1 (nI 0)) 17 4)) 17 5))) fun v70_18 M70_17 => some (v70_18, M70_17)) else (bg ((mset (mset (mset M30_6 15 1 (nI 0)) 0 12 ((mset M30_6 15 1 (nI 0)) 17 4)) 0 13 ((mset (mset M30_6 15 1 (nI 0)) 0 12 ((mset M30_6 15 1 (nI 0)) 17 4)) 17 5)) 0 8) fun g8 => bg ((mset (mset (mset M30_6 15 1 (nI 0)) 0 12 ((mset M30_6 15 1 (nI 0)) 17 4)) 0 13 ((mset (mset M30_6 15 1 (nI 0)) 0 12 ((mset M30_6 15 1 (nI 0)) 17 4)) 17 5)) 0 9) fun g9 => bv (f_X3_begin 20 (nI 0) (mset (mset (mset (mset (mset M30_6 15 1 (nI 0)) 0 12 ((mset M30_6 15 1 (nI 0)) 17 4)) 0 13 ((mset (mset M30_6 15 1 (nI 0)) 0 12 ((mset M30_6 15 1 (nI 0)) 17 4)) 17 5)) 0 8 (nI g9)) 0 9 (nI g8))) fun M97_10 => bv (f_X1_clear  (mset M97_10 0 10 (nI 0))) fun M109_12 => bg (M109_12 0 8) fun g14 => bd (f_X9_well (M109_12 g14 14) M109_12) fun v120_16 M120_15 => some (v120_16, M120_15))) else (j2  M))
set_option maxHeartbeats 4000000 in
set_option maxRecDepth 100000 in
theorem s_X9_game {l : Launch} {B : BT} (hA : bA B = false) {d : Nat} {r : Int32} {M' : Mm} {x1 : Int32} {M : Mm}  (h : f_X9_game x1 M = some (r, M')) : Con l B LY (d + 9) yX9_game cX9_game 4 (some .int) 0 0 [.ref 0, .int x1] 97 M (PI r M') := by
  refine con_of (by decide) (Nat.le_of_ble_eq_true rfl) ?_
  show GG l B LY (d + 9) yX9_game cX9_game 4 (some .int) 0 0 (PI r M') 97 0 0 0 [(0, .ref 0), (1, .int x1)] [] M
  rw [f_X9_game] at h
  refine g_iload_n dX9_game_0 rfl 1 rfl ?_
  obtain ⟨j2, ej2, h⟩ := jn_e h
  have hj2 : ∀ (M1 : Mm), j2 M1 = some (r, M') → GG l B LY (d + 9) yX9_game cX9_game 4 (some .int) 0 0 (PI r M') 97 0 0 15 [(0, .ref 0)] [] M1 := by
    intro M1 h
    rw [ej2] at h
    refine g_aload_n dX9_game_15 rfl 0 rfl ?_
    refine g_iconst (v := (nI 2)) dX9_game_16 (by decide) ?_
    obtain ⟨v17_4, M17_3, eM17_3, h⟩ := bd_e h
    refine m_callVi (As := [.int (nI 2)]) (st := []) (s_X9_refused (d := d + 8) hA  eM17_3) rfl okX9 ck_X9_refused w_468 rfl (Nat.le_of_ble_eq_true rfl) dX9_game_17 ?_
    exact g_zret rfl rfl (pi_of h) dX9_game_20
  refine g_if_lt (tgt := 15) dX9_game_1 (by decide) (fun c21 => ?_) (fun c21 => ?_)
  · replace h := ite_p c21 h
    refine g_sub [0] (lv' := [(0, .ref 0)]) rfl ?_
    exact hj2  _ h
  · replace h := ite_n c21 h
    refine g_iload_n dX9_game_4 rfl 1 rfl ?_
    refine g_aload_n dX9_game_5 rfl 0 rfl ?_
    refine m_geta (k := 0) okX9 rfl rfl (by decide) w_413 rfl dX9_game_6 ?_
    refine m_geti (k := 1) okX8 rfl rfl (by decide) w_196 rfl dX9_game_9 ?_
    refine g_icmp_le (tgt := 21) dX9_game_12 (by decide) (fun c20 => ?_) (fun c20 => ?_)
    · replace h := ite_p c20 h
      refine g_aload_n dX9_game_21 rfl 0 rfl ?_
      refine m_geta (k := 1) okX9 rfl rfl (by decide) w_414 rfl dX9_game_22 ?_
      refine g_aload_n dX9_game_25 rfl 0 rfl ?_
      obtain ⟨g5, eg5, hg5, h⟩ := bg_e h
      refine m_getm (k := 9) okX9 rfl rfl (by decide) w_422 rfl dX9_game_26 eg5 hg5 ?_
      refine g_iload_n dX9_game_29 rfl 1 rfl ?_
      obtain ⟨v30_7, M30_6, eM30_6, h⟩ := bd_e h
      refine m_callVi (As := [.ref g5, .int x1]) (st := []) (s_X5_read (d := d + 0) hA hg5 eM30_6) rfl okX5 ck_X5_read w_472 rfl (Nat.le_of_ble_eq_true rfl) dX9_game_30 ?_
      refine g_istore_n (lv' := [(2, .int v30_7), (0, .ref 0), (1, .int x1)]) dX9_game_33 rfl (by decide) rfl ?_
      refine g_aload_n dX9_game_34 rfl 1 rfl ?_
      refine m_geta (k := 0) okX9 rfl rfl (by decide) w_413 rfl dX9_game_35 ?_
      refine g_iconst (v := (nI 0)) dX9_game_38 (by decide) ?_
      refine m_puti (k := 1) okX8 rfl rfl (by decide) w_196 rfl rfl rfl dX9_game_39 ?_
      refine g_aload_n dX9_game_42 rfl 1 rfl ?_
      refine g_aload_n dX9_game_43 rfl 1 rfl ?_
      refine m_geta (k := 1) okX9 rfl rfl (by decide) w_414 rfl dX9_game_44 ?_
      refine m_geti (k := 4) okX5 rfl rfl (by decide) w_234 rfl dX9_game_47 ?_
      refine m_puti (k := 12) okX9 rfl rfl (by decide) w_425 rfl rfl rfl dX9_game_50 ?_
      refine g_aload_n dX9_game_53 rfl 1 rfl ?_
      refine g_aload_n dX9_game_54 rfl 1 rfl ?_
      refine m_geta (k := 1) okX9 rfl rfl (by decide) w_414 rfl dX9_game_55 ?_
      refine m_geti (k := 5) okX5 rfl rfl (by decide) w_236 rfl dX9_game_58 ?_
      refine m_puti (k := 13) okX9 rfl rfl (by decide) w_426 rfl rfl rfl dX9_game_61 ?_
      refine g_iload_n dX9_game_64 rfl 0 rfl ?_
      refine g_if_ne (tgt := 74) dX9_game_65 (by decide) (fun c19 => ?_) (fun c19 => ?_)
      · replace h := ite_n c19 h
        refine g_aload_n dX9_game_74 rfl 1 rfl ?_
        obtain ⟨g8, eg8, hg8, h⟩ := bg_e h
        refine m_getm (k := 8) okX9 rfl rfl (by decide) w_421 rfl dX9_game_75 eg8 hg8 ?_
        refine g_astore_n (lv' := [(3, .ref g8), (2, .int v30_7), (0, .ref 0), (1, .int x1)]) dX9_game_78 rfl (by decide) rfl ?_
        refine g_aload_n dX9_game_79 rfl 2 rfl ?_
        refine g_aload_n dX9_game_80 rfl 2 rfl ?_
        obtain ⟨g9, eg9, hg9, h⟩ := bg_e h
        refine m_getm (k := 9) okX9 rfl rfl (by decide) w_422 rfl dX9_game_81 eg9 hg9 ?_
        refine m_putm (k := 8) okX9 rfl rfl (by decide) w_421 rfl rfl rfl (Or.inl ⟨_, rfl⟩) hg9 dX9_game_84 ?_
        refine g_aload_n dX9_game_87 rfl 2 rfl ?_
        refine g_aload_n dX9_game_88 rfl 0 rfl ?_
        refine m_putm (k := 9) okX9 rfl rfl (by decide) w_422 rfl rfl rfl (Or.inl ⟨_, rfl⟩) hg8 dX9_game_89 ?_
        refine g_aload_n dX9_game_92 rfl 2 rfl ?_
        refine m_geta (k := 2) okX9 rfl rfl (by decide) w_415 rfl dX9_game_93 ?_
        refine g_iconst (v := (nI 0)) dX9_game_96 (by decide) ?_
        obtain ⟨M97_10, eM97_10, h⟩ := bv_e h
        refine m_callVv (As := [.int (nI 0)]) (st := []) (s_X3_begin (d := d + 7) hA rfl eM97_10) rfl okX3 ck_X3_begin w_667 rfl (Nat.le_of_ble_eq_true rfl) dX9_game_97 ?_
        refine g_aload_n dX9_game_100 rfl 2 rfl ?_
        refine g_iconst (v := (nI 0)) dX9_game_101 (by decide) ?_
        refine m_puti (k := 10) okX9 rfl rfl (by decide) w_423 rfl rfl rfl dX9_game_102 ?_
        refine g_aload_n dX9_game_105 rfl 2 rfl ?_
        refine m_geta (k := 5) okX9 rfl rfl (by decide) w_418 rfl dX9_game_106 ?_
        obtain ⟨M109_12, eM109_12, h⟩ := bv_e h
        refine m_callVv (As := []) (st := []) (s_X1_clear (d := d + 7) hA  eM109_12) rfl okX1 ck_X1_clear w_672 rfl (Nat.le_of_ble_eq_true rfl) dX9_game_109 ?_
        refine g_aload_n dX9_game_112 rfl 2 rfl ?_
        refine g_aload_n dX9_game_113 rfl 2 rfl ?_
        obtain ⟨g14, eg14, hg14, h⟩ := bg_e h
        refine m_getm (k := 8) okX9 rfl rfl (by decide) w_421 rfl dX9_game_114 eg14 hg14 ?_
        refine m_geti (k := 14) okX0 hg14 rfl (by decide) w_152 rfl dX9_game_117 ?_
        obtain ⟨v120_16, M120_15, eM120_15, h⟩ := bd_e h
        refine m_callVi (As := [.int (M109_12 g14 14)]) (st := []) (s_X9_well (d := d + 8) hA  eM120_15) rfl okX9 ck_X9_well w_677 rfl (Nat.le_of_ble_eq_true rfl) dX9_game_120 ?_
        exact g_zret rfl rfl (pi_of h) dX9_game_123
      · replace h := ite_p c19 h
        refine g_aload_n dX9_game_68 rfl 1 rfl ?_
        refine g_iconst (v := (nI 4)) dX9_game_69 (by decide) ?_
        obtain ⟨v70_18, M70_17, eM70_17, h⟩ := bd_e h
        refine m_callVi (As := [.int (nI 4)]) (st := []) (s_X9_refused (d := d + 8) hA  eM70_17) rfl okX9 ck_X9_refused w_468 rfl (Nat.le_of_ble_eq_true rfl) dX9_game_70 ?_
        exact g_zret rfl rfl (pi_of h) dX9_game_73
    · replace h := ite_n c20 h
      refine g_sub [0] (lv' := [(0, .ref 0)]) rfl ?_
      exact hj2  _ h
theorem ck_X9_game : CKV yX9_game cX9_game 4 (some .int) 1 := ⟨⟨by decide, by decide, by decide +kernel⟩, w_467, w_72, ⟨w_465, w_466⟩, by decide⟩
theorem dX9_fault_0 : decode cX9_fault 0 = .ok (.aload_n 0, 1) := by decide +kernel
theorem dX9_fault_1 : decode cX9_fault 1 = .ok (.getfield 93, 3) := by decide +kernel
theorem dX9_fault_4 : decode cX9_fault 4 = .ok (.ireturn, 1) := by decide +kernel
def f_X9_fault  (M : Mm) : Option (Int32 × Mm) :=
  some ((M 0 12), M)
set_option maxHeartbeats 4000000 in
set_option maxRecDepth 100000 in
theorem s_X9_fault {l : Launch} {B : BT} (hA : bA B = false) {d : Nat} {r : Int32} {M' : Mm}  {M : Mm}  (h : f_X9_fault  M = some (r, M')) : Con l B LY (d + 0) yX9_fault cX9_fault 1 (some .int) 0 0 [.ref 0] 97 M (PI r M') := by
  refine con_of (by decide) (Nat.le_of_ble_eq_true rfl) ?_
  show GG l B LY (d + 0) yX9_fault cX9_fault 1 (some .int) 0 0 (PI r M') 97 0 0 0 [(0, .ref 0)] [] M
  rw [f_X9_fault] at h
  refine g_aload_n dX9_fault_0 rfl 0 rfl ?_
  refine m_geti (k := 12) okX9 rfl rfl (by decide) w_425 rfl dX9_fault_1 ?_
  exact g_zret rfl rfl (pi_of h) dX9_fault_4
theorem ck_X9_fault : CKV yX9_fault cX9_fault 1 (some .int) 0 := ⟨⟨by decide, by decide, by decide +kernel⟩, w_684, w_72, ⟨w_682, w_683⟩, by decide⟩
theorem dX9_where_0 : decode cX9_where 0 = .ok (.aload_n 0, 1) := by decide +kernel
theorem dX9_where_1 : decode cX9_where 1 = .ok (.getfield 117, 3) := by decide +kernel
theorem dX9_where_4 : decode cX9_where 4 = .ok (.iconst 4, 1) := by decide +kernel
theorem dX9_where_5 : decode cX9_where 5 = .ok (.if_icmp .ne 10, 3) := by decide +kernel
theorem dX9_where_8 : decode cX9_where 8 = .ok (.aload_n 0, 1) := by decide +kernel
theorem dX9_where_9 : decode cX9_where 9 = .ok (.getfield 99, 3) := by decide +kernel
theorem dX9_where_12 : decode cX9_where 12 = .ok (.goto 4, 3) := by decide +kernel
theorem dX9_where_15 : decode cX9_where 15 = .ok (.iconst (-1), 1) := by decide +kernel
theorem dX9_where_16 : decode cX9_where 16 = .ok (.ireturn, 1) := by decide +kernel
def f_X9_where  (M : Mm) : Option (Int32 × Mm) :=
  if (M 0 11) = (nI 4) then (some ((M 0 13), M)) else (some ((-1 : Int32), M))
set_option maxHeartbeats 4000000 in
set_option maxRecDepth 100000 in
theorem s_X9_where {l : Launch} {B : BT} (hA : bA B = false) {d : Nat} {r : Int32} {M' : Mm}  {M : Mm}  (h : f_X9_where  M = some (r, M')) : Con l B LY (d + 0) yX9_where cX9_where 1 (some .int) 0 0 [.ref 0] 97 M (PI r M') := by
  refine con_of (by decide) (Nat.le_of_ble_eq_true rfl) ?_
  show GG l B LY (d + 0) yX9_where cX9_where 1 (some .int) 0 0 (PI r M') 97 0 0 0 [(0, .ref 0)] [] M
  rw [f_X9_where] at h
  refine g_aload_n dX9_where_0 rfl 0 rfl ?_
  refine m_geti (k := 11) okX9 rfl rfl (by decide) w_424 rfl dX9_where_1 ?_
  refine g_iconst (v := (nI 4)) dX9_where_4 (by decide) ?_
  refine g_icmp_ne (tgt := 15) dX9_where_5 (by decide) (fun c1 => ?_) (fun c1 => ?_)
  · replace h := ite_n c1 h
    refine g_iconst (v := (-1 : Int32)) dX9_where_15 (by decide) ?_
    exact g_zret rfl rfl (pi_of h) dX9_where_16
  · replace h := ite_p c1 h
    refine g_aload_n dX9_where_8 rfl 0 rfl ?_
    refine m_geti (k := 13) okX9 rfl rfl (by decide) w_426 rfl dX9_where_9 ?_
    refine g_goto (tgt := 16) dX9_where_12 (by decide) ?_
    exact g_zret rfl rfl (pi_of h) dX9_where_16
theorem ck_X9_where : CKV yX9_where cX9_where 1 (some .int) 0 := ⟨⟨by decide, by decide, by decide +kernel⟩, w_688, w_72, ⟨w_686, w_687⟩, by decide⟩
theorem dX9_hasGame_0 : decode cX9_hasGame 0 = .ok (.aload_n 0, 1) := by decide +kernel
theorem dX9_hasGame_1 : decode cX9_hasGame 1 = .ok (.getfield 10, 3) := by decide +kernel
theorem dX9_hasGame_4 : decode cX9_hasGame 4 = .ok (.getfield 111, 3) := by decide +kernel
theorem dX9_hasGame_7 : decode cX9_hasGame 7 = .ok (.ifCond .le 7, 3) := by decide +kernel
theorem dX9_hasGame_10 : decode cX9_hasGame 10 = .ok (.iconst 1, 1) := by decide +kernel
theorem dX9_hasGame_11 : decode cX9_hasGame 11 = .ok (.goto 4, 3) := by decide +kernel
theorem dX9_hasGame_14 : decode cX9_hasGame 14 = .ok (.iconst 0, 1) := by decide +kernel
theorem dX9_hasGame_15 : decode cX9_hasGame 15 = .ok (.ireturn, 1) := by decide +kernel
def f_X9_hasGame  (M : Mm) : Option (Int32 × Mm) :=
  bg (M 0 8) fun g1 => if (M g1 14) ≤ 0 then (some ((nI 0), M)) else (some ((nI 1), M))
set_option maxHeartbeats 4000000 in
set_option maxRecDepth 100000 in
theorem s_X9_hasGame {l : Launch} {B : BT} (hA : bA B = false) {d : Nat} {r : Int32} {M' : Mm}  {M : Mm}  (h : f_X9_hasGame  M = some (r, M')) : Con l B LY (d + 0) yX9_hasGame cX9_hasGame 1 (some .boolean) 0 0 [.ref 0] 97 M (PI r M') := by
  refine con_of (by decide) (Nat.le_of_ble_eq_true rfl) ?_
  show GG l B LY (d + 0) yX9_hasGame cX9_hasGame 1 (some .boolean) 0 0 (PI r M') 97 0 0 0 [(0, .ref 0)] [] M
  rw [f_X9_hasGame] at h
  refine g_aload_n dX9_hasGame_0 rfl 0 rfl ?_
  obtain ⟨g1, eg1, hg1, h⟩ := bg_e h
  refine m_getm (k := 8) okX9 rfl rfl (by decide) w_421 rfl dX9_hasGame_1 eg1 hg1 ?_
  refine m_geti (k := 14) okX0 hg1 rfl (by decide) w_152 rfl dX9_hasGame_4 ?_
  refine g_if_le (tgt := 14) dX9_hasGame_7 (by decide) (fun c2 => ?_) (fun c2 => ?_)
  · replace h := ite_p c2 h
    refine g_iconst (v := (nI 0)) dX9_hasGame_14 (by decide) ?_
    exact g_zret rfl rfl (pi_of h) dX9_hasGame_15
  · replace h := ite_n c2 h
    refine g_iconst (v := (nI 1)) dX9_hasGame_10 (by decide) ?_
    refine g_goto (tgt := 15) dX9_hasGame_11 (by decide) ?_
    exact g_zret rfl rfl (pi_of h) dX9_hasGame_15
theorem ck_X9_hasGame : CKV yX9_hasGame cX9_hasGame 1 (some .boolean) 0 := ⟨⟨by decide, by decide, by decide +kernel⟩, w_696, w_72, ⟨w_695, w_2⟩, by decide⟩
theorem dX9_denied_0 : decode cX9_denied 0 = .ok (.aload_n 0, 1) := by decide +kernel
theorem dX9_denied_1 : decode cX9_denied 1 = .ok (.iload_n 1, 1) := by decide +kernel
theorem dX9_denied_2 : decode cX9_denied 2 = .ok (.putfield 117, 3) := by decide +kernel
theorem dX9_denied_5 : decode cX9_denied 5 = .ok (.iconst 0, 1) := by decide +kernel
theorem dX9_denied_6 : decode cX9_denied 6 = .ok (.ireturn, 1) := by decide +kernel
def f_X9_denied (x1 : Int32) (M : Mm) : Option (Int32 × Mm) :=
  some ((nI 0), (mset M 0 11 x1))
set_option maxHeartbeats 4000000 in
set_option maxRecDepth 100000 in
theorem s_X9_denied {l : Launch} {B : BT} (hA : bA B = false) {d : Nat} {r : Int32} {M' : Mm} {x1 : Int32} {M : Mm}  (h : f_X9_denied x1 M = some (r, M')) : Con l B LY (d + 0) yX9_denied cX9_denied 2 (some .boolean) 0 0 [.ref 0, .int x1] 97 M (PI r M') := by
  refine con_of (by decide) (Nat.le_of_ble_eq_true rfl) ?_
  show GG l B LY (d + 0) yX9_denied cX9_denied 2 (some .boolean) 0 0 (PI r M') 97 0 0 0 [(0, .ref 0), (1, .int x1)] [] M
  rw [f_X9_denied] at h
  refine g_aload_n dX9_denied_0 rfl 0 rfl ?_
  refine g_iload_n dX9_denied_1 rfl 1 rfl ?_
  refine m_puti (k := 11) okX9 rfl rfl (by decide) w_424 rfl rfl rfl dX9_denied_2 ?_
  refine g_iconst (v := (nI 0)) dX9_denied_5 (by decide) ?_
  exact g_zret rfl rfl (pi_of h) dX9_denied_6
theorem ck_X9_denied : CKV yX9_denied cX9_denied 2 (some .boolean) 1 := ⟨⟨by decide, by decide, by decide +kernel⟩, w_700, w_72, ⟨w_699, w_3⟩, by decide⟩
