/-! walks: X10_seenWays X10_brings X10_gains X10_risks X10_oddsWhy X10_risk X10_gain X10_bestOf X10_best X10_worth X10_isRest X10_restOf X10_rests X10_rest X10_means X10_count. Written by wip/programs/parts.py. -/
theorem dX10_seenWays_0 : decode cX10_seenWays 0 = .ok (.aload_n 0, 1) := by decide +kernel
theorem dX10_seenWays_1 : decode cX10_seenWays 1 = .ok (.iload 4, 2) := by decide +kernel
theorem dX10_seenWays_3 : decode cX10_seenWays 3 = .ok (.invokevirtual 300, 3) := by decide +kernel
theorem dX10_seenWays_6 : decode cX10_seenWays 6 = .ok (.istore 5, 2) := by decide +kernel
theorem dX10_seenWays_8 : decode cX10_seenWays 8 = .ok (.iload 5, 2) := by decide +kernel
theorem dX10_seenWays_10 : decode cX10_seenWays 10 = .ok (.iload_n 3, 1) := by decide +kernel
theorem dX10_seenWays_11 : decode cX10_seenWays 11 = .ok (.if_icmp .lt 5, 3) := by decide +kernel
theorem dX10_seenWays_14 : decode cX10_seenWays 14 = .ok (.iconst 0, 1) := by decide +kernel
theorem dX10_seenWays_15 : decode cX10_seenWays 15 = .ok (.ireturn, 1) := by decide +kernel
theorem dX10_seenWays_16 : decode cX10_seenWays 16 = .ok (.aload_n 0, 1) := by decide +kernel
theorem dX10_seenWays_17 : decode cX10_seenWays 17 = .ok (.iload_n 1, 1) := by decide +kernel
theorem dX10_seenWays_18 : decode cX10_seenWays 18 = .ok (.iload_n 2, 1) := by decide +kernel
theorem dX10_seenWays_19 : decode cX10_seenWays 19 = .ok (.iload 5, 2) := by decide +kernel
theorem dX10_seenWays_21 : decode cX10_seenWays 21 = .ok (.invokevirtual 306, 3) := by decide +kernel
theorem dX10_seenWays_24 : decode cX10_seenWays 24 = .ok (.istore 6, 2) := by decide +kernel
theorem dX10_seenWays_26 : decode cX10_seenWays 26 = .ok (.iload 5, 2) := by decide +kernel
theorem dX10_seenWays_28 : decode cX10_seenWays 28 = .ok (.aload_n 0, 1) := by decide +kernel
theorem dX10_seenWays_29 : decode cX10_seenWays 29 = .ok (.getfield 20, 3) := by decide +kernel
theorem dX10_seenWays_32 : decode cX10_seenWays 32 = .ok (.bipush 61, 2) := by decide +kernel
theorem dX10_seenWays_34 : decode cX10_seenWays 34 = .ok (.iload_n 1, 1) := by decide +kernel
theorem dX10_seenWays_35 : decode cX10_seenWays 35 = .ok (.iadd, 1) := by decide +kernel
theorem dX10_seenWays_36 : decode cX10_seenWays 36 = .ok (.iaload, 1) := by decide +kernel
theorem dX10_seenWays_37 : decode cX10_seenWays 37 = .ok (.irem, 1) := by decide +kernel
theorem dX10_seenWays_38 : decode cX10_seenWays 38 = .ok (.istore 7, 2) := by decide +kernel
theorem dX10_seenWays_40 : decode cX10_seenWays 40 = .ok (.iload 6, 2) := by decide +kernel
theorem dX10_seenWays_42 : decode cX10_seenWays 42 = .ok (.aload_n 0, 1) := by decide +kernel
theorem dX10_seenWays_43 : decode cX10_seenWays 43 = .ok (.getfield 20, 3) := by decide +kernel
theorem dX10_seenWays_46 : decode cX10_seenWays 46 = .ok (.iconst 0, 1) := by decide +kernel
theorem dX10_seenWays_47 : decode cX10_seenWays 47 = .ok (.iaload, 1) := by decide +kernel
theorem dX10_seenWays_48 : decode cX10_seenWays 48 = .ok (.if_icmp .ge 12, 3) := by decide +kernel
theorem dX10_seenWays_51 : decode cX10_seenWays 51 = .ok (.iload 7, 2) := by decide +kernel
theorem dX10_seenWays_53 : decode cX10_seenWays 53 = .ok (.ifCond .le 7, 3) := by decide +kernel
theorem dX10_seenWays_56 : decode cX10_seenWays 56 = .ok (.iconst 1, 1) := by decide +kernel
theorem dX10_seenWays_57 : decode cX10_seenWays 57 = .ok (.goto 4, 3) := by decide +kernel
theorem dX10_seenWays_60 : decode cX10_seenWays 60 = .ok (.iconst 0, 1) := by decide +kernel
theorem dX10_seenWays_61 : decode cX10_seenWays 61 = .ok (.istore 8, 2) := by decide +kernel
theorem dX10_seenWays_63 : decode cX10_seenWays 63 = .ok (.iload 8, 2) := by decide +kernel
theorem dX10_seenWays_65 : decode cX10_seenWays 65 = .ok (.ifCond .eq 49, 3) := by decide +kernel
theorem dX10_seenWays_68 : decode cX10_seenWays 68 = .ok (.iload 7, 2) := by decide +kernel
theorem dX10_seenWays_70 : decode cX10_seenWays 70 = .ok (.bipush 100, 2) := by decide +kernel
theorem dX10_seenWays_72 : decode cX10_seenWays 72 = .ok (.imul, 1) := by decide +kernel
theorem dX10_seenWays_73 : decode cX10_seenWays 73 = .ok (.aload_n 0, 1) := by decide +kernel
theorem dX10_seenWays_74 : decode cX10_seenWays 74 = .ok (.getfield 20, 3) := by decide +kernel
theorem dX10_seenWays_77 : decode cX10_seenWays 77 = .ok (.bipush 61, 2) := by decide +kernel
theorem dX10_seenWays_79 : decode cX10_seenWays 79 = .ok (.iload_n 1, 1) := by decide +kernel
theorem dX10_seenWays_80 : decode cX10_seenWays 80 = .ok (.iadd, 1) := by decide +kernel
theorem dX10_seenWays_81 : decode cX10_seenWays 81 = .ok (.iaload, 1) := by decide +kernel
theorem dX10_seenWays_82 : decode cX10_seenWays 82 = .ok (.idiv, 1) := by decide +kernel
theorem dX10_seenWays_83 : decode cX10_seenWays 83 = .ok (.aload_n 0, 1) := by decide +kernel
theorem dX10_seenWays_84 : decode cX10_seenWays 84 = .ok (.getfield 20, 3) := by decide +kernel
theorem dX10_seenWays_87 : decode cX10_seenWays 87 = .ok (.iconst 5, 1) := by decide +kernel
theorem dX10_seenWays_88 : decode cX10_seenWays 88 = .ok (.iaload, 1) := by decide +kernel
theorem dX10_seenWays_89 : decode cX10_seenWays 89 = .ok (.aload_n 0, 1) := by decide +kernel
theorem dX10_seenWays_90 : decode cX10_seenWays 90 = .ok (.getfield 20, 3) := by decide +kernel
theorem dX10_seenWays_93 : decode cX10_seenWays 93 = .ok (.iconst 0, 1) := by decide +kernel
theorem dX10_seenWays_94 : decode cX10_seenWays 94 = .ok (.iaload, 1) := by decide +kernel
theorem dX10_seenWays_95 : decode cX10_seenWays 95 = .ok (.iadd, 1) := by decide +kernel
theorem dX10_seenWays_96 : decode cX10_seenWays 96 = .ok (.iload 6, 2) := by decide +kernel
theorem dX10_seenWays_98 : decode cX10_seenWays 98 = .ok (.isub, 1) := by decide +kernel
theorem dX10_seenWays_99 : decode cX10_seenWays 99 = .ok (.if_icmp .lt 15, 3) := by decide +kernel
theorem dX10_seenWays_102 : decode cX10_seenWays 102 = .ok (.aload_n 0, 1) := by decide +kernel
theorem dX10_seenWays_103 : decode cX10_seenWays 103 = .ok (.getfield 20, 3) := by decide +kernel
theorem dX10_seenWays_106 : decode cX10_seenWays 106 = .ok (.bipush 66, 2) := by decide +kernel
theorem dX10_seenWays_108 : decode cX10_seenWays 108 = .ok (.iload_n 1, 1) := by decide +kernel
theorem dX10_seenWays_109 : decode cX10_seenWays 109 = .ok (.iadd, 1) := by decide +kernel
theorem dX10_seenWays_110 : decode cX10_seenWays 110 = .ok (.iaload, 1) := by decide +kernel
theorem dX10_seenWays_111 : decode cX10_seenWays 111 = .ok (.goto 4, 3) := by decide +kernel
theorem dX10_seenWays_114 : decode cX10_seenWays 114 = .ok (.iconst 0, 1) := by decide +kernel
theorem dX10_seenWays_115 : decode cX10_seenWays 115 = .ok (.ireturn, 1) := by decide +kernel
def f_X10_seenWays (x1 : Int32) (x2 : Int32) (x3 : Int32) (x4 : Int32) (M : Mm) : Option (Int32 × Mm) :=
  bd (f_X10_endOf x4 M) fun v3_2 M3_1 => if v3_2 < x3 then (bd (f_X10_gone x1 x2 v3_2 M3_1) fun v21_4 M21_3 => gd (inb ((nI 61) + x1) 141) <| gd (nzi (M21_3 84 ((nI 61) + x1).toNatClampNeg)) <| lt ((v3_2 - v3_2 / (M21_3 84 ((nI 61) + x1).toNatClampNeg) * (M21_3 84 ((nI 61) + x1).toNatClampNeg))) fun t5 => jn (fun (s6 : Int32) (M7 : Mm) => jn (fun (M9 : Mm) => some ((nI 0), M9)) fun j10 => if s6 = 0 then (j10  M7) else (gd (inb ((nI 61) + x1) 141) <| gd (nzi (M7 84 ((nI 61) + x1).toNatClampNeg)) <| if ((t5 * (nI 100)) / (M7 84 ((nI 61) + x1).toNatClampNeg)) < (((M7 84 5) + (M7 84 0)) - v21_4) then (j10  M7) else (gd (inb ((nI 66) + x1) 141) <| some ((M7 84 ((nI 66) + x1).toNatClampNeg), M7)))) fun j8 => jn (fun (M13 : Mm) => j8 (nI 0) M13) fun j14 => if (M21_3 84 0) ≤ v21_4 then (j14  M21_3) else (if t5 ≤ 0 then (j14  M21_3) else (j8 (nI 1) M21_3))) else (some ((nI 0), M3_1))
set_option maxHeartbeats 4000000 in
set_option maxRecDepth 100000 in
theorem s_X10_seenWays {l : Launch} {B : BT} (hA : bA B = false) {d : Nat} {r : Int32} {M' : Mm} {x1 : Int32} {x2 : Int32} {x3 : Int32} {x4 : Int32} {M : Mm}  (h : f_X10_seenWays x1 x2 x3 x4 M = some (r, M')) : Con l B LY (d + 2) yX10_seenWays cX10_seenWays 9 (some .int) 0 0 [.ref 81, .int x1, .int x2, .int x3, .int x4] 97 M (PI r M') := by
  refine con_of (by decide) (Nat.le_of_ble_eq_true rfl) ?_
  show GG l B LY (d + 2) yX10_seenWays cX10_seenWays 9 (some .int) 0 0 (PI r M') 97 0 0 0 [(0, .ref 81), (1, .int x1), (2, .int x2), (3, .int x3), (4, .int x4)] [] M
  rw [f_X10_seenWays] at h
  refine g_aload_n dX10_seenWays_0 rfl 0 rfl ?_
  refine g_iload dX10_seenWays_1 4 rfl ?_
  obtain ⟨v3_2, M3_1, eM3_1, h⟩ := bd_e h
  refine m_callVi (As := [.int x4]) (st := []) (s_X10_endOf (d := d + 0) hA  eM3_1) rfl okX10 ck_X10_endOf w_1641 rfl (Nat.le_of_ble_eq_true rfl) dX10_seenWays_3 ?_
  refine g_istore (lv' := [(5, .int v3_2), (0, .ref 81), (1, .int x1), (2, .int x2), (3, .int x3), (4, .int x4)]) dX10_seenWays_6 (by decide) rfl ?_
  refine g_iload dX10_seenWays_8 0 rfl ?_
  refine g_iload_n dX10_seenWays_10 rfl 4 rfl ?_
  refine g_icmp_lt (tgt := 16) dX10_seenWays_11 (by decide) (fun c17 => ?_) (fun c17 => ?_)
  · replace h := ite_p c17 h
    refine g_aload_n dX10_seenWays_16 rfl 1 rfl ?_
    refine g_iload_n dX10_seenWays_17 rfl 2 rfl ?_
    refine g_iload_n dX10_seenWays_18 rfl 3 rfl ?_
    refine g_iload dX10_seenWays_19 0 rfl ?_
    obtain ⟨v21_4, M21_3, eM21_3, h⟩ := bd_e h
    refine m_callVi (As := [.int x1, .int x2, .int v3_2]) (st := []) (s_X10_gone (d := d + 0) hA  eM21_3) rfl okX10 ck_X10_gone w_1653 rfl (Nat.le_of_ble_eq_true rfl) dX10_seenWays_21 ?_
    refine g_istore (lv' := [(6, .int v21_4), (5, .int v3_2), (0, .ref 81), (1, .int x1), (2, .int x2), (3, .int x3), (4, .int x4)]) dX10_seenWays_24 (by decide) rfl ?_
    refine g_iload dX10_seenWays_26 1 rfl ?_
    refine g_aload_n dX10_seenWays_28 rfl 2 rfl ?_
    refine m_getr (k := 15) okX10 rfl rfl (by decide) w_1284 rfl dX10_seenWays_29 ?_
    refine g_bipush (v := (nI 61)) dX10_seenWays_32 (by decide) ?_
    refine g_iload_n dX10_seenWays_34 rfl 3 rfl ?_
    refine g_iadd dX10_seenWays_35 ?_
    obtain ⟨hz, h⟩ := gd_s h
    refine m_iald rfl hz dX10_seenWays_36 ?_
    obtain ⟨hz, h⟩ := gd_s h
    refine g_irem dX10_seenWays_37 (nzi_s hz) ?_
    obtain ⟨t5, et5, h⟩ := lt_e h
    refine g_cuti et5 ?_
    refine g_istore (lv' := [(7, .int t5), (6, .int v21_4), (5, .int v3_2), (0, .ref 81), (1, .int x1), (2, .int x2), (3, .int x3), (4, .int x4)]) dX10_seenWays_38 (by decide) rfl ?_
    refine g_iload dX10_seenWays_40 1 rfl ?_
    refine g_aload_n dX10_seenWays_42 rfl 3 rfl ?_
    refine m_getr (k := 15) okX10 rfl rfl (by decide) w_1284 rfl dX10_seenWays_43 ?_
    refine g_iconst (v := (nI 0)) dX10_seenWays_46 (by decide) ?_
    refine m_ialdL (k := 0) rfl rfl (by decide) dX10_seenWays_47 ?_
    obtain ⟨j8, ej8, h⟩ := jn_e h
    have hj8 : ∀ (s6 : Int32) (M7 : Mm), j8 s6 M7 = some (r, M') → GG l B LY (d + 2) yX10_seenWays cX10_seenWays 9 (some .int) 0 0 (PI r M') 97 0 0 61 [(0, .ref 81), (1, .int x1), (6, .int v21_4), (7, .int t5)] [.int s6] M7 := by
      intro s6 M7 h
      rw [ej8] at h
      refine g_istore (lv' := [(8, .int s6), (0, .ref 81), (1, .int x1), (6, .int v21_4), (7, .int t5)]) dX10_seenWays_61 (by decide) rfl ?_
      refine g_iload dX10_seenWays_63 0 rfl ?_
      obtain ⟨j10, ej10, h⟩ := jn_e h
      have hj10 : ∀ (M9 : Mm), j10 M9 = some (r, M') → GG l B LY (d + 2) yX10_seenWays cX10_seenWays 9 (some .int) 0 0 (PI r M') 97 0 0 114 [] [] M9 := by
        intro M9 h
        rw [ej10] at h
        refine g_iconst (v := (nI 0)) dX10_seenWays_114 (by decide) ?_
        exact g_zret rfl rfl (pi_of h) dX10_seenWays_115
      refine g_if_eq (tgt := 114) dX10_seenWays_65 (by decide) (fun c12 => ?_) (fun c12 => ?_)
      · replace h := ite_p c12 h
        refine g_sub [] (lv' := []) rfl ?_
        exact hj10  _ h
      · replace h := ite_n c12 h
        refine g_iload dX10_seenWays_68 4 rfl ?_
        refine g_bipush (v := (nI 100)) dX10_seenWays_70 (by decide) ?_
        refine g_imul dX10_seenWays_72 ?_
        refine g_aload_n dX10_seenWays_73 rfl 1 rfl ?_
        refine m_getr (k := 15) okX10 rfl rfl (by decide) w_1284 rfl dX10_seenWays_74 ?_
        refine g_bipush (v := (nI 61)) dX10_seenWays_77 (by decide) ?_
        refine g_iload_n dX10_seenWays_79 rfl 2 rfl ?_
        refine g_iadd dX10_seenWays_80 ?_
        obtain ⟨hz, h⟩ := gd_s h
        refine m_iald rfl hz dX10_seenWays_81 ?_
        obtain ⟨hz, h⟩ := gd_s h
        refine g_idiv dX10_seenWays_82 (nzi_s hz) ?_
        refine g_aload_n dX10_seenWays_83 rfl 1 rfl ?_
        refine m_getr (k := 15) okX10 rfl rfl (by decide) w_1284 rfl dX10_seenWays_84 ?_
        refine g_iconst (v := (nI 5)) dX10_seenWays_87 (by decide) ?_
        refine m_ialdL (k := 5) rfl rfl (by decide) dX10_seenWays_88 ?_
        refine g_aload_n dX10_seenWays_89 rfl 1 rfl ?_
        refine m_getr (k := 15) okX10 rfl rfl (by decide) w_1284 rfl dX10_seenWays_90 ?_
        refine g_iconst (v := (nI 0)) dX10_seenWays_93 (by decide) ?_
        refine m_ialdL (k := 0) rfl rfl (by decide) dX10_seenWays_94 ?_
        refine g_iadd dX10_seenWays_95 ?_
        refine g_iload dX10_seenWays_96 3 rfl ?_
        refine g_isub dX10_seenWays_98 ?_
        refine g_icmp_lt (tgt := 114) dX10_seenWays_99 (by decide) (fun c11 => ?_) (fun c11 => ?_)
        · replace h := ite_p c11 h
          refine g_sub [] (lv' := []) rfl ?_
          exact hj10  _ h
        · replace h := ite_n c11 h
          refine g_aload_n dX10_seenWays_102 rfl 1 rfl ?_
          refine m_getr (k := 15) okX10 rfl rfl (by decide) w_1284 rfl dX10_seenWays_103 ?_
          refine g_bipush (v := (nI 66)) dX10_seenWays_106 (by decide) ?_
          refine g_iload_n dX10_seenWays_108 rfl 2 rfl ?_
          refine g_iadd dX10_seenWays_109 ?_
          obtain ⟨hz, h⟩ := gd_s h
          refine m_iald rfl hz dX10_seenWays_110 ?_
          refine g_goto (tgt := 115) dX10_seenWays_111 (by decide) ?_
          exact g_zret rfl rfl (pi_of h) dX10_seenWays_115
    obtain ⟨j14, ej14, h⟩ := jn_e h
    have hj14 : ∀ (M13 : Mm), j14 M13 = some (r, M') → GG l B LY (d + 2) yX10_seenWays cX10_seenWays 9 (some .int) 0 0 (PI r M') 97 0 0 60 [(0, .ref 81), (1, .int x1), (6, .int v21_4), (7, .int t5)] [] M13 := by
      intro M13 h
      rw [ej14] at h
      refine g_iconst (v := (nI 0)) dX10_seenWays_60 (by decide) ?_
      refine g_sub [0, 1, 2, 3] (lv' := [(0, .ref 81), (1, .int x1), (6, .int v21_4), (7, .int t5)]) rfl ?_
      exact hj8 _ _ h
    refine g_icmp_ge (tgt := 60) dX10_seenWays_48 (by decide) (fun c16 => ?_) (fun c16 => ?_)
    · replace h := ite_p c16 h
      refine g_sub [3, 4, 1, 0] (lv' := [(0, .ref 81), (1, .int x1), (6, .int v21_4), (7, .int t5)]) rfl ?_
      exact hj14  _ h
    · replace h := ite_n c16 h
      refine g_iload dX10_seenWays_51 0 rfl ?_
      refine g_if_le (tgt := 60) dX10_seenWays_53 (by decide) (fun c15 => ?_) (fun c15 => ?_)
      · replace h := ite_p c15 h
        refine g_sub [3, 4, 1, 0] (lv' := [(0, .ref 81), (1, .int x1), (6, .int v21_4), (7, .int t5)]) rfl ?_
        exact hj14  _ h
      · replace h := ite_n c15 h
        refine g_iconst (v := (nI 1)) dX10_seenWays_56 (by decide) ?_
        refine g_goto (tgt := 61) dX10_seenWays_57 (by decide) ?_
        refine g_sub [3, 4, 1, 0] (lv' := [(0, .ref 81), (1, .int x1), (6, .int v21_4), (7, .int t5)]) rfl ?_
        exact hj8 _ _ h
  · replace h := ite_n c17 h
    refine g_iconst (v := (nI 0)) dX10_seenWays_14 (by decide) ?_
    exact g_zret rfl rfl (pi_of h) dX10_seenWays_15
theorem ck_X10_seenWays : CKV yX10_seenWays cX10_seenWays 9 (some .int) 4 := ⟨⟨by decide, by decide, by decide +kernel⟩, w_1652, w_81, ⟨w_1651, w_52⟩, by decide⟩
theorem dX10_brings_0 : decode cX10_brings 0 = .ok (.aload_n 0, 1) := by decide +kernel
theorem dX10_brings_1 : decode cX10_brings 1 = .ok (.iload_n 1, 1) := by decide +kernel
theorem dX10_brings_2 : decode cX10_brings 2 = .ok (.iload_n 2, 1) := by decide +kernel
theorem dX10_brings_3 : decode cX10_brings 3 = .ok (.aload_n 0, 1) := by decide +kernel
theorem dX10_brings_4 : decode cX10_brings 4 = .ok (.iload 4, 2) := by decide +kernel
theorem dX10_brings_6 : decode cX10_brings 6 = .ok (.invokevirtual 300, 3) := by decide +kernel
theorem dX10_brings_9 : decode cX10_brings 9 = .ok (.iload_n 3, 1) := by decide +kernel
theorem dX10_brings_10 : decode cX10_brings 10 = .ok (.invokestatic 303, 3) := by decide +kernel
theorem dX10_brings_13 : decode cX10_brings 13 = .ok (.invokevirtual 306, 3) := by decide +kernel
theorem dX10_brings_16 : decode cX10_brings 16 = .ok (.istore 6, 2) := by decide +kernel
theorem dX10_brings_18 : decode cX10_brings 18 = .ok (.iload 5, 2) := by decide +kernel
theorem dX10_brings_20 : decode cX10_brings 20 = .ok (.ifCond .eq 7, 3) := by decide +kernel
theorem dX10_brings_23 : decode cX10_brings 23 = .ok (.iconst 0, 1) := by decide +kernel
theorem dX10_brings_24 : decode cX10_brings 24 = .ok (.goto 12, 3) := by decide +kernel
theorem dX10_brings_27 : decode cX10_brings 27 = .ok (.aload_n 0, 1) := by decide +kernel
theorem dX10_brings_28 : decode cX10_brings 28 = .ok (.iload_n 1, 1) := by decide +kernel
theorem dX10_brings_29 : decode cX10_brings 29 = .ok (.iload_n 2, 1) := by decide +kernel
theorem dX10_brings_30 : decode cX10_brings 30 = .ok (.iload_n 3, 1) := by decide +kernel
theorem dX10_brings_31 : decode cX10_brings 31 = .ok (.iload 4, 2) := by decide +kernel
theorem dX10_brings_33 : decode cX10_brings 33 = .ok (.invokevirtual 310, 3) := by decide +kernel
theorem dX10_brings_36 : decode cX10_brings 36 = .ok (.istore 7, 2) := by decide +kernel
theorem dX10_brings_38 : decode cX10_brings 38 = .ok (.ldc2_w 290, 3) := by decide +kernel
theorem dX10_brings_41 : decode cX10_brings 41 = .ok (.iload 7, 2) := by decide +kernel
theorem dX10_brings_43 : decode cX10_brings 43 = .ok (.i2l, 1) := by decide +kernel
theorem dX10_brings_44 : decode cX10_brings 44 = .ok (.lsub, 1) := by decide +kernel
theorem dX10_brings_45 : decode cX10_brings 45 = .ok (.iload 6, 2) := by decide +kernel
theorem dX10_brings_47 : decode cX10_brings 47 = .ok (.iload_n 2, 1) := by decide +kernel
theorem dX10_brings_48 : decode cX10_brings 48 = .ok (.isub, 1) := by decide +kernel
theorem dX10_brings_49 : decode cX10_brings 49 = .ok (.i2l, 1) := by decide +kernel
theorem dX10_brings_50 : decode cX10_brings 50 = .ok (.lmul, 1) := by decide +kernel
theorem dX10_brings_51 : decode cX10_brings 51 = .ok (.iload 7, 2) := by decide +kernel
theorem dX10_brings_53 : decode cX10_brings 53 = .ok (.i2l, 1) := by decide +kernel
theorem dX10_brings_54 : decode cX10_brings 54 = .ok (.iload_n 2, 1) := by decide +kernel
theorem dX10_brings_55 : decode cX10_brings 55 = .ok (.i2l, 1) := by decide +kernel
theorem dX10_brings_56 : decode cX10_brings 56 = .ok (.lmul, 1) := by decide +kernel
theorem dX10_brings_57 : decode cX10_brings 57 = .ok (.lsub, 1) := by decide +kernel
theorem dX10_brings_58 : decode cX10_brings 58 = .ok (.lreturn, 1) := by decide +kernel
def f_X10_brings (x1 : Int32) (x2 : Int32) (x3 : Int32) (x4 : Int32) (x5 : Int32) (M : Mm) : Option (Int64 × Mm) :=
  bd (f_X10_endOf x4 M) fun v6_2 M6_1 => bd (f_X10_less v6_2 x3 M6_1) fun v10_4 M10_3 => bd (f_X10_gone x1 x2 v10_4 M10_3) fun v13_6 M13_5 => jn (fun (s7 : Int32) (M8 : Mm) => some (((((100 : Int64) - s7.toInt64) * (v13_6 - x2).toInt64) - (s7.toInt64 * x2.toInt64)), M8)) fun j9 => if x5 = 0 then (bd (f_X10_seenWays x1 x2 x3 x4 M13_5) fun v33_11 M33_10 => j9 v33_11 M33_10) else (j9 (nI 0) M13_5)
set_option maxHeartbeats 4000000 in
set_option maxRecDepth 100000 in
theorem s_X10_brings {l : Launch} {B : BT} (hA : bA B = false) {d : Nat} {r : Int64} {M' : Mm} {x1 : Int32} {x2 : Int32} {x3 : Int32} {x4 : Int32} {x5 : Int32} {M : Mm}  (h : f_X10_brings x1 x2 x3 x4 x5 M = some (r, M')) : Con l B LY (d + 3) yX10_brings cX10_brings 8 (some .long) 0 0 [.ref 81, .int x1, .int x2, .int x3, .int x4, .int x5] 97 M (PL r M') := by
  refine con_of (by decide) (Nat.le_of_ble_eq_true rfl) ?_
  show GG l B LY (d + 3) yX10_brings cX10_brings 8 (some .long) 0 0 (PL r M') 97 0 0 0 [(0, .ref 81), (1, .int x1), (2, .int x2), (3, .int x3), (4, .int x4), (5, .int x5)] [] M
  rw [f_X10_brings] at h
  refine g_aload_n dX10_brings_0 rfl 0 rfl ?_
  refine g_iload_n dX10_brings_1 rfl 1 rfl ?_
  refine g_iload_n dX10_brings_2 rfl 2 rfl ?_
  refine g_aload_n dX10_brings_3 rfl 0 rfl ?_
  refine g_iload dX10_brings_4 4 rfl ?_
  obtain ⟨v6_2, M6_1, eM6_1, h⟩ := bd_e h
  refine m_callVi (As := [.int x4]) (st := [.int x2, .int x1, .ref 81]) (s_X10_endOf (d := d + 1) hA  eM6_1) rfl okX10 ck_X10_endOf w_1641 rfl (Nat.le_of_ble_eq_true rfl) dX10_brings_6 ?_
  refine g_iload_n dX10_brings_9 rfl 3 rfl ?_
  obtain ⟨v10_4, M10_3, eM10_3, h⟩ := bd_e h
  refine m_callSi (As := [.int v6_2, .int x3]) (st := [.int x2, .int x1, .ref 81]) (s_X10_less (d := d + 2) hA  eM10_3) ck_X10_less w_1657 rfl (Nat.le_of_ble_eq_true rfl) dX10_brings_10 ?_
  obtain ⟨v13_6, M13_5, eM13_5, h⟩ := bd_e h
  refine m_callVi (As := [.int x1, .int x2, .int v10_4]) (st := []) (s_X10_gone (d := d + 1) hA  eM13_5) rfl okX10 ck_X10_gone w_1653 rfl (Nat.le_of_ble_eq_true rfl) dX10_brings_13 ?_
  refine g_istore (lv' := [(6, .int v13_6), (0, .ref 81), (1, .int x1), (2, .int x2), (3, .int x3), (4, .int x4), (5, .int x5)]) dX10_brings_16 (by decide) rfl ?_
  refine g_iload dX10_brings_18 6 rfl ?_
  obtain ⟨j9, ej9, h⟩ := jn_e h
  have hj9 : ∀ (s7 : Int32) (M8 : Mm), j9 s7 M8 = some (r, M') → GG l B LY (d + 3) yX10_brings cX10_brings 8 (some .long) 0 0 (PL r M') 97 0 0 36 [(2, .int x2), (6, .int v13_6)] [.int s7] M8 := by
    intro s7 M8 h
    rw [ej9] at h
    refine g_istore (lv' := [(7, .int s7), (2, .int x2), (6, .int v13_6)]) dX10_brings_36 (by decide) rfl ?_
    refine g_ldc2 (v := 100) w_1620 dX10_brings_38 ?_
    refine g_iload dX10_brings_41 0 rfl ?_
    refine g_i2l dX10_brings_43 ?_
    refine g_lsub dX10_brings_44 ?_
    refine g_iload dX10_brings_45 2 rfl ?_
    refine g_iload_n dX10_brings_47 rfl 1 rfl ?_
    refine g_isub dX10_brings_48 ?_
    refine g_i2l dX10_brings_49 ?_
    refine g_lmul dX10_brings_50 ?_
    refine g_iload dX10_brings_51 0 rfl ?_
    refine g_i2l dX10_brings_53 ?_
    refine g_iload_n dX10_brings_54 rfl 1 rfl ?_
    refine g_i2l dX10_brings_55 ?_
    refine g_lmul dX10_brings_56 ?_
    refine g_lsub dX10_brings_57 ?_
    exact g_lret rfl (pl_of h) dX10_brings_58
  refine g_if_eq (tgt := 27) dX10_brings_20 (by decide) (fun c12 => ?_) (fun c12 => ?_)
  · replace h := ite_p c12 h
    refine g_aload_n dX10_brings_27 rfl 1 rfl ?_
    refine g_iload_n dX10_brings_28 rfl 2 rfl ?_
    refine g_iload_n dX10_brings_29 rfl 3 rfl ?_
    refine g_iload_n dX10_brings_30 rfl 4 rfl ?_
    refine g_iload dX10_brings_31 5 rfl ?_
    obtain ⟨v33_11, M33_10, eM33_10, h⟩ := bd_e h
    refine m_callVi (As := [.int x1, .int x2, .int x3, .int x4]) (st := []) (s_X10_seenWays (d := d + 0) hA  eM33_10) rfl okX10 ck_X10_seenWays w_1649 rfl (Nat.le_of_ble_eq_true rfl) dX10_brings_33 ?_
    refine g_sub [3, 0] (lv' := [(2, .int x2), (6, .int v13_6)]) rfl ?_
    exact hj9 _ _ h
  · replace h := ite_n c12 h
    refine g_iconst (v := (nI 0)) dX10_brings_23 (by decide) ?_
    refine g_goto (tgt := 36) dX10_brings_24 (by decide) ?_
    refine g_sub [3, 0] (lv' := [(2, .int x2), (6, .int v13_6)]) rfl ?_
    exact hj9 _ _ h
theorem ck_X10_brings : CKV yX10_brings cX10_brings 8 (some .long) 5 := ⟨⟨by decide, by decide, by decide +kernel⟩, w_1672, w_81, ⟨w_1671, w_55⟩, by decide⟩
theorem dX10_gains_0 : decode cX10_gains 0 = .ok (.lconst 0, 1) := by decide +kernel
theorem dX10_gains_1 : decode cX10_gains 1 = .ok (.lstore 5, 2) := by decide +kernel
theorem dX10_gains_3 : decode cX10_gains 3 = .ok (.iconst 0, 1) := by decide +kernel
theorem dX10_gains_4 : decode cX10_gains 4 = .ok (.istore 7, 2) := by decide +kernel
theorem dX10_gains_6 : decode cX10_gains 6 = .ok (.iload 7, 2) := by decide +kernel
theorem dX10_gains_8 : decode cX10_gains 8 = .ok (.aload_n 0, 1) := by decide +kernel
theorem dX10_gains_9 : decode cX10_gains 9 = .ok (.getfield 20, 3) := by decide +kernel
theorem dX10_gains_12 : decode cX10_gains 12 = .ok (.bipush 92, 2) := by decide +kernel
theorem dX10_gains_14 : decode cX10_gains 14 = .ok (.iaload, 1) := by decide +kernel
theorem dX10_gains_15 : decode cX10_gains 15 = .ok (.if_icmp .ge 32, 3) := by decide +kernel
theorem dX10_gains_18 : decode cX10_gains 18 = .ok (.lload 5, 2) := by decide +kernel
theorem dX10_gains_20 : decode cX10_gains 20 = .ok (.aload_n 0, 1) := by decide +kernel
theorem dX10_gains_21 : decode cX10_gains 21 = .ok (.iload 7, 2) := by decide +kernel
theorem dX10_gains_23 : decode cX10_gains 23 = .ok (.invokevirtual 292, 3) := by decide +kernel
theorem dX10_gains_26 : decode cX10_gains 26 = .ok (.aload_n 0, 1) := by decide +kernel
theorem dX10_gains_27 : decode cX10_gains 27 = .ok (.iload_n 1, 1) := by decide +kernel
theorem dX10_gains_28 : decode cX10_gains 28 = .ok (.iload_n 2, 1) := by decide +kernel
theorem dX10_gains_29 : decode cX10_gains 29 = .ok (.iload_n 3, 1) := by decide +kernel
theorem dX10_gains_30 : decode cX10_gains 30 = .ok (.iload 7, 2) := by decide +kernel
theorem dX10_gains_32 : decode cX10_gains 32 = .ok (.iload 4, 2) := by decide +kernel
theorem dX10_gains_34 : decode cX10_gains 34 = .ok (.invokevirtual 314, 3) := by decide +kernel
theorem dX10_gains_37 : decode cX10_gains 37 = .ok (.lmul, 1) := by decide +kernel
theorem dX10_gains_38 : decode cX10_gains 38 = .ok (.ladd, 1) := by decide +kernel
theorem dX10_gains_39 : decode cX10_gains 39 = .ok (.lstore 5, 2) := by decide +kernel
theorem dX10_gains_41 : decode cX10_gains 41 = .ok (.iinc 7 1, 3) := by decide +kernel
theorem dX10_gains_44 : decode cX10_gains 44 = .ok (.goto (-38), 3) := by decide +kernel
theorem dX10_gains_47 : decode cX10_gains 47 = .ok (.lload 5, 2) := by decide +kernel
theorem dX10_gains_49 : decode cX10_gains 49 = .ok (.lreturn, 1) := by decide +kernel
def lp_X10_gains_6 (y1 : Int32) (y2 : Int32) (y3 : Int32) (y4 : Int32)  : Nat → Int64 → Int32 → Mm → Option (Int64 × Mm)
  | 0, _, _, _ => none
  | n + 1, y5, y7, M =>
    if (M 84 92) ≤ y7 then (some (y5, M)) else (bd (f_X10_first y7 M) fun v23_2 M23_1 => bd (f_X10_brings y1 y2 y3 y7 y4 M23_1) fun v34_4 M34_3 => lp_X10_gains_6 y1 y2 y3 y4 n (y5 + (v23_2 * v34_4)) (y7 + (nI 1)) M34_3)
def f_X10_gains (x1 : Int32) (x2 : Int32) (x3 : Int32) (x4 : Int32) (M : Mm) : Option (Int64 × Mm) :=
  lp_X10_gains_6 x1 x2 x3 x4  N0 (0 : Int64) (nI 0) M
set_option maxHeartbeats 4000000 in
set_option maxRecDepth 100000 in
theorem sl_X10_gains_6 {l : Launch} {B : BT} (hA : bA B = false) {d : Nat} {r : Int64} {M' : Mm} {y1 : Int32} {y2 : Int32} {y3 : Int32} {y4 : Int32}    :
    ∀ (n : Nat) (y5 : Int64) (y7 : Int32) (M : Mm), lp_X10_gains_6 y1 y2 y3 y4 n y5 y7 M = some (r, M') → GG l B LY (d + 4) yX10_gains cX10_gains 8 (some .long) 0 0 (PL r M') 97 0 0 6 [(0, .ref 81), (1, .int y1), (2, .int y2), (3, .int y3), (4, .int y4), (5, .long y5), (7, .int y7)] [] M := by
  intro n
  induction n with
  | zero => intro y5 y7 M h; cases h
  | succ n ih =>
    intro y5 y7 M h
    rw [lp_X10_gains_6] at h
    refine g_iload dX10_gains_6 6 rfl ?_
    refine g_aload_n dX10_gains_8 rfl 0 rfl ?_
    refine m_getr (k := 15) okX10 rfl rfl (by decide) w_1284 rfl dX10_gains_9 ?_
    refine g_bipush (v := (nI 92)) dX10_gains_12 (by decide) ?_
    refine m_ialdL (k := 92) rfl rfl (by decide) dX10_gains_14 ?_
    refine g_icmp_ge (tgt := 47) dX10_gains_15 (by decide) (fun c5 => ?_) (fun c5 => ?_)
    · replace h := ite_p c5 h
      refine g_lload dX10_gains_47 5 rfl ?_
      exact g_lret rfl (pl_of h) dX10_gains_49
    · replace h := ite_n c5 h
      refine g_lload dX10_gains_18 5 rfl ?_
      refine g_aload_n dX10_gains_20 rfl 0 rfl ?_
      refine g_iload dX10_gains_21 6 rfl ?_
      obtain ⟨v23_2, M23_1, eM23_1, h⟩ := bd_e h
      refine m_callVl (As := [.int y7]) (st := [.long y5]) (s_X10_first (d := d + 3) hA  eM23_1) rfl okX10 ck_X10_first w_1616 rfl (Nat.le_of_ble_eq_true rfl) dX10_gains_23 ?_
      refine g_aload_n dX10_gains_26 rfl 0 rfl ?_
      refine g_iload_n dX10_gains_27 rfl 1 rfl ?_
      refine g_iload_n dX10_gains_28 rfl 2 rfl ?_
      refine g_iload_n dX10_gains_29 rfl 3 rfl ?_
      refine g_iload dX10_gains_30 6 rfl ?_
      refine g_iload dX10_gains_32 4 rfl ?_
      obtain ⟨v34_4, M34_3, eM34_3, h⟩ := bd_e h
      refine m_callVl (As := [.int y1, .int y2, .int y3, .int y7, .int y4]) (st := [.long v23_2, .long y5]) (s_X10_brings (d := d + 0) hA  eM34_3) rfl okX10 ck_X10_brings w_1669 rfl (Nat.le_of_ble_eq_true rfl) dX10_gains_34 ?_
      refine g_lmul dX10_gains_37 ?_
      refine g_ladd dX10_gains_38 ?_
      refine g_lstore (lv' := [(5, .long (y5 + (v23_2 * v34_4))), (0, .ref 81), (1, .int y1), (2, .int y2), (3, .int y3), (4, .int y4), (7, .int y7)]) dX10_gains_39 (by decide) rfl ?_
      refine g_iinc (v := (y7 + (nI 1))) (lv' := [(7, .int (y7 + (nI 1))), (5, .long (y5 + (v23_2 * v34_4))), (0, .ref 81), (1, .int y1), (2, .int y2), (3, .int y3), (4, .int y4)]) dX10_gains_41 6 rfl rfl (by decide) rfl ?_
      refine g_goto (tgt := 6) dX10_gains_44 (by decide) ?_
      refine g_sub [2, 3, 4, 5, 6, 1, 0] (lv' := [(0, .ref 81), (1, .int y1), (2, .int y2), (3, .int y3), (4, .int y4), (5, .long (y5 + (v23_2 * v34_4))), (7, .int (y7 + (nI 1)))]) rfl ?_
      exact ih _ _  _ h
set_option maxHeartbeats 4000000 in
set_option maxRecDepth 100000 in
theorem s_X10_gains {l : Launch} {B : BT} (hA : bA B = false) {d : Nat} {r : Int64} {M' : Mm} {x1 : Int32} {x2 : Int32} {x3 : Int32} {x4 : Int32} {M : Mm}  (h : f_X10_gains x1 x2 x3 x4 M = some (r, M')) : Con l B LY (d + 4) yX10_gains cX10_gains 8 (some .long) 0 0 [.ref 81, .int x1, .int x2, .int x3, .int x4] 97 M (PL r M') := by
  refine con_of (by decide) (Nat.le_of_ble_eq_true rfl) ?_
  show GG l B LY (d + 4) yX10_gains cX10_gains 8 (some .long) 0 0 (PL r M') 97 0 0 0 [(0, .ref 81), (1, .int x1), (2, .int x2), (3, .int x3), (4, .int x4)] [] M
  rw [f_X10_gains] at h
  refine g_lconst (v := 0) dX10_gains_0 (by decide) ?_
  refine g_lstore (lv' := [(5, .long (0 : Int64)), (0, .ref 81), (1, .int x1), (2, .int x2), (3, .int x3), (4, .int x4)]) dX10_gains_1 (by decide) rfl ?_
  refine g_iconst (v := (nI 0)) dX10_gains_3 (by decide) ?_
  refine g_istore (lv' := [(7, .int (nI 0)), (5, .long (0 : Int64)), (0, .ref 81), (1, .int x1), (2, .int x2), (3, .int x3), (4, .int x4)]) dX10_gains_4 (by decide) rfl ?_
  refine g_sub [2, 3, 4, 5, 6, 1, 0] (lv' := [(0, .ref 81), (1, .int x1), (2, .int x2), (3, .int x3), (4, .int x4), (5, .long (0 : Int64)), (7, .int (nI 0))]) rfl ?_
  refine sl_X10_gains_6 hA   _ _ _ _ h
theorem ck_X10_gains : CKV yX10_gains cX10_gains 8 (some .long) 4 := ⟨⟨by decide, by decide, by decide +kernel⟩, w_1668, w_81, ⟨w_1667, w_54⟩, by decide⟩
theorem dX10_risks_0 : decode cX10_risks 0 = .ok (.lconst 0, 1) := by decide +kernel
theorem dX10_risks_1 : decode cX10_risks 1 = .ok (.lstore 4, 2) := by decide +kernel
theorem dX10_risks_3 : decode cX10_risks 3 = .ok (.iconst 0, 1) := by decide +kernel
theorem dX10_risks_4 : decode cX10_risks 4 = .ok (.istore 6, 2) := by decide +kernel
theorem dX10_risks_6 : decode cX10_risks 6 = .ok (.iload 6, 2) := by decide +kernel
theorem dX10_risks_8 : decode cX10_risks 8 = .ok (.aload_n 0, 1) := by decide +kernel
theorem dX10_risks_9 : decode cX10_risks 9 = .ok (.getfield 20, 3) := by decide +kernel
theorem dX10_risks_12 : decode cX10_risks 12 = .ok (.bipush 92, 2) := by decide +kernel
theorem dX10_risks_14 : decode cX10_risks 14 = .ok (.iaload, 1) := by decide +kernel
theorem dX10_risks_15 : decode cX10_risks 15 = .ok (.if_icmp .ge 31, 3) := by decide +kernel
theorem dX10_risks_18 : decode cX10_risks 18 = .ok (.lload 4, 2) := by decide +kernel
theorem dX10_risks_20 : decode cX10_risks 20 = .ok (.aload_n 0, 1) := by decide +kernel
theorem dX10_risks_21 : decode cX10_risks 21 = .ok (.iload 6, 2) := by decide +kernel
theorem dX10_risks_23 : decode cX10_risks 23 = .ok (.invokevirtual 292, 3) := by decide +kernel
theorem dX10_risks_26 : decode cX10_risks 26 = .ok (.aload_n 0, 1) := by decide +kernel
theorem dX10_risks_27 : decode cX10_risks 27 = .ok (.iload_n 1, 1) := by decide +kernel
theorem dX10_risks_28 : decode cX10_risks 28 = .ok (.iload_n 2, 1) := by decide +kernel
theorem dX10_risks_29 : decode cX10_risks 29 = .ok (.iload_n 3, 1) := by decide +kernel
theorem dX10_risks_30 : decode cX10_risks 30 = .ok (.iload 6, 2) := by decide +kernel
theorem dX10_risks_32 : decode cX10_risks 32 = .ok (.invokevirtual 310, 3) := by decide +kernel
theorem dX10_risks_35 : decode cX10_risks 35 = .ok (.i2l, 1) := by decide +kernel
theorem dX10_risks_36 : decode cX10_risks 36 = .ok (.lmul, 1) := by decide +kernel
theorem dX10_risks_37 : decode cX10_risks 37 = .ok (.ladd, 1) := by decide +kernel
theorem dX10_risks_38 : decode cX10_risks 38 = .ok (.lstore 4, 2) := by decide +kernel
theorem dX10_risks_40 : decode cX10_risks 40 = .ok (.iinc 6 1, 3) := by decide +kernel
theorem dX10_risks_43 : decode cX10_risks 43 = .ok (.goto (-37), 3) := by decide +kernel
theorem dX10_risks_46 : decode cX10_risks 46 = .ok (.lload 4, 2) := by decide +kernel
theorem dX10_risks_48 : decode cX10_risks 48 = .ok (.lreturn, 1) := by decide +kernel
def lp_X10_risks_6 (y1 : Int32) (y2 : Int32) (y3 : Int32)  : Nat → Int64 → Int32 → Mm → Option (Int64 × Mm)
  | 0, _, _, _ => none
  | n + 1, y4, y6, M =>
    if (M 84 92) ≤ y6 then (some (y4, M)) else (bd (f_X10_first y6 M) fun v23_2 M23_1 => bd (f_X10_seenWays y1 y2 y3 y6 M23_1) fun v32_4 M32_3 => lt ((y4 + (v23_2 * v32_4.toInt64))) fun t5 => lp_X10_risks_6 y1 y2 y3 n t5 (y6 + (nI 1)) M32_3)
def f_X10_risks (x1 : Int32) (x2 : Int32) (x3 : Int32) (M : Mm) : Option (Int64 × Mm) :=
  lp_X10_risks_6 x1 x2 x3  N0 (0 : Int64) (nI 0) M
set_option maxHeartbeats 4000000 in
set_option maxRecDepth 100000 in
theorem sl_X10_risks_6 {l : Launch} {B : BT} (hA : bA B = false) {d : Nat} {r : Int64} {M' : Mm} {y1 : Int32} {y2 : Int32} {y3 : Int32}    :
    ∀ (n : Nat) (y4 : Int64) (y6 : Int32) (M : Mm), lp_X10_risks_6 y1 y2 y3 n y4 y6 M = some (r, M') → GG l B LY (d + 3) yX10_risks cX10_risks 7 (some .long) 0 0 (PL r M') 97 0 0 6 [(0, .ref 81), (1, .int y1), (2, .int y2), (3, .int y3), (4, .long y4), (6, .int y6)] [] M := by
  intro n
  induction n with
  | zero => intro y4 y6 M h; cases h
  | succ n ih =>
    intro y4 y6 M h
    rw [lp_X10_risks_6] at h
    refine g_iload dX10_risks_6 5 rfl ?_
    refine g_aload_n dX10_risks_8 rfl 0 rfl ?_
    refine m_getr (k := 15) okX10 rfl rfl (by decide) w_1284 rfl dX10_risks_9 ?_
    refine g_bipush (v := (nI 92)) dX10_risks_12 (by decide) ?_
    refine m_ialdL (k := 92) rfl rfl (by decide) dX10_risks_14 ?_
    refine g_icmp_ge (tgt := 46) dX10_risks_15 (by decide) (fun c6 => ?_) (fun c6 => ?_)
    · replace h := ite_p c6 h
      refine g_lload dX10_risks_46 4 rfl ?_
      exact g_lret rfl (pl_of h) dX10_risks_48
    · replace h := ite_n c6 h
      refine g_lload dX10_risks_18 4 rfl ?_
      refine g_aload_n dX10_risks_20 rfl 0 rfl ?_
      refine g_iload dX10_risks_21 5 rfl ?_
      obtain ⟨v23_2, M23_1, eM23_1, h⟩ := bd_e h
      refine m_callVl (As := [.int y6]) (st := [.long y4]) (s_X10_first (d := d + 2) hA  eM23_1) rfl okX10 ck_X10_first w_1616 rfl (Nat.le_of_ble_eq_true rfl) dX10_risks_23 ?_
      refine g_aload_n dX10_risks_26 rfl 0 rfl ?_
      refine g_iload_n dX10_risks_27 rfl 1 rfl ?_
      refine g_iload_n dX10_risks_28 rfl 2 rfl ?_
      refine g_iload_n dX10_risks_29 rfl 3 rfl ?_
      refine g_iload dX10_risks_30 5 rfl ?_
      obtain ⟨v32_4, M32_3, eM32_3, h⟩ := bd_e h
      refine m_callVi (As := [.int y1, .int y2, .int y3, .int y6]) (st := [.long v23_2, .long y4]) (s_X10_seenWays (d := d + 0) hA  eM32_3) rfl okX10 ck_X10_seenWays w_1649 rfl (Nat.le_of_ble_eq_true rfl) dX10_risks_32 ?_
      refine g_i2l dX10_risks_35 ?_
      refine g_lmul dX10_risks_36 ?_
      refine g_ladd dX10_risks_37 ?_
      obtain ⟨t5, et5, h⟩ := lt_e h
      refine g_cutl et5 ?_
      refine g_lstore (lv' := [(4, .long t5), (0, .ref 81), (1, .int y1), (2, .int y2), (3, .int y3), (6, .int y6)]) dX10_risks_38 (by decide) rfl ?_
      refine g_iinc (v := (y6 + (nI 1))) (lv' := [(6, .int (y6 + (nI 1))), (4, .long t5), (0, .ref 81), (1, .int y1), (2, .int y2), (3, .int y3)]) dX10_risks_40 5 rfl rfl (by decide) rfl ?_
      refine g_goto (tgt := 6) dX10_risks_43 (by decide) ?_
      refine g_sub [2, 3, 4, 5, 1, 0] (lv' := [(0, .ref 81), (1, .int y1), (2, .int y2), (3, .int y3), (4, .long t5), (6, .int (y6 + (nI 1)))]) rfl ?_
      exact ih _ _  _ h
set_option maxHeartbeats 4000000 in
set_option maxRecDepth 100000 in
theorem s_X10_risks {l : Launch} {B : BT} (hA : bA B = false) {d : Nat} {r : Int64} {M' : Mm} {x1 : Int32} {x2 : Int32} {x3 : Int32} {M : Mm}  (h : f_X10_risks x1 x2 x3 M = some (r, M')) : Con l B LY (d + 3) yX10_risks cX10_risks 7 (some .long) 0 0 [.ref 81, .int x1, .int x2, .int x3] 97 M (PL r M') := by
  refine con_of (by decide) (Nat.le_of_ble_eq_true rfl) ?_
  show GG l B LY (d + 3) yX10_risks cX10_risks 7 (some .long) 0 0 (PL r M') 97 0 0 0 [(0, .ref 81), (1, .int x1), (2, .int x2), (3, .int x3)] [] M
  rw [f_X10_risks] at h
  refine g_lconst (v := 0) dX10_risks_0 (by decide) ?_
  refine g_lstore (lv' := [(4, .long (0 : Int64)), (0, .ref 81), (1, .int x1), (2, .int x2), (3, .int x3)]) dX10_risks_1 (by decide) rfl ?_
  refine g_iconst (v := (nI 0)) dX10_risks_3 (by decide) ?_
  refine g_istore (lv' := [(6, .int (nI 0)), (4, .long (0 : Int64)), (0, .ref 81), (1, .int x1), (2, .int x2), (3, .int x3)]) dX10_risks_4 (by decide) rfl ?_
  refine g_sub [2, 3, 4, 5, 1, 0] (lv' := [(0, .ref 81), (1, .int x1), (2, .int x2), (3, .int x3), (4, .long (0 : Int64)), (6, .int (nI 0))]) rfl ?_
  refine sl_X10_risks_6 hA   _ _ _ _ h
theorem ck_X10_risks : CKV yX10_risks cX10_risks 7 (some .long) 3 := ⟨⟨by decide, by decide, by decide +kernel⟩, w_1648, w_81, ⟨w_1647, w_51⟩, by decide⟩
theorem dX10_oddsWhy_0 : decode cX10_oddsWhy 0 = .ok (.aload_n 0, 1) := by decide +kernel
theorem dX10_oddsWhy_1 : decode cX10_oddsWhy 1 = .ok (.iload_n 1, 1) := by decide +kernel
theorem dX10_oddsWhy_2 : decode cX10_oddsWhy 2 = .ok (.invokevirtual 278, 3) := by decide +kernel
theorem dX10_oddsWhy_5 : decode cX10_oddsWhy 5 = .ok (.ifCond .ne 7, 3) := by decide +kernel
theorem dX10_oddsWhy_8 : decode cX10_oddsWhy 8 = .ok (.iconst 1, 1) := by decide +kernel
theorem dX10_oddsWhy_9 : decode cX10_oddsWhy 9 = .ok (.goto 36, 3) := by decide +kernel
theorem dX10_oddsWhy_12 : decode cX10_oddsWhy 12 = .ok (.iload_n 2, 1) := by decide +kernel
theorem dX10_oddsWhy_13 : decode cX10_oddsWhy 13 = .ok (.iconst 0, 1) := by decide +kernel
theorem dX10_oddsWhy_14 : decode cX10_oddsWhy 14 = .ok (.aload_n 0, 1) := by decide +kernel
theorem dX10_oddsWhy_15 : decode cX10_oddsWhy 15 = .ok (.getfield 20, 3) := by decide +kernel
theorem dX10_oddsWhy_18 : decode cX10_oddsWhy 18 = .ok (.iconst 0, 1) := by decide +kernel
theorem dX10_oddsWhy_19 : decode cX10_oddsWhy 19 = .ok (.iaload, 1) := by decide +kernel
theorem dX10_oddsWhy_20 : decode cX10_oddsWhy 20 = .ok (.iconst 1, 1) := by decide +kernel
theorem dX10_oddsWhy_21 : decode cX10_oddsWhy 21 = .ok (.isub, 1) := by decide +kernel
theorem dX10_oddsWhy_22 : decode cX10_oddsWhy 22 = .ok (.invokestatic 144, 3) := by decide +kernel
theorem dX10_oddsWhy_25 : decode cX10_oddsWhy 25 = .ok (.ifCond .eq 19, 3) := by decide +kernel
theorem dX10_oddsWhy_28 : decode cX10_oddsWhy 28 = .ok (.iload_n 3, 1) := by decide +kernel
theorem dX10_oddsWhy_29 : decode cX10_oddsWhy 29 = .ok (.iconst 0, 1) := by decide +kernel
theorem dX10_oddsWhy_30 : decode cX10_oddsWhy 30 = .ok (.aload_n 0, 1) := by decide +kernel
theorem dX10_oddsWhy_31 : decode cX10_oddsWhy 31 = .ok (.invokevirtual 318, 3) := by decide +kernel
theorem dX10_oddsWhy_34 : decode cX10_oddsWhy 34 = .ok (.invokestatic 144, 3) := by decide +kernel
theorem dX10_oddsWhy_37 : decode cX10_oddsWhy 37 = .ok (.ifCond .eq 7, 3) := by decide +kernel
theorem dX10_oddsWhy_40 : decode cX10_oddsWhy 40 = .ok (.iconst 0, 1) := by decide +kernel
theorem dX10_oddsWhy_41 : decode cX10_oddsWhy 41 = .ok (.goto 4, 3) := by decide +kernel
theorem dX10_oddsWhy_44 : decode cX10_oddsWhy 44 = .ok (.iconst 2, 1) := by decide +kernel
theorem dX10_oddsWhy_45 : decode cX10_oddsWhy 45 = .ok (.ireturn, 1) := by decide +kernel
def f_X10_oddsWhy (x1 : Int32) (x2 : Int32) (x3 : Int32) (M : Mm) : Option (Int32 × Mm) :=
  bd (f_X10_isCreeper x1 M) fun v2_2 M2_1 => if v2_2 = 0 then (some ((nI 1), M2_1)) else (bd (f_X10_within x2 (nI 0) ((M2_1 84 0) - (nI 1)) M2_1) fun v22_4 M22_3 => jn (fun (M5 : Mm) => some ((nI 2), M5)) fun j6 => if v22_4 = 0 then (j6  M22_3) else (bd (f_X10_whole  M22_3) fun v31_8 M31_7 => bd (f_X10_within x3 (nI 0) v31_8 M31_7) fun v34_10 M34_9 => if v34_10 = 0 then (j6  M34_9) else (some ((nI 0), M34_9))))
set_option maxHeartbeats 4000000 in
set_option maxRecDepth 100000 in
theorem s_X10_oddsWhy {l : Launch} {B : BT} (hA : bA B = false) {d : Nat} {r : Int32} {M' : Mm} {x1 : Int32} {x2 : Int32} {x3 : Int32} {M : Mm}  (h : f_X10_oddsWhy x1 x2 x3 M = some (r, M')) : Con l B LY (d + 3) yX10_oddsWhy cX10_oddsWhy 4 (some .int) 0 0 [.ref 81, .int x1, .int x2, .int x3] 97 M (PI r M') := by
  refine con_of (by decide) (Nat.le_of_ble_eq_true rfl) ?_
  show GG l B LY (d + 3) yX10_oddsWhy cX10_oddsWhy 4 (some .int) 0 0 (PI r M') 97 0 0 0 [(0, .ref 81), (1, .int x1), (2, .int x2), (3, .int x3)] [] M
  rw [f_X10_oddsWhy] at h
  refine g_aload_n dX10_oddsWhy_0 rfl 0 rfl ?_
  refine g_iload_n dX10_oddsWhy_1 rfl 1 rfl ?_
  obtain ⟨v2_2, M2_1, eM2_1, h⟩ := bd_e h
  refine m_callVi (As := [.int x1]) (st := []) (s_X10_isCreeper (d := d + 1) hA  eM2_1) rfl okX10 ck_X10_isCreeper w_1572 rfl (Nat.le_of_ble_eq_true rfl) dX10_oddsWhy_2 ?_
  refine g_if_ne (tgt := 12) dX10_oddsWhy_5 (by decide) (fun c13 => ?_) (fun c13 => ?_)
  · replace h := ite_n c13 h
    refine g_iload_n dX10_oddsWhy_12 rfl 2 rfl ?_
    refine g_iconst (v := (nI 0)) dX10_oddsWhy_13 (by decide) ?_
    refine g_aload_n dX10_oddsWhy_14 rfl 0 rfl ?_
    refine m_getr (k := 15) okX10 rfl rfl (by decide) w_1284 rfl dX10_oddsWhy_15 ?_
    refine g_iconst (v := (nI 0)) dX10_oddsWhy_18 (by decide) ?_
    refine m_ialdL (k := 0) rfl rfl (by decide) dX10_oddsWhy_19 ?_
    refine g_iconst (v := (nI 1)) dX10_oddsWhy_20 (by decide) ?_
    refine g_isub dX10_oddsWhy_21 ?_
    obtain ⟨v22_4, M22_3, eM22_3, h⟩ := bd_e h
    refine m_callSi (As := [.int x2, .int (nI 0), .int ((M2_1 84 0) - (nI 1))]) (st := []) (s_X10_within (d := d + 2) hA  eM22_3) ck_X10_within w_1385 rfl (Nat.le_of_ble_eq_true rfl) dX10_oddsWhy_22 ?_
    obtain ⟨j6, ej6, h⟩ := jn_e h
    have hj6 : ∀ (M5 : Mm), j6 M5 = some (r, M') → GG l B LY (d + 3) yX10_oddsWhy cX10_oddsWhy 4 (some .int) 0 0 (PI r M') 97 0 0 44 [] [] M5 := by
      intro M5 h
      rw [ej6] at h
      refine g_iconst (v := (nI 2)) dX10_oddsWhy_44 (by decide) ?_
      exact g_zret rfl rfl (pi_of h) dX10_oddsWhy_45
    refine g_if_eq (tgt := 44) dX10_oddsWhy_25 (by decide) (fun c12 => ?_) (fun c12 => ?_)
    · replace h := ite_p c12 h
      refine g_sub [] (lv' := []) rfl ?_
      exact hj6  _ h
    · replace h := ite_n c12 h
      refine g_iload_n dX10_oddsWhy_28 rfl 3 rfl ?_
      refine g_iconst (v := (nI 0)) dX10_oddsWhy_29 (by decide) ?_
      refine g_aload_n dX10_oddsWhy_30 rfl 0 rfl ?_
      obtain ⟨v31_8, M31_7, eM31_7, h⟩ := bd_e h
      refine m_callVi (As := []) (st := [.int (nI 0), .int x3]) (s_X10_whole (d := d + 0) hA  eM31_7) rfl okX10 ck_X10_whole w_1637 rfl (Nat.le_of_ble_eq_true rfl) dX10_oddsWhy_31 ?_
      obtain ⟨v34_10, M34_9, eM34_9, h⟩ := bd_e h
      refine m_callSi (As := [.int x3, .int (nI 0), .int v31_8]) (st := []) (s_X10_within (d := d + 2) hA  eM34_9) ck_X10_within w_1385 rfl (Nat.le_of_ble_eq_true rfl) dX10_oddsWhy_34 ?_
      refine g_if_eq (tgt := 44) dX10_oddsWhy_37 (by decide) (fun c11 => ?_) (fun c11 => ?_)
      · replace h := ite_p c11 h
        refine g_sub [] (lv' := []) rfl ?_
        exact hj6  _ h
      · replace h := ite_n c11 h
        refine g_iconst (v := (nI 0)) dX10_oddsWhy_40 (by decide) ?_
        refine g_goto (tgt := 45) dX10_oddsWhy_41 (by decide) ?_
        exact g_zret rfl rfl (pi_of h) dX10_oddsWhy_45
  · replace h := ite_p c13 h
    refine g_iconst (v := (nI 1)) dX10_oddsWhy_8 (by decide) ?_
    refine g_goto (tgt := 45) dX10_oddsWhy_9 (by decide) ?_
    exact g_zret rfl rfl (pi_of h) dX10_oddsWhy_45
theorem ck_X10_oddsWhy : CKV yX10_oddsWhy cX10_oddsWhy 4 (some .int) 3 := ⟨⟨by decide, by decide, by decide +kernel⟩, w_1636, w_81, ⟨w_1635, w_48⟩, by decide⟩
theorem dX10_risk_0 : decode cX10_risk 0 = .ok (.aload_n 0, 1) := by decide +kernel
theorem dX10_risk_1 : decode cX10_risk 1 = .ok (.invokevirtual 156, 3) := by decide +kernel
theorem dX10_risk_4 : decode cX10_risk 4 = .ok (.aload_n 0, 1) := by decide +kernel
theorem dX10_risk_5 : decode cX10_risk 5 = .ok (.iload_n 1, 1) := by decide +kernel
theorem dX10_risk_6 : decode cX10_risk 6 = .ok (.iload_n 2, 1) := by decide +kernel
theorem dX10_risk_7 : decode cX10_risk 7 = .ok (.iload_n 3, 1) := by decide +kernel
theorem dX10_risk_8 : decode cX10_risk 8 = .ok (.invokevirtual 320, 3) := by decide +kernel
theorem dX10_risk_11 : decode cX10_risk 11 = .ok (.istore 4, 2) := by decide +kernel
theorem dX10_risk_13 : decode cX10_risk 13 = .ok (.iload 4, 2) := by decide +kernel
theorem dX10_risk_15 : decode cX10_risk 15 = .ok (.ifCond .eq 13, 3) := by decide +kernel
theorem dX10_risk_18 : decode cX10_risk 18 = .ok (.aload_n 0, 1) := by decide +kernel
theorem dX10_risk_19 : decode cX10_risk 19 = .ok (.iload 4, 2) := by decide +kernel
theorem dX10_risk_21 : decode cX10_risk 21 = .ok (.invokevirtual 159, 3) := by decide +kernel
theorem dX10_risk_24 : decode cX10_risk 24 = .ok (.i2l, 1) := by decide +kernel
theorem dX10_risk_25 : decode cX10_risk 25 = .ok (.goto 10, 3) := by decide +kernel
theorem dX10_risk_28 : decode cX10_risk 28 = .ok (.aload_n 0, 1) := by decide +kernel
theorem dX10_risk_29 : decode cX10_risk 29 = .ok (.iload_n 1, 1) := by decide +kernel
theorem dX10_risk_30 : decode cX10_risk 30 = .ok (.iload_n 2, 1) := by decide +kernel
theorem dX10_risk_31 : decode cX10_risk 31 = .ok (.iload_n 3, 1) := by decide +kernel
theorem dX10_risk_32 : decode cX10_risk 32 = .ok (.invokevirtual 323, 3) := by decide +kernel
theorem dX10_risk_35 : decode cX10_risk 35 = .ok (.lreturn, 1) := by decide +kernel
def f_X10_risk (x1 : Int32) (x2 : Int32) (x3 : Int32) (M : Mm) : Option (Int64 × Mm) :=
  bv (f_X10_good  M) fun M1_1 => bd (f_X10_oddsWhy x1 x2 x3 M1_1) fun v8_4 M8_3 => if v8_4 = 0 then (bd (f_X10_risks x1 x2 x3 M8_3) fun v32_6 M32_5 => some (v32_6, M32_5)) else (bd (f_X10_no v8_4 M8_3) fun v21_8 M21_7 => some (v21_8.toInt64, M21_7))
set_option maxHeartbeats 4000000 in
set_option maxRecDepth 100000 in
theorem s_X10_risk {l : Launch} {B : BT} (hA : bA B = false) {d : Nat} {r : Int64} {M' : Mm} {x1 : Int32} {x2 : Int32} {x3 : Int32} {M : Mm}  (h : f_X10_risk x1 x2 x3 M = some (r, M')) : Con l B LY (d + 4) yX10_risk cX10_risk 5 (some .long) 0 0 [.ref 81, .int x1, .int x2, .int x3] 97 M (PL r M') := by
  refine con_of (by decide) (Nat.le_of_ble_eq_true rfl) ?_
  show GG l B LY (d + 4) yX10_risk cX10_risk 5 (some .long) 0 0 (PL r M') 97 0 0 0 [(0, .ref 81), (1, .int x1), (2, .int x2), (3, .int x3)] [] M
  rw [f_X10_risk] at h
  refine g_aload_n dX10_risk_0 rfl 0 rfl ?_
  obtain ⟨M1_1, eM1_1, h⟩ := bv_e h
  refine m_callVv (As := []) (st := []) (s_X10_good (d := d + 3) hA  eM1_1) rfl okX10 ck_X10_good w_1381 rfl (Nat.le_of_ble_eq_true rfl) dX10_risk_1 ?_
  refine g_aload_n dX10_risk_4 rfl 0 rfl ?_
  refine g_iload_n dX10_risk_5 rfl 1 rfl ?_
  refine g_iload_n dX10_risk_6 rfl 2 rfl ?_
  refine g_iload_n dX10_risk_7 rfl 3 rfl ?_
  obtain ⟨v8_4, M8_3, eM8_3, h⟩ := bd_e h
  refine m_callVi (As := [.int x1, .int x2, .int x3]) (st := []) (s_X10_oddsWhy (d := d + 0) hA  eM8_3) rfl okX10 ck_X10_oddsWhy w_1633 rfl (Nat.le_of_ble_eq_true rfl) dX10_risk_8 ?_
  refine g_istore (lv' := [(4, .int v8_4), (0, .ref 81), (1, .int x1), (2, .int x2), (3, .int x3)]) dX10_risk_11 (by decide) rfl ?_
  refine g_iload dX10_risk_13 0 rfl ?_
  refine g_if_eq (tgt := 28) dX10_risk_15 (by decide) (fun c9 => ?_) (fun c9 => ?_)
  · replace h := ite_p c9 h
    refine g_aload_n dX10_risk_28 rfl 1 rfl ?_
    refine g_iload_n dX10_risk_29 rfl 2 rfl ?_
    refine g_iload_n dX10_risk_30 rfl 3 rfl ?_
    refine g_iload_n dX10_risk_31 rfl 4 rfl ?_
    obtain ⟨v32_6, M32_5, eM32_5, h⟩ := bd_e h
    refine m_callVl (As := [.int x1, .int x2, .int x3]) (st := []) (s_X10_risks (d := d + 0) hA  eM32_5) rfl okX10 ck_X10_risks w_1645 rfl (Nat.le_of_ble_eq_true rfl) dX10_risk_32 ?_
    exact g_lret rfl (pl_of h) dX10_risk_35
  · replace h := ite_n c9 h
    refine g_aload_n dX10_risk_18 rfl 1 rfl ?_
    refine g_iload dX10_risk_19 0 rfl ?_
    obtain ⟨v21_8, M21_7, eM21_7, h⟩ := bd_e h
    refine m_callVi (As := [.int v8_4]) (st := []) (s_X10_no (d := d + 3) hA  eM21_7) rfl okX10 ck_X10_no w_1388 rfl (Nat.le_of_ble_eq_true rfl) dX10_risk_21 ?_
    refine g_i2l dX10_risk_24 ?_
    refine g_goto (tgt := 35) dX10_risk_25 (by decide) ?_
    exact g_lret rfl (pl_of h) dX10_risk_35
theorem ck_X10_risk : CKV yX10_risk cX10_risk 5 (some .long) 3 := ⟨⟨by decide, by decide, by decide +kernel⟩, w_1632, w_81, ⟨w_1630, w_1631⟩, by decide⟩
theorem dX10_gain_0 : decode cX10_gain 0 = .ok (.aload_n 0, 1) := by decide +kernel
theorem dX10_gain_1 : decode cX10_gain 1 = .ok (.invokevirtual 156, 3) := by decide +kernel
theorem dX10_gain_4 : decode cX10_gain 4 = .ok (.aload_n 0, 1) := by decide +kernel
theorem dX10_gain_5 : decode cX10_gain 5 = .ok (.aload_n 0, 1) := by decide +kernel
theorem dX10_gain_6 : decode cX10_gain 6 = .ok (.iload_n 1, 1) := by decide +kernel
theorem dX10_gain_7 : decode cX10_gain 7 = .ok (.iload_n 2, 1) := by decide +kernel
theorem dX10_gain_8 : decode cX10_gain 8 = .ok (.iload_n 3, 1) := by decide +kernel
theorem dX10_gain_9 : decode cX10_gain 9 = .ok (.invokevirtual 320, 3) := by decide +kernel
theorem dX10_gain_12 : decode cX10_gain 12 = .ok (.putfield 62, 3) := by decide +kernel
theorem dX10_gain_15 : decode cX10_gain 15 = .ok (.aload_n 0, 1) := by decide +kernel
theorem dX10_gain_16 : decode cX10_gain 16 = .ok (.getfield 62, 3) := by decide +kernel
theorem dX10_gain_19 : decode cX10_gain 19 = .ok (.ifCond .eq 9, 3) := by decide +kernel
theorem dX10_gain_22 : decode cX10_gain 22 = .ok (.ldc2_w 327, 3) := by decide +kernel
theorem dX10_gain_25 : decode cX10_gain 25 = .ok (.goto 12, 3) := by decide +kernel
theorem dX10_gain_28 : decode cX10_gain 28 = .ok (.aload_n 0, 1) := by decide +kernel
theorem dX10_gain_29 : decode cX10_gain 29 = .ok (.iload_n 1, 1) := by decide +kernel
theorem dX10_gain_30 : decode cX10_gain 30 = .ok (.iload_n 2, 1) := by decide +kernel
theorem dX10_gain_31 : decode cX10_gain 31 = .ok (.iload_n 3, 1) := by decide +kernel
theorem dX10_gain_32 : decode cX10_gain 32 = .ok (.iload 4, 2) := by decide +kernel
theorem dX10_gain_34 : decode cX10_gain 34 = .ok (.invokevirtual 329, 3) := by decide +kernel
theorem dX10_gain_37 : decode cX10_gain 37 = .ok (.lreturn, 1) := by decide +kernel
def f_X10_gain (x1 : Int32) (x2 : Int32) (x3 : Int32) (x4 : Int32) (M : Mm) : Option (Int64 × Mm) :=
  bv (f_X10_good  M) fun M1_1 => bd (f_X10_oddsWhy x1 x2 x3 M1_1) fun v9_4 M9_3 => if ((mset M9_3 81 11 v9_4) 81 11) = 0 then (bd (f_X10_gains x1 x2 x3 x4 (mset M9_3 81 11 v9_4)) fun v34_6 M34_5 => some (v34_6, M34_5)) else (some ((-9223372036854775808 : Int64), (mset M9_3 81 11 v9_4)))
set_option maxHeartbeats 4000000 in
set_option maxRecDepth 100000 in
theorem s_X10_gain {l : Launch} {B : BT} (hA : bA B = false) {d : Nat} {r : Int64} {M' : Mm} {x1 : Int32} {x2 : Int32} {x3 : Int32} {x4 : Int32} {M : Mm}  (h : f_X10_gain x1 x2 x3 x4 M = some (r, M')) : Con l B LY (d + 5) yX10_gain cX10_gain 5 (some .long) 0 0 [.ref 81, .int x1, .int x2, .int x3, .int x4] 97 M (PL r M') := by
  refine con_of (by decide) (Nat.le_of_ble_eq_true rfl) ?_
  show GG l B LY (d + 5) yX10_gain cX10_gain 5 (some .long) 0 0 (PL r M') 97 0 0 0 [(0, .ref 81), (1, .int x1), (2, .int x2), (3, .int x3), (4, .int x4)] [] M
  rw [f_X10_gain] at h
  refine g_aload_n dX10_gain_0 rfl 0 rfl ?_
  obtain ⟨M1_1, eM1_1, h⟩ := bv_e h
  refine m_callVv (As := []) (st := []) (s_X10_good (d := d + 4) hA  eM1_1) rfl okX10 ck_X10_good w_1381 rfl (Nat.le_of_ble_eq_true rfl) dX10_gain_1 ?_
  refine g_aload_n dX10_gain_4 rfl 0 rfl ?_
  refine g_aload_n dX10_gain_5 rfl 0 rfl ?_
  refine g_iload_n dX10_gain_6 rfl 1 rfl ?_
  refine g_iload_n dX10_gain_7 rfl 2 rfl ?_
  refine g_iload_n dX10_gain_8 rfl 3 rfl ?_
  obtain ⟨v9_4, M9_3, eM9_3, h⟩ := bd_e h
  refine m_callVi (As := [.int x1, .int x2, .int x3]) (st := [.ref 81]) (s_X10_oddsWhy (d := d + 1) hA  eM9_3) rfl okX10 ck_X10_oddsWhy w_1633 rfl (Nat.le_of_ble_eq_true rfl) dX10_gain_9 ?_
  refine m_puti (k := 11) okX10 rfl rfl (by decide) w_1280 rfl rfl rfl dX10_gain_12 ?_
  refine g_aload_n dX10_gain_15 rfl 0 rfl ?_
  refine m_geti (k := 11) okX10 rfl rfl (by decide) w_1280 rfl dX10_gain_16 ?_
  refine g_if_eq (tgt := 28) dX10_gain_19 (by decide) (fun c7 => ?_) (fun c7 => ?_)
  · replace h := ite_p c7 h
    refine g_aload_n dX10_gain_28 rfl 0 rfl ?_
    refine g_iload_n dX10_gain_29 rfl 1 rfl ?_
    refine g_iload_n dX10_gain_30 rfl 2 rfl ?_
    refine g_iload_n dX10_gain_31 rfl 3 rfl ?_
    refine g_iload dX10_gain_32 4 rfl ?_
    obtain ⟨v34_6, M34_5, eM34_5, h⟩ := bd_e h
    refine m_callVl (As := [.int x1, .int x2, .int x3, .int x4]) (st := []) (s_X10_gains (d := d + 0) hA  eM34_5) rfl okX10 ck_X10_gains w_1665 rfl (Nat.le_of_ble_eq_true rfl) dX10_gain_34 ?_
    exact g_lret rfl (pl_of h) dX10_gain_37
  · replace h := ite_n c7 h
    refine g_ldc2 (v := (-9223372036854775808)) w_1664 dX10_gain_22 ?_
    refine g_goto (tgt := 37) dX10_gain_25 (by decide) ?_
    exact g_lret rfl (pl_of h) dX10_gain_37
theorem ck_X10_gain : CKV yX10_gain cX10_gain 5 (some .long) 4 := ⟨⟨by decide, by decide, by decide +kernel⟩, w_1663, w_81, ⟨w_1661, w_1662⟩, by decide⟩
theorem dX10_bestOf_0 : decode cX10_bestOf 0 = .ok (.iconst 0, 1) := by decide +kernel
theorem dX10_bestOf_1 : decode cX10_bestOf 1 = .ok (.istore 4, 2) := by decide +kernel
theorem dX10_bestOf_3 : decode cX10_bestOf 3 = .ok (.iconst 1, 1) := by decide +kernel
theorem dX10_bestOf_4 : decode cX10_bestOf 4 = .ok (.istore 5, 2) := by decide +kernel
theorem dX10_bestOf_6 : decode cX10_bestOf 6 = .ok (.iload 5, 2) := by decide +kernel
theorem dX10_bestOf_8 : decode cX10_bestOf 8 = .ok (.aload_n 0, 1) := by decide +kernel
theorem dX10_bestOf_9 : decode cX10_bestOf 9 = .ok (.invokevirtual 318, 3) := by decide +kernel
theorem dX10_bestOf_12 : decode cX10_bestOf 12 = .ok (.if_icmp .gt 40, 3) := by decide +kernel
theorem dX10_bestOf_15 : decode cX10_bestOf 15 = .ok (.aload_n 0, 1) := by decide +kernel
theorem dX10_bestOf_16 : decode cX10_bestOf 16 = .ok (.iload_n 1, 1) := by decide +kernel
theorem dX10_bestOf_17 : decode cX10_bestOf 17 = .ok (.iload_n 2, 1) := by decide +kernel
theorem dX10_bestOf_18 : decode cX10_bestOf 18 = .ok (.iload 5, 2) := by decide +kernel
theorem dX10_bestOf_20 : decode cX10_bestOf 20 = .ok (.iload_n 3, 1) := by decide +kernel
theorem dX10_bestOf_21 : decode cX10_bestOf 21 = .ok (.invokevirtual 329, 3) := by decide +kernel
theorem dX10_bestOf_24 : decode cX10_bestOf 24 = .ok (.aload_n 0, 1) := by decide +kernel
theorem dX10_bestOf_25 : decode cX10_bestOf 25 = .ok (.iload_n 1, 1) := by decide +kernel
theorem dX10_bestOf_26 : decode cX10_bestOf 26 = .ok (.iload_n 2, 1) := by decide +kernel
theorem dX10_bestOf_27 : decode cX10_bestOf 27 = .ok (.iload 4, 2) := by decide +kernel
theorem dX10_bestOf_29 : decode cX10_bestOf 29 = .ok (.iload_n 3, 1) := by decide +kernel
theorem dX10_bestOf_30 : decode cX10_bestOf 30 = .ok (.invokevirtual 329, 3) := by decide +kernel
theorem dX10_bestOf_33 : decode cX10_bestOf 33 = .ok (.lcmp, 1) := by decide +kernel
theorem dX10_bestOf_34 : decode cX10_bestOf 34 = .ok (.ifCond .le 8, 3) := by decide +kernel
theorem dX10_bestOf_37 : decode cX10_bestOf 37 = .ok (.iload 5, 2) := by decide +kernel
theorem dX10_bestOf_39 : decode cX10_bestOf 39 = .ok (.goto 5, 3) := by decide +kernel
theorem dX10_bestOf_42 : decode cX10_bestOf 42 = .ok (.iload 4, 2) := by decide +kernel
theorem dX10_bestOf_44 : decode cX10_bestOf 44 = .ok (.istore 4, 2) := by decide +kernel
theorem dX10_bestOf_46 : decode cX10_bestOf 46 = .ok (.iinc 5 1, 3) := by decide +kernel
theorem dX10_bestOf_49 : decode cX10_bestOf 49 = .ok (.goto (-43), 3) := by decide +kernel
theorem dX10_bestOf_52 : decode cX10_bestOf 52 = .ok (.iload 4, 2) := by decide +kernel
theorem dX10_bestOf_54 : decode cX10_bestOf 54 = .ok (.ireturn, 1) := by decide +kernel
def lp_X10_bestOf_6 (y1 : Int32) (y2 : Int32) (y3 : Int32)  : Nat → Int32 → Int32 → Mm → Option (Int32 × Mm)
  | 0, _, _, _ => none
  | n + 1, y4, y5, M =>
    bd (f_X10_whole  M) fun v9_2 M9_1 => if v9_2 < y5 then (some (y4, M9_1)) else (bd (f_X10_gains y1 y2 y5 y3 M9_1) fun v21_4 M21_3 => bd (f_X10_gains y1 y2 y4 y3 M21_3) fun v30_6 M30_5 => jn (fun (s7 : Int32) (M8 : Mm) => lp_X10_bestOf_6 y1 y2 y3 n s7 (y5 + (nI 1)) M8) fun j9 => if (lg_cmp v21_4 v30_6) ≤ 0 then (j9 y4 M30_5) else (j9 y5 M30_5))
def f_X10_bestOf (x1 : Int32) (x2 : Int32) (x3 : Int32) (M : Mm) : Option (Int32 × Mm) :=
  lp_X10_bestOf_6 x1 x2 x3  N0 (nI 0) (nI 1) M
set_option maxHeartbeats 4000000 in
set_option maxRecDepth 100000 in
theorem sl_X10_bestOf_6 {l : Launch} {B : BT} (hA : bA B = false) {d : Nat} {r : Int32} {M' : Mm} {y1 : Int32} {y2 : Int32} {y3 : Int32}    :
    ∀ (n : Nat) (y4 : Int32) (y5 : Int32) (M : Mm), lp_X10_bestOf_6 y1 y2 y3 n y4 y5 M = some (r, M') → GG l B LY (d + 5) yX10_bestOf cX10_bestOf 6 (some .int) 0 0 (PI r M') 97 0 0 6 [(0, .ref 81), (1, .int y1), (2, .int y2), (3, .int y3), (4, .int y4), (5, .int y5)] [] M := by
  intro n
  induction n with
  | zero => intro y4 y5 M h; cases h
  | succ n ih =>
    intro y4 y5 M h
    rw [lp_X10_bestOf_6] at h
    refine g_iload dX10_bestOf_6 5 rfl ?_
    refine g_aload_n dX10_bestOf_8 rfl 0 rfl ?_
    obtain ⟨v9_2, M9_1, eM9_1, h⟩ := bd_e h
    refine m_callVi (As := []) (st := [.int y5]) (s_X10_whole (d := d + 2) hA  eM9_1) rfl okX10 ck_X10_whole w_1637 rfl (Nat.le_of_ble_eq_true rfl) dX10_bestOf_9 ?_
    refine g_icmp_gt (tgt := 52) dX10_bestOf_12 (by decide) (fun c11 => ?_) (fun c11 => ?_)
    · replace h := ite_p c11 h
      refine g_iload dX10_bestOf_52 4 rfl ?_
      exact g_zret rfl rfl (pi_of h) dX10_bestOf_54
    · replace h := ite_n c11 h
      refine g_aload_n dX10_bestOf_15 rfl 0 rfl ?_
      refine g_iload_n dX10_bestOf_16 rfl 1 rfl ?_
      refine g_iload_n dX10_bestOf_17 rfl 2 rfl ?_
      refine g_iload dX10_bestOf_18 5 rfl ?_
      refine g_iload_n dX10_bestOf_20 rfl 3 rfl ?_
      obtain ⟨v21_4, M21_3, eM21_3, h⟩ := bd_e h
      refine m_callVl (As := [.int y1, .int y2, .int y5, .int y3]) (st := []) (s_X10_gains (d := d + 0) hA  eM21_3) rfl okX10 ck_X10_gains w_1665 rfl (Nat.le_of_ble_eq_true rfl) dX10_bestOf_21 ?_
      refine g_aload_n dX10_bestOf_24 rfl 0 rfl ?_
      refine g_iload_n dX10_bestOf_25 rfl 1 rfl ?_
      refine g_iload_n dX10_bestOf_26 rfl 2 rfl ?_
      refine g_iload dX10_bestOf_27 4 rfl ?_
      refine g_iload_n dX10_bestOf_29 rfl 3 rfl ?_
      obtain ⟨v30_6, M30_5, eM30_5, h⟩ := bd_e h
      refine m_callVl (As := [.int y1, .int y2, .int y4, .int y3]) (st := [.long v21_4]) (s_X10_gains (d := d + 0) hA  eM30_5) rfl okX10 ck_X10_gains w_1665 rfl (Nat.le_of_ble_eq_true rfl) dX10_bestOf_30 ?_
      refine g_lcmp dX10_bestOf_33 ?_
      obtain ⟨j9, ej9, h⟩ := jn_e h
      have hj9 : ∀ (s7 : Int32) (M8 : Mm), j9 s7 M8 = some (r, M') → GG l B LY (d + 5) yX10_bestOf cX10_bestOf 6 (some .int) 0 0 (PI r M') 97 0 0 44 [(0, .ref 81), (1, .int y1), (2, .int y2), (3, .int y3), (5, .int y5)] [.int s7] M8 := by
        intro s7 M8 h
        rw [ej9] at h
        refine g_istore (lv' := [(4, .int s7), (0, .ref 81), (1, .int y1), (2, .int y2), (3, .int y3), (5, .int y5)]) dX10_bestOf_44 (by decide) rfl ?_
        refine g_iinc (v := (y5 + (nI 1))) (lv' := [(5, .int (y5 + (nI 1))), (4, .int s7), (0, .ref 81), (1, .int y1), (2, .int y2), (3, .int y3)]) dX10_bestOf_46 5 rfl rfl (by decide) rfl ?_
        refine g_goto (tgt := 6) dX10_bestOf_49 (by decide) ?_
        refine g_sub [2, 3, 4, 5, 1, 0] (lv' := [(0, .ref 81), (1, .int y1), (2, .int y2), (3, .int y3), (4, .int s7), (5, .int (y5 + (nI 1)))]) rfl ?_
        exact ih _ _  _ h
      refine g_if_le (tgt := 42) dX10_bestOf_34 (by decide) (fun c10 => ?_) (fun c10 => ?_)
      · replace h := ite_p c10 h
        refine g_iload dX10_bestOf_42 4 rfl ?_
        refine g_sub [0, 1, 2, 3, 5] (lv' := [(0, .ref 81), (1, .int y1), (2, .int y2), (3, .int y3), (5, .int y5)]) rfl ?_
        exact hj9 _ _ h
      · replace h := ite_n c10 h
        refine g_iload dX10_bestOf_37 5 rfl ?_
        refine g_goto (tgt := 44) dX10_bestOf_39 (by decide) ?_
        refine g_sub [0, 1, 2, 3, 5] (lv' := [(0, .ref 81), (1, .int y1), (2, .int y2), (3, .int y3), (5, .int y5)]) rfl ?_
        exact hj9 _ _ h
set_option maxHeartbeats 4000000 in
set_option maxRecDepth 100000 in
theorem s_X10_bestOf {l : Launch} {B : BT} (hA : bA B = false) {d : Nat} {r : Int32} {M' : Mm} {x1 : Int32} {x2 : Int32} {x3 : Int32} {M : Mm}  (h : f_X10_bestOf x1 x2 x3 M = some (r, M')) : Con l B LY (d + 5) yX10_bestOf cX10_bestOf 6 (some .int) 0 0 [.ref 81, .int x1, .int x2, .int x3] 97 M (PI r M') := by
  refine con_of (by decide) (Nat.le_of_ble_eq_true rfl) ?_
  show GG l B LY (d + 5) yX10_bestOf cX10_bestOf 6 (some .int) 0 0 (PI r M') 97 0 0 0 [(0, .ref 81), (1, .int x1), (2, .int x2), (3, .int x3)] [] M
  rw [f_X10_bestOf] at h
  refine g_iconst (v := (nI 0)) dX10_bestOf_0 (by decide) ?_
  refine g_istore (lv' := [(4, .int (nI 0)), (0, .ref 81), (1, .int x1), (2, .int x2), (3, .int x3)]) dX10_bestOf_1 (by decide) rfl ?_
  refine g_iconst (v := (nI 1)) dX10_bestOf_3 (by decide) ?_
  refine g_istore (lv' := [(5, .int (nI 1)), (4, .int (nI 0)), (0, .ref 81), (1, .int x1), (2, .int x2), (3, .int x3)]) dX10_bestOf_4 (by decide) rfl ?_
  refine g_sub [2, 3, 4, 5, 1, 0] (lv' := [(0, .ref 81), (1, .int x1), (2, .int x2), (3, .int x3), (4, .int (nI 0)), (5, .int (nI 1))]) rfl ?_
  refine sl_X10_bestOf_6 hA   _ _ _ _ h
theorem ck_X10_bestOf : CKV yX10_bestOf cX10_bestOf 6 (some .int) 3 := ⟨⟨by decide, by decide, by decide +kernel⟩, w_1680, w_81, ⟨w_1679, w_56⟩, by decide⟩
theorem dX10_best_0 : decode cX10_best 0 = .ok (.aload_n 0, 1) := by decide +kernel
theorem dX10_best_1 : decode cX10_best 1 = .ok (.invokevirtual 156, 3) := by decide +kernel
theorem dX10_best_4 : decode cX10_best 4 = .ok (.aload_n 0, 1) := by decide +kernel
theorem dX10_best_5 : decode cX10_best 5 = .ok (.iload_n 1, 1) := by decide +kernel
theorem dX10_best_6 : decode cX10_best 6 = .ok (.iload_n 2, 1) := by decide +kernel
theorem dX10_best_7 : decode cX10_best 7 = .ok (.iconst 0, 1) := by decide +kernel
theorem dX10_best_8 : decode cX10_best 8 = .ok (.invokevirtual 320, 3) := by decide +kernel
theorem dX10_best_11 : decode cX10_best 11 = .ok (.istore 4, 2) := by decide +kernel
theorem dX10_best_13 : decode cX10_best 13 = .ok (.iload 4, 2) := by decide +kernel
theorem dX10_best_15 : decode cX10_best 15 = .ok (.ifCond .eq 12, 3) := by decide +kernel
theorem dX10_best_18 : decode cX10_best 18 = .ok (.aload_n 0, 1) := by decide +kernel
theorem dX10_best_19 : decode cX10_best 19 = .ok (.iload 4, 2) := by decide +kernel
theorem dX10_best_21 : decode cX10_best 21 = .ok (.invokevirtual 159, 3) := by decide +kernel
theorem dX10_best_24 : decode cX10_best 24 = .ok (.goto 10, 3) := by decide +kernel
theorem dX10_best_27 : decode cX10_best 27 = .ok (.aload_n 0, 1) := by decide +kernel
theorem dX10_best_28 : decode cX10_best 28 = .ok (.iload_n 1, 1) := by decide +kernel
theorem dX10_best_29 : decode cX10_best 29 = .ok (.iload_n 2, 1) := by decide +kernel
theorem dX10_best_30 : decode cX10_best 30 = .ok (.iload_n 3, 1) := by decide +kernel
theorem dX10_best_31 : decode cX10_best 31 = .ok (.invokevirtual 333, 3) := by decide +kernel
theorem dX10_best_34 : decode cX10_best 34 = .ok (.ireturn, 1) := by decide +kernel
def f_X10_best (x1 : Int32) (x2 : Int32) (x3 : Int32) (M : Mm) : Option (Int32 × Mm) :=
  bv (f_X10_good  M) fun M1_1 => bd (f_X10_oddsWhy x1 x2 (nI 0) M1_1) fun v8_4 M8_3 => if v8_4 = 0 then (bd (f_X10_bestOf x1 x2 x3 M8_3) fun v31_6 M31_5 => some (v31_6, M31_5)) else (bd (f_X10_no v8_4 M8_3) fun v21_8 M21_7 => some (v21_8, M21_7))
set_option maxHeartbeats 4000000 in
set_option maxRecDepth 100000 in
theorem s_X10_best {l : Launch} {B : BT} (hA : bA B = false) {d : Nat} {r : Int32} {M' : Mm} {x1 : Int32} {x2 : Int32} {x3 : Int32} {M : Mm}  (h : f_X10_best x1 x2 x3 M = some (r, M')) : Con l B LY (d + 6) yX10_best cX10_best 5 (some .int) 0 0 [.ref 81, .int x1, .int x2, .int x3] 97 M (PI r M') := by
  refine con_of (by decide) (Nat.le_of_ble_eq_true rfl) ?_
  show GG l B LY (d + 6) yX10_best cX10_best 5 (some .int) 0 0 (PI r M') 97 0 0 0 [(0, .ref 81), (1, .int x1), (2, .int x2), (3, .int x3)] [] M
  rw [f_X10_best] at h
  refine g_aload_n dX10_best_0 rfl 0 rfl ?_
  obtain ⟨M1_1, eM1_1, h⟩ := bv_e h
  refine m_callVv (As := []) (st := []) (s_X10_good (d := d + 5) hA  eM1_1) rfl okX10 ck_X10_good w_1381 rfl (Nat.le_of_ble_eq_true rfl) dX10_best_1 ?_
  refine g_aload_n dX10_best_4 rfl 0 rfl ?_
  refine g_iload_n dX10_best_5 rfl 1 rfl ?_
  refine g_iload_n dX10_best_6 rfl 2 rfl ?_
  refine g_iconst (v := (nI 0)) dX10_best_7 (by decide) ?_
  obtain ⟨v8_4, M8_3, eM8_3, h⟩ := bd_e h
  refine m_callVi (As := [.int x1, .int x2, .int (nI 0)]) (st := []) (s_X10_oddsWhy (d := d + 2) hA  eM8_3) rfl okX10 ck_X10_oddsWhy w_1633 rfl (Nat.le_of_ble_eq_true rfl) dX10_best_8 ?_
  refine g_istore (lv' := [(4, .int v8_4), (0, .ref 81), (1, .int x1), (2, .int x2), (3, .int x3)]) dX10_best_11 (by decide) rfl ?_
  refine g_iload dX10_best_13 0 rfl ?_
  refine g_if_eq (tgt := 27) dX10_best_15 (by decide) (fun c9 => ?_) (fun c9 => ?_)
  · replace h := ite_p c9 h
    refine g_aload_n dX10_best_27 rfl 1 rfl ?_
    refine g_iload_n dX10_best_28 rfl 2 rfl ?_
    refine g_iload_n dX10_best_29 rfl 3 rfl ?_
    refine g_iload_n dX10_best_30 rfl 4 rfl ?_
    obtain ⟨v31_6, M31_5, eM31_5, h⟩ := bd_e h
    refine m_callVi (As := [.int x1, .int x2, .int x3]) (st := []) (s_X10_bestOf (d := d + 0) hA  eM31_5) rfl okX10 ck_X10_bestOf w_1677 rfl (Nat.le_of_ble_eq_true rfl) dX10_best_31 ?_
    exact g_zret rfl rfl (pi_of h) dX10_best_34
  · replace h := ite_n c9 h
    refine g_aload_n dX10_best_18 rfl 1 rfl ?_
    refine g_iload dX10_best_19 0 rfl ?_
    obtain ⟨v21_8, M21_7, eM21_7, h⟩ := bd_e h
    refine m_callVi (As := [.int v8_4]) (st := []) (s_X10_no (d := d + 5) hA  eM21_7) rfl okX10 ck_X10_no w_1388 rfl (Nat.le_of_ble_eq_true rfl) dX10_best_21 ?_
    refine g_goto (tgt := 34) dX10_best_24 (by decide) ?_
    exact g_zret rfl rfl (pi_of h) dX10_best_34
theorem ck_X10_best : CKV yX10_best cX10_best 5 (some .int) 3 := ⟨⟨by decide, by decide, by decide +kernel⟩, w_1676, w_81, ⟨w_1674, w_1675⟩, by decide⟩
theorem dX10_worth_0 : decode cX10_worth 0 = .ok (.aload_n 0, 1) := by decide +kernel
theorem dX10_worth_1 : decode cX10_worth 1 = .ok (.invokevirtual 156, 3) := by decide +kernel
theorem dX10_worth_4 : decode cX10_worth 4 = .ok (.aload_n 0, 1) := by decide +kernel
theorem dX10_worth_5 : decode cX10_worth 5 = .ok (.iload_n 1, 1) := by decide +kernel
theorem dX10_worth_6 : decode cX10_worth 6 = .ok (.iload_n 2, 1) := by decide +kernel
theorem dX10_worth_7 : decode cX10_worth 7 = .ok (.iconst 0, 1) := by decide +kernel
theorem dX10_worth_8 : decode cX10_worth 8 = .ok (.invokevirtual 320, 3) := by decide +kernel
theorem dX10_worth_11 : decode cX10_worth 11 = .ok (.istore_n 3, 1) := by decide +kernel
theorem dX10_worth_12 : decode cX10_worth 12 = .ok (.iload_n 3, 1) := by decide +kernel
theorem dX10_worth_13 : decode cX10_worth 13 = .ok (.ifCond .eq 10, 3) := by decide +kernel
theorem dX10_worth_16 : decode cX10_worth 16 = .ok (.aload_n 0, 1) := by decide +kernel
theorem dX10_worth_17 : decode cX10_worth 17 = .ok (.iload_n 3, 1) := by decide +kernel
theorem dX10_worth_18 : decode cX10_worth 18 = .ok (.invokevirtual 159, 3) := by decide +kernel
theorem dX10_worth_21 : decode cX10_worth 21 = .ok (.i2l, 1) := by decide +kernel
theorem dX10_worth_22 : decode cX10_worth 22 = .ok (.lreturn, 1) := by decide +kernel
theorem dX10_worth_23 : decode cX10_worth 23 = .ok (.aload_n 0, 1) := by decide +kernel
theorem dX10_worth_24 : decode cX10_worth 24 = .ok (.iload_n 1, 1) := by decide +kernel
theorem dX10_worth_25 : decode cX10_worth 25 = .ok (.iload_n 2, 1) := by decide +kernel
theorem dX10_worth_26 : decode cX10_worth 26 = .ok (.aload_n 0, 1) := by decide +kernel
theorem dX10_worth_27 : decode cX10_worth 27 = .ok (.iload_n 1, 1) := by decide +kernel
theorem dX10_worth_28 : decode cX10_worth 28 = .ok (.iload_n 2, 1) := by decide +kernel
theorem dX10_worth_29 : decode cX10_worth 29 = .ok (.iconst 1, 1) := by decide +kernel
theorem dX10_worth_30 : decode cX10_worth 30 = .ok (.invokevirtual 333, 3) := by decide +kernel
theorem dX10_worth_33 : decode cX10_worth 33 = .ok (.iconst 1, 1) := by decide +kernel
theorem dX10_worth_34 : decode cX10_worth 34 = .ok (.invokevirtual 329, 3) := by decide +kernel
theorem dX10_worth_37 : decode cX10_worth 37 = .ok (.aload_n 0, 1) := by decide +kernel
theorem dX10_worth_38 : decode cX10_worth 38 = .ok (.iload_n 1, 1) := by decide +kernel
theorem dX10_worth_39 : decode cX10_worth 39 = .ok (.iload_n 2, 1) := by decide +kernel
theorem dX10_worth_40 : decode cX10_worth 40 = .ok (.aload_n 0, 1) := by decide +kernel
theorem dX10_worth_41 : decode cX10_worth 41 = .ok (.iload_n 1, 1) := by decide +kernel
theorem dX10_worth_42 : decode cX10_worth 42 = .ok (.iload_n 2, 1) := by decide +kernel
theorem dX10_worth_43 : decode cX10_worth 43 = .ok (.iconst 0, 1) := by decide +kernel
theorem dX10_worth_44 : decode cX10_worth 44 = .ok (.invokevirtual 333, 3) := by decide +kernel
theorem dX10_worth_47 : decode cX10_worth 47 = .ok (.iconst 0, 1) := by decide +kernel
theorem dX10_worth_48 : decode cX10_worth 48 = .ok (.invokevirtual 329, 3) := by decide +kernel
theorem dX10_worth_51 : decode cX10_worth 51 = .ok (.lsub, 1) := by decide +kernel
theorem dX10_worth_52 : decode cX10_worth 52 = .ok (.lreturn, 1) := by decide +kernel
def f_X10_worth (x1 : Int32) (x2 : Int32) (M : Mm) : Option (Int64 × Mm) :=
  bv (f_X10_good  M) fun M1_1 => bd (f_X10_oddsWhy x1 x2 (nI 0) M1_1) fun v8_4 M8_3 => if v8_4 = 0 then (bd (f_X10_bestOf x1 x2 (nI 1) M8_3) fun v30_6 M30_5 => bd (f_X10_gains x1 x2 v30_6 (nI 1) M30_5) fun v34_8 M34_7 => bd (f_X10_bestOf x1 x2 (nI 0) M34_7) fun v44_10 M44_9 => bd (f_X10_gains x1 x2 v44_10 (nI 0) M44_9) fun v48_12 M48_11 => some ((v34_8 - v48_12), M48_11)) else (bd (f_X10_no v8_4 M8_3) fun v18_14 M18_13 => some (v18_14.toInt64, M18_13))
set_option maxHeartbeats 4000000 in
set_option maxRecDepth 100000 in
theorem s_X10_worth {l : Launch} {B : BT} (hA : bA B = false) {d : Nat} {r : Int64} {M' : Mm} {x1 : Int32} {x2 : Int32} {M : Mm}  (h : f_X10_worth x1 x2 M = some (r, M')) : Con l B LY (d + 6) yX10_worth cX10_worth 4 (some .long) 0 0 [.ref 81, .int x1, .int x2] 97 M (PL r M') := by
  refine con_of (by decide) (Nat.le_of_ble_eq_true rfl) ?_
  show GG l B LY (d + 6) yX10_worth cX10_worth 4 (some .long) 0 0 (PL r M') 97 0 0 0 [(0, .ref 81), (1, .int x1), (2, .int x2)] [] M
  rw [f_X10_worth] at h
  refine g_aload_n dX10_worth_0 rfl 0 rfl ?_
  obtain ⟨M1_1, eM1_1, h⟩ := bv_e h
  refine m_callVv (As := []) (st := []) (s_X10_good (d := d + 5) hA  eM1_1) rfl okX10 ck_X10_good w_1381 rfl (Nat.le_of_ble_eq_true rfl) dX10_worth_1 ?_
  refine g_aload_n dX10_worth_4 rfl 0 rfl ?_
  refine g_iload_n dX10_worth_5 rfl 1 rfl ?_
  refine g_iload_n dX10_worth_6 rfl 2 rfl ?_
  refine g_iconst (v := (nI 0)) dX10_worth_7 (by decide) ?_
  obtain ⟨v8_4, M8_3, eM8_3, h⟩ := bd_e h
  refine m_callVi (As := [.int x1, .int x2, .int (nI 0)]) (st := []) (s_X10_oddsWhy (d := d + 2) hA  eM8_3) rfl okX10 ck_X10_oddsWhy w_1633 rfl (Nat.le_of_ble_eq_true rfl) dX10_worth_8 ?_
  refine g_istore_n (lv' := [(3, .int v8_4), (0, .ref 81), (1, .int x1), (2, .int x2)]) dX10_worth_11 rfl (by decide) rfl ?_
  refine g_iload_n dX10_worth_12 rfl 0 rfl ?_
  refine g_if_eq (tgt := 23) dX10_worth_13 (by decide) (fun c15 => ?_) (fun c15 => ?_)
  · replace h := ite_p c15 h
    refine g_aload_n dX10_worth_23 rfl 1 rfl ?_
    refine g_iload_n dX10_worth_24 rfl 2 rfl ?_
    refine g_iload_n dX10_worth_25 rfl 3 rfl ?_
    refine g_aload_n dX10_worth_26 rfl 1 rfl ?_
    refine g_iload_n dX10_worth_27 rfl 2 rfl ?_
    refine g_iload_n dX10_worth_28 rfl 3 rfl ?_
    refine g_iconst (v := (nI 1)) dX10_worth_29 (by decide) ?_
    obtain ⟨v30_6, M30_5, eM30_5, h⟩ := bd_e h
    refine m_callVi (As := [.int x1, .int x2, .int (nI 1)]) (st := [.int x2, .int x1, .ref 81]) (s_X10_bestOf (d := d + 0) hA  eM30_5) rfl okX10 ck_X10_bestOf w_1677 rfl (Nat.le_of_ble_eq_true rfl) dX10_worth_30 ?_
    refine g_iconst (v := (nI 1)) dX10_worth_33 (by decide) ?_
    obtain ⟨v34_8, M34_7, eM34_7, h⟩ := bd_e h
    refine m_callVl (As := [.int x1, .int x2, .int v30_6, .int (nI 1)]) (st := []) (s_X10_gains (d := d + 1) hA  eM34_7) rfl okX10 ck_X10_gains w_1665 rfl (Nat.le_of_ble_eq_true rfl) dX10_worth_34 ?_
    refine g_aload_n dX10_worth_37 rfl 1 rfl ?_
    refine g_iload_n dX10_worth_38 rfl 2 rfl ?_
    refine g_iload_n dX10_worth_39 rfl 3 rfl ?_
    refine g_aload_n dX10_worth_40 rfl 1 rfl ?_
    refine g_iload_n dX10_worth_41 rfl 2 rfl ?_
    refine g_iload_n dX10_worth_42 rfl 3 rfl ?_
    refine g_iconst (v := (nI 0)) dX10_worth_43 (by decide) ?_
    obtain ⟨v44_10, M44_9, eM44_9, h⟩ := bd_e h
    refine m_callVi (As := [.int x1, .int x2, .int (nI 0)]) (st := [.int x2, .int x1, .ref 81, .long v34_8]) (s_X10_bestOf (d := d + 0) hA  eM44_9) rfl okX10 ck_X10_bestOf w_1677 rfl (Nat.le_of_ble_eq_true rfl) dX10_worth_44 ?_
    refine g_iconst (v := (nI 0)) dX10_worth_47 (by decide) ?_
    obtain ⟨v48_12, M48_11, eM48_11, h⟩ := bd_e h
    refine m_callVl (As := [.int x1, .int x2, .int v44_10, .int (nI 0)]) (st := [.long v34_8]) (s_X10_gains (d := d + 1) hA  eM48_11) rfl okX10 ck_X10_gains w_1665 rfl (Nat.le_of_ble_eq_true rfl) dX10_worth_48 ?_
    refine g_lsub dX10_worth_51 ?_
    exact g_lret rfl (pl_of h) dX10_worth_52
  · replace h := ite_n c15 h
    refine g_aload_n dX10_worth_16 rfl 1 rfl ?_
    refine g_iload_n dX10_worth_17 rfl 0 rfl ?_
    obtain ⟨v18_14, M18_13, eM18_13, h⟩ := bd_e h
    refine m_callVi (As := [.int v8_4]) (st := []) (s_X10_no (d := d + 5) hA  eM18_13) rfl okX10 ck_X10_no w_1388 rfl (Nat.le_of_ble_eq_true rfl) dX10_worth_18 ?_
    refine g_i2l dX10_worth_21 ?_
    exact g_lret rfl (pl_of h) dX10_worth_22
theorem ck_X10_worth : CKV yX10_worth cX10_worth 4 (some .long) 2 := ⟨⟨by decide, by decide, by decide +kernel⟩, w_1684, w_81, ⟨w_1682, w_1683⟩, by decide⟩
theorem dX10_isRest_0 : decode cX10_isRest 0 = .ok (.aload_n 0, 1) := by decide +kernel
theorem dX10_isRest_1 : decode cX10_isRest 1 = .ok (.iload_n 1, 1) := by decide +kernel
theorem dX10_isRest_2 : decode cX10_isRest 2 = .ok (.iload_n 2, 1) := by decide +kernel
theorem dX10_isRest_3 : decode cX10_isRest 3 = .ok (.aload_n 0, 1) := by decide +kernel
theorem dX10_isRest_4 : decode cX10_isRest 4 = .ok (.iload 4, 2) := by decide +kernel
theorem dX10_isRest_6 : decode cX10_isRest 6 = .ok (.invokevirtual 300, 3) := by decide +kernel
theorem dX10_isRest_9 : decode cX10_isRest 9 = .ok (.iload_n 3, 1) := by decide +kernel
theorem dX10_isRest_10 : decode cX10_isRest 10 = .ok (.iconst 0, 1) := by decide +kernel
theorem dX10_isRest_11 : decode cX10_isRest 11 = .ok (.invokevirtual 314, 3) := by decide +kernel
theorem dX10_isRest_14 : decode cX10_isRest 14 = .ok (.lstore 5, 2) := by decide +kernel
theorem dX10_isRest_16 : decode cX10_isRest 16 = .ok (.iconst 1, 1) := by decide +kernel
theorem dX10_isRest_17 : decode cX10_isRest 17 = .ok (.istore 7, 2) := by decide +kernel
theorem dX10_isRest_19 : decode cX10_isRest 19 = .ok (.iconst 0, 1) := by decide +kernel
theorem dX10_isRest_20 : decode cX10_isRest 20 = .ok (.istore 8, 2) := by decide +kernel
theorem dX10_isRest_22 : decode cX10_isRest 22 = .ok (.iload 8, 2) := by decide +kernel
theorem dX10_isRest_24 : decode cX10_isRest 24 = .ok (.aload_n 0, 1) := by decide +kernel
theorem dX10_isRest_25 : decode cX10_isRest 25 = .ok (.getfield 20, 3) := by decide +kernel
theorem dX10_isRest_28 : decode cX10_isRest 28 = .ok (.bipush 92, 2) := by decide +kernel
theorem dX10_isRest_30 : decode cX10_isRest 30 = .ok (.iaload, 1) := by decide +kernel
theorem dX10_isRest_31 : decode cX10_isRest 31 = .ok (.if_icmp .ge 62, 3) := by decide +kernel
theorem dX10_isRest_34 : decode cX10_isRest 34 = .ok (.iload 7, 2) := by decide +kernel
theorem dX10_isRest_36 : decode cX10_isRest 36 = .ok (.ifCond .eq 48, 3) := by decide +kernel
theorem dX10_isRest_39 : decode cX10_isRest 39 = .ok (.aload_n 0, 1) := by decide +kernel
theorem dX10_isRest_40 : decode cX10_isRest 40 = .ok (.iload_n 1, 1) := by decide +kernel
theorem dX10_isRest_41 : decode cX10_isRest 41 = .ok (.iload_n 2, 1) := by decide +kernel
theorem dX10_isRest_42 : decode cX10_isRest 42 = .ok (.aload_n 0, 1) := by decide +kernel
theorem dX10_isRest_43 : decode cX10_isRest 43 = .ok (.iload 8, 2) := by decide +kernel
theorem dX10_isRest_45 : decode cX10_isRest 45 = .ok (.invokevirtual 300, 3) := by decide +kernel
theorem dX10_isRest_48 : decode cX10_isRest 48 = .ok (.iload_n 3, 1) := by decide +kernel
theorem dX10_isRest_49 : decode cX10_isRest 49 = .ok (.iconst 0, 1) := by decide +kernel
theorem dX10_isRest_50 : decode cX10_isRest 50 = .ok (.invokevirtual 314, 3) := by decide +kernel
theorem dX10_isRest_53 : decode cX10_isRest 53 = .ok (.lload 5, 2) := by decide +kernel
theorem dX10_isRest_55 : decode cX10_isRest 55 = .ok (.lcmp, 1) := by decide +kernel
theorem dX10_isRest_56 : decode cX10_isRest 56 = .ok (.ifCond .gt 28, 3) := by decide +kernel
theorem dX10_isRest_59 : decode cX10_isRest 59 = .ok (.aload_n 0, 1) := by decide +kernel
theorem dX10_isRest_60 : decode cX10_isRest 60 = .ok (.iload_n 1, 1) := by decide +kernel
theorem dX10_isRest_61 : decode cX10_isRest 61 = .ok (.iload_n 2, 1) := by decide +kernel
theorem dX10_isRest_62 : decode cX10_isRest 62 = .ok (.aload_n 0, 1) := by decide +kernel
theorem dX10_isRest_63 : decode cX10_isRest 63 = .ok (.iload 4, 2) := by decide +kernel
theorem dX10_isRest_65 : decode cX10_isRest 65 = .ok (.invokevirtual 300, 3) := by decide +kernel
theorem dX10_isRest_68 : decode cX10_isRest 68 = .ok (.iload 8, 2) := by decide +kernel
theorem dX10_isRest_70 : decode cX10_isRest 70 = .ok (.iconst 0, 1) := by decide +kernel
theorem dX10_isRest_71 : decode cX10_isRest 71 = .ok (.invokevirtual 314, 3) := by decide +kernel
theorem dX10_isRest_74 : decode cX10_isRest 74 = .ok (.lload 5, 2) := by decide +kernel
theorem dX10_isRest_76 : decode cX10_isRest 76 = .ok (.lcmp, 1) := by decide +kernel
theorem dX10_isRest_77 : decode cX10_isRest 77 = .ok (.ifCond .lt 7, 3) := by decide +kernel
theorem dX10_isRest_80 : decode cX10_isRest 80 = .ok (.iconst 1, 1) := by decide +kernel
theorem dX10_isRest_81 : decode cX10_isRest 81 = .ok (.goto 4, 3) := by decide +kernel
theorem dX10_isRest_84 : decode cX10_isRest 84 = .ok (.iconst 0, 1) := by decide +kernel
theorem dX10_isRest_85 : decode cX10_isRest 85 = .ok (.istore 7, 2) := by decide +kernel
theorem dX10_isRest_87 : decode cX10_isRest 87 = .ok (.iinc 8 1, 3) := by decide +kernel
theorem dX10_isRest_90 : decode cX10_isRest 90 = .ok (.goto (-68), 3) := by decide +kernel
theorem dX10_isRest_93 : decode cX10_isRest 93 = .ok (.iload 7, 2) := by decide +kernel
theorem dX10_isRest_95 : decode cX10_isRest 95 = .ok (.ireturn, 1) := by decide +kernel
def lp_X10_isRest_22 (y1 : Int32) (y2 : Int32) (y3 : Int32) (y4 : Int32) (y5 : Int64)  : Nat → Int32 → Int32 → Mm → Option (Int32 × Mm)
  | 0, _, _, _ => none
  | n + 1, y7, y8, M =>
    if (M 84 92) ≤ y8 then (gd (zo y7) <| some (y7, M)) else (jn (fun (s5 : Int32) (M6 : Mm) => lp_X10_isRest_22 y1 y2 y3 y4 y5 n s5 (y8 + (nI 1)) M6) fun j7 => jn (fun (M8 : Mm) => j7 (nI 0) M8) fun j9 => if y7 = 0 then (j9  M) else (bd (f_X10_endOf y8 M) fun v45_11 M45_10 => bd (f_X10_brings y1 y2 v45_11 y3 (nI 0) M45_10) fun v50_13 M50_12 => if 0 < (lg_cmp v50_13 y5) then (j9  M50_12) else (bd (f_X10_endOf y4 M50_12) fun v65_15 M65_14 => bd (f_X10_brings y1 y2 v65_15 y8 (nI 0) M65_14) fun v71_17 M71_16 => if (lg_cmp v71_17 y5) < 0 then (j9  M71_16) else (j7 (nI 1) M71_16))))
def f_X10_isRest (x1 : Int32) (x2 : Int32) (x3 : Int32) (x4 : Int32) (M : Mm) : Option (Int32 × Mm) :=
  bd (f_X10_endOf x4 M) fun v6_2 M6_1 => bd (f_X10_brings x1 x2 v6_2 x3 (nI 0) M6_1) fun v11_4 M11_3 => lp_X10_isRest_22 x1 x2 x3 x4 v11_4  N0 (nI 1) (nI 0) M11_3
set_option maxHeartbeats 4000000 in
set_option maxRecDepth 100000 in
theorem sl_X10_isRest_22 {l : Launch} {B : BT} (hA : bA B = false) {d : Nat} {r : Int32} {M' : Mm} {y1 : Int32} {y2 : Int32} {y3 : Int32} {y4 : Int32} {y5 : Int64}    :
    ∀ (n : Nat) (y7 : Int32) (y8 : Int32) (M : Mm), lp_X10_isRest_22 y1 y2 y3 y4 y5 n y7 y8 M = some (r, M') → GG l B LY (d + 4) yX10_isRest cX10_isRest 9 (some .boolean) 0 0 (PI r M') 97 0 0 22 [(0, .ref 81), (1, .int y1), (2, .int y2), (3, .int y3), (4, .int y4), (5, .long y5), (7, .int y7), (8, .int y8)] [] M := by
  intro n
  induction n with
  | zero => intro y7 y8 M h; cases h
  | succ n ih =>
    intro y7 y8 M h
    rw [lp_X10_isRest_22] at h
    refine g_iload dX10_isRest_22 7 rfl ?_
    refine g_aload_n dX10_isRest_24 rfl 0 rfl ?_
    refine m_getr (k := 15) okX10 rfl rfl (by decide) w_1284 rfl dX10_isRest_25 ?_
    refine g_bipush (v := (nI 92)) dX10_isRest_28 (by decide) ?_
    refine m_ialdL (k := 92) rfl rfl (by decide) dX10_isRest_30 ?_
    refine g_icmp_ge (tgt := 93) dX10_isRest_31 (by decide) (fun c21 => ?_) (fun c21 => ?_)
    · replace h := ite_p c21 h
      refine g_iload dX10_isRest_93 6 rfl ?_
      obtain ⟨hz, h⟩ := gd_s h
      exact g_zret rfl (nar_zo hz) (pi_of h) dX10_isRest_95
    · replace h := ite_n c21 h
      refine g_iload dX10_isRest_34 6 rfl ?_
      obtain ⟨j7, ej7, h⟩ := jn_e h
      have hj7 : ∀ (s5 : Int32) (M6 : Mm), j7 s5 M6 = some (r, M') → GG l B LY (d + 4) yX10_isRest cX10_isRest 9 (some .boolean) 0 0 (PI r M') 97 0 0 85 [(0, .ref 81), (1, .int y1), (2, .int y2), (3, .int y3), (4, .int y4), (5, .long y5), (8, .int y8)] [.int s5] M6 := by
        intro s5 M6 h
        rw [ej7] at h
        refine g_istore (lv' := [(7, .int s5), (0, .ref 81), (1, .int y1), (2, .int y2), (3, .int y3), (4, .int y4), (5, .long y5), (8, .int y8)]) dX10_isRest_85 (by decide) rfl ?_
        refine g_iinc (v := (y8 + (nI 1))) (lv' := [(8, .int (y8 + (nI 1))), (7, .int s5), (0, .ref 81), (1, .int y1), (2, .int y2), (3, .int y3), (4, .int y4), (5, .long y5)]) dX10_isRest_87 7 rfl rfl (by decide) rfl ?_
        refine g_goto (tgt := 22) dX10_isRest_90 (by decide) ?_
        refine g_sub [2, 3, 4, 5, 6, 7, 1, 0] (lv' := [(0, .ref 81), (1, .int y1), (2, .int y2), (3, .int y3), (4, .int y4), (5, .long y5), (7, .int s5), (8, .int (y8 + (nI 1)))]) rfl ?_
        exact ih _ _  _ h
      obtain ⟨j9, ej9, h⟩ := jn_e h
      have hj9 : ∀ (M8 : Mm), j9 M8 = some (r, M') → GG l B LY (d + 4) yX10_isRest cX10_isRest 9 (some .boolean) 0 0 (PI r M') 97 0 0 84 [(0, .ref 81), (1, .int y1), (2, .int y2), (3, .int y3), (4, .int y4), (5, .long y5), (8, .int y8)] [] M8 := by
        intro M8 h
        rw [ej9] at h
        refine g_iconst (v := (nI 0)) dX10_isRest_84 (by decide) ?_
        refine g_sub [0, 1, 2, 3, 4, 5, 6] (lv' := [(0, .ref 81), (1, .int y1), (2, .int y2), (3, .int y3), (4, .int y4), (5, .long y5), (8, .int y8)]) rfl ?_
        exact hj7 _ _ h
      refine g_if_eq (tgt := 84) dX10_isRest_36 (by decide) (fun c20 => ?_) (fun c20 => ?_)
      · replace h := ite_p c20 h
        refine g_sub [0, 1, 2, 3, 4, 5, 7] (lv' := [(0, .ref 81), (1, .int y1), (2, .int y2), (3, .int y3), (4, .int y4), (5, .long y5), (8, .int y8)]) rfl ?_
        exact hj9  _ h
      · replace h := ite_n c20 h
        refine g_aload_n dX10_isRest_39 rfl 0 rfl ?_
        refine g_iload_n dX10_isRest_40 rfl 1 rfl ?_
        refine g_iload_n dX10_isRest_41 rfl 2 rfl ?_
        refine g_aload_n dX10_isRest_42 rfl 0 rfl ?_
        refine g_iload dX10_isRest_43 7 rfl ?_
        obtain ⟨v45_11, M45_10, eM45_10, h⟩ := bd_e h
        refine m_callVi (As := [.int y8]) (st := [.int y2, .int y1, .ref 81]) (s_X10_endOf (d := d + 2) hA  eM45_10) rfl okX10 ck_X10_endOf w_1641 rfl (Nat.le_of_ble_eq_true rfl) dX10_isRest_45 ?_
        refine g_iload_n dX10_isRest_48 rfl 3 rfl ?_
        refine g_iconst (v := (nI 0)) dX10_isRest_49 (by decide) ?_
        obtain ⟨v50_13, M50_12, eM50_12, h⟩ := bd_e h
        refine m_callVl (As := [.int y1, .int y2, .int v45_11, .int y3, .int (nI 0)]) (st := []) (s_X10_brings (d := d + 0) hA  eM50_12) rfl okX10 ck_X10_brings w_1669 rfl (Nat.le_of_ble_eq_true rfl) dX10_isRest_50 ?_
        refine g_lload dX10_isRest_53 5 rfl ?_
        refine g_lcmp dX10_isRest_55 ?_
        refine g_if_gt (tgt := 84) dX10_isRest_56 (by decide) (fun c19 => ?_) (fun c19 => ?_)
        · replace h := ite_p c19 h
          refine g_sub [0, 1, 2, 3, 4, 5, 7] (lv' := [(0, .ref 81), (1, .int y1), (2, .int y2), (3, .int y3), (4, .int y4), (5, .long y5), (8, .int y8)]) rfl ?_
          exact hj9  _ h
        · replace h := ite_n c19 h
          refine g_aload_n dX10_isRest_59 rfl 0 rfl ?_
          refine g_iload_n dX10_isRest_60 rfl 1 rfl ?_
          refine g_iload_n dX10_isRest_61 rfl 2 rfl ?_
          refine g_aload_n dX10_isRest_62 rfl 0 rfl ?_
          refine g_iload dX10_isRest_63 4 rfl ?_
          obtain ⟨v65_15, M65_14, eM65_14, h⟩ := bd_e h
          refine m_callVi (As := [.int y4]) (st := [.int y2, .int y1, .ref 81]) (s_X10_endOf (d := d + 2) hA  eM65_14) rfl okX10 ck_X10_endOf w_1641 rfl (Nat.le_of_ble_eq_true rfl) dX10_isRest_65 ?_
          refine g_iload dX10_isRest_68 7 rfl ?_
          refine g_iconst (v := (nI 0)) dX10_isRest_70 (by decide) ?_
          obtain ⟨v71_17, M71_16, eM71_16, h⟩ := bd_e h
          refine m_callVl (As := [.int y1, .int y2, .int v65_15, .int y8, .int (nI 0)]) (st := []) (s_X10_brings (d := d + 0) hA  eM71_16) rfl okX10 ck_X10_brings w_1669 rfl (Nat.le_of_ble_eq_true rfl) dX10_isRest_71 ?_
          refine g_lload dX10_isRest_74 5 rfl ?_
          refine g_lcmp dX10_isRest_76 ?_
          refine g_if_lt (tgt := 84) dX10_isRest_77 (by decide) (fun c18 => ?_) (fun c18 => ?_)
          · replace h := ite_p c18 h
            refine g_sub [0, 1, 2, 3, 4, 5, 7] (lv' := [(0, .ref 81), (1, .int y1), (2, .int y2), (3, .int y3), (4, .int y4), (5, .long y5), (8, .int y8)]) rfl ?_
            exact hj9  _ h
          · replace h := ite_n c18 h
            refine g_iconst (v := (nI 1)) dX10_isRest_80 (by decide) ?_
            refine g_goto (tgt := 85) dX10_isRest_81 (by decide) ?_
            refine g_sub [0, 1, 2, 3, 4, 5, 7] (lv' := [(0, .ref 81), (1, .int y1), (2, .int y2), (3, .int y3), (4, .int y4), (5, .long y5), (8, .int y8)]) rfl ?_
            exact hj7 _ _ h
set_option maxHeartbeats 4000000 in
set_option maxRecDepth 100000 in
theorem s_X10_isRest {l : Launch} {B : BT} (hA : bA B = false) {d : Nat} {r : Int32} {M' : Mm} {x1 : Int32} {x2 : Int32} {x3 : Int32} {x4 : Int32} {M : Mm}  (h : f_X10_isRest x1 x2 x3 x4 M = some (r, M')) : Con l B LY (d + 4) yX10_isRest cX10_isRest 9 (some .boolean) 0 0 [.ref 81, .int x1, .int x2, .int x3, .int x4] 97 M (PI r M') := by
  refine con_of (by decide) (Nat.le_of_ble_eq_true rfl) ?_
  show GG l B LY (d + 4) yX10_isRest cX10_isRest 9 (some .boolean) 0 0 (PI r M') 97 0 0 0 [(0, .ref 81), (1, .int x1), (2, .int x2), (3, .int x3), (4, .int x4)] [] M
  rw [f_X10_isRest] at h
  refine g_aload_n dX10_isRest_0 rfl 0 rfl ?_
  refine g_iload_n dX10_isRest_1 rfl 1 rfl ?_
  refine g_iload_n dX10_isRest_2 rfl 2 rfl ?_
  refine g_aload_n dX10_isRest_3 rfl 0 rfl ?_
  refine g_iload dX10_isRest_4 4 rfl ?_
  obtain ⟨v6_2, M6_1, eM6_1, h⟩ := bd_e h
  refine m_callVi (As := [.int x4]) (st := [.int x2, .int x1, .ref 81]) (s_X10_endOf (d := d + 2) hA  eM6_1) rfl okX10 ck_X10_endOf w_1641 rfl (Nat.le_of_ble_eq_true rfl) dX10_isRest_6 ?_
  refine g_iload_n dX10_isRest_9 rfl 3 rfl ?_
  refine g_iconst (v := (nI 0)) dX10_isRest_10 (by decide) ?_
  obtain ⟨v11_4, M11_3, eM11_3, h⟩ := bd_e h
  refine m_callVl (As := [.int x1, .int x2, .int v6_2, .int x3, .int (nI 0)]) (st := []) (s_X10_brings (d := d + 0) hA  eM11_3) rfl okX10 ck_X10_brings w_1669 rfl (Nat.le_of_ble_eq_true rfl) dX10_isRest_11 ?_
  refine g_lstore (lv' := [(5, .long v11_4), (0, .ref 81), (1, .int x1), (2, .int x2), (3, .int x3), (4, .int x4)]) dX10_isRest_14 (by decide) rfl ?_
  refine g_iconst (v := (nI 1)) dX10_isRest_16 (by decide) ?_
  refine g_istore (lv' := [(7, .int (nI 1)), (5, .long v11_4), (0, .ref 81), (1, .int x1), (2, .int x2), (3, .int x3), (4, .int x4)]) dX10_isRest_17 (by decide) rfl ?_
  refine g_iconst (v := (nI 0)) dX10_isRest_19 (by decide) ?_
  refine g_istore (lv' := [(8, .int (nI 0)), (7, .int (nI 1)), (5, .long v11_4), (0, .ref 81), (1, .int x1), (2, .int x2), (3, .int x3), (4, .int x4)]) dX10_isRest_20 (by decide) rfl ?_
  refine g_sub [3, 4, 5, 6, 7, 2, 1, 0] (lv' := [(0, .ref 81), (1, .int x1), (2, .int x2), (3, .int x3), (4, .int x4), (5, .long v11_4), (7, .int (nI 1)), (8, .int (nI 0))]) rfl ?_
  refine sl_X10_isRest_22 hA   _ _ _ _ h
theorem ck_X10_isRest : CKV yX10_isRest cX10_isRest 9 (some .boolean) 4 := ⟨⟨by decide, by decide, by decide +kernel⟩, w_1696, w_81, ⟨w_1695, w_58⟩, by decide⟩
theorem dX10_restOf_0 : decode cX10_restOf 0 = .ok (.iconst 0, 1) := by decide +kernel
theorem dX10_restOf_1 : decode cX10_restOf 1 = .ok (.istore 4, 2) := by decide +kernel
theorem dX10_restOf_3 : decode cX10_restOf 3 = .ok (.iconst 0, 1) := by decide +kernel
theorem dX10_restOf_4 : decode cX10_restOf 4 = .ok (.istore 5, 2) := by decide +kernel
theorem dX10_restOf_6 : decode cX10_restOf 6 = .ok (.iload 5, 2) := by decide +kernel
theorem dX10_restOf_8 : decode cX10_restOf 8 = .ok (.aload_n 0, 1) := by decide +kernel
theorem dX10_restOf_9 : decode cX10_restOf 9 = .ok (.getfield 20, 3) := by decide +kernel
theorem dX10_restOf_12 : decode cX10_restOf 12 = .ok (.bipush 92, 2) := by decide +kernel
theorem dX10_restOf_14 : decode cX10_restOf 14 = .ok (.iaload, 1) := by decide +kernel
theorem dX10_restOf_15 : decode cX10_restOf 15 = .ok (.if_icmp .ge 64, 3) := by decide +kernel
theorem dX10_restOf_18 : decode cX10_restOf 18 = .ok (.iconst 0, 1) := by decide +kernel
theorem dX10_restOf_19 : decode cX10_restOf 19 = .ok (.istore 6, 2) := by decide +kernel
theorem dX10_restOf_21 : decode cX10_restOf 21 = .ok (.iload 6, 2) := by decide +kernel
theorem dX10_restOf_23 : decode cX10_restOf 23 = .ok (.aload_n 0, 1) := by decide +kernel
theorem dX10_restOf_24 : decode cX10_restOf 24 = .ok (.getfield 20, 3) := by decide +kernel
theorem dX10_restOf_27 : decode cX10_restOf 27 = .ok (.bipush 92, 2) := by decide +kernel
theorem dX10_restOf_29 : decode cX10_restOf 29 = .ok (.iaload, 1) := by decide +kernel
theorem dX10_restOf_30 : decode cX10_restOf 30 = .ok (.if_icmp .ge 43, 3) := by decide +kernel
theorem dX10_restOf_33 : decode cX10_restOf 33 = .ok (.aload_n 0, 1) := by decide +kernel
theorem dX10_restOf_34 : decode cX10_restOf 34 = .ok (.iload_n 1, 1) := by decide +kernel
theorem dX10_restOf_35 : decode cX10_restOf 35 = .ok (.iload_n 2, 1) := by decide +kernel
theorem dX10_restOf_36 : decode cX10_restOf 36 = .ok (.iload 5, 2) := by decide +kernel
theorem dX10_restOf_38 : decode cX10_restOf 38 = .ok (.iload 6, 2) := by decide +kernel
theorem dX10_restOf_40 : decode cX10_restOf 40 = .ok (.invokevirtual 337, 3) := by decide +kernel
theorem dX10_restOf_43 : decode cX10_restOf 43 = .ok (.ifCond .ne 6, 3) := by decide +kernel
theorem dX10_restOf_46 : decode cX10_restOf 46 = .ok (.goto 21, 3) := by decide +kernel
theorem dX10_restOf_49 : decode cX10_restOf 49 = .ok (.iload 4, 2) := by decide +kernel
theorem dX10_restOf_51 : decode cX10_restOf 51 = .ok (.iload_n 3, 1) := by decide +kernel
theorem dX10_restOf_52 : decode cX10_restOf 52 = .ok (.if_icmp .ne 12, 3) := by decide +kernel
theorem dX10_restOf_55 : decode cX10_restOf 55 = .ok (.bipush 10, 2) := by decide +kernel
theorem dX10_restOf_57 : decode cX10_restOf 57 = .ok (.iload 5, 2) := by decide +kernel
theorem dX10_restOf_59 : decode cX10_restOf 59 = .ok (.imul, 1) := by decide +kernel
theorem dX10_restOf_60 : decode cX10_restOf 60 = .ok (.iload 6, 2) := by decide +kernel
theorem dX10_restOf_62 : decode cX10_restOf 62 = .ok (.iadd, 1) := by decide +kernel
theorem dX10_restOf_63 : decode cX10_restOf 63 = .ok (.ireturn, 1) := by decide +kernel
theorem dX10_restOf_64 : decode cX10_restOf 64 = .ok (.iinc 4 1, 3) := by decide +kernel
theorem dX10_restOf_67 : decode cX10_restOf 67 = .ok (.iinc 6 1, 3) := by decide +kernel
theorem dX10_restOf_70 : decode cX10_restOf 70 = .ok (.goto (-49), 3) := by decide +kernel
theorem dX10_restOf_73 : decode cX10_restOf 73 = .ok (.iinc 5 1, 3) := by decide +kernel
theorem dX10_restOf_76 : decode cX10_restOf 76 = .ok (.goto (-70), 3) := by decide +kernel
theorem dX10_restOf_79 : decode cX10_restOf 79 = .ok (.iload 4, 2) := by decide +kernel
theorem dX10_restOf_81 : decode cX10_restOf 81 = .ok (.sipush 1000, 3) := by decide +kernel
theorem dX10_restOf_84 : decode cX10_restOf 84 = .ok (.isub, 1) := by decide +kernel
theorem dX10_restOf_85 : decode cX10_restOf 85 = .ok (.ireturn, 1) := by decide +kernel
def lp_X10_restOf_21 (y1 : Int32) (y2 : Int32) (y3 : Int32) (y5 : Int32) (k55 : Int32 → Mm → Option (Int32 × Mm)) (k73 : Int32 → Mm → Option (Int32 × Mm)) : Nat → Int32 → Int32 → Mm → Option (Int32 × Mm)
  | 0, _, _, _ => none
  | n + 1, y4, y6, M =>
    if (M 84 92) ≤ y6 then (k73 y4 M) else (bd (f_X10_isRest y1 y2 y5 y6 M) fun v40_2 M40_1 => jn (fun (u3 : Int32) (M4 : Mm) => lp_X10_restOf_21 y1 y2 y3 y5 k55 k73 n u3 (y6 + (nI 1)) M4) fun j5 => if v40_2 = 0 then (j5 y4 M40_1) else (if y4 = y3 then (k55 y6 M40_1) else (j5 (y4 + (nI 1)) M40_1)))
def lp_X10_restOf_6 (y1 : Int32) (y2 : Int32) (y3 : Int32) (k55 : Int32 → Int32 → Mm → Option (Int32 × Mm)) (k79 : Int32 → Mm → Option (Int32 × Mm)) : Nat → Int32 → Int32 → Mm → Option (Int32 × Mm)
  | 0, _, _, _ => none
  | n + 1, y4, y5, M =>
    if (M 84 92) ≤ y5 then (k79 y4 M) else (lp_X10_restOf_21 y1 y2 y3 y5 (fun (u9 : Int32) (M10 : Mm) => k55 y5 u9 M10) (fun (u11 : Int32) (M12 : Mm) => lp_X10_restOf_6 y1 y2 y3 k55 k79 n u11 (y5 + (nI 1)) M12) N0 y4 (nI 0) M)
def f_X10_restOf (x1 : Int32) (x2 : Int32) (x3 : Int32) (M : Mm) : Option (Int32 × Mm) :=
  lp_X10_restOf_6 x1 x2 x3 (fun (u14 : Int32) (u15 : Int32) (M16 : Mm) => some ((((nI 10) * u14) + u15), M16)) (fun (u17 : Int32) (M18 : Mm) => some ((u17 - (nI 1000)), M18)) N0 (nI 0) (nI 0) M
set_option maxHeartbeats 4000000 in
set_option maxRecDepth 100000 in
theorem sl_X10_restOf_21 {l : Launch} {B : BT} (hA : bA B = false) {d : Nat} {r : Int32} {M' : Mm} {y1 : Int32} {y2 : Int32} {y3 : Int32} {y5 : Int32}  {k55 : Int32 → Mm → Option (Int32 × Mm)} {k73 : Int32 → Mm → Option (Int32 × Mm)} (hk55 : ∀ (z6 : Int32) (M9 : Mm), k55 z6 M9 = some (r, M') → GG l B LY (d + 5) yX10_restOf cX10_restOf 7 (some .int) 0 0 (PI r M') 97 0 0 55 [(5, .int y5), (6, .int z6)] [] M9) (hk73 : ∀ (z4 : Int32) (M9 : Mm), k73 z4 M9 = some (r, M') → GG l B LY (d + 5) yX10_restOf cX10_restOf 7 (some .int) 0 0 (PI r M') 97 0 0 73 [(0, .ref 81), (1, .int y1), (2, .int y2), (3, .int y3), (4, .int z4), (5, .int y5)] [] M9) :
    ∀ (n : Nat) (y4 : Int32) (y6 : Int32) (M : Mm), lp_X10_restOf_21 y1 y2 y3 y5 k55 k73 n y4 y6 M = some (r, M') → GG l B LY (d + 5) yX10_restOf cX10_restOf 7 (some .int) 0 0 (PI r M') 97 0 0 21 [(0, .ref 81), (1, .int y1), (2, .int y2), (3, .int y3), (4, .int y4), (5, .int y5), (6, .int y6)] [] M := by
  intro n
  induction n with
  | zero => intro y4 y6 M h; cases h
  | succ n ih =>
    intro y4 y6 M h
    rw [lp_X10_restOf_21] at h
    refine g_iload dX10_restOf_21 6 rfl ?_
    refine g_aload_n dX10_restOf_23 rfl 0 rfl ?_
    refine m_getr (k := 15) okX10 rfl rfl (by decide) w_1284 rfl dX10_restOf_24 ?_
    refine g_bipush (v := (nI 92)) dX10_restOf_27 (by decide) ?_
    refine m_ialdL (k := 92) rfl rfl (by decide) dX10_restOf_29 ?_
    refine g_icmp_ge (tgt := 73) dX10_restOf_30 (by decide) (fun c8 => ?_) (fun c8 => ?_)
    · replace h := ite_p c8 h
      refine g_sub [0, 1, 2, 3, 4, 5] (lv' := [(0, .ref 81), (1, .int y1), (2, .int y2), (3, .int y3), (4, .int y4), (5, .int y5)]) rfl ?_
      exact hk73 _ _ h
    · replace h := ite_n c8 h
      refine g_aload_n dX10_restOf_33 rfl 0 rfl ?_
      refine g_iload_n dX10_restOf_34 rfl 1 rfl ?_
      refine g_iload_n dX10_restOf_35 rfl 2 rfl ?_
      refine g_iload dX10_restOf_36 5 rfl ?_
      refine g_iload dX10_restOf_38 6 rfl ?_
      obtain ⟨v40_2, M40_1, eM40_1, h⟩ := bd_e h
      refine m_callVi (As := [.int y1, .int y2, .int y5, .int y6]) (st := []) (s_X10_isRest (d := d + 0) hA  eM40_1) rfl okX10 ck_X10_isRest w_1693 rfl (Nat.le_of_ble_eq_true rfl) dX10_restOf_40 ?_
      obtain ⟨j5, ej5, h⟩ := jn_e h
      have hj5 : ∀ (u3 : Int32) (M4 : Mm), j5 u3 M4 = some (r, M') → GG l B LY (d + 5) yX10_restOf cX10_restOf 7 (some .int) 0 0 (PI r M') 97 0 0 67 [(0, .ref 81), (1, .int y1), (2, .int y2), (3, .int y3), (4, .int u3), (5, .int y5), (6, .int y6)] [] M4 := by
        intro u3 M4 h
        rw [ej5] at h
        refine g_iinc (v := (y6 + (nI 1))) (lv' := [(6, .int (y6 + (nI 1))), (0, .ref 81), (1, .int y1), (2, .int y2), (3, .int y3), (4, .int u3), (5, .int y5)]) dX10_restOf_67 6 rfl rfl (by decide) rfl ?_
        refine g_goto (tgt := 21) dX10_restOf_70 (by decide) ?_
        refine g_sub [1, 2, 3, 4, 5, 6, 0] (lv' := [(0, .ref 81), (1, .int y1), (2, .int y2), (3, .int y3), (4, .int u3), (5, .int y5), (6, .int (y6 + (nI 1)))]) rfl ?_
        exact ih _ _  _ h
      refine g_if_ne (tgt := 49) dX10_restOf_43 (by decide) (fun c7 => ?_) (fun c7 => ?_)
      · replace h := ite_n c7 h
        refine g_iload dX10_restOf_49 4 rfl ?_
        refine g_iload_n dX10_restOf_51 rfl 3 rfl ?_
        refine g_icmp_ne (tgt := 64) dX10_restOf_52 (by decide) (fun c6 => ?_) (fun c6 => ?_)
        · replace h := ite_n c6 h
          refine g_iinc (v := (y4 + (nI 1))) (lv' := [(4, .int (y4 + (nI 1))), (0, .ref 81), (1, .int y1), (2, .int y2), (3, .int y3), (5, .int y5), (6, .int y6)]) dX10_restOf_64 4 rfl rfl (by decide) rfl ?_
          refine g_sub [1, 2, 3, 4, 0, 5, 6] (lv' := [(0, .ref 81), (1, .int y1), (2, .int y2), (3, .int y3), (4, .int (y4 + (nI 1))), (5, .int y5), (6, .int y6)]) rfl ?_
          exact hj5 _ _ h
        · replace h := ite_p c6 h
          refine g_sub [5, 6] (lv' := [(5, .int y5), (6, .int y6)]) rfl ?_
          exact hk55 _ _ h
      · replace h := ite_p c7 h
        refine g_goto (tgt := 67) dX10_restOf_46 (by decide) ?_
        refine g_sub [0, 1, 2, 3, 4, 5, 6] (lv' := [(0, .ref 81), (1, .int y1), (2, .int y2), (3, .int y3), (4, .int y4), (5, .int y5), (6, .int y6)]) rfl ?_
        exact hj5 _ _ h
set_option maxHeartbeats 4000000 in
set_option maxRecDepth 100000 in
theorem sl_X10_restOf_6 {l : Launch} {B : BT} (hA : bA B = false) {d : Nat} {r : Int32} {M' : Mm} {y1 : Int32} {y2 : Int32} {y3 : Int32}  {k55 : Int32 → Int32 → Mm → Option (Int32 × Mm)} {k79 : Int32 → Mm → Option (Int32 × Mm)} (hk55 : ∀ (z5 : Int32) (z6 : Int32) (M9 : Mm), k55 z5 z6 M9 = some (r, M') → GG l B LY (d + 5) yX10_restOf cX10_restOf 7 (some .int) 0 0 (PI r M') 97 0 0 55 [(5, .int z5), (6, .int z6)] [] M9) (hk79 : ∀ (z4 : Int32) (M9 : Mm), k79 z4 M9 = some (r, M') → GG l B LY (d + 5) yX10_restOf cX10_restOf 7 (some .int) 0 0 (PI r M') 97 0 0 79 [(4, .int z4)] [] M9) :
    ∀ (n : Nat) (y4 : Int32) (y5 : Int32) (M : Mm), lp_X10_restOf_6 y1 y2 y3 k55 k79 n y4 y5 M = some (r, M') → GG l B LY (d + 5) yX10_restOf cX10_restOf 7 (some .int) 0 0 (PI r M') 97 0 0 6 [(0, .ref 81), (1, .int y1), (2, .int y2), (3, .int y3), (4, .int y4), (5, .int y5)] [] M := by
  intro n
  induction n with
  | zero => intro y4 y5 M h; cases h
  | succ n ih =>
    intro y4 y5 M h
    rw [lp_X10_restOf_6] at h
    refine g_iload dX10_restOf_6 5 rfl ?_
    refine g_aload_n dX10_restOf_8 rfl 0 rfl ?_
    refine m_getr (k := 15) okX10 rfl rfl (by decide) w_1284 rfl dX10_restOf_9 ?_
    refine g_bipush (v := (nI 92)) dX10_restOf_12 (by decide) ?_
    refine m_ialdL (k := 92) rfl rfl (by decide) dX10_restOf_14 ?_
    refine g_icmp_ge (tgt := 79) dX10_restOf_15 (by decide) (fun c13 => ?_) (fun c13 => ?_)
    · replace h := ite_p c13 h
      refine g_sub [4] (lv' := [(4, .int y4)]) rfl ?_
      exact hk79 _ _ h
    · replace h := ite_n c13 h
      refine g_iconst (v := (nI 0)) dX10_restOf_18 (by decide) ?_
      refine g_istore (lv' := [(6, .int (nI 0)), (0, .ref 81), (1, .int y1), (2, .int y2), (3, .int y3), (4, .int y4), (5, .int y5)]) dX10_restOf_19 (by decide) rfl ?_
      refine g_sub [1, 2, 3, 4, 5, 6, 0] (lv' := [(0, .ref 81), (1, .int y1), (2, .int y2), (3, .int y3), (4, .int y4), (5, .int y5), (6, .int (nI 0))]) rfl ?_
      refine sl_X10_restOf_21 hA  ?_ ?_ _ _ _ _ h
      · intro u9 M10 h
        refine g_sub [0, 1] (lv' := [(5, .int y5), (6, .int u9)]) rfl ?_
        exact hk55 _ _ _ h
      · intro u11 M12 h
        refine g_iinc (v := (y5 + (nI 1))) (lv' := [(5, .int (y5 + (nI 1))), (0, .ref 81), (1, .int y1), (2, .int y2), (3, .int y3), (4, .int u11)]) dX10_restOf_73 5 rfl rfl (by decide) rfl ?_
        refine g_goto (tgt := 6) dX10_restOf_76 (by decide) ?_
        refine g_sub [1, 2, 3, 4, 5, 0] (lv' := [(0, .ref 81), (1, .int y1), (2, .int y2), (3, .int y3), (4, .int u11), (5, .int (y5 + (nI 1)))]) rfl ?_
        exact ih _ _  _ h
set_option maxHeartbeats 4000000 in
set_option maxRecDepth 100000 in
theorem s_X10_restOf {l : Launch} {B : BT} (hA : bA B = false) {d : Nat} {r : Int32} {M' : Mm} {x1 : Int32} {x2 : Int32} {x3 : Int32} {M : Mm}  (h : f_X10_restOf x1 x2 x3 M = some (r, M')) : Con l B LY (d + 5) yX10_restOf cX10_restOf 7 (some .int) 0 0 [.ref 81, .int x1, .int x2, .int x3] 97 M (PI r M') := by
  refine con_of (by decide) (Nat.le_of_ble_eq_true rfl) ?_
  show GG l B LY (d + 5) yX10_restOf cX10_restOf 7 (some .int) 0 0 (PI r M') 97 0 0 0 [(0, .ref 81), (1, .int x1), (2, .int x2), (3, .int x3)] [] M
  rw [f_X10_restOf] at h
  refine g_iconst (v := (nI 0)) dX10_restOf_0 (by decide) ?_
  refine g_istore (lv' := [(4, .int (nI 0)), (0, .ref 81), (1, .int x1), (2, .int x2), (3, .int x3)]) dX10_restOf_1 (by decide) rfl ?_
  refine g_iconst (v := (nI 0)) dX10_restOf_3 (by decide) ?_
  refine g_istore (lv' := [(5, .int (nI 0)), (4, .int (nI 0)), (0, .ref 81), (1, .int x1), (2, .int x2), (3, .int x3)]) dX10_restOf_4 (by decide) rfl ?_
  refine g_sub [2, 3, 4, 5, 1, 0] (lv' := [(0, .ref 81), (1, .int x1), (2, .int x2), (3, .int x3), (4, .int (nI 0)), (5, .int (nI 0))]) rfl ?_
  refine sl_X10_restOf_6 hA  ?_ ?_ _ _ _ _ h
  · intro u14 u15 M16 h
    refine g_bipush (v := (nI 10)) dX10_restOf_55 (by decide) ?_
    refine g_iload dX10_restOf_57 0 rfl ?_
    refine g_imul dX10_restOf_59 ?_
    refine g_iload dX10_restOf_60 1 rfl ?_
    refine g_iadd dX10_restOf_62 ?_
    exact g_zret rfl rfl (pi_of h) dX10_restOf_63
  · intro u17 M18 h
    refine g_iload dX10_restOf_79 0 rfl ?_
    refine g_sipush (v := (nI 1000)) dX10_restOf_81 (by decide) ?_
    refine g_isub dX10_restOf_84 ?_
    exact g_zret rfl rfl (pi_of h) dX10_restOf_85
theorem ck_X10_restOf : CKV yX10_restOf cX10_restOf 7 (some .int) 3 := ⟨⟨by decide, by decide, by decide +kernel⟩, w_1692, w_81, ⟨w_1691, w_57⟩, by decide⟩
theorem dX10_rests_0 : decode cX10_rests 0 = .ok (.aload_n 0, 1) := by decide +kernel
theorem dX10_rests_1 : decode cX10_rests 1 = .ok (.invokevirtual 156, 3) := by decide +kernel
theorem dX10_rests_4 : decode cX10_rests 4 = .ok (.aload_n 0, 1) := by decide +kernel
theorem dX10_rests_5 : decode cX10_rests 5 = .ok (.iload_n 1, 1) := by decide +kernel
theorem dX10_rests_6 : decode cX10_rests 6 = .ok (.iload_n 2, 1) := by decide +kernel
theorem dX10_rests_7 : decode cX10_rests 7 = .ok (.iconst 0, 1) := by decide +kernel
theorem dX10_rests_8 : decode cX10_rests 8 = .ok (.invokevirtual 320, 3) := by decide +kernel
theorem dX10_rests_11 : decode cX10_rests 11 = .ok (.istore_n 3, 1) := by decide +kernel
theorem dX10_rests_12 : decode cX10_rests 12 = .ok (.iload_n 3, 1) := by decide +kernel
theorem dX10_rests_13 : decode cX10_rests 13 = .ok (.ifCond .eq 11, 3) := by decide +kernel
theorem dX10_rests_16 : decode cX10_rests 16 = .ok (.aload_n 0, 1) := by decide +kernel
theorem dX10_rests_17 : decode cX10_rests 17 = .ok (.iload_n 3, 1) := by decide +kernel
theorem dX10_rests_18 : decode cX10_rests 18 = .ok (.invokevirtual 159, 3) := by decide +kernel
theorem dX10_rests_21 : decode cX10_rests 21 = .ok (.goto 14, 3) := by decide +kernel
theorem dX10_rests_24 : decode cX10_rests 24 = .ok (.aload_n 0, 1) := by decide +kernel
theorem dX10_rests_25 : decode cX10_rests 25 = .ok (.iload_n 1, 1) := by decide +kernel
theorem dX10_rests_26 : decode cX10_rests 26 = .ok (.iload_n 2, 1) := by decide +kernel
theorem dX10_rests_27 : decode cX10_rests 27 = .ok (.iconst (-1), 1) := by decide +kernel
theorem dX10_rests_28 : decode cX10_rests 28 = .ok (.invokevirtual 341, 3) := by decide +kernel
theorem dX10_rests_31 : decode cX10_rests 31 = .ok (.sipush 1000, 3) := by decide +kernel
theorem dX10_rests_34 : decode cX10_rests 34 = .ok (.iadd, 1) := by decide +kernel
theorem dX10_rests_35 : decode cX10_rests 35 = .ok (.ireturn, 1) := by decide +kernel
def f_X10_rests (x1 : Int32) (x2 : Int32) (M : Mm) : Option (Int32 × Mm) :=
  bv (f_X10_good  M) fun M1_1 => bd (f_X10_oddsWhy x1 x2 (nI 0) M1_1) fun v8_4 M8_3 => if v8_4 = 0 then (bd (f_X10_restOf x1 x2 (-1 : Int32) M8_3) fun v28_6 M28_5 => some ((v28_6 + (nI 1000)), M28_5)) else (bd (f_X10_no v8_4 M8_3) fun v18_8 M18_7 => some (v18_8, M18_7))
set_option maxHeartbeats 4000000 in
set_option maxRecDepth 100000 in
theorem s_X10_rests {l : Launch} {B : BT} (hA : bA B = false) {d : Nat} {r : Int32} {M' : Mm} {x1 : Int32} {x2 : Int32} {M : Mm}  (h : f_X10_rests x1 x2 M = some (r, M')) : Con l B LY (d + 6) yX10_rests cX10_rests 4 (some .int) 0 0 [.ref 81, .int x1, .int x2] 97 M (PI r M') := by
  refine con_of (by decide) (Nat.le_of_ble_eq_true rfl) ?_
  show GG l B LY (d + 6) yX10_rests cX10_rests 4 (some .int) 0 0 (PI r M') 97 0 0 0 [(0, .ref 81), (1, .int x1), (2, .int x2)] [] M
  rw [f_X10_rests] at h
  refine g_aload_n dX10_rests_0 rfl 0 rfl ?_
  obtain ⟨M1_1, eM1_1, h⟩ := bv_e h
  refine m_callVv (As := []) (st := []) (s_X10_good (d := d + 5) hA  eM1_1) rfl okX10 ck_X10_good w_1381 rfl (Nat.le_of_ble_eq_true rfl) dX10_rests_1 ?_
  refine g_aload_n dX10_rests_4 rfl 0 rfl ?_
  refine g_iload_n dX10_rests_5 rfl 1 rfl ?_
  refine g_iload_n dX10_rests_6 rfl 2 rfl ?_
  refine g_iconst (v := (nI 0)) dX10_rests_7 (by decide) ?_
  obtain ⟨v8_4, M8_3, eM8_3, h⟩ := bd_e h
  refine m_callVi (As := [.int x1, .int x2, .int (nI 0)]) (st := []) (s_X10_oddsWhy (d := d + 2) hA  eM8_3) rfl okX10 ck_X10_oddsWhy w_1633 rfl (Nat.le_of_ble_eq_true rfl) dX10_rests_8 ?_
  refine g_istore_n (lv' := [(3, .int v8_4), (0, .ref 81), (1, .int x1), (2, .int x2)]) dX10_rests_11 rfl (by decide) rfl ?_
  refine g_iload_n dX10_rests_12 rfl 0 rfl ?_
  refine g_if_eq (tgt := 24) dX10_rests_13 (by decide) (fun c9 => ?_) (fun c9 => ?_)
  · replace h := ite_p c9 h
    refine g_aload_n dX10_rests_24 rfl 1 rfl ?_
    refine g_iload_n dX10_rests_25 rfl 2 rfl ?_
    refine g_iload_n dX10_rests_26 rfl 3 rfl ?_
    refine g_iconst (v := (-1 : Int32)) dX10_rests_27 (by decide) ?_
    obtain ⟨v28_6, M28_5, eM28_5, h⟩ := bd_e h
    refine m_callVi (As := [.int x1, .int x2, .int (-1 : Int32)]) (st := []) (s_X10_restOf (d := d + 0) hA  eM28_5) rfl okX10 ck_X10_restOf w_1689 rfl (Nat.le_of_ble_eq_true rfl) dX10_rests_28 ?_
    refine g_sipush (v := (nI 1000)) dX10_rests_31 (by decide) ?_
    refine g_iadd dX10_rests_34 ?_
    exact g_zret rfl rfl (pi_of h) dX10_rests_35
  · replace h := ite_n c9 h
    refine g_aload_n dX10_rests_16 rfl 1 rfl ?_
    refine g_iload_n dX10_rests_17 rfl 0 rfl ?_
    obtain ⟨v18_8, M18_7, eM18_7, h⟩ := bd_e h
    refine m_callVi (As := [.int v8_4]) (st := []) (s_X10_no (d := d + 5) hA  eM18_7) rfl okX10 ck_X10_no w_1388 rfl (Nat.le_of_ble_eq_true rfl) dX10_rests_18 ?_
    refine g_goto (tgt := 35) dX10_rests_21 (by decide) ?_
    exact g_zret rfl rfl (pi_of h) dX10_rests_35
theorem ck_X10_rests : CKV yX10_rests cX10_rests 4 (some .int) 2 := ⟨⟨by decide, by decide, by decide +kernel⟩, w_1688, w_81, ⟨w_1686, w_1687⟩, by decide⟩
theorem dX10_rest_0 : decode cX10_rest 0 = .ok (.aload_n 0, 1) := by decide +kernel
theorem dX10_rest_1 : decode cX10_rest 1 = .ok (.invokevirtual 156, 3) := by decide +kernel
theorem dX10_rest_4 : decode cX10_rest 4 = .ok (.aload_n 0, 1) := by decide +kernel
theorem dX10_rest_5 : decode cX10_rest 5 = .ok (.iload_n 1, 1) := by decide +kernel
theorem dX10_rest_6 : decode cX10_rest 6 = .ok (.iload_n 2, 1) := by decide +kernel
theorem dX10_rest_7 : decode cX10_rest 7 = .ok (.iconst 0, 1) := by decide +kernel
theorem dX10_rest_8 : decode cX10_rest 8 = .ok (.invokevirtual 320, 3) := by decide +kernel
theorem dX10_rest_11 : decode cX10_rest 11 = .ok (.istore 4, 2) := by decide +kernel
theorem dX10_rest_13 : decode cX10_rest 13 = .ok (.iload 4, 2) := by decide +kernel
theorem dX10_rest_15 : decode cX10_rest 15 = .ok (.ifCond .eq 10, 3) := by decide +kernel
theorem dX10_rest_18 : decode cX10_rest 18 = .ok (.aload_n 0, 1) := by decide +kernel
theorem dX10_rest_19 : decode cX10_rest 19 = .ok (.iload 4, 2) := by decide +kernel
theorem dX10_rest_21 : decode cX10_rest 21 = .ok (.invokevirtual 159, 3) := by decide +kernel
theorem dX10_rest_24 : decode cX10_rest 24 = .ok (.ireturn, 1) := by decide +kernel
theorem dX10_rest_25 : decode cX10_rest 25 = .ok (.iload_n 3, 1) := by decide +kernel
theorem dX10_rest_26 : decode cX10_rest 26 = .ok (.ifCond .ge 7, 3) := by decide +kernel
theorem dX10_rest_29 : decode cX10_rest 29 = .ok (.iconst (-1), 1) := by decide +kernel
theorem dX10_rest_30 : decode cX10_rest 30 = .ok (.goto 10, 3) := by decide +kernel
theorem dX10_rest_33 : decode cX10_rest 33 = .ok (.aload_n 0, 1) := by decide +kernel
theorem dX10_rest_34 : decode cX10_rest 34 = .ok (.iload_n 1, 1) := by decide +kernel
theorem dX10_rest_35 : decode cX10_rest 35 = .ok (.iload_n 2, 1) := by decide +kernel
theorem dX10_rest_36 : decode cX10_rest 36 = .ok (.iload_n 3, 1) := by decide +kernel
theorem dX10_rest_37 : decode cX10_rest 37 = .ok (.invokevirtual 341, 3) := by decide +kernel
theorem dX10_rest_40 : decode cX10_rest 40 = .ok (.istore 5, 2) := by decide +kernel
theorem dX10_rest_42 : decode cX10_rest 42 = .ok (.iload 5, 2) := by decide +kernel
theorem dX10_rest_44 : decode cX10_rest 44 = .ok (.ifCond .ge 11, 3) := by decide +kernel
theorem dX10_rest_47 : decode cX10_rest 47 = .ok (.aload_n 0, 1) := by decide +kernel
theorem dX10_rest_48 : decode cX10_rest 48 = .ok (.iconst 1, 1) := by decide +kernel
theorem dX10_rest_49 : decode cX10_rest 49 = .ok (.invokevirtual 159, 3) := by decide +kernel
theorem dX10_rest_52 : decode cX10_rest 52 = .ok (.goto 5, 3) := by decide +kernel
theorem dX10_rest_55 : decode cX10_rest 55 = .ok (.iload 5, 2) := by decide +kernel
theorem dX10_rest_57 : decode cX10_rest 57 = .ok (.ireturn, 1) := by decide +kernel
def f_X10_rest (x1 : Int32) (x2 : Int32) (x3 : Int32) (M : Mm) : Option (Int32 × Mm) :=
  bv (f_X10_good  M) fun M1_1 => bd (f_X10_oddsWhy x1 x2 (nI 0) M1_1) fun v8_4 M8_3 => if v8_4 = 0 then (jn (fun (s5 : Int32) (M6 : Mm) => if 0 ≤ s5 then (some (s5, M6)) else (bd (f_X10_no (nI 1) M6) fun v49_9 M49_8 => some (v49_9, M49_8))) fun j7 => if 0 ≤ x3 then (bd (f_X10_restOf x1 x2 x3 M8_3) fun v37_12 M37_11 => j7 v37_12 M37_11) else (j7 (-1 : Int32) M8_3)) else (bd (f_X10_no v8_4 M8_3) fun v21_15 M21_14 => some (v21_15, M21_14))
set_option maxHeartbeats 4000000 in
set_option maxRecDepth 100000 in
theorem s_X10_rest {l : Launch} {B : BT} (hA : bA B = false) {d : Nat} {r : Int32} {M' : Mm} {x1 : Int32} {x2 : Int32} {x3 : Int32} {M : Mm}  (h : f_X10_rest x1 x2 x3 M = some (r, M')) : Con l B LY (d + 6) yX10_rest cX10_rest 6 (some .int) 0 0 [.ref 81, .int x1, .int x2, .int x3] 97 M (PI r M') := by
  refine con_of (by decide) (Nat.le_of_ble_eq_true rfl) ?_
  show GG l B LY (d + 6) yX10_rest cX10_rest 6 (some .int) 0 0 (PI r M') 97 0 0 0 [(0, .ref 81), (1, .int x1), (2, .int x2), (3, .int x3)] [] M
  rw [f_X10_rest] at h
  refine g_aload_n dX10_rest_0 rfl 0 rfl ?_
  obtain ⟨M1_1, eM1_1, h⟩ := bv_e h
  refine m_callVv (As := []) (st := []) (s_X10_good (d := d + 5) hA  eM1_1) rfl okX10 ck_X10_good w_1381 rfl (Nat.le_of_ble_eq_true rfl) dX10_rest_1 ?_
  refine g_aload_n dX10_rest_4 rfl 0 rfl ?_
  refine g_iload_n dX10_rest_5 rfl 1 rfl ?_
  refine g_iload_n dX10_rest_6 rfl 2 rfl ?_
  refine g_iconst (v := (nI 0)) dX10_rest_7 (by decide) ?_
  obtain ⟨v8_4, M8_3, eM8_3, h⟩ := bd_e h
  refine m_callVi (As := [.int x1, .int x2, .int (nI 0)]) (st := []) (s_X10_oddsWhy (d := d + 2) hA  eM8_3) rfl okX10 ck_X10_oddsWhy w_1633 rfl (Nat.le_of_ble_eq_true rfl) dX10_rest_8 ?_
  refine g_istore (lv' := [(4, .int v8_4), (0, .ref 81), (1, .int x1), (2, .int x2), (3, .int x3)]) dX10_rest_11 (by decide) rfl ?_
  refine g_iload dX10_rest_13 0 rfl ?_
  refine g_if_eq (tgt := 25) dX10_rest_15 (by decide) (fun c16 => ?_) (fun c16 => ?_)
  · replace h := ite_p c16 h
    refine g_iload_n dX10_rest_25 rfl 4 rfl ?_
    obtain ⟨j7, ej7, h⟩ := jn_e h
    have hj7 : ∀ (s5 : Int32) (M6 : Mm), j7 s5 M6 = some (r, M') → GG l B LY (d + 6) yX10_rest cX10_rest 6 (some .int) 0 0 (PI r M') 97 0 0 40 [(0, .ref 81)] [.int s5] M6 := by
      intro s5 M6 h
      rw [ej7] at h
      refine g_istore (lv' := [(5, .int s5), (0, .ref 81)]) dX10_rest_40 (by decide) rfl ?_
      refine g_iload dX10_rest_42 0 rfl ?_
      refine g_if_ge (tgt := 55) dX10_rest_44 (by decide) (fun c10 => ?_) (fun c10 => ?_)
      · replace h := ite_p c10 h
        refine g_iload dX10_rest_55 0 rfl ?_
        exact g_zret rfl rfl (pi_of h) dX10_rest_57
      · replace h := ite_n c10 h
        refine g_aload_n dX10_rest_47 rfl 1 rfl ?_
        refine g_iconst (v := (nI 1)) dX10_rest_48 (by decide) ?_
        obtain ⟨v49_9, M49_8, eM49_8, h⟩ := bd_e h
        refine m_callVi (As := [.int (nI 1)]) (st := []) (s_X10_no (d := d + 5) hA  eM49_8) rfl okX10 ck_X10_no w_1388 rfl (Nat.le_of_ble_eq_true rfl) dX10_rest_49 ?_
        refine g_goto (tgt := 57) dX10_rest_52 (by decide) ?_
        exact g_zret rfl rfl (pi_of h) dX10_rest_57
    refine g_if_ge (tgt := 33) dX10_rest_26 (by decide) (fun c13 => ?_) (fun c13 => ?_)
    · replace h := ite_p c13 h
      refine g_aload_n dX10_rest_33 rfl 1 rfl ?_
      refine g_iload_n dX10_rest_34 rfl 2 rfl ?_
      refine g_iload_n dX10_rest_35 rfl 3 rfl ?_
      refine g_iload_n dX10_rest_36 rfl 4 rfl ?_
      obtain ⟨v37_12, M37_11, eM37_11, h⟩ := bd_e h
      refine m_callVi (As := [.int x1, .int x2, .int x3]) (st := []) (s_X10_restOf (d := d + 0) hA  eM37_11) rfl okX10 ck_X10_restOf w_1689 rfl (Nat.le_of_ble_eq_true rfl) dX10_rest_37 ?_
      refine g_sub [1] (lv' := [(0, .ref 81)]) rfl ?_
      exact hj7 _ _ h
    · replace h := ite_n c13 h
      refine g_iconst (v := (-1 : Int32)) dX10_rest_29 (by decide) ?_
      refine g_goto (tgt := 40) dX10_rest_30 (by decide) ?_
      refine g_sub [1] (lv' := [(0, .ref 81)]) rfl ?_
      exact hj7 _ _ h
  · replace h := ite_n c16 h
    refine g_aload_n dX10_rest_18 rfl 1 rfl ?_
    refine g_iload dX10_rest_19 0 rfl ?_
    obtain ⟨v21_15, M21_14, eM21_14, h⟩ := bd_e h
    refine m_callVi (As := [.int v8_4]) (st := []) (s_X10_no (d := d + 5) hA  eM21_14) rfl okX10 ck_X10_no w_1388 rfl (Nat.le_of_ble_eq_true rfl) dX10_rest_21 ?_
    exact g_zret rfl rfl (pi_of h) dX10_rest_24
theorem ck_X10_rest : CKV yX10_rest cX10_rest 6 (some .int) 3 := ⟨⟨by decide, by decide, by decide +kernel⟩, w_1700, w_81, ⟨w_1698, w_1699⟩, by decide⟩
theorem dX10_means_0 : decode cX10_means 0 = .ok (.aload_n 0, 1) := by decide +kernel
theorem dX10_means_1 : decode cX10_means 1 = .ok (.getfield 20, 3) := by decide +kernel
theorem dX10_means_4 : decode cX10_means 4 = .ok (.bipush 86, 2) := by decide +kernel
theorem dX10_means_6 : decode cX10_means 6 = .ok (.iload_n 1, 1) := by decide +kernel
theorem dX10_means_7 : decode cX10_means 7 = .ok (.iadd, 1) := by decide +kernel
theorem dX10_means_8 : decode cX10_means 8 = .ok (.iaload, 1) := by decide +kernel
theorem dX10_means_9 : decode cX10_means 9 = .ok (.istore_n 2, 1) := by decide +kernel
theorem dX10_means_10 : decode cX10_means 10 = .ok (.aload_n 0, 1) := by decide +kernel
theorem dX10_means_11 : decode cX10_means 11 = .ok (.getfield 20, 3) := by decide +kernel
theorem dX10_means_14 : decode cX10_means 14 = .ok (.bipush 81, 2) := by decide +kernel
theorem dX10_means_16 : decode cX10_means 16 = .ok (.iload_n 1, 1) := by decide +kernel
theorem dX10_means_17 : decode cX10_means 17 = .ok (.iadd, 1) := by decide +kernel
theorem dX10_means_18 : decode cX10_means 18 = .ok (.iaload, 1) := by decide +kernel
theorem dX10_means_19 : decode cX10_means 19 = .ok (.ifCond .ne 8, 3) := by decide +kernel
theorem dX10_means_22 : decode cX10_means 22 = .ok (.aload_n 0, 1) := by decide +kernel
theorem dX10_means_23 : decode cX10_means 23 = .ok (.invokevirtual 318, 3) := by decide +kernel
theorem dX10_means_26 : decode cX10_means 26 = .ok (.ireturn, 1) := by decide +kernel
theorem dX10_means_27 : decode cX10_means 27 = .ok (.aload_n 0, 1) := by decide +kernel
theorem dX10_means_28 : decode cX10_means 28 = .ok (.getfield 20, 3) := by decide +kernel
theorem dX10_means_31 : decode cX10_means 31 = .ok (.bipush 81, 2) := by decide +kernel
theorem dX10_means_33 : decode cX10_means 33 = .ok (.iload_n 1, 1) := by decide +kernel
theorem dX10_means_34 : decode cX10_means 34 = .ok (.iadd, 1) := by decide +kernel
theorem dX10_means_35 : decode cX10_means 35 = .ok (.iaload, 1) := by decide +kernel
theorem dX10_means_36 : decode cX10_means 36 = .ok (.iconst 1, 1) := by decide +kernel
theorem dX10_means_37 : decode cX10_means 37 = .ok (.if_icmp .ne 21, 3) := by decide +kernel
theorem dX10_means_40 : decode cX10_means 40 = .ok (.aload_n 0, 1) := by decide +kernel
theorem dX10_means_41 : decode cX10_means 41 = .ok (.iload_n 2, 1) := by decide +kernel
theorem dX10_means_42 : decode cX10_means 42 = .ok (.aload_n 0, 1) := by decide +kernel
theorem dX10_means_43 : decode cX10_means 43 = .ok (.getfield 20, 3) := by decide +kernel
theorem dX10_means_46 : decode cX10_means 46 = .ok (.bipush 92, 2) := by decide +kernel
theorem dX10_means_48 : decode cX10_means 48 = .ok (.iaload, 1) := by decide +kernel
theorem dX10_means_49 : decode cX10_means 49 = .ok (.invokestatic 303, 3) := by decide +kernel
theorem dX10_means_52 : decode cX10_means 52 = .ok (.iconst 1, 1) := by decide +kernel
theorem dX10_means_53 : decode cX10_means 53 = .ok (.isub, 1) := by decide +kernel
theorem dX10_means_54 : decode cX10_means 54 = .ok (.invokevirtual 300, 3) := by decide +kernel
theorem dX10_means_57 : decode cX10_means 57 = .ok (.ireturn, 1) := by decide +kernel
theorem dX10_means_58 : decode cX10_means 58 = .ok (.aload_n 0, 1) := by decide +kernel
theorem dX10_means_59 : decode cX10_means 59 = .ok (.iconst 0, 1) := by decide +kernel
theorem dX10_means_60 : decode cX10_means 60 = .ok (.invokevirtual 237, 3) := by decide +kernel
theorem dX10_means_63 : decode cX10_means 63 = .ok (.iload_n 2, 1) := by decide +kernel
theorem dX10_means_64 : decode cX10_means 64 = .ok (.if_icmp .le 13, 3) := by decide +kernel
theorem dX10_means_67 : decode cX10_means 67 = .ok (.aload_n 0, 1) := by decide +kernel
theorem dX10_means_68 : decode cX10_means 68 = .ok (.iconst 0, 1) := by decide +kernel
theorem dX10_means_69 : decode cX10_means 69 = .ok (.invokevirtual 237, 3) := by decide +kernel
theorem dX10_means_72 : decode cX10_means 72 = .ok (.iload_n 2, 1) := by decide +kernel
theorem dX10_means_73 : decode cX10_means 73 = .ok (.isub, 1) := by decide +kernel
theorem dX10_means_74 : decode cX10_means 74 = .ok (.goto 4, 3) := by decide +kernel
theorem dX10_means_77 : decode cX10_means 77 = .ok (.iconst 0, 1) := by decide +kernel
theorem dX10_means_78 : decode cX10_means 78 = .ok (.ireturn, 1) := by decide +kernel
def f_X10_means (x1 : Int32) (M : Mm) : Option (Int32 × Mm) :=
  gd (inb ((nI 86) + x1) 141) <| lt ((M 84 ((nI 86) + x1).toNatClampNeg)) fun t1 => gd (inb ((nI 81) + x1) 141) <| if (M 84 ((nI 81) + x1).toNatClampNeg) = 0 then (bd (f_X10_whole  M) fun v23_13 M23_12 => some (v23_13, M23_12)) else (gd (inb ((nI 81) + x1) 141) <| if (M 84 ((nI 81) + x1).toNatClampNeg) = (nI 1) then (bd (f_X10_less t1 (M 84 92) M) fun v49_8 M49_7 => bd (f_X10_endOf (v49_8 - (nI 1)) M49_7) fun v54_10 M54_9 => some (v54_10, M54_9)) else (bd (f_X10_tenthsOf (nI 0) M) fun v60_3 M60_2 => if v60_3 ≤ t1 then (some ((nI 0), M60_2)) else (bd (f_X10_tenthsOf (nI 0) M60_2) fun v69_5 M69_4 => some ((v69_5 - t1), M69_4))))
set_option maxHeartbeats 4000000 in
set_option maxRecDepth 100000 in
theorem s_X10_means {l : Launch} {B : BT} (hA : bA B = false) {d : Nat} {r : Int32} {M' : Mm} {x1 : Int32} {M : Mm}  (h : f_X10_means x1 M = some (r, M')) : Con l B LY (d + 3) yX10_means cX10_means 3 (some .int) 0 0 [.ref 81, .int x1] 97 M (PI r M') := by
  refine con_of (by decide) (Nat.le_of_ble_eq_true rfl) ?_
  show GG l B LY (d + 3) yX10_means cX10_means 3 (some .int) 0 0 (PI r M') 97 0 0 0 [(0, .ref 81), (1, .int x1)] [] M
  rw [f_X10_means] at h
  refine g_aload_n dX10_means_0 rfl 0 rfl ?_
  refine m_getr (k := 15) okX10 rfl rfl (by decide) w_1284 rfl dX10_means_1 ?_
  refine g_bipush (v := (nI 86)) dX10_means_4 (by decide) ?_
  refine g_iload_n dX10_means_6 rfl 1 rfl ?_
  refine g_iadd dX10_means_7 ?_
  obtain ⟨hz, h⟩ := gd_s h
  refine m_iald rfl hz dX10_means_8 ?_
  obtain ⟨t1, et1, h⟩ := lt_e h
  refine g_cuti et1 ?_
  refine g_istore_n (lv' := [(2, .int t1), (0, .ref 81), (1, .int x1)]) dX10_means_9 rfl (by decide) rfl ?_
  refine g_aload_n dX10_means_10 rfl 1 rfl ?_
  refine m_getr (k := 15) okX10 rfl rfl (by decide) w_1284 rfl dX10_means_11 ?_
  refine g_bipush (v := (nI 81)) dX10_means_14 (by decide) ?_
  refine g_iload_n dX10_means_16 rfl 2 rfl ?_
  refine g_iadd dX10_means_17 ?_
  obtain ⟨hz, h⟩ := gd_s h
  refine m_iald rfl hz dX10_means_18 ?_
  refine g_if_ne (tgt := 27) dX10_means_19 (by decide) (fun c14 => ?_) (fun c14 => ?_)
  · replace h := ite_n c14 h
    refine g_aload_n dX10_means_27 rfl 1 rfl ?_
    refine m_getr (k := 15) okX10 rfl rfl (by decide) w_1284 rfl dX10_means_28 ?_
    refine g_bipush (v := (nI 81)) dX10_means_31 (by decide) ?_
    refine g_iload_n dX10_means_33 rfl 2 rfl ?_
    refine g_iadd dX10_means_34 ?_
    obtain ⟨hz, h⟩ := gd_s h
    refine m_iald rfl hz dX10_means_35 ?_
    refine g_iconst (v := (nI 1)) dX10_means_36 (by decide) ?_
    refine g_icmp_ne (tgt := 58) dX10_means_37 (by decide) (fun c11 => ?_) (fun c11 => ?_)
    · replace h := ite_n c11 h
      refine g_aload_n dX10_means_58 rfl 1 rfl ?_
      refine g_iconst (v := (nI 0)) dX10_means_59 (by decide) ?_
      obtain ⟨v60_3, M60_2, eM60_2, h⟩ := bd_e h
      refine m_callVi (As := [.int (nI 0)]) (st := []) (s_X10_tenthsOf (d := d + 2) hA  eM60_2) rfl okX10 ck_X10_tenthsOf w_1524 rfl (Nat.le_of_ble_eq_true rfl) dX10_means_60 ?_
      refine g_iload_n dX10_means_63 rfl 0 rfl ?_
      refine g_icmp_le (tgt := 77) dX10_means_64 (by decide) (fun c6 => ?_) (fun c6 => ?_)
      · replace h := ite_p c6 h
        refine g_iconst (v := (nI 0)) dX10_means_77 (by decide) ?_
        exact g_zret rfl rfl (pi_of h) dX10_means_78
      · replace h := ite_n c6 h
        refine g_aload_n dX10_means_67 rfl 1 rfl ?_
        refine g_iconst (v := (nI 0)) dX10_means_68 (by decide) ?_
        obtain ⟨v69_5, M69_4, eM69_4, h⟩ := bd_e h
        refine m_callVi (As := [.int (nI 0)]) (st := []) (s_X10_tenthsOf (d := d + 2) hA  eM69_4) rfl okX10 ck_X10_tenthsOf w_1524 rfl (Nat.le_of_ble_eq_true rfl) dX10_means_69 ?_
        refine g_iload_n dX10_means_72 rfl 0 rfl ?_
        refine g_isub dX10_means_73 ?_
        refine g_goto (tgt := 78) dX10_means_74 (by decide) ?_
        exact g_zret rfl rfl (pi_of h) dX10_means_78
    · replace h := ite_p c11 h
      refine g_aload_n dX10_means_40 rfl 1 rfl ?_
      refine g_iload_n dX10_means_41 rfl 0 rfl ?_
      refine g_aload_n dX10_means_42 rfl 1 rfl ?_
      refine m_getr (k := 15) okX10 rfl rfl (by decide) w_1284 rfl dX10_means_43 ?_
      refine g_bipush (v := (nI 92)) dX10_means_46 (by decide) ?_
      refine m_ialdL (k := 92) rfl rfl (by decide) dX10_means_48 ?_
      obtain ⟨v49_8, M49_7, eM49_7, h⟩ := bd_e h
      refine m_callSi (As := [.int t1, .int (M 84 92)]) (st := [.ref 81]) (s_X10_less (d := d + 2) hA  eM49_7) ck_X10_less w_1657 rfl (Nat.le_of_ble_eq_true rfl) dX10_means_49 ?_
      refine g_iconst (v := (nI 1)) dX10_means_52 (by decide) ?_
      refine g_isub dX10_means_53 ?_
      obtain ⟨v54_10, M54_9, eM54_9, h⟩ := bd_e h
      refine m_callVi (As := [.int (v49_8 - (nI 1))]) (st := []) (s_X10_endOf (d := d + 1) hA  eM54_9) rfl okX10 ck_X10_endOf w_1641 rfl (Nat.le_of_ble_eq_true rfl) dX10_means_54 ?_
      exact g_zret rfl rfl (pi_of h) dX10_means_57
  · replace h := ite_p c14 h
    refine g_aload_n dX10_means_22 rfl 1 rfl ?_
    obtain ⟨v23_13, M23_12, eM23_12, h⟩ := bd_e h
    refine m_callVi (As := []) (st := []) (s_X10_whole (d := d + 0) hA  eM23_12) rfl okX10 ck_X10_whole w_1637 rfl (Nat.le_of_ble_eq_true rfl) dX10_means_23 ?_
    exact g_zret rfl rfl (pi_of h) dX10_means_26
theorem ck_X10_means : CKV yX10_means cX10_means 3 (some .int) 1 := ⟨⟨by decide, by decide, by decide +kernel⟩, w_1711, w_81, ⟨w_1710, w_59⟩, by decide⟩
theorem dX10_count_0 : decode cX10_count 0 = .ok (.iconst 0, 1) := by decide +kernel
theorem dX10_count_1 : decode cX10_count 1 = .ok (.istore_n 1, 1) := by decide +kernel
theorem dX10_count_2 : decode cX10_count 2 = .ok (.iconst 0, 1) := by decide +kernel
theorem dX10_count_3 : decode cX10_count 3 = .ok (.istore_n 2, 1) := by decide +kernel
theorem dX10_count_4 : decode cX10_count 4 = .ok (.iload_n 2, 1) := by decide +kernel
theorem dX10_count_5 : decode cX10_count 5 = .ok (.iconst 5, 1) := by decide +kernel
theorem dX10_count_6 : decode cX10_count 6 = .ok (.if_icmp .ge 17, 3) := by decide +kernel
theorem dX10_count_9 : decode cX10_count 9 = .ok (.iload_n 1, 1) := by decide +kernel
theorem dX10_count_10 : decode cX10_count 10 = .ok (.iload_n 0, 1) := by decide +kernel
theorem dX10_count_11 : decode cX10_count 11 = .ok (.iload_n 2, 1) := by decide +kernel
theorem dX10_count_12 : decode cX10_count 12 = .ok (.ishr, 1) := by decide +kernel
theorem dX10_count_13 : decode cX10_count 13 = .ok (.iconst 1, 1) := by decide +kernel
theorem dX10_count_14 : decode cX10_count 14 = .ok (.iand, 1) := by decide +kernel
theorem dX10_count_15 : decode cX10_count 15 = .ok (.iadd, 1) := by decide +kernel
theorem dX10_count_16 : decode cX10_count 16 = .ok (.istore_n 1, 1) := by decide +kernel
theorem dX10_count_17 : decode cX10_count 17 = .ok (.iinc 2 1, 3) := by decide +kernel
theorem dX10_count_20 : decode cX10_count 20 = .ok (.goto (-16), 3) := by decide +kernel
theorem dX10_count_23 : decode cX10_count 23 = .ok (.iload_n 1, 1) := by decide +kernel
theorem dX10_count_24 : decode cX10_count 24 = .ok (.ireturn, 1) := by decide +kernel
def lp_X10_count_4 (y0 : Int32)  : Nat → Int32 → Int32 → Mm → Option (Int32 × Mm)
  | 0, _, _, _ => none
  | n + 1, y1, y2, M =>
    if (nI 5) ≤ y2 then (some (y1, M)) else (lt ((y1 + ((y0 >>> (y2 &&& 31)) &&& (nI 1)))) fun t1 => lp_X10_count_4 y0 n t1 (y2 + (nI 1)) M)
def f_X10_count (x0 : Int32) (M : Mm) : Option (Int32 × Mm) :=
  lp_X10_count_4 x0  N0 (nI 0) (nI 0) M
set_option maxHeartbeats 4000000 in
set_option maxRecDepth 100000 in
theorem sl_X10_count_4 {l : Launch} {B : BT} (hA : bA B = false) {d : Nat} {r : Int32} {M' : Mm} {y0 : Int32}    :
    ∀ (n : Nat) (y1 : Int32) (y2 : Int32) (M : Mm), lp_X10_count_4 y0 n y1 y2 M = some (r, M') → GG l B LY (d + 0) yX10_count cX10_count 3 (some .int) 0 0 (PI r M') 97 0 0 4 [(0, .int y0), (1, .int y1), (2, .int y2)] [] M := by
  intro n
  induction n with
  | zero => intro y1 y2 M h; cases h
  | succ n ih =>
    intro y1 y2 M h
    rw [lp_X10_count_4] at h
    refine g_iload_n dX10_count_4 rfl 2 rfl ?_
    refine g_iconst (v := (nI 5)) dX10_count_5 (by decide) ?_
    refine g_icmp_ge (tgt := 23) dX10_count_6 (by decide) (fun c2 => ?_) (fun c2 => ?_)
    · replace h := ite_p c2 h
      refine g_iload_n dX10_count_23 rfl 1 rfl ?_
      exact g_zret rfl rfl (pi_of h) dX10_count_24
    · replace h := ite_n c2 h
      refine g_iload_n dX10_count_9 rfl 1 rfl ?_
      refine g_iload_n dX10_count_10 rfl 0 rfl ?_
      refine g_iload_n dX10_count_11 rfl 2 rfl ?_
      refine g_ishr dX10_count_12 ?_
      refine g_iconst (v := (nI 1)) dX10_count_13 (by decide) ?_
      refine g_iand dX10_count_14 ?_
      refine g_iadd dX10_count_15 ?_
      obtain ⟨t1, et1, h⟩ := lt_e h
      refine g_cuti et1 ?_
      refine g_istore_n (lv' := [(1, .int t1), (0, .int y0), (2, .int y2)]) dX10_count_16 rfl (by decide) rfl ?_
      refine g_iinc (v := (y2 + (nI 1))) (lv' := [(2, .int (y2 + (nI 1))), (1, .int t1), (0, .int y0)]) dX10_count_17 2 rfl rfl (by decide) rfl ?_
      refine g_goto (tgt := 4) dX10_count_20 (by decide) ?_
      refine g_sub [2, 1, 0] (lv' := [(0, .int y0), (1, .int t1), (2, .int (y2 + (nI 1)))]) rfl ?_
      exact ih _ _  _ h
set_option maxHeartbeats 4000000 in
set_option maxRecDepth 100000 in
theorem s_X10_count {l : Launch} {B : BT} (hA : bA B = false) {d : Nat} {r : Int32} {M' : Mm} {x0 : Int32} {M : Mm}  (h : f_X10_count x0 M = some (r, M')) : Con l B LY (d + 0) yX10_count cX10_count 3 (some .int) 0 0 [.int x0] 97 M (PI r M') := by
  refine con_of (by decide) (Nat.le_of_ble_eq_true rfl) ?_
  show GG l B LY (d + 0) yX10_count cX10_count 3 (some .int) 0 0 (PI r M') 97 0 0 0 [(0, .int x0)] [] M
  rw [f_X10_count] at h
  refine g_iconst (v := (nI 0)) dX10_count_0 (by decide) ?_
  refine g_istore_n (lv' := [(1, .int (nI 0)), (0, .int x0)]) dX10_count_1 rfl (by decide) rfl ?_
  refine g_iconst (v := (nI 0)) dX10_count_2 (by decide) ?_
  refine g_istore_n (lv' := [(2, .int (nI 0)), (1, .int (nI 0)), (0, .int x0)]) dX10_count_3 rfl (by decide) rfl ?_
  refine g_sub [2, 1, 0] (lv' := [(0, .int x0), (1, .int (nI 0)), (2, .int (nI 0))]) rfl ?_
  refine sl_X10_count_4 hA   _ _ _ _ h
theorem ck_X10_count : CKS yX10_count cX10_count 3 (some .int) 1 := ⟨⟨by decide, by decide, by decide +kernel⟩, w_1707, w_81, w_1706, by decide⟩
