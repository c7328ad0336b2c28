/-! walks: X10_run X10_lookMany X10_ahead X10_isHidden X10_look X10_tenth X10_start. Written by wip/programs/parts.py. -/
theorem dX10_run_0 : decode cX10_run 0 = .ok (.aload_n 0, 1) := by decide +kernel
theorem dX10_run_1 : decode cX10_run 1 = .ok (.getfield 26, 3) := by decide +kernel
theorem dX10_run_4 : decode cX10_run 4 = .ok (.bipush 8, 2) := by decide +kernel
theorem dX10_run_6 : decode cX10_run 6 = .ok (.iconst 1, 1) := by decide +kernel
theorem dX10_run_7 : decode cX10_run 7 = .ok (.iastore, 1) := by decide +kernel
theorem dX10_run_8 : decode cX10_run 8 = .ok (.aload_n 0, 1) := by decide +kernel
theorem dX10_run_9 : decode cX10_run 9 = .ok (.getfield 26, 3) := by decide +kernel
theorem dX10_run_12 : decode cX10_run 12 = .ok (.bipush 7, 2) := by decide +kernel
theorem dX10_run_14 : decode cX10_run 14 = .ok (.iconst 0, 1) := by decide +kernel
theorem dX10_run_15 : decode cX10_run 15 = .ok (.iastore, 1) := by decide +kernel
theorem dX10_run_16 : decode cX10_run 16 = .ok (.iconst 0, 1) := by decide +kernel
theorem dX10_run_17 : decode cX10_run 17 = .ok (.istore_n 1, 1) := by decide +kernel
theorem dX10_run_18 : decode cX10_run 18 = .ok (.iload_n 1, 1) := by decide +kernel
theorem dX10_run_19 : decode cX10_run 19 = .ok (.aload_n 0, 1) := by decide +kernel
theorem dX10_run_20 : decode cX10_run 20 = .ok (.getfield 20, 3) := by decide +kernel
theorem dX10_run_23 : decode cX10_run 23 = .ok (.bipush 95, 2) := by decide +kernel
theorem dX10_run_25 : decode cX10_run 25 = .ok (.iaload, 1) := by decide +kernel
theorem dX10_run_26 : decode cX10_run 26 = .ok (.if_icmp .ge 49, 3) := by decide +kernel
theorem dX10_run_29 : decode cX10_run 29 = .ok (.iload_n 1, 1) := by decide +kernel
theorem dX10_run_30 : decode cX10_run 30 = .ok (.aload_n 0, 1) := by decide +kernel
theorem dX10_run_31 : decode cX10_run 31 = .ok (.getfield 26, 3) := by decide +kernel
theorem dX10_run_34 : decode cX10_run 34 = .ok (.iconst 5, 1) := by decide +kernel
theorem dX10_run_35 : decode cX10_run 35 = .ok (.iaload, 1) := by decide +kernel
theorem dX10_run_36 : decode cX10_run 36 = .ok (.if_icmp .eq 33, 3) := by decide +kernel
theorem dX10_run_39 : decode cX10_run 39 = .ok (.aload_n 0, 1) := by decide +kernel
theorem dX10_run_40 : decode cX10_run 40 = .ok (.iload_n 1, 1) := by decide +kernel
theorem dX10_run_41 : decode cX10_run 41 = .ok (.aload_n 0, 1) := by decide +kernel
theorem dX10_run_42 : decode cX10_run 42 = .ok (.getfield 26, 3) := by decide +kernel
theorem dX10_run_45 : decode cX10_run 45 = .ok (.bipush 9, 2) := by decide +kernel
theorem dX10_run_47 : decode cX10_run 47 = .ok (.iload_n 1, 1) := by decide +kernel
theorem dX10_run_48 : decode cX10_run 48 = .ok (.iadd, 1) := by decide +kernel
theorem dX10_run_49 : decode cX10_run 49 = .ok (.iaload, 1) := by decide +kernel
theorem dX10_run_50 : decode cX10_run 50 = .ok (.invokevirtual 258, 3) := by decide +kernel
theorem dX10_run_53 : decode cX10_run 53 = .ok (.ifCond .eq 16, 3) := by decide +kernel
theorem dX10_run_56 : decode cX10_run 56 = .ok (.aload_n 0, 1) := by decide +kernel
theorem dX10_run_57 : decode cX10_run 57 = .ok (.getfield 26, 3) := by decide +kernel
theorem dX10_run_60 : decode cX10_run 60 = .ok (.bipush 7, 2) := by decide +kernel
theorem dX10_run_62 : decode cX10_run 62 = .ok (.dup2, 1) := by decide +kernel
theorem dX10_run_63 : decode cX10_run 63 = .ok (.iaload, 1) := by decide +kernel
theorem dX10_run_64 : decode cX10_run 64 = .ok (.iconst 1, 1) := by decide +kernel
theorem dX10_run_65 : decode cX10_run 65 = .ok (.iload_n 1, 1) := by decide +kernel
theorem dX10_run_66 : decode cX10_run 66 = .ok (.ishl, 1) := by decide +kernel
theorem dX10_run_67 : decode cX10_run 67 = .ok (.ior, 1) := by decide +kernel
theorem dX10_run_68 : decode cX10_run 68 = .ok (.iastore, 1) := by decide +kernel
theorem dX10_run_69 : decode cX10_run 69 = .ok (.iinc 1 1, 3) := by decide +kernel
theorem dX10_run_72 : decode cX10_run 72 = .ok (.goto (-54), 3) := by decide +kernel
theorem dX10_run_75 : decode cX10_run 75 = .ok (.return_, 1) := by decide +kernel
def lp_X10_run_18   : Nat → Int32 → Mm → Option (Mm)
  | 0, _, _ => none
  | n + 1, y1, M =>
    if (M 84 95) ≤ y1 then (some M) else (jn (fun (M1 : Mm) => lp_X10_run_18 n (y1 + (nI 1)) M1) fun j2 => if y1 = (M 86 5) then (j2  M) else (gd (inb ((nI 9) + y1) 44) <| bd (f_X10_isCaught y1 (M 86 ((nI 9) + y1).toNatClampNeg) M) fun v50_4 M50_3 => if v50_4 = 0 then (j2  M50_3) else (j2  (mset M50_3 86 7 ((M50_3 86 7) ||| ((nI 1) <<< (y1 &&& 31)))))))
def f_X10_run  (M : Mm) : Option (Mm) :=
  lp_X10_run_18   N0 (nI 0) (mset (mset M 86 8 (nI 1)) 86 7 (nI 0))
set_option maxHeartbeats 4000000 in
set_option maxRecDepth 100000 in
theorem sl_X10_run_18 {l : Launch} {B : BT} (hA : bA B = false) {d : Nat} {M' : Mm}     :
    ∀ (n : Nat) (y1 : Int32) (M : Mm), lp_X10_run_18 n y1 M = some M' → GG l B LY (d + 2) yX10_run cX10_run 2 none 0 0 (PV M') 97 0 0 18 [(0, .ref 81), (1, .int y1)] [] M := by
  intro n
  induction n with
  | zero => intro y1 M h; cases h
  | succ n ih =>
    intro y1 M h
    rw [lp_X10_run_18] at h
    refine g_iload_n dX10_run_18 rfl 1 rfl ?_
    refine g_aload_n dX10_run_19 rfl 0 rfl ?_
    refine m_getr (k := 15) okX10 rfl rfl (by decide) w_1284 rfl dX10_run_20 ?_
    refine g_bipush (v := (nI 95)) dX10_run_23 (by decide) ?_
    refine m_ialdL (k := 95) rfl rfl (by decide) dX10_run_25 ?_
    refine g_icmp_ge (tgt := 75) dX10_run_26 (by decide) (fun c7 => ?_) (fun c7 => ?_)
    · replace h := ite_p c7 h
      exact g_vret rfl (pv_of h) dX10_run_75
    · replace h := ite_n c7 h
      refine g_iload_n dX10_run_29 rfl 1 rfl ?_
      refine g_aload_n dX10_run_30 rfl 0 rfl ?_
      refine m_getr (k := 17) okX10 rfl rfl (by decide) w_1286 rfl dX10_run_31 ?_
      refine g_iconst (v := (nI 5)) dX10_run_34 (by decide) ?_
      refine m_ialdL (k := 5) rfl rfl (by decide) dX10_run_35 ?_
      obtain ⟨j2, ej2, h⟩ := jn_e h
      have hj2 : ∀ (M1 : Mm), j2 M1 = some M' → GG l B LY (d + 2) yX10_run cX10_run 2 none 0 0 (PV M') 97 0 0 69 [(0, .ref 81), (1, .int y1)] [] M1 := by
        intro M1 h
        rw [ej2] at h
        refine g_iinc (v := (y1 + (nI 1))) (lv' := [(1, .int (y1 + (nI 1))), (0, .ref 81)]) dX10_run_69 1 rfl rfl (by decide) rfl ?_
        refine g_goto (tgt := 18) dX10_run_72 (by decide) ?_
        refine g_sub [1, 0] (lv' := [(0, .ref 81), (1, .int (y1 + (nI 1)))]) rfl ?_
        exact ih _  _ h
      refine g_icmp_eq (tgt := 69) dX10_run_36 (by decide) (fun c6 => ?_) (fun c6 => ?_)
      · replace h := ite_p c6 h
        refine g_sub [0, 1] (lv' := [(0, .ref 81), (1, .int y1)]) rfl ?_
        exact hj2  _ h
      · replace h := ite_n c6 h
        refine g_aload_n dX10_run_39 rfl 0 rfl ?_
        refine g_iload_n dX10_run_40 rfl 1 rfl ?_
        refine g_aload_n dX10_run_41 rfl 0 rfl ?_
        refine m_getr (k := 17) okX10 rfl rfl (by decide) w_1286 rfl dX10_run_42 ?_
        refine g_bipush (v := (nI 9)) dX10_run_45 (by decide) ?_
        refine g_iload_n dX10_run_47 rfl 1 rfl ?_
        refine g_iadd dX10_run_48 ?_
        obtain ⟨hz, h⟩ := gd_s h
        refine m_iald rfl hz dX10_run_49 ?_
        obtain ⟨v50_4, M50_3, eM50_3, h⟩ := bd_e h
        refine m_callVi (As := [.int y1, .int (M 86 ((nI 9) + y1).toNatClampNeg)]) (st := []) (s_X10_isCaught (d := d + 0) hA  eM50_3) rfl okX10 ck_X10_isCaught w_1536 rfl (Nat.le_of_ble_eq_true rfl) dX10_run_50 ?_
        refine g_if_eq (tgt := 69) dX10_run_53 (by decide) (fun c5 => ?_) (fun c5 => ?_)
        · replace h := ite_p c5 h
          refine g_sub [0, 1] (lv' := [(0, .ref 81), (1, .int y1)]) rfl ?_
          exact hj2  _ h
        · replace h := ite_n c5 h
          refine g_aload_n dX10_run_56 rfl 0 rfl ?_
          refine m_getr (k := 17) okX10 rfl rfl (by decide) w_1286 rfl dX10_run_57 ?_
          refine g_bipush (v := (nI 7)) dX10_run_60 (by decide) ?_
          refine g_dup2 dX10_run_62 rfl rfl ?_
          refine m_ialdL (k := 7) rfl rfl (by decide) dX10_run_63 ?_
          refine g_iconst (v := (nI 1)) dX10_run_64 (by decide) ?_
          refine g_iload_n dX10_run_65 rfl 1 rfl ?_
          refine g_ishl dX10_run_66 ?_
          refine g_ior dX10_run_67 ?_
          refine m_iastL (k := 7) hA rfl rfl (by decide) dX10_run_68 ?_
          refine g_sub [0, 1] (lv' := [(0, .ref 81), (1, .int y1)]) rfl ?_
          exact hj2  _ h
set_option maxHeartbeats 4000000 in
set_option maxRecDepth 100000 in
theorem s_X10_run {l : Launch} {B : BT} (hA : bA B = false) {d : Nat} {M' : Mm}  {M : Mm}  (h : f_X10_run  M = some M') : Con l B LY (d + 2) yX10_run cX10_run 2 none 0 0 [.ref 81] 97 M (PV M') := by
  refine con_of (by decide) (Nat.le_of_ble_eq_true rfl) ?_
  show GG l B LY (d + 2) yX10_run cX10_run 2 none 0 0 (PV M') 97 0 0 0 [(0, .ref 81)] [] M
  rw [f_X10_run] at h
  refine g_aload_n dX10_run_0 rfl 0 rfl ?_
  refine m_getr (k := 17) okX10 rfl rfl (by decide) w_1286 rfl dX10_run_1 ?_
  refine g_bipush (v := (nI 8)) dX10_run_4 (by decide) ?_
  refine g_iconst (v := (nI 1)) dX10_run_6 (by decide) ?_
  refine m_iastL (k := 8) hA rfl rfl (by decide) dX10_run_7 ?_
  refine g_aload_n dX10_run_8 rfl 0 rfl ?_
  refine m_getr (k := 17) okX10 rfl rfl (by decide) w_1286 rfl dX10_run_9 ?_
  refine g_bipush (v := (nI 7)) dX10_run_12 (by decide) ?_
  refine g_iconst (v := (nI 0)) dX10_run_14 (by decide) ?_
  refine m_iastL (k := 7) hA rfl rfl (by decide) dX10_run_15 ?_
  refine g_iconst (v := (nI 0)) dX10_run_16 (by decide) ?_
  refine g_istore_n (lv' := [(1, .int (nI 0)), (0, .ref 81)]) dX10_run_17 rfl (by decide) rfl ?_
  refine g_sub [1, 0] (lv' := [(0, .ref 81), (1, .int (nI 0))]) rfl ?_
  refine sl_X10_run_18 hA   _ _ _ h
theorem ck_X10_run : CKV yX10_run cX10_run 2 none 0 := ⟨⟨by decide, by decide, by decide +kernel⟩, w_1535, w_81, ⟨w_1534, w_35⟩, by decide⟩
theorem dX10_lookMany_0 : decode cX10_lookMany 0 = .ok (.aload_n 0, 1) := by decide +kernel
theorem dX10_lookMany_1 : decode cX10_lookMany 1 = .ok (.getfield 32, 3) := by decide +kernel
theorem dX10_lookMany_4 : decode cX10_lookMany 4 = .ok (.ifCond .lt 10, 3) := by decide +kernel
theorem dX10_lookMany_7 : decode cX10_lookMany 7 = .ok (.aload_n 0, 1) := by decide +kernel
theorem dX10_lookMany_8 : decode cX10_lookMany 8 = .ok (.getfield 32, 3) := by decide +kernel
theorem dX10_lookMany_11 : decode cX10_lookMany 11 = .ok (.goto 16, 3) := by decide +kernel
theorem dX10_lookMany_14 : decode cX10_lookMany 14 = .ok (.aload_n 0, 1) := by decide +kernel
theorem dX10_lookMany_15 : decode cX10_lookMany 15 = .ok (.getfield 20, 3) := by decide +kernel
theorem dX10_lookMany_18 : decode cX10_lookMany 18 = .ok (.iconst 3, 1) := by decide +kernel
theorem dX10_lookMany_19 : decode cX10_lookMany 19 = .ok (.iaload, 1) := by decide +kernel
theorem dX10_lookMany_20 : decode cX10_lookMany 20 = .ok (.aload_n 0, 1) := by decide +kernel
theorem dX10_lookMany_21 : decode cX10_lookMany 21 = .ok (.getfield 20, 3) := by decide +kernel
theorem dX10_lookMany_24 : decode cX10_lookMany 24 = .ok (.iconst 4, 1) := by decide +kernel
theorem dX10_lookMany_25 : decode cX10_lookMany 25 = .ok (.iaload, 1) := by decide +kernel
theorem dX10_lookMany_26 : decode cX10_lookMany 26 = .ok (.idiv, 1) := by decide +kernel
theorem dX10_lookMany_27 : decode cX10_lookMany 27 = .ok (.ireturn, 1) := by decide +kernel
def f_X10_lookMany  (M : Mm) : Option (Int32 × Mm) :=
  if (M 81 20) < 0 then (gd (nzi (M 84 4)) <| some (((M 84 3) / (M 84 4)), M)) else (some ((M 81 20), M))
set_option maxHeartbeats 4000000 in
set_option maxRecDepth 100000 in
theorem s_X10_lookMany {l : Launch} {B : BT} (hA : bA B = false) {d : Nat} {r : Int32} {M' : Mm}  {M : Mm}  (h : f_X10_lookMany  M = some (r, M')) : Con l B LY (d + 0) yX10_lookMany cX10_lookMany 1 (some .int) 0 0 [.ref 81] 97 M (PI r M') := by
  refine con_of (by decide) (Nat.le_of_ble_eq_true rfl) ?_
  show GG l B LY (d + 0) yX10_lookMany cX10_lookMany 1 (some .int) 0 0 (PI r M') 97 0 0 0 [(0, .ref 81)] [] M
  rw [f_X10_lookMany] at h
  refine g_aload_n dX10_lookMany_0 rfl 0 rfl ?_
  refine m_geti (k := 20) okX10 rfl rfl (by decide) w_1289 rfl dX10_lookMany_1 ?_
  refine g_if_lt (tgt := 14) dX10_lookMany_4 (by decide) (fun c1 => ?_) (fun c1 => ?_)
  · replace h := ite_p c1 h
    refine g_aload_n dX10_lookMany_14 rfl 0 rfl ?_
    refine m_getr (k := 15) okX10 rfl rfl (by decide) w_1284 rfl dX10_lookMany_15 ?_
    refine g_iconst (v := (nI 3)) dX10_lookMany_18 (by decide) ?_
    refine m_ialdL (k := 3) rfl rfl (by decide) dX10_lookMany_19 ?_
    refine g_aload_n dX10_lookMany_20 rfl 0 rfl ?_
    refine m_getr (k := 15) okX10 rfl rfl (by decide) w_1284 rfl dX10_lookMany_21 ?_
    refine g_iconst (v := (nI 4)) dX10_lookMany_24 (by decide) ?_
    refine m_ialdL (k := 4) rfl rfl (by decide) dX10_lookMany_25 ?_
    obtain ⟨hz, h⟩ := gd_s h
    refine g_idiv dX10_lookMany_26 (nzi_s hz) ?_
    exact g_zret rfl rfl (pi_of h) dX10_lookMany_27
  · replace h := ite_n c1 h
    refine g_aload_n dX10_lookMany_7 rfl 0 rfl ?_
    refine m_geti (k := 20) okX10 rfl rfl (by decide) w_1289 rfl dX10_lookMany_8 ?_
    refine g_goto (tgt := 27) dX10_lookMany_11 (by decide) ?_
    exact g_zret rfl rfl (pi_of h) dX10_lookMany_27
theorem ck_X10_lookMany : CKV yX10_lookMany cX10_lookMany 1 (some .int) 0 := ⟨⟨by decide, by decide, by decide +kernel⟩, w_1555, w_81, ⟨w_1554, w_39⟩, by decide⟩
theorem dX10_ahead_0 : decode cX10_ahead 0 = .ok (.iconst 0, 1) := by decide +kernel
theorem dX10_ahead_1 : decode cX10_ahead 1 = .ok (.istore_n 2, 1) := by decide +kernel
theorem dX10_ahead_2 : decode cX10_ahead 2 = .ok (.iconst 0, 1) := by decide +kernel
theorem dX10_ahead_3 : decode cX10_ahead 3 = .ok (.istore_n 3, 1) := by decide +kernel
theorem dX10_ahead_4 : decode cX10_ahead 4 = .ok (.iload_n 3, 1) := by decide +kernel
theorem dX10_ahead_5 : decode cX10_ahead 5 = .ok (.aload_n 0, 1) := by decide +kernel
theorem dX10_ahead_6 : decode cX10_ahead 6 = .ok (.getfield 20, 3) := by decide +kernel
theorem dX10_ahead_9 : decode cX10_ahead 9 = .ok (.bipush 95, 2) := by decide +kernel
theorem dX10_ahead_11 : decode cX10_ahead 11 = .ok (.iaload, 1) := by decide +kernel
theorem dX10_ahead_12 : decode cX10_ahead 12 = .ok (.if_icmp .ge 64, 3) := by decide +kernel
theorem dX10_ahead_15 : decode cX10_ahead 15 = .ok (.iload_n 2, 1) := by decide +kernel
theorem dX10_ahead_16 : decode cX10_ahead 16 = .ok (.aload_n 0, 1) := by decide +kernel
theorem dX10_ahead_17 : decode cX10_ahead 17 = .ok (.getfield 26, 3) := by decide +kernel
theorem dX10_ahead_20 : decode cX10_ahead 20 = .ok (.bipush 9, 2) := by decide +kernel
theorem dX10_ahead_22 : decode cX10_ahead 22 = .ok (.iload_n 3, 1) := by decide +kernel
theorem dX10_ahead_23 : decode cX10_ahead 23 = .ok (.iadd, 1) := by decide +kernel
theorem dX10_ahead_24 : decode cX10_ahead 24 = .ok (.iaload, 1) := by decide +kernel
theorem dX10_ahead_25 : decode cX10_ahead 25 = .ok (.aload_n 0, 1) := by decide +kernel
theorem dX10_ahead_26 : decode cX10_ahead 26 = .ok (.getfield 26, 3) := by decide +kernel
theorem dX10_ahead_29 : decode cX10_ahead 29 = .ok (.bipush 9, 2) := by decide +kernel
theorem dX10_ahead_31 : decode cX10_ahead 31 = .ok (.iload_n 1, 1) := by decide +kernel
theorem dX10_ahead_32 : decode cX10_ahead 32 = .ok (.iadd, 1) := by decide +kernel
theorem dX10_ahead_33 : decode cX10_ahead 33 = .ok (.iaload, 1) := by decide +kernel
theorem dX10_ahead_34 : decode cX10_ahead 34 = .ok (.if_icmp .gt 29, 3) := by decide +kernel
theorem dX10_ahead_37 : decode cX10_ahead 37 = .ok (.aload_n 0, 1) := by decide +kernel
theorem dX10_ahead_38 : decode cX10_ahead 38 = .ok (.getfield 26, 3) := by decide +kernel
theorem dX10_ahead_41 : decode cX10_ahead 41 = .ok (.bipush 9, 2) := by decide +kernel
theorem dX10_ahead_43 : decode cX10_ahead 43 = .ok (.iload_n 3, 1) := by decide +kernel
theorem dX10_ahead_44 : decode cX10_ahead 44 = .ok (.iadd, 1) := by decide +kernel
theorem dX10_ahead_45 : decode cX10_ahead 45 = .ok (.iaload, 1) := by decide +kernel
theorem dX10_ahead_46 : decode cX10_ahead 46 = .ok (.aload_n 0, 1) := by decide +kernel
theorem dX10_ahead_47 : decode cX10_ahead 47 = .ok (.getfield 26, 3) := by decide +kernel
theorem dX10_ahead_50 : decode cX10_ahead 50 = .ok (.bipush 9, 2) := by decide +kernel
theorem dX10_ahead_52 : decode cX10_ahead 52 = .ok (.iload_n 1, 1) := by decide +kernel
theorem dX10_ahead_53 : decode cX10_ahead 53 = .ok (.iadd, 1) := by decide +kernel
theorem dX10_ahead_54 : decode cX10_ahead 54 = .ok (.iaload, 1) := by decide +kernel
theorem dX10_ahead_55 : decode cX10_ahead 55 = .ok (.if_icmp .ne 12, 3) := by decide +kernel
theorem dX10_ahead_58 : decode cX10_ahead 58 = .ok (.iload_n 3, 1) := by decide +kernel
theorem dX10_ahead_59 : decode cX10_ahead 59 = .ok (.iload_n 1, 1) := by decide +kernel
theorem dX10_ahead_60 : decode cX10_ahead 60 = .ok (.if_icmp .ge 7, 3) := by decide +kernel
theorem dX10_ahead_63 : decode cX10_ahead 63 = .ok (.iconst 1, 1) := by decide +kernel
theorem dX10_ahead_64 : decode cX10_ahead 64 = .ok (.goto 4, 3) := by decide +kernel
theorem dX10_ahead_67 : decode cX10_ahead 67 = .ok (.iconst 0, 1) := by decide +kernel
theorem dX10_ahead_68 : decode cX10_ahead 68 = .ok (.iadd, 1) := by decide +kernel
theorem dX10_ahead_69 : decode cX10_ahead 69 = .ok (.istore_n 2, 1) := by decide +kernel
theorem dX10_ahead_70 : decode cX10_ahead 70 = .ok (.iinc 3 1, 3) := by decide +kernel
theorem dX10_ahead_73 : decode cX10_ahead 73 = .ok (.goto (-69), 3) := by decide +kernel
theorem dX10_ahead_76 : decode cX10_ahead 76 = .ok (.iload_n 2, 1) := by decide +kernel
theorem dX10_ahead_77 : decode cX10_ahead 77 = .ok (.ireturn, 1) := by decide +kernel
def lp_X10_ahead_4 (y1 : Int32)  : Nat → Int32 → Int32 → Mm → Option (Int32 × Mm)
  | 0, _, _, _ => none
  | n + 1, y2, y3, M =>
    if (M 84 95) ≤ y3 then (some (y2, M)) else (gd (inb ((nI 9) + y3) 44) <| gd (inb ((nI 9) + y1) 44) <| jn (fun (s1 : Int32) (M2 : Mm) => lp_X10_ahead_4 y1 n (y2 + s1) (y3 + (nI 1)) M2) fun j3 => jn (fun (M4 : Mm) => j3 (nI 1) M4) fun j5 => if (M 86 ((nI 9) + y1).toNatClampNeg) < (M 86 ((nI 9) + y3).toNatClampNeg) then (j5  M) else (gd (inb ((nI 9) + y3) 44) <| gd (inb ((nI 9) + y1) 44) <| jn (fun (M6 : Mm) => j3 (nI 0) M6) fun j7 => if (M 86 ((nI 9) + y3).toNatClampNeg) = (M 86 ((nI 9) + y1).toNatClampNeg) then (if y1 ≤ y3 then (j7  M) else (j5  M)) else (j7  M)))
def f_X10_ahead (x1 : Int32) (M : Mm) : Option (Int32 × Mm) :=
  lp_X10_ahead_4 x1  N0 (nI 0) (nI 0) M
set_option maxHeartbeats 4000000 in
set_option maxRecDepth 100000 in
theorem sl_X10_ahead_4 {l : Launch} {B : BT} (hA : bA B = false) {d : Nat} {r : Int32} {M' : Mm} {y1 : Int32}    :
    ∀ (n : Nat) (y2 : Int32) (y3 : Int32) (M : Mm), lp_X10_ahead_4 y1 n y2 y3 M = some (r, M') → GG l B LY (d + 0) yX10_ahead cX10_ahead 4 (some .int) 0 0 (PI r M') 97 0 0 4 [(0, .ref 81), (1, .int y1), (2, .int y2), (3, .int y3)] [] M := by
  intro n
  induction n with
  | zero => intro y2 y3 M h; cases h
  | succ n ih =>
    intro y2 y3 M h
    rw [lp_X10_ahead_4] at h
    refine g_iload_n dX10_ahead_4 rfl 3 rfl ?_
    refine g_aload_n dX10_ahead_5 rfl 0 rfl ?_
    refine m_getr (k := 15) okX10 rfl rfl (by decide) w_1284 rfl dX10_ahead_6 ?_
    refine g_bipush (v := (nI 95)) dX10_ahead_9 (by decide) ?_
    refine m_ialdL (k := 95) rfl rfl (by decide) dX10_ahead_11 ?_
    refine g_icmp_ge (tgt := 76) dX10_ahead_12 (by decide) (fun c11 => ?_) (fun c11 => ?_)
    · replace h := ite_p c11 h
      refine g_iload_n dX10_ahead_76 rfl 2 rfl ?_
      exact g_zret rfl rfl (pi_of h) dX10_ahead_77
    · replace h := ite_n c11 h
      refine g_iload_n dX10_ahead_15 rfl 2 rfl ?_
      refine g_aload_n dX10_ahead_16 rfl 0 rfl ?_
      refine m_getr (k := 17) okX10 rfl rfl (by decide) w_1286 rfl dX10_ahead_17 ?_
      refine g_bipush (v := (nI 9)) dX10_ahead_20 (by decide) ?_
      refine g_iload_n dX10_ahead_22 rfl 3 rfl ?_
      refine g_iadd dX10_ahead_23 ?_
      obtain ⟨hz, h⟩ := gd_s h
      refine m_iald rfl hz dX10_ahead_24 ?_
      refine g_aload_n dX10_ahead_25 rfl 0 rfl ?_
      refine m_getr (k := 17) okX10 rfl rfl (by decide) w_1286 rfl dX10_ahead_26 ?_
      refine g_bipush (v := (nI 9)) dX10_ahead_29 (by decide) ?_
      refine g_iload_n dX10_ahead_31 rfl 1 rfl ?_
      refine g_iadd dX10_ahead_32 ?_
      obtain ⟨hz, h⟩ := gd_s h
      refine m_iald rfl hz dX10_ahead_33 ?_
      obtain ⟨j3, ej3, h⟩ := jn_e h
      have hj3 : ∀ (s1 : Int32) (M2 : Mm), j3 s1 M2 = some (r, M') → GG l B LY (d + 0) yX10_ahead cX10_ahead 4 (some .int) 0 0 (PI r M') 97 0 0 68 [(0, .ref 81), (1, .int y1), (3, .int y3)] [.int s1, .int y2] M2 := by
        intro s1 M2 h
        rw [ej3] at h
        refine g_iadd dX10_ahead_68 ?_
        refine g_istore_n (lv' := [(2, .int (y2 + s1)), (0, .ref 81), (1, .int y1), (3, .int y3)]) dX10_ahead_69 rfl (by decide) rfl ?_
        refine g_iinc (v := (y3 + (nI 1))) (lv' := [(3, .int (y3 + (nI 1))), (2, .int (y2 + s1)), (0, .ref 81), (1, .int y1)]) dX10_ahead_70 3 rfl rfl (by decide) rfl ?_
        refine g_goto (tgt := 4) dX10_ahead_73 (by decide) ?_
        refine g_sub [2, 3, 1, 0] (lv' := [(0, .ref 81), (1, .int y1), (2, .int (y2 + s1)), (3, .int (y3 + (nI 1)))]) rfl ?_
        exact ih _ _  _ h
      obtain ⟨j5, ej5, h⟩ := jn_e h
      have hj5 : ∀ (M4 : Mm), j5 M4 = some (r, M') → GG l B LY (d + 0) yX10_ahead cX10_ahead 4 (some .int) 0 0 (PI r M') 97 0 0 63 [(0, .ref 81), (1, .int y1), (3, .int y3)] [.int y2] M4 := by
        intro M4 h
        rw [ej5] at h
        refine g_iconst (v := (nI 1)) dX10_ahead_63 (by decide) ?_
        refine g_goto (tgt := 68) dX10_ahead_64 (by decide) ?_
        refine g_sub [0, 1, 2] (lv' := [(0, .ref 81), (1, .int y1), (3, .int y3)]) rfl ?_
        exact hj3 _ _ h
      refine g_icmp_gt (tgt := 63) dX10_ahead_34 (by decide) (fun c10 => ?_) (fun c10 => ?_)
      · replace h := ite_p c10 h
        refine g_sub [0, 1, 3] (lv' := [(0, .ref 81), (1, .int y1), (3, .int y3)]) rfl ?_
        exact hj5  _ h
      · replace h := ite_n c10 h
        refine g_aload_n dX10_ahead_37 rfl 0 rfl ?_
        refine m_getr (k := 17) okX10 rfl rfl (by decide) w_1286 rfl dX10_ahead_38 ?_
        refine g_bipush (v := (nI 9)) dX10_ahead_41 (by decide) ?_
        refine g_iload_n dX10_ahead_43 rfl 3 rfl ?_
        refine g_iadd dX10_ahead_44 ?_
        obtain ⟨hz, h⟩ := gd_s h
        refine m_iald rfl hz dX10_ahead_45 ?_
        refine g_aload_n dX10_ahead_46 rfl 0 rfl ?_
        refine m_getr (k := 17) okX10 rfl rfl (by decide) w_1286 rfl dX10_ahead_47 ?_
        refine g_bipush (v := (nI 9)) dX10_ahead_50 (by decide) ?_
        refine g_iload_n dX10_ahead_52 rfl 1 rfl ?_
        refine g_iadd dX10_ahead_53 ?_
        obtain ⟨hz, h⟩ := gd_s h
        refine m_iald rfl hz dX10_ahead_54 ?_
        obtain ⟨j7, ej7, h⟩ := jn_e h
        have hj7 : ∀ (M6 : Mm), j7 M6 = some (r, M') → GG l B LY (d + 0) yX10_ahead cX10_ahead 4 (some .int) 0 0 (PI r M') 97 0 0 67 [(0, .ref 81), (1, .int y1), (3, .int y3)] [.int y2] M6 := by
          intro M6 h
          rw [ej7] at h
          refine g_iconst (v := (nI 0)) dX10_ahead_67 (by decide) ?_
          refine g_sub [0, 1, 2] (lv' := [(0, .ref 81), (1, .int y1), (3, .int y3)]) rfl ?_
          exact hj3 _ _ h
        refine g_icmp_ne (tgt := 67) dX10_ahead_55 (by decide) (fun c9 => ?_) (fun c9 => ?_)
        · replace h := ite_n c9 h
          refine g_sub [0, 1, 3] (lv' := [(0, .ref 81), (1, .int y1), (3, .int y3)]) rfl ?_
          exact hj7  _ h
        · replace h := ite_p c9 h
          refine g_iload_n dX10_ahead_58 rfl 3 rfl ?_
          refine g_iload_n dX10_ahead_59 rfl 1 rfl ?_
          refine g_icmp_ge (tgt := 67) dX10_ahead_60 (by decide) (fun c8 => ?_) (fun c8 => ?_)
          · replace h := ite_p c8 h
            refine g_sub [0, 1, 3] (lv' := [(0, .ref 81), (1, .int y1), (3, .int y3)]) rfl ?_
            exact hj7  _ h
          · replace h := ite_n c8 h
            refine g_sub [0, 1, 3] (lv' := [(0, .ref 81), (1, .int y1), (3, .int y3)]) rfl ?_
            exact hj5  _ h
set_option maxHeartbeats 4000000 in
set_option maxRecDepth 100000 in
theorem s_X10_ahead {l : Launch} {B : BT} (hA : bA B = false) {d : Nat} {r : Int32} {M' : Mm} {x1 : Int32} {M : Mm}  (h : f_X10_ahead x1 M = some (r, M')) : Con l B LY (d + 0) yX10_ahead cX10_ahead 4 (some .int) 0 0 [.ref 81, .int x1] 97 M (PI r M') := by
  refine con_of (by decide) (Nat.le_of_ble_eq_true rfl) ?_
  show GG l B LY (d + 0) yX10_ahead cX10_ahead 4 (some .int) 0 0 (PI r M') 97 0 0 0 [(0, .ref 81), (1, .int x1)] [] M
  rw [f_X10_ahead] at h
  refine g_iconst (v := (nI 0)) dX10_ahead_0 (by decide) ?_
  refine g_istore_n (lv' := [(2, .int (nI 0)), (0, .ref 81), (1, .int x1)]) dX10_ahead_1 rfl (by decide) rfl ?_
  refine g_iconst (v := (nI 0)) dX10_ahead_2 (by decide) ?_
  refine g_istore_n (lv' := [(3, .int (nI 0)), (2, .int (nI 0)), (0, .ref 81), (1, .int x1)]) dX10_ahead_3 rfl (by decide) rfl ?_
  refine g_sub [2, 3, 1, 0] (lv' := [(0, .ref 81), (1, .int x1), (2, .int (nI 0)), (3, .int (nI 0))]) rfl ?_
  refine sl_X10_ahead_4 hA   _ _ _ _ h
theorem ck_X10_ahead : CKV yX10_ahead cX10_ahead 4 (some .int) 1 := ⟨⟨by decide, by decide, by decide +kernel⟩, w_1559, w_81, ⟨w_1558, w_40⟩, by decide⟩
theorem dX10_isHidden_0 : decode cX10_isHidden 0 = .ok (.iconst 0, 1) := by decide +kernel
theorem dX10_isHidden_1 : decode cX10_isHidden 1 = .ok (.istore_n 2, 1) := by decide +kernel
theorem dX10_isHidden_2 : decode cX10_isHidden 2 = .ok (.iconst 0, 1) := by decide +kernel
theorem dX10_isHidden_3 : decode cX10_isHidden 3 = .ok (.istore_n 3, 1) := by decide +kernel
theorem dX10_isHidden_4 : decode cX10_isHidden 4 = .ok (.iload_n 3, 1) := by decide +kernel
theorem dX10_isHidden_5 : decode cX10_isHidden 5 = .ok (.aload_n 0, 1) := by decide +kernel
theorem dX10_isHidden_6 : decode cX10_isHidden 6 = .ok (.getfield 20, 3) := by decide +kernel
theorem dX10_isHidden_9 : decode cX10_isHidden 9 = .ok (.bipush 95, 2) := by decide +kernel
theorem dX10_isHidden_11 : decode cX10_isHidden 11 = .ok (.iaload, 1) := by decide +kernel
theorem dX10_isHidden_12 : decode cX10_isHidden 12 = .ok (.if_icmp .ge 82, 3) := by decide +kernel
theorem dX10_isHidden_15 : decode cX10_isHidden 15 = .ok (.iload_n 2, 1) := by decide +kernel
theorem dX10_isHidden_16 : decode cX10_isHidden 16 = .ok (.ifCond .ne 66, 3) := by decide +kernel
theorem dX10_isHidden_19 : decode cX10_isHidden 19 = .ok (.aload_n 0, 1) := by decide +kernel
theorem dX10_isHidden_20 : decode cX10_isHidden 20 = .ok (.getfield 20, 3) := by decide +kernel
theorem dX10_isHidden_23 : decode cX10_isHidden 23 = .ok (.bipush 56, 2) := by decide +kernel
theorem dX10_isHidden_25 : decode cX10_isHidden 25 = .ok (.iload_n 3, 1) := by decide +kernel
theorem dX10_isHidden_26 : decode cX10_isHidden 26 = .ok (.iadd, 1) := by decide +kernel
theorem dX10_isHidden_27 : decode cX10_isHidden 27 = .ok (.iaload, 1) := by decide +kernel
theorem dX10_isHidden_28 : decode cX10_isHidden 28 = .ok (.aload_n 0, 1) := by decide +kernel
theorem dX10_isHidden_29 : decode cX10_isHidden 29 = .ok (.getfield 20, 3) := by decide +kernel
theorem dX10_isHidden_32 : decode cX10_isHidden 32 = .ok (.bipush 56, 2) := by decide +kernel
theorem dX10_isHidden_34 : decode cX10_isHidden 34 = .ok (.iload_n 1, 1) := by decide +kernel
theorem dX10_isHidden_35 : decode cX10_isHidden 35 = .ok (.iadd, 1) := by decide +kernel
theorem dX10_isHidden_36 : decode cX10_isHidden 36 = .ok (.iaload, 1) := by decide +kernel
theorem dX10_isHidden_37 : decode cX10_isHidden 37 = .ok (.if_icmp .ne 49, 3) := by decide +kernel
theorem dX10_isHidden_40 : decode cX10_isHidden 40 = .ok (.aload_n 0, 1) := by decide +kernel
theorem dX10_isHidden_41 : decode cX10_isHidden 41 = .ok (.getfield 26, 3) := by decide +kernel
theorem dX10_isHidden_44 : decode cX10_isHidden 44 = .ok (.bipush 9, 2) := by decide +kernel
theorem dX10_isHidden_46 : decode cX10_isHidden 46 = .ok (.iload_n 3, 1) := by decide +kernel
theorem dX10_isHidden_47 : decode cX10_isHidden 47 = .ok (.iadd, 1) := by decide +kernel
theorem dX10_isHidden_48 : decode cX10_isHidden 48 = .ok (.iaload, 1) := by decide +kernel
theorem dX10_isHidden_49 : decode cX10_isHidden 49 = .ok (.aload_n 0, 1) := by decide +kernel
theorem dX10_isHidden_50 : decode cX10_isHidden 50 = .ok (.getfield 26, 3) := by decide +kernel
theorem dX10_isHidden_53 : decode cX10_isHidden 53 = .ok (.bipush 9, 2) := by decide +kernel
theorem dX10_isHidden_55 : decode cX10_isHidden 55 = .ok (.iload_n 1, 1) := by decide +kernel
theorem dX10_isHidden_56 : decode cX10_isHidden 56 = .ok (.iadd, 1) := by decide +kernel
theorem dX10_isHidden_57 : decode cX10_isHidden 57 = .ok (.iaload, 1) := by decide +kernel
theorem dX10_isHidden_58 : decode cX10_isHidden 58 = .ok (.if_icmp .le 28, 3) := by decide +kernel
theorem dX10_isHidden_61 : decode cX10_isHidden 61 = .ok (.aload_n 0, 1) := by decide +kernel
theorem dX10_isHidden_62 : decode cX10_isHidden 62 = .ok (.getfield 20, 3) := by decide +kernel
theorem dX10_isHidden_65 : decode cX10_isHidden 65 = .ok (.bipush 71, 2) := by decide +kernel
theorem dX10_isHidden_67 : decode cX10_isHidden 67 = .ok (.iload_n 3, 1) := by decide +kernel
theorem dX10_isHidden_68 : decode cX10_isHidden 68 = .ok (.iadd, 1) := by decide +kernel
theorem dX10_isHidden_69 : decode cX10_isHidden 69 = .ok (.iaload, 1) := by decide +kernel
theorem dX10_isHidden_70 : decode cX10_isHidden 70 = .ok (.aload_n 0, 1) := by decide +kernel
theorem dX10_isHidden_71 : decode cX10_isHidden 71 = .ok (.getfield 20, 3) := by decide +kernel
theorem dX10_isHidden_74 : decode cX10_isHidden 74 = .ok (.bipush 71, 2) := by decide +kernel
theorem dX10_isHidden_76 : decode cX10_isHidden 76 = .ok (.iload_n 1, 1) := by decide +kernel
theorem dX10_isHidden_77 : decode cX10_isHidden 77 = .ok (.iadd, 1) := by decide +kernel
theorem dX10_isHidden_78 : decode cX10_isHidden 78 = .ok (.iaload, 1) := by decide +kernel
theorem dX10_isHidden_79 : decode cX10_isHidden 79 = .ok (.if_icmp .le 7, 3) := by decide +kernel
theorem dX10_isHidden_82 : decode cX10_isHidden 82 = .ok (.iconst 1, 1) := by decide +kernel
theorem dX10_isHidden_83 : decode cX10_isHidden 83 = .ok (.goto 4, 3) := by decide +kernel
theorem dX10_isHidden_86 : decode cX10_isHidden 86 = .ok (.iconst 0, 1) := by decide +kernel
theorem dX10_isHidden_87 : decode cX10_isHidden 87 = .ok (.istore_n 2, 1) := by decide +kernel
theorem dX10_isHidden_88 : decode cX10_isHidden 88 = .ok (.iinc 3 1, 3) := by decide +kernel
theorem dX10_isHidden_91 : decode cX10_isHidden 91 = .ok (.goto (-87), 3) := by decide +kernel
theorem dX10_isHidden_94 : decode cX10_isHidden 94 = .ok (.iload_n 2, 1) := by decide +kernel
theorem dX10_isHidden_95 : decode cX10_isHidden 95 = .ok (.ireturn, 1) := by decide +kernel
def lp_X10_isHidden_4 (y1 : Int32)  : Nat → Int32 → Int32 → Mm → Option (Int32 × Mm)
  | 0, _, _, _ => none
  | n + 1, y2, y3, M =>
    if (M 84 95) ≤ y3 then (gd (zo y2) <| some (y2, M)) else (jn (fun (s1 : Int32) (M2 : Mm) => lp_X10_isHidden_4 y1 n s1 (y3 + (nI 1)) M2) fun j3 => jn (fun (M4 : Mm) => j3 (nI 1) M4) fun j5 => if y2 = 0 then (gd (inb ((nI 56) + y3) 141) <| gd (inb ((nI 56) + y1) 141) <| jn (fun (M6 : Mm) => j3 (nI 0) M6) fun j7 => if (M 84 ((nI 56) + y3).toNatClampNeg) = (M 84 ((nI 56) + y1).toNatClampNeg) then (gd (inb ((nI 9) + y3) 44) <| gd (inb ((nI 9) + y1) 44) <| if (M 86 ((nI 9) + y3).toNatClampNeg) ≤ (M 86 ((nI 9) + y1).toNatClampNeg) then (j7  M) else (gd (inb ((nI 71) + y3) 141) <| gd (inb ((nI 71) + y1) 141) <| if (M 84 ((nI 71) + y3).toNatClampNeg) ≤ (M 84 ((nI 71) + y1).toNatClampNeg) then (j7  M) else (j5  M))) else (j7  M)) else (j5  M))
def f_X10_isHidden (x1 : Int32) (M : Mm) : Option (Int32 × Mm) :=
  lp_X10_isHidden_4 x1  N0 (nI 0) (nI 0) M
set_option maxHeartbeats 4000000 in
set_option maxRecDepth 100000 in
theorem sl_X10_isHidden_4 {l : Launch} {B : BT} (hA : bA B = false) {d : Nat} {r : Int32} {M' : Mm} {y1 : Int32}    :
    ∀ (n : Nat) (y2 : Int32) (y3 : Int32) (M : Mm), lp_X10_isHidden_4 y1 n y2 y3 M = some (r, M') → GG l B LY (d + 0) yX10_isHidden cX10_isHidden 4 (some .boolean) 0 0 (PI r M') 97 0 0 4 [(0, .ref 81), (1, .int y1), (2, .int y2), (3, .int y3)] [] M := by
  intro n
  induction n with
  | zero => intro y2 y3 M h; cases h
  | succ n ih =>
    intro y2 y3 M h
    rw [lp_X10_isHidden_4] at h
    refine g_iload_n dX10_isHidden_4 rfl 3 rfl ?_
    refine g_aload_n dX10_isHidden_5 rfl 0 rfl ?_
    refine m_getr (k := 15) okX10 rfl rfl (by decide) w_1284 rfl dX10_isHidden_6 ?_
    refine g_bipush (v := (nI 95)) dX10_isHidden_9 (by decide) ?_
    refine m_ialdL (k := 95) rfl rfl (by decide) dX10_isHidden_11 ?_
    refine g_icmp_ge (tgt := 94) dX10_isHidden_12 (by decide) (fun c12 => ?_) (fun c12 => ?_)
    · replace h := ite_p c12 h
      refine g_iload_n dX10_isHidden_94 rfl 2 rfl ?_
      obtain ⟨hz, h⟩ := gd_s h
      exact g_zret rfl (nar_zo hz) (pi_of h) dX10_isHidden_95
    · replace h := ite_n c12 h
      refine g_iload_n dX10_isHidden_15 rfl 2 rfl ?_
      obtain ⟨j3, ej3, h⟩ := jn_e h
      have hj3 : ∀ (s1 : Int32) (M2 : Mm), j3 s1 M2 = some (r, M') → GG l B LY (d + 0) yX10_isHidden cX10_isHidden 4 (some .boolean) 0 0 (PI r M') 97 0 0 87 [(0, .ref 81), (1, .int y1), (3, .int y3)] [.int s1] M2 := by
        intro s1 M2 h
        rw [ej3] at h
        refine g_istore_n (lv' := [(2, .int s1), (0, .ref 81), (1, .int y1), (3, .int y3)]) dX10_isHidden_87 rfl (by decide) rfl ?_
        refine g_iinc (v := (y3 + (nI 1))) (lv' := [(3, .int (y3 + (nI 1))), (2, .int s1), (0, .ref 81), (1, .int y1)]) dX10_isHidden_88 3 rfl rfl (by decide) rfl ?_
        refine g_goto (tgt := 4) dX10_isHidden_91 (by decide) ?_
        refine g_sub [2, 3, 1, 0] (lv' := [(0, .ref 81), (1, .int y1), (2, .int s1), (3, .int (y3 + (nI 1)))]) rfl ?_
        exact ih _ _  _ h
      obtain ⟨j5, ej5, h⟩ := jn_e h
      have hj5 : ∀ (M4 : Mm), j5 M4 = some (r, M') → GG l B LY (d + 0) yX10_isHidden cX10_isHidden 4 (some .boolean) 0 0 (PI r M') 97 0 0 82 [(0, .ref 81), (1, .int y1), (3, .int y3)] [] M4 := by
        intro M4 h
        rw [ej5] at h
        refine g_iconst (v := (nI 1)) dX10_isHidden_82 (by decide) ?_
        refine g_goto (tgt := 87) dX10_isHidden_83 (by decide) ?_
        refine g_sub [0, 1, 2] (lv' := [(0, .ref 81), (1, .int y1), (3, .int y3)]) rfl ?_
        exact hj3 _ _ h
      refine g_if_ne (tgt := 82) dX10_isHidden_16 (by decide) (fun c11 => ?_) (fun c11 => ?_)
      · replace h := ite_n c11 h
        refine g_sub [0, 1, 3] (lv' := [(0, .ref 81), (1, .int y1), (3, .int y3)]) rfl ?_
        exact hj5  _ h
      · replace h := ite_p c11 h
        refine g_aload_n dX10_isHidden_19 rfl 0 rfl ?_
        refine m_getr (k := 15) okX10 rfl rfl (by decide) w_1284 rfl dX10_isHidden_20 ?_
        refine g_bipush (v := (nI 56)) dX10_isHidden_23 (by decide) ?_
        refine g_iload_n dX10_isHidden_25 rfl 3 rfl ?_
        refine g_iadd dX10_isHidden_26 ?_
        obtain ⟨hz, h⟩ := gd_s h
        refine m_iald rfl hz dX10_isHidden_27 ?_
        refine g_aload_n dX10_isHidden_28 rfl 0 rfl ?_
        refine m_getr (k := 15) okX10 rfl rfl (by decide) w_1284 rfl dX10_isHidden_29 ?_
        refine g_bipush (v := (nI 56)) dX10_isHidden_32 (by decide) ?_
        refine g_iload_n dX10_isHidden_34 rfl 1 rfl ?_
        refine g_iadd dX10_isHidden_35 ?_
        obtain ⟨hz, h⟩ := gd_s h
        refine m_iald rfl hz dX10_isHidden_36 ?_
        obtain ⟨j7, ej7, h⟩ := jn_e h
        have hj7 : ∀ (M6 : Mm), j7 M6 = some (r, M') → GG l B LY (d + 0) yX10_isHidden cX10_isHidden 4 (some .boolean) 0 0 (PI r M') 97 0 0 86 [(0, .ref 81), (1, .int y1), (3, .int y3)] [] M6 := by
          intro M6 h
          rw [ej7] at h
          refine g_iconst (v := (nI 0)) dX10_isHidden_86 (by decide) ?_
          refine g_sub [0, 1, 2] (lv' := [(0, .ref 81), (1, .int y1), (3, .int y3)]) rfl ?_
          exact hj3 _ _ h
        refine g_icmp_ne (tgt := 86) dX10_isHidden_37 (by decide) (fun c10 => ?_) (fun c10 => ?_)
        · replace h := ite_n c10 h
          refine g_sub [0, 1, 3] (lv' := [(0, .ref 81), (1, .int y1), (3, .int y3)]) rfl ?_
          exact hj7  _ h
        · replace h := ite_p c10 h
          refine g_aload_n dX10_isHidden_40 rfl 0 rfl ?_
          refine m_getr (k := 17) okX10 rfl rfl (by decide) w_1286 rfl dX10_isHidden_41 ?_
          refine g_bipush (v := (nI 9)) dX10_isHidden_44 (by decide) ?_
          refine g_iload_n dX10_isHidden_46 rfl 3 rfl ?_
          refine g_iadd dX10_isHidden_47 ?_
          obtain ⟨hz, h⟩ := gd_s h
          refine m_iald rfl hz dX10_isHidden_48 ?_
          refine g_aload_n dX10_isHidden_49 rfl 0 rfl ?_
          refine m_getr (k := 17) okX10 rfl rfl (by decide) w_1286 rfl dX10_isHidden_50 ?_
          refine g_bipush (v := (nI 9)) dX10_isHidden_53 (by decide) ?_
          refine g_iload_n dX10_isHidden_55 rfl 1 rfl ?_
          refine g_iadd dX10_isHidden_56 ?_
          obtain ⟨hz, h⟩ := gd_s h
          refine m_iald rfl hz dX10_isHidden_57 ?_
          refine g_icmp_le (tgt := 86) dX10_isHidden_58 (by decide) (fun c9 => ?_) (fun c9 => ?_)
          · replace h := ite_p c9 h
            refine g_sub [0, 1, 3] (lv' := [(0, .ref 81), (1, .int y1), (3, .int y3)]) rfl ?_
            exact hj7  _ h
          · replace h := ite_n c9 h
            refine g_aload_n dX10_isHidden_61 rfl 0 rfl ?_
            refine m_getr (k := 15) okX10 rfl rfl (by decide) w_1284 rfl dX10_isHidden_62 ?_
            refine g_bipush (v := (nI 71)) dX10_isHidden_65 (by decide) ?_
            refine g_iload_n dX10_isHidden_67 rfl 3 rfl ?_
            refine g_iadd dX10_isHidden_68 ?_
            obtain ⟨hz, h⟩ := gd_s h
            refine m_iald rfl hz dX10_isHidden_69 ?_
            refine g_aload_n dX10_isHidden_70 rfl 0 rfl ?_
            refine m_getr (k := 15) okX10 rfl rfl (by decide) w_1284 rfl dX10_isHidden_71 ?_
            refine g_bipush (v := (nI 71)) dX10_isHidden_74 (by decide) ?_
            refine g_iload_n dX10_isHidden_76 rfl 1 rfl ?_
            refine g_iadd dX10_isHidden_77 ?_
            obtain ⟨hz, h⟩ := gd_s h
            refine m_iald rfl hz dX10_isHidden_78 ?_
            refine g_icmp_le (tgt := 86) dX10_isHidden_79 (by decide) (fun c8 => ?_) (fun c8 => ?_)
            · replace h := ite_p c8 h
              refine g_sub [0, 1, 3] (lv' := [(0, .ref 81), (1, .int y1), (3, .int y3)]) rfl ?_
              exact hj7  _ h
            · replace h := ite_n c8 h
              refine g_sub [0, 1, 3] (lv' := [(0, .ref 81), (1, .int y1), (3, .int y3)]) rfl ?_
              exact hj5  _ h
set_option maxHeartbeats 4000000 in
set_option maxRecDepth 100000 in
theorem s_X10_isHidden {l : Launch} {B : BT} (hA : bA B = false) {d : Nat} {r : Int32} {M' : Mm} {x1 : Int32} {M : Mm}  (h : f_X10_isHidden x1 M = some (r, M')) : Con l B LY (d + 0) yX10_isHidden cX10_isHidden 4 (some .boolean) 0 0 [.ref 81, .int x1] 97 M (PI r M') := by
  refine con_of (by decide) (Nat.le_of_ble_eq_true rfl) ?_
  show GG l B LY (d + 0) yX10_isHidden cX10_isHidden 4 (some .boolean) 0 0 (PI r M') 97 0 0 0 [(0, .ref 81), (1, .int x1)] [] M
  rw [f_X10_isHidden] at h
  refine g_iconst (v := (nI 0)) dX10_isHidden_0 (by decide) ?_
  refine g_istore_n (lv' := [(2, .int (nI 0)), (0, .ref 81), (1, .int x1)]) dX10_isHidden_1 rfl (by decide) rfl ?_
  refine g_iconst (v := (nI 0)) dX10_isHidden_2 (by decide) ?_
  refine g_istore_n (lv' := [(3, .int (nI 0)), (2, .int (nI 0)), (0, .ref 81), (1, .int x1)]) dX10_isHidden_3 rfl (by decide) rfl ?_
  refine g_sub [2, 3, 1, 0] (lv' := [(0, .ref 81), (1, .int x1), (2, .int (nI 0)), (3, .int (nI 0))]) rfl ?_
  refine sl_X10_isHidden_4 hA   _ _ _ _ h
theorem ck_X10_isHidden : CKV yX10_isHidden cX10_isHidden 4 (some .boolean) 1 := ⟨⟨by decide, by decide, by decide +kernel⟩, w_1563, w_81, ⟨w_1562, w_41⟩, by decide⟩
theorem dX10_look_0 : decode cX10_look 0 = .ok (.iconst 0, 1) := by decide +kernel
theorem dX10_look_1 : decode cX10_look 1 = .ok (.istore_n 1, 1) := by decide +kernel
theorem dX10_look_2 : decode cX10_look 2 = .ok (.iload_n 1, 1) := by decide +kernel
theorem dX10_look_3 : decode cX10_look 3 = .ok (.aload_n 0, 1) := by decide +kernel
theorem dX10_look_4 : decode cX10_look 4 = .ok (.getfield 20, 3) := by decide +kernel
theorem dX10_look_7 : decode cX10_look 7 = .ok (.bipush 95, 2) := by decide +kernel
theorem dX10_look_9 : decode cX10_look 9 = .ok (.iaload, 1) := by decide +kernel
theorem dX10_look_10 : decode cX10_look 10 = .ok (.if_icmp .ge 125, 3) := by decide +kernel
theorem dX10_look_13 : decode cX10_look 13 = .ok (.aload_n 0, 1) := by decide +kernel
theorem dX10_look_14 : decode cX10_look 14 = .ok (.getfield 50, 3) := by decide +kernel
theorem dX10_look_17 : decode cX10_look 17 = .ok (.iload_n 1, 1) := by decide +kernel
theorem dX10_look_18 : decode cX10_look 18 = .ok (.iconst (-1), 1) := by decide +kernel
theorem dX10_look_19 : decode cX10_look 19 = .ok (.iastore, 1) := by decide +kernel
theorem dX10_look_20 : decode cX10_look 20 = .ok (.aload_n 0, 1) := by decide +kernel
theorem dX10_look_21 : decode cX10_look 21 = .ok (.getfield 26, 3) := by decide +kernel
theorem dX10_look_24 : decode cX10_look 24 = .ok (.bipush 34, 2) := by decide +kernel
theorem dX10_look_26 : decode cX10_look 26 = .ok (.iload_n 1, 1) := by decide +kernel
theorem dX10_look_27 : decode cX10_look 27 = .ok (.iadd, 1) := by decide +kernel
theorem dX10_look_28 : decode cX10_look 28 = .ok (.aload_n 0, 1) := by decide +kernel
theorem dX10_look_29 : decode cX10_look 29 = .ok (.getfield 26, 3) := by decide +kernel
theorem dX10_look_32 : decode cX10_look 32 = .ok (.bipush 9, 2) := by decide +kernel
theorem dX10_look_34 : decode cX10_look 34 = .ok (.iload_n 1, 1) := by decide +kernel
theorem dX10_look_35 : decode cX10_look 35 = .ok (.iadd, 1) := by decide +kernel
theorem dX10_look_36 : decode cX10_look 36 = .ok (.iaload, 1) := by decide +kernel
theorem dX10_look_37 : decode cX10_look 37 = .ok (.iastore, 1) := by decide +kernel
theorem dX10_look_38 : decode cX10_look 38 = .ok (.aload_n 0, 1) := by decide +kernel
theorem dX10_look_39 : decode cX10_look 39 = .ok (.getfield 26, 3) := by decide +kernel
theorem dX10_look_42 : decode cX10_look 42 = .ok (.bipush 19, 2) := by decide +kernel
theorem dX10_look_44 : decode cX10_look 44 = .ok (.iload_n 1, 1) := by decide +kernel
theorem dX10_look_45 : decode cX10_look 45 = .ok (.iadd, 1) := by decide +kernel
theorem dX10_look_46 : decode cX10_look 46 = .ok (.iconst 3, 1) := by decide +kernel
theorem dX10_look_47 : decode cX10_look 47 = .ok (.iastore, 1) := by decide +kernel
theorem dX10_look_48 : decode cX10_look 48 = .ok (.aload_n 0, 1) := by decide +kernel
theorem dX10_look_49 : decode cX10_look 49 = .ok (.getfield 26, 3) := by decide +kernel
theorem dX10_look_52 : decode cX10_look 52 = .ok (.bipush 39, 2) := by decide +kernel
theorem dX10_look_54 : decode cX10_look 54 = .ok (.iload_n 1, 1) := by decide +kernel
theorem dX10_look_55 : decode cX10_look 55 = .ok (.iadd, 1) := by decide +kernel
theorem dX10_look_56 : decode cX10_look 56 = .ok (.iaload, 1) := by decide +kernel
theorem dX10_look_57 : decode cX10_look 57 = .ok (.ifCond .eq 72, 3) := by decide +kernel
theorem dX10_look_60 : decode cX10_look 60 = .ok (.aload_n 0, 1) := by decide +kernel
theorem dX10_look_61 : decode cX10_look 61 = .ok (.getfield 26, 3) := by decide +kernel
theorem dX10_look_64 : decode cX10_look 64 = .ok (.bipush 14, 2) := by decide +kernel
theorem dX10_look_66 : decode cX10_look 66 = .ok (.iload_n 1, 1) := by decide +kernel
theorem dX10_look_67 : decode cX10_look 67 = .ok (.iadd, 1) := by decide +kernel
theorem dX10_look_68 : decode cX10_look 68 = .ok (.iaload, 1) := by decide +kernel
theorem dX10_look_69 : decode cX10_look 69 = .ok (.ifCond .ne 6, 3) := by decide +kernel
theorem dX10_look_72 : decode cX10_look 72 = .ok (.goto 57, 3) := by decide +kernel
theorem dX10_look_75 : decode cX10_look 75 = .ok (.aload_n 0, 1) := by decide +kernel
theorem dX10_look_76 : decode cX10_look 76 = .ok (.invokevirtual 249, 3) := by decide +kernel
theorem dX10_look_79 : decode cX10_look 79 = .ok (.aload_n 0, 1) := by decide +kernel
theorem dX10_look_80 : decode cX10_look 80 = .ok (.getfield 20, 3) := by decide +kernel
theorem dX10_look_83 : decode cX10_look 83 = .ok (.bipush 66, 2) := by decide +kernel
theorem dX10_look_85 : decode cX10_look 85 = .ok (.iload_n 1, 1) := by decide +kernel
theorem dX10_look_86 : decode cX10_look 86 = .ok (.iadd, 1) := by decide +kernel
theorem dX10_look_87 : decode cX10_look 87 = .ok (.iaload, 1) := by decide +kernel
theorem dX10_look_88 : decode cX10_look 88 = .ok (.if_icmp .ge 31, 3) := by decide +kernel
theorem dX10_look_91 : decode cX10_look 91 = .ok (.aload_n 0, 1) := by decide +kernel
theorem dX10_look_92 : decode cX10_look 92 = .ok (.getfield 50, 3) := by decide +kernel
theorem dX10_look_95 : decode cX10_look 95 = .ok (.iload_n 1, 1) := by decide +kernel
theorem dX10_look_96 : decode cX10_look 96 = .ok (.aload_n 0, 1) := by decide +kernel
theorem dX10_look_97 : decode cX10_look 97 = .ok (.getfield 26, 3) := by decide +kernel
theorem dX10_look_100 : decode cX10_look 100 = .ok (.bipush 14, 2) := by decide +kernel
theorem dX10_look_102 : decode cX10_look 102 = .ok (.iload_n 1, 1) := by decide +kernel
theorem dX10_look_103 : decode cX10_look 103 = .ok (.iadd, 1) := by decide +kernel
theorem dX10_look_104 : decode cX10_look 104 = .ok (.iaload, 1) := by decide +kernel
theorem dX10_look_105 : decode cX10_look 105 = .ok (.bipush 100, 2) := by decide +kernel
theorem dX10_look_107 : decode cX10_look 107 = .ok (.imul, 1) := by decide +kernel
theorem dX10_look_108 : decode cX10_look 108 = .ok (.aload_n 0, 1) := by decide +kernel
theorem dX10_look_109 : decode cX10_look 109 = .ok (.getfield 20, 3) := by decide +kernel
theorem dX10_look_112 : decode cX10_look 112 = .ok (.bipush 61, 2) := by decide +kernel
theorem dX10_look_114 : decode cX10_look 114 = .ok (.iload_n 1, 1) := by decide +kernel
theorem dX10_look_115 : decode cX10_look 115 = .ok (.iadd, 1) := by decide +kernel
theorem dX10_look_116 : decode cX10_look 116 = .ok (.iaload, 1) := by decide +kernel
theorem dX10_look_117 : decode cX10_look 117 = .ok (.idiv, 1) := by decide +kernel
theorem dX10_look_118 : decode cX10_look 118 = .ok (.iastore, 1) := by decide +kernel
theorem dX10_look_119 : decode cX10_look 119 = .ok (.aload_n 0, 1) := by decide +kernel
theorem dX10_look_120 : decode cX10_look 120 = .ok (.getfield 26, 3) := by decide +kernel
theorem dX10_look_123 : decode cX10_look 123 = .ok (.bipush 14, 2) := by decide +kernel
theorem dX10_look_125 : decode cX10_look 125 = .ok (.iload_n 1, 1) := by decide +kernel
theorem dX10_look_126 : decode cX10_look 126 = .ok (.iadd, 1) := by decide +kernel
theorem dX10_look_127 : decode cX10_look 127 = .ok (.iconst 0, 1) := by decide +kernel
theorem dX10_look_128 : decode cX10_look 128 = .ok (.iastore, 1) := by decide +kernel
theorem dX10_look_129 : decode cX10_look 129 = .ok (.iinc 1 1, 3) := by decide +kernel
theorem dX10_look_132 : decode cX10_look 132 = .ok (.goto (-130), 3) := by decide +kernel
theorem dX10_look_135 : decode cX10_look 135 = .ok (.iconst 0, 1) := by decide +kernel
theorem dX10_look_136 : decode cX10_look 136 = .ok (.istore_n 1, 1) := by decide +kernel
theorem dX10_look_137 : decode cX10_look 137 = .ok (.iload_n 1, 1) := by decide +kernel
theorem dX10_look_138 : decode cX10_look 138 = .ok (.aload_n 0, 1) := by decide +kernel
theorem dX10_look_139 : decode cX10_look 139 = .ok (.getfield 20, 3) := by decide +kernel
theorem dX10_look_142 : decode cX10_look 142 = .ok (.bipush 95, 2) := by decide +kernel
theorem dX10_look_144 : decode cX10_look 144 = .ok (.iaload, 1) := by decide +kernel
theorem dX10_look_145 : decode cX10_look 145 = .ok (.if_icmp .ge 143, 3) := by decide +kernel
theorem dX10_look_148 : decode cX10_look 148 = .ok (.iload_n 1, 1) := by decide +kernel
theorem dX10_look_149 : decode cX10_look 149 = .ok (.aload_n 0, 1) := by decide +kernel
theorem dX10_look_150 : decode cX10_look 150 = .ok (.invokevirtual 262, 3) := by decide +kernel
theorem dX10_look_153 : decode cX10_look 153 = .ok (.if_icmp .ge 135, 3) := by decide +kernel
theorem dX10_look_156 : decode cX10_look 156 = .ok (.iconst 0, 1) := by decide +kernel
theorem dX10_look_157 : decode cX10_look 157 = .ok (.istore_n 2, 1) := by decide +kernel
theorem dX10_look_158 : decode cX10_look 158 = .ok (.aload_n 0, 1) := by decide +kernel
theorem dX10_look_159 : decode cX10_look 159 = .ok (.iload_n 2, 1) := by decide +kernel
theorem dX10_look_160 : decode cX10_look 160 = .ok (.invokevirtual 265, 3) := by decide +kernel
theorem dX10_look_163 : decode cX10_look 163 = .ok (.iload_n 1, 1) := by decide +kernel
theorem dX10_look_164 : decode cX10_look 164 = .ok (.if_icmp .eq 9, 3) := by decide +kernel
theorem dX10_look_167 : decode cX10_look 167 = .ok (.iinc 2 1, 3) := by decide +kernel
theorem dX10_look_170 : decode cX10_look 170 = .ok (.goto (-12), 3) := by decide +kernel
theorem dX10_look_173 : decode cX10_look 173 = .ok (.aload_n 0, 1) := by decide +kernel
theorem dX10_look_174 : decode cX10_look 174 = .ok (.iload_n 2, 1) := by decide +kernel
theorem dX10_look_175 : decode cX10_look 175 = .ok (.invokevirtual 268, 3) := by decide +kernel
theorem dX10_look_178 : decode cX10_look 178 = .ok (.ifCond .eq 16, 3) := by decide +kernel
theorem dX10_look_181 : decode cX10_look 181 = .ok (.aload_n 0, 1) := by decide +kernel
theorem dX10_look_182 : decode cX10_look 182 = .ok (.getfield 26, 3) := by decide +kernel
theorem dX10_look_185 : decode cX10_look 185 = .ok (.bipush 19, 2) := by decide +kernel
theorem dX10_look_187 : decode cX10_look 187 = .ok (.iload_n 2, 1) := by decide +kernel
theorem dX10_look_188 : decode cX10_look 188 = .ok (.iadd, 1) := by decide +kernel
theorem dX10_look_189 : decode cX10_look 189 = .ok (.iconst 2, 1) := by decide +kernel
theorem dX10_look_190 : decode cX10_look 190 = .ok (.iastore, 1) := by decide +kernel
theorem dX10_look_191 : decode cX10_look 191 = .ok (.goto 91, 3) := by decide +kernel
theorem dX10_look_194 : decode cX10_look 194 = .ok (.aload_n 0, 1) := by decide +kernel
theorem dX10_look_195 : decode cX10_look 195 = .ok (.getfield 50, 3) := by decide +kernel
theorem dX10_look_198 : decode cX10_look 198 = .ok (.iload_n 2, 1) := by decide +kernel
theorem dX10_look_199 : decode cX10_look 199 = .ok (.iaload, 1) := by decide +kernel
theorem dX10_look_200 : decode cX10_look 200 = .ok (.ifCond .lt 52, 3) := by decide +kernel
theorem dX10_look_203 : decode cX10_look 203 = .ok (.aload_n 0, 1) := by decide +kernel
theorem dX10_look_204 : decode cX10_look 204 = .ok (.getfield 26, 3) := by decide +kernel
theorem dX10_look_207 : decode cX10_look 207 = .ok (.bipush 19, 2) := by decide +kernel
theorem dX10_look_209 : decode cX10_look 209 = .ok (.iload_n 2, 1) := by decide +kernel
theorem dX10_look_210 : decode cX10_look 210 = .ok (.iadd, 1) := by decide +kernel
theorem dX10_look_211 : decode cX10_look 211 = .ok (.aload_n 0, 1) := by decide +kernel
theorem dX10_look_212 : decode cX10_look 212 = .ok (.getfield 50, 3) := by decide +kernel
theorem dX10_look_215 : decode cX10_look 215 = .ok (.iload_n 2, 1) := by decide +kernel
theorem dX10_look_216 : decode cX10_look 216 = .ok (.iaload, 1) := by decide +kernel
theorem dX10_look_217 : decode cX10_look 217 = .ok (.aload_n 0, 1) := by decide +kernel
theorem dX10_look_218 : decode cX10_look 218 = .ok (.getfield 20, 3) := by decide +kernel
theorem dX10_look_221 : decode cX10_look 221 = .ok (.iconst 5, 1) := by decide +kernel
theorem dX10_look_222 : decode cX10_look 222 = .ok (.iaload, 1) := by decide +kernel
theorem dX10_look_223 : decode cX10_look 223 = .ok (.aload_n 0, 1) := by decide +kernel
theorem dX10_look_224 : decode cX10_look 224 = .ok (.getfield 20, 3) := by decide +kernel
theorem dX10_look_227 : decode cX10_look 227 = .ok (.iconst 0, 1) := by decide +kernel
theorem dX10_look_228 : decode cX10_look 228 = .ok (.iaload, 1) := by decide +kernel
theorem dX10_look_229 : decode cX10_look 229 = .ok (.iadd, 1) := by decide +kernel
theorem dX10_look_230 : decode cX10_look 230 = .ok (.aload_n 0, 1) := by decide +kernel
theorem dX10_look_231 : decode cX10_look 231 = .ok (.getfield 26, 3) := by decide +kernel
theorem dX10_look_234 : decode cX10_look 234 = .ok (.bipush 9, 2) := by decide +kernel
theorem dX10_look_236 : decode cX10_look 236 = .ok (.iload_n 2, 1) := by decide +kernel
theorem dX10_look_237 : decode cX10_look 237 = .ok (.iadd, 1) := by decide +kernel
theorem dX10_look_238 : decode cX10_look 238 = .ok (.iaload, 1) := by decide +kernel
theorem dX10_look_239 : decode cX10_look 239 = .ok (.isub, 1) := by decide +kernel
theorem dX10_look_240 : decode cX10_look 240 = .ok (.if_icmp .lt 7, 3) := by decide +kernel
theorem dX10_look_243 : decode cX10_look 243 = .ok (.iconst 4, 1) := by decide +kernel
theorem dX10_look_244 : decode cX10_look 244 = .ok (.goto 4, 3) := by decide +kernel
theorem dX10_look_247 : decode cX10_look 247 = .ok (.iconst 1, 1) := by decide +kernel
theorem dX10_look_248 : decode cX10_look 248 = .ok (.iastore, 1) := by decide +kernel
theorem dX10_look_249 : decode cX10_look 249 = .ok (.goto 33, 3) := by decide +kernel
theorem dX10_look_252 : decode cX10_look 252 = .ok (.aload_n 0, 1) := by decide +kernel
theorem dX10_look_253 : decode cX10_look 253 = .ok (.getfield 26, 3) := by decide +kernel
theorem dX10_look_256 : decode cX10_look 256 = .ok (.bipush 19, 2) := by decide +kernel
theorem dX10_look_258 : decode cX10_look 258 = .ok (.iload_n 2, 1) := by decide +kernel
theorem dX10_look_259 : decode cX10_look 259 = .ok (.iadd, 1) := by decide +kernel
theorem dX10_look_260 : decode cX10_look 260 = .ok (.aload_n 0, 1) := by decide +kernel
theorem dX10_look_261 : decode cX10_look 261 = .ok (.invokevirtual 249, 3) := by decide +kernel
theorem dX10_look_264 : decode cX10_look 264 = .ok (.aload_n 0, 1) := by decide +kernel
theorem dX10_look_265 : decode cX10_look 265 = .ok (.getfield 20, 3) := by decide +kernel
theorem dX10_look_268 : decode cX10_look 268 = .ok (.bipush 76, 2) := by decide +kernel
theorem dX10_look_270 : decode cX10_look 270 = .ok (.iload_n 2, 1) := by decide +kernel
theorem dX10_look_271 : decode cX10_look 271 = .ok (.iadd, 1) := by decide +kernel
theorem dX10_look_272 : decode cX10_look 272 = .ok (.iaload, 1) := by decide +kernel
theorem dX10_look_273 : decode cX10_look 273 = .ok (.if_icmp .ge 7, 3) := by decide +kernel
theorem dX10_look_276 : decode cX10_look 276 = .ok (.iconst 5, 1) := by decide +kernel
theorem dX10_look_277 : decode cX10_look 277 = .ok (.goto 4, 3) := by decide +kernel
theorem dX10_look_280 : decode cX10_look 280 = .ok (.iconst 0, 1) := by decide +kernel
theorem dX10_look_281 : decode cX10_look 281 = .ok (.iastore, 1) := by decide +kernel
theorem dX10_look_282 : decode cX10_look 282 = .ok (.iinc 1 1, 3) := by decide +kernel
theorem dX10_look_285 : decode cX10_look 285 = .ok (.goto (-148), 3) := by decide +kernel
theorem dX10_look_288 : decode cX10_look 288 = .ok (.iconst 0, 1) := by decide +kernel
theorem dX10_look_289 : decode cX10_look 289 = .ok (.istore_n 1, 1) := by decide +kernel
theorem dX10_look_290 : decode cX10_look 290 = .ok (.iload_n 1, 1) := by decide +kernel
theorem dX10_look_291 : decode cX10_look 291 = .ok (.aload_n 0, 1) := by decide +kernel
theorem dX10_look_292 : decode cX10_look 292 = .ok (.getfield 20, 3) := by decide +kernel
theorem dX10_look_295 : decode cX10_look 295 = .ok (.bipush 95, 2) := by decide +kernel
theorem dX10_look_297 : decode cX10_look 297 = .ok (.iaload, 1) := by decide +kernel
theorem dX10_look_298 : decode cX10_look 298 = .ok (.if_icmp .ge 66, 3) := by decide +kernel
theorem dX10_look_301 : decode cX10_look 301 = .ok (.aload_n 0, 1) := by decide +kernel
theorem dX10_look_302 : decode cX10_look 302 = .ok (.getfield 26, 3) := by decide +kernel
theorem dX10_look_305 : decode cX10_look 305 = .ok (.bipush 19, 2) := by decide +kernel
theorem dX10_look_307 : decode cX10_look 307 = .ok (.iload_n 1, 1) := by decide +kernel
theorem dX10_look_308 : decode cX10_look 308 = .ok (.iadd, 1) := by decide +kernel
theorem dX10_look_309 : decode cX10_look 309 = .ok (.iaload, 1) := by decide +kernel
theorem dX10_look_310 : decode cX10_look 310 = .ok (.iconst 4, 1) := by decide +kernel
theorem dX10_look_311 : decode cX10_look 311 = .ok (.if_icmp .ge 6, 3) := by decide +kernel
theorem dX10_look_314 : decode cX10_look 314 = .ok (.goto 44, 3) := by decide +kernel
theorem dX10_look_317 : decode cX10_look 317 = .ok (.aload_n 0, 1) := by decide +kernel
theorem dX10_look_318 : decode cX10_look 318 = .ok (.getfield 26, 3) := by decide +kernel
theorem dX10_look_321 : decode cX10_look 321 = .ok (.bipush 9, 2) := by decide +kernel
theorem dX10_look_323 : decode cX10_look 323 = .ok (.iload_n 1, 1) := by decide +kernel
theorem dX10_look_324 : decode cX10_look 324 = .ok (.iadd, 1) := by decide +kernel
theorem dX10_look_325 : decode cX10_look 325 = .ok (.iconst 0, 1) := by decide +kernel
theorem dX10_look_326 : decode cX10_look 326 = .ok (.iastore, 1) := by decide +kernel
theorem dX10_look_327 : decode cX10_look 327 = .ok (.aload_n 0, 1) := by decide +kernel
theorem dX10_look_328 : decode cX10_look 328 = .ok (.getfield 26, 3) := by decide +kernel
theorem dX10_look_331 : decode cX10_look 331 = .ok (.aload_n 0, 1) := by decide +kernel
theorem dX10_look_332 : decode cX10_look 332 = .ok (.getfield 26, 3) := by decide +kernel
theorem dX10_look_335 : decode cX10_look 335 = .ok (.bipush 19, 2) := by decide +kernel
theorem dX10_look_337 : decode cX10_look 337 = .ok (.iload_n 1, 1) := by decide +kernel
theorem dX10_look_338 : decode cX10_look 338 = .ok (.iadd, 1) := by decide +kernel
theorem dX10_look_339 : decode cX10_look 339 = .ok (.iaload, 1) := by decide +kernel
theorem dX10_look_340 : decode cX10_look 340 = .ok (.iconst 4, 1) := by decide +kernel
theorem dX10_look_341 : decode cX10_look 341 = .ok (.if_icmp .ne 8, 3) := by decide +kernel
theorem dX10_look_344 : decode cX10_look 344 = .ok (.bipush 24, 2) := by decide +kernel
theorem dX10_look_346 : decode cX10_look 346 = .ok (.goto 5, 3) := by decide +kernel
theorem dX10_look_349 : decode cX10_look 349 = .ok (.bipush 29, 2) := by decide +kernel
theorem dX10_look_351 : decode cX10_look 351 = .ok (.iload_n 1, 1) := by decide +kernel
theorem dX10_look_352 : decode cX10_look 352 = .ok (.iadd, 1) := by decide +kernel
theorem dX10_look_353 : decode cX10_look 353 = .ok (.dup2, 1) := by decide +kernel
theorem dX10_look_354 : decode cX10_look 354 = .ok (.iaload, 1) := by decide +kernel
theorem dX10_look_355 : decode cX10_look 355 = .ok (.iconst 1, 1) := by decide +kernel
theorem dX10_look_356 : decode cX10_look 356 = .ok (.iadd, 1) := by decide +kernel
theorem dX10_look_357 : decode cX10_look 357 = .ok (.iastore, 1) := by decide +kernel
theorem dX10_look_358 : decode cX10_look 358 = .ok (.iinc 1 1, 3) := by decide +kernel
theorem dX10_look_361 : decode cX10_look 361 = .ok (.goto (-71), 3) := by decide +kernel
theorem dX10_look_364 : decode cX10_look 364 = .ok (.aload_n 0, 1) := by decide +kernel
theorem dX10_look_365 : decode cX10_look 365 = .ok (.getfield 26, 3) := by decide +kernel
theorem dX10_look_368 : decode cX10_look 368 = .ok (.iconst 0, 1) := by decide +kernel
theorem dX10_look_369 : decode cX10_look 369 = .ok (.iconst 0, 1) := by decide +kernel
theorem dX10_look_370 : decode cX10_look 370 = .ok (.iastore, 1) := by decide +kernel
theorem dX10_look_371 : decode cX10_look 371 = .ok (.aload_n 0, 1) := by decide +kernel
theorem dX10_look_372 : decode cX10_look 372 = .ok (.getfield 26, 3) := by decide +kernel
theorem dX10_look_375 : decode cX10_look 375 = .ok (.iconst 2, 1) := by decide +kernel
theorem dX10_look_376 : decode cX10_look 376 = .ok (.iconst 0, 1) := by decide +kernel
theorem dX10_look_377 : decode cX10_look 377 = .ok (.iastore, 1) := by decide +kernel
theorem dX10_look_378 : decode cX10_look 378 = .ok (.aload_n 0, 1) := by decide +kernel
theorem dX10_look_379 : decode cX10_look 379 = .ok (.getfield 26, 3) := by decide +kernel
theorem dX10_look_382 : decode cX10_look 382 = .ok (.iconst 3, 1) := by decide +kernel
theorem dX10_look_383 : decode cX10_look 383 = .ok (.dup2, 1) := by decide +kernel
theorem dX10_look_384 : decode cX10_look 384 = .ok (.iaload, 1) := by decide +kernel
theorem dX10_look_385 : decode cX10_look 385 = .ok (.iconst 1, 1) := by decide +kernel
theorem dX10_look_386 : decode cX10_look 386 = .ok (.iadd, 1) := by decide +kernel
theorem dX10_look_387 : decode cX10_look 387 = .ok (.iastore, 1) := by decide +kernel
theorem dX10_look_388 : decode cX10_look 388 = .ok (.return_, 1) := by decide +kernel
def lp_X10_look_2  (k135 : Mm → Option (Mm)) : Nat → Int32 → Mm → Option (Mm)
  | 0, _, _ => none
  | n + 1, y1, M =>
    if (M 84 95) ≤ y1 then (k135  M) else (gd (inb y1 5) <| gd (inb ((nI 9) + y1) 44) <| gd (inb ((nI 34) + y1) 44) <| gd (inb ((nI 19) + y1) 44) <| gd (inb ((nI 39) + y1) 44) <| jn (fun (M1 : Mm) => lp_X10_look_2 k135 n (y1 + (nI 1)) M1) fun j2 => if ((mset (mset (mset M 93 y1.toNatClampNeg (-1 : Int32)) 86 ((nI 34) + y1).toNatClampNeg ((mset M 93 y1.toNatClampNeg (-1 : Int32)) 86 ((nI 9) + y1).toNatClampNeg)) 86 ((nI 19) + y1).toNatClampNeg (nI 3)) 86 ((nI 39) + y1).toNatClampNeg) = 0 then (j2  (mset (mset (mset M 93 y1.toNatClampNeg (-1 : Int32)) 86 ((nI 34) + y1).toNatClampNeg ((mset M 93 y1.toNatClampNeg (-1 : Int32)) 86 ((nI 9) + y1).toNatClampNeg)) 86 ((nI 19) + y1).toNatClampNeg (nI 3))) else (gd (inb ((nI 14) + y1) 44) <| if ((mset (mset (mset M 93 y1.toNatClampNeg (-1 : Int32)) 86 ((nI 34) + y1).toNatClampNeg ((mset M 93 y1.toNatClampNeg (-1 : Int32)) 86 ((nI 9) + y1).toNatClampNeg)) 86 ((nI 19) + y1).toNatClampNeg (nI 3)) 86 ((nI 14) + y1).toNatClampNeg) = 0 then (j2  (mset (mset (mset M 93 y1.toNatClampNeg (-1 : Int32)) 86 ((nI 34) + y1).toNatClampNeg ((mset M 93 y1.toNatClampNeg (-1 : Int32)) 86 ((nI 9) + y1).toNatClampNeg)) 86 ((nI 19) + y1).toNatClampNeg (nI 3))) else (bd (f_X10_draw  (mset (mset (mset M 93 y1.toNatClampNeg (-1 : Int32)) 86 ((nI 34) + y1).toNatClampNeg ((mset M 93 y1.toNatClampNeg (-1 : Int32)) 86 ((nI 9) + y1).toNatClampNeg)) 86 ((nI 19) + y1).toNatClampNeg (nI 3))) fun v76_4 M76_3 => gd (inb ((nI 66) + y1) 141) <| jn (fun (M5 : Mm) => gd (inb ((nI 14) + y1) 44) <| j2  (mset M5 86 ((nI 14) + y1).toNatClampNeg (nI 0))) fun j6 => if (M76_3 84 ((nI 66) + y1).toNatClampNeg) ≤ v76_4 then (j6  M76_3) else (gd (inb ((nI 14) + y1) 44) <| gd (inb ((nI 61) + y1) 141) <| gd (nzi (M76_3 84 ((nI 61) + y1).toNatClampNeg)) <| gd (inb y1 5) <| j6  (mset M76_3 93 y1.toNatClampNeg (((M76_3 86 ((nI 14) + y1).toNatClampNeg) * (nI 100)) / (M76_3 84 ((nI 61) + y1).toNatClampNeg)))))))
def lp_X10_look_158 (y1 : Int32) (k173 : Int32 → Mm → Option (Mm)) : Nat → Int32 → Mm → Option (Mm)
  | 0, _, _ => none
  | n + 1, y2, M =>
    bd (f_X10_ahead y2 M) fun v160_15 M160_14 => if v160_15 = y1 then (k173 y2 M160_14) else (lp_X10_look_158 y1 k173 n (y2 + (nI 1)) M160_14)
def lp_X10_look_137  (k288 : Mm → Option (Mm)) : Nat → Int32 → Mm → Option (Mm)
  | 0, _, _ => none
  | n + 1, y1, M =>
    if (M 84 95) ≤ y1 then (k288  M) else (bd (f_X10_lookMany  M) fun v150_13 M150_12 => if v150_13 ≤ y1 then (k288  M150_12) else (lp_X10_look_158 y1 (fun (u17 : Int32) (M18 : Mm) => bd (f_X10_isHidden u17 M18) fun v175_20 M175_19 => jn (fun (M21 : Mm) => lp_X10_look_137 k288 n (y1 + (nI 1)) M21) fun j22 => if v175_20 = 0 then (gd (inb u17 5) <| if (M175_19 93 u17.toNatClampNeg) < 0 then (bd (f_X10_draw  M175_19) fun v261_24 M261_23 => gd (inb ((nI 76) + u17) 141) <| jn (fun (s25 : Int32) (M26 : Mm) => gd (inb ((nI 19) + u17) 44) <| j22  (mset M26 86 ((nI 19) + u17).toNatClampNeg s25)) fun j27 => if (M261_23 84 ((nI 76) + u17).toNatClampNeg) ≤ v261_24 then (j27 (nI 0) M261_23) else (j27 (nI 5) M261_23)) else (gd (inb u17 5) <| gd (inb ((nI 9) + u17) 44) <| jn (fun (s29 : Int32) (M30 : Mm) => gd (inb ((nI 19) + u17) 44) <| j22  (mset M30 86 ((nI 19) + u17).toNatClampNeg s29)) fun j31 => if (M175_19 93 u17.toNatClampNeg) < (((M175_19 84 5) + (M175_19 84 0)) - (M175_19 86 ((nI 9) + u17).toNatClampNeg)) then (j31 (nI 1) M175_19) else (j31 (nI 4) M175_19))) else (gd (inb ((nI 19) + u17) 44) <| j22  (mset M175_19 86 ((nI 19) + u17).toNatClampNeg (nI 2)))) N0 (nI 0) M150_12))
def lp_X10_look_290  (k364 : Mm → Option (Mm)) : Nat → Int32 → Mm → Option (Mm)
  | 0, _, _ => none
  | n + 1, y1, M =>
    if (M 84 95) ≤ y1 then (k364  M) else (gd (inb ((nI 19) + y1) 44) <| jn (fun (M38 : Mm) => lp_X10_look_290 k364 n (y1 + (nI 1)) M38) fun j39 => if (nI 4) ≤ (M 86 ((nI 19) + y1).toNatClampNeg) then (gd (inb ((nI 9) + y1) 44) <| gd (inb ((nI 19) + y1) 44) <| jn (fun (s40 : Int32) (M41 : Mm) => gd (inb (s40 + y1) 44) <| gd (inb (s40 + y1) 44) <| j39  (mset M41 86 (s40 + y1).toNatClampNeg ((M41 86 (s40 + y1).toNatClampNeg) + (nI 1)))) fun j42 => if ((mset M 86 ((nI 9) + y1).toNatClampNeg (nI 0)) 86 ((nI 19) + y1).toNatClampNeg) = (nI 4) then (j42 (nI 24) (mset M 86 ((nI 9) + y1).toNatClampNeg (nI 0))) else (j42 (nI 29) (mset M 86 ((nI 9) + y1).toNatClampNeg (nI 0)))) else (j39  M))
def f_X10_look  (M : Mm) : Option (Mm) :=
  lp_X10_look_2  (fun  (M11 : Mm) => lp_X10_look_137  (fun  (M37 : Mm) => lp_X10_look_290  (fun  (M46 : Mm) => some ((mset (mset (mset M46 86 0 (nI 0)) 86 2 (nI 0)) 86 3 (((mset (mset M46 86 0 (nI 0)) 86 2 (nI 0)) 86 3) + (nI 1))))) N0 (nI 0) M37) N0 (nI 0) M11) N0 (nI 0) M
set_option maxHeartbeats 4000000 in
set_option maxRecDepth 100000 in
theorem sl_X10_look_2 {l : Launch} {B : BT} (hA : bA B = false) {d : Nat} {M' : Mm}   {k135 : Mm → Option (Mm)} (hk135 : ∀  (M9 : Mm), k135  M9 = some M' → GG l B LY (d + 1) yX10_look cX10_look 3 none 0 0 (PV M') 97 0 0 135 [(0, .ref 81)] [] M9) :
    ∀ (n : Nat) (y1 : Int32) (M : Mm), lp_X10_look_2 k135 n y1 M = some M' → GG l B LY (d + 1) yX10_look cX10_look 3 none 0 0 (PV M') 97 0 0 2 [(0, .ref 81), (1, .int y1)] [] M := by
  intro n
  induction n with
  | zero => intro y1 M h; cases h
  | succ n ih =>
    intro y1 M h
    rw [lp_X10_look_2] at h
    refine g_iload_n dX10_look_2 rfl 1 rfl ?_
    refine g_aload_n dX10_look_3 rfl 0 rfl ?_
    refine m_getr (k := 15) okX10 rfl rfl (by decide) w_1284 rfl dX10_look_4 ?_
    refine g_bipush (v := (nI 95)) dX10_look_7 (by decide) ?_
    refine m_ialdL (k := 95) rfl rfl (by decide) dX10_look_9 ?_
    refine g_icmp_ge (tgt := 135) dX10_look_10 (by decide) (fun c10 => ?_) (fun c10 => ?_)
    · replace h := ite_p c10 h
      refine g_sub [0] (lv' := [(0, .ref 81)]) rfl ?_
      exact hk135  _ h
    · replace h := ite_n c10 h
      refine g_aload_n dX10_look_13 rfl 0 rfl ?_
      refine m_getr (k := 27) okX10 rfl rfl (by decide) w_1296 rfl dX10_look_14 ?_
      refine g_iload_n dX10_look_17 rfl 1 rfl ?_
      refine g_iconst (v := (-1 : Int32)) dX10_look_18 (by decide) ?_
      obtain ⟨hz, h⟩ := gd_s h
      refine m_iast hA rfl hz dX10_look_19 ?_
      refine g_aload_n dX10_look_20 rfl 0 rfl ?_
      refine m_getr (k := 17) okX10 rfl rfl (by decide) w_1286 rfl dX10_look_21 ?_
      refine g_bipush (v := (nI 34)) dX10_look_24 (by decide) ?_
      refine g_iload_n dX10_look_26 rfl 1 rfl ?_
      refine g_iadd dX10_look_27 ?_
      refine g_aload_n dX10_look_28 rfl 0 rfl ?_
      refine m_getr (k := 17) okX10 rfl rfl (by decide) w_1286 rfl dX10_look_29 ?_
      refine g_bipush (v := (nI 9)) dX10_look_32 (by decide) ?_
      refine g_iload_n dX10_look_34 rfl 1 rfl ?_
      refine g_iadd dX10_look_35 ?_
      obtain ⟨hz, h⟩ := gd_s h
      refine m_iald rfl hz dX10_look_36 ?_
      obtain ⟨hz, h⟩ := gd_s h
      refine m_iast hA rfl hz dX10_look_37 ?_
      refine g_aload_n dX10_look_38 rfl 0 rfl ?_
      refine m_getr (k := 17) okX10 rfl rfl (by decide) w_1286 rfl dX10_look_39 ?_
      refine g_bipush (v := (nI 19)) dX10_look_42 (by decide) ?_
      refine g_iload_n dX10_look_44 rfl 1 rfl ?_
      refine g_iadd dX10_look_45 ?_
      refine g_iconst (v := (nI 3)) dX10_look_46 (by decide) ?_
      obtain ⟨hz, h⟩ := gd_s h
      refine m_iast hA rfl hz dX10_look_47 ?_
      refine g_aload_n dX10_look_48 rfl 0 rfl ?_
      refine m_getr (k := 17) okX10 rfl rfl (by decide) w_1286 rfl dX10_look_49 ?_
      refine g_bipush (v := (nI 39)) dX10_look_52 (by decide) ?_
      refine g_iload_n dX10_look_54 rfl 1 rfl ?_
      refine g_iadd dX10_look_55 ?_
      obtain ⟨hz, h⟩ := gd_s h
      refine m_iald rfl hz dX10_look_56 ?_
      obtain ⟨j2, ej2, h⟩ := jn_e h
      have hj2 : ∀ (M1 : Mm), j2 M1 = some M' → GG l B LY (d + 1) yX10_look cX10_look 3 none 0 0 (PV M') 97 0 0 129 [(0, .ref 81), (1, .int y1)] [] M1 := by
        intro M1 h
        rw [ej2] at h
        refine g_iinc (v := (y1 + (nI 1))) (lv' := [(1, .int (y1 + (nI 1))), (0, .ref 81)]) dX10_look_129 1 rfl rfl (by decide) rfl ?_
        refine g_goto (tgt := 2) dX10_look_132 (by decide) ?_
        refine g_sub [1, 0] (lv' := [(0, .ref 81), (1, .int (y1 + (nI 1)))]) rfl ?_
        exact ih _  _ h
      refine g_if_eq (tgt := 129) dX10_look_57 (by decide) (fun c9 => ?_) (fun c9 => ?_)
      · replace h := ite_p c9 h
        refine g_sub [0, 1] (lv' := [(0, .ref 81), (1, .int y1)]) rfl ?_
        exact hj2  _ h
      · replace h := ite_n c9 h
        refine g_aload_n dX10_look_60 rfl 0 rfl ?_
        refine m_getr (k := 17) okX10 rfl rfl (by decide) w_1286 rfl dX10_look_61 ?_
        refine g_bipush (v := (nI 14)) dX10_look_64 (by decide) ?_
        refine g_iload_n dX10_look_66 rfl 1 rfl ?_
        refine g_iadd dX10_look_67 ?_
        obtain ⟨hz, h⟩ := gd_s h
        refine m_iald rfl hz dX10_look_68 ?_
        refine g_if_ne (tgt := 75) dX10_look_69 (by decide) (fun c8 => ?_) (fun c8 => ?_)
        · replace h := ite_n c8 h
          refine g_aload_n dX10_look_75 rfl 0 rfl ?_
          obtain ⟨v76_4, M76_3, eM76_3, h⟩ := bd_e h
          refine m_callVi (As := []) (st := []) (s_X10_draw (d := d + 0) hA  eM76_3) rfl okX10 ck_X10_draw w_1543 rfl (Nat.le_of_ble_eq_true rfl) dX10_look_76 ?_
          refine g_aload_n dX10_look_79 rfl 0 rfl ?_
          refine m_getr (k := 15) okX10 rfl rfl (by decide) w_1284 rfl dX10_look_80 ?_
          refine g_bipush (v := (nI 66)) dX10_look_83 (by decide) ?_
          refine g_iload_n dX10_look_85 rfl 1 rfl ?_
          refine g_iadd dX10_look_86 ?_
          obtain ⟨hz, h⟩ := gd_s h
          refine m_iald rfl hz dX10_look_87 ?_
          obtain ⟨j6, ej6, h⟩ := jn_e h
          have hj6 : ∀ (M5 : Mm), j6 M5 = some M' → GG l B LY (d + 1) yX10_look cX10_look 3 none 0 0 (PV M') 97 0 0 119 [(0, .ref 81), (1, .int y1)] [] M5 := by
            intro M5 h
            rw [ej6] at h
            refine g_aload_n dX10_look_119 rfl 0 rfl ?_
            refine m_getr (k := 17) okX10 rfl rfl (by decide) w_1286 rfl dX10_look_120 ?_
            refine g_bipush (v := (nI 14)) dX10_look_123 (by decide) ?_
            refine g_iload_n dX10_look_125 rfl 1 rfl ?_
            refine g_iadd dX10_look_126 ?_
            refine g_iconst (v := (nI 0)) dX10_look_127 (by decide) ?_
            obtain ⟨hz, h⟩ := gd_s h
            refine m_iast hA rfl hz dX10_look_128 ?_
            refine g_sub [0, 1] (lv' := [(0, .ref 81), (1, .int y1)]) rfl ?_
            exact hj2  _ h
          refine g_icmp_ge (tgt := 119) dX10_look_88 (by decide) (fun c7 => ?_) (fun c7 => ?_)
          · replace h := ite_p c7 h
            refine g_sub [0, 1] (lv' := [(0, .ref 81), (1, .int y1)]) rfl ?_
            exact hj6  _ h
          · replace h := ite_n c7 h
            refine g_aload_n dX10_look_91 rfl 0 rfl ?_
            refine m_getr (k := 27) okX10 rfl rfl (by decide) w_1296 rfl dX10_look_92 ?_
            refine g_iload_n dX10_look_95 rfl 1 rfl ?_
            refine g_aload_n dX10_look_96 rfl 0 rfl ?_
            refine m_getr (k := 17) okX10 rfl rfl (by decide) w_1286 rfl dX10_look_97 ?_
            refine g_bipush (v := (nI 14)) dX10_look_100 (by decide) ?_
            refine g_iload_n dX10_look_102 rfl 1 rfl ?_
            refine g_iadd dX10_look_103 ?_
            obtain ⟨hz, h⟩ := gd_s h
            refine m_iald rfl hz dX10_look_104 ?_
            refine g_bipush (v := (nI 100)) dX10_look_105 (by decide) ?_
            refine g_imul dX10_look_107 ?_
            refine g_aload_n dX10_look_108 rfl 0 rfl ?_
            refine m_getr (k := 15) okX10 rfl rfl (by decide) w_1284 rfl dX10_look_109 ?_
            refine g_bipush (v := (nI 61)) dX10_look_112 (by decide) ?_
            refine g_iload_n dX10_look_114 rfl 1 rfl ?_
            refine g_iadd dX10_look_115 ?_
            obtain ⟨hz, h⟩ := gd_s h
            refine m_iald rfl hz dX10_look_116 ?_
            obtain ⟨hz, h⟩ := gd_s h
            refine g_idiv dX10_look_117 (nzi_s hz) ?_
            obtain ⟨hz, h⟩ := gd_s h
            refine m_iast hA rfl hz dX10_look_118 ?_
            refine g_sub [0, 1] (lv' := [(0, .ref 81), (1, .int y1)]) rfl ?_
            exact hj6  _ h
        · replace h := ite_p c8 h
          refine g_goto (tgt := 129) dX10_look_72 (by decide) ?_
          refine g_sub [0, 1] (lv' := [(0, .ref 81), (1, .int y1)]) rfl ?_
          exact hj2  _ h
set_option maxHeartbeats 4000000 in
set_option maxRecDepth 100000 in
theorem sl_X10_look_158 {l : Launch} {B : BT} (hA : bA B = false) {d : Nat} {M' : Mm} {y1 : Int32}  {k173 : Int32 → Mm → Option (Mm)} (hk173 : ∀ (z2 : Int32) (M9 : Mm), k173 z2 M9 = some M' → GG l B LY (d + 1) yX10_look cX10_look 3 none 0 0 (PV M') 97 0 0 173 [(0, .ref 81), (1, .int y1), (2, .int z2)] [] M9) :
    ∀ (n : Nat) (y2 : Int32) (M : Mm), lp_X10_look_158 y1 k173 n y2 M = some M' → GG l B LY (d + 1) yX10_look cX10_look 3 none 0 0 (PV M') 97 0 0 158 [(0, .ref 81), (1, .int y1), (2, .int y2)] [] M := by
  intro n
  induction n with
  | zero => intro y2 M h; cases h
  | succ n ih =>
    intro y2 M h
    rw [lp_X10_look_158] at h
    refine g_aload_n dX10_look_158 rfl 0 rfl ?_
    refine g_iload_n dX10_look_159 rfl 2 rfl ?_
    obtain ⟨v160_15, M160_14, eM160_14, h⟩ := bd_e h
    refine m_callVi (As := [.int y2]) (st := []) (s_X10_ahead (d := d + 0) hA  eM160_14) rfl okX10 ck_X10_ahead w_1556 rfl (Nat.le_of_ble_eq_true rfl) dX10_look_160 ?_
    refine g_iload_n dX10_look_163 rfl 1 rfl ?_
    refine g_icmp_eq (tgt := 173) dX10_look_164 (by decide) (fun c16 => ?_) (fun c16 => ?_)
    · replace h := ite_p c16 h
      refine g_sub [0, 1, 2] (lv' := [(0, .ref 81), (1, .int y1), (2, .int y2)]) rfl ?_
      exact hk173 _ _ h
    · replace h := ite_n c16 h
      refine g_iinc (v := (y2 + (nI 1))) (lv' := [(2, .int (y2 + (nI 1))), (0, .ref 81), (1, .int y1)]) dX10_look_167 2 rfl rfl (by decide) rfl ?_
      refine g_goto (tgt := 158) dX10_look_170 (by decide) ?_
      refine g_sub [1, 2, 0] (lv' := [(0, .ref 81), (1, .int y1), (2, .int (y2 + (nI 1)))]) rfl ?_
      exact ih _  _ h
set_option maxHeartbeats 4000000 in
set_option maxRecDepth 100000 in
theorem sl_X10_look_137 {l : Launch} {B : BT} (hA : bA B = false) {d : Nat} {M' : Mm}   {k288 : Mm → Option (Mm)} (hk288 : ∀  (M9 : Mm), k288  M9 = some M' → GG l B LY (d + 1) yX10_look cX10_look 3 none 0 0 (PV M') 97 0 0 288 [(0, .ref 81)] [] M9) :
    ∀ (n : Nat) (y1 : Int32) (M : Mm), lp_X10_look_137 k288 n y1 M = some M' → GG l B LY (d + 1) yX10_look cX10_look 3 none 0 0 (PV M') 97 0 0 137 [(0, .ref 81), (1, .int y1)] [] M := by
  intro n
  induction n with
  | zero => intro y1 M h; cases h
  | succ n ih =>
    intro y1 M h
    rw [lp_X10_look_137] at h
    refine g_iload_n dX10_look_137 rfl 1 rfl ?_
    refine g_aload_n dX10_look_138 rfl 0 rfl ?_
    refine m_getr (k := 15) okX10 rfl rfl (by decide) w_1284 rfl dX10_look_139 ?_
    refine g_bipush (v := (nI 95)) dX10_look_142 (by decide) ?_
    refine m_ialdL (k := 95) rfl rfl (by decide) dX10_look_144 ?_
    refine g_icmp_ge (tgt := 288) dX10_look_145 (by decide) (fun c36 => ?_) (fun c36 => ?_)
    · replace h := ite_p c36 h
      refine g_sub [0] (lv' := [(0, .ref 81)]) rfl ?_
      exact hk288  _ h
    · replace h := ite_n c36 h
      refine g_iload_n dX10_look_148 rfl 1 rfl ?_
      refine g_aload_n dX10_look_149 rfl 0 rfl ?_
      obtain ⟨v150_13, M150_12, eM150_12, h⟩ := bd_e h
      refine m_callVi (As := []) (st := [.int y1]) (s_X10_lookMany (d := d + 0) hA  eM150_12) rfl okX10 ck_X10_lookMany w_1552 rfl (Nat.le_of_ble_eq_true rfl) dX10_look_150 ?_
      refine g_icmp_ge (tgt := 288) dX10_look_153 (by decide) (fun c35 => ?_) (fun c35 => ?_)
      · replace h := ite_p c35 h
        refine g_sub [0] (lv' := [(0, .ref 81)]) rfl ?_
        exact hk288  _ h
      · replace h := ite_n c35 h
        refine g_iconst (v := (nI 0)) dX10_look_156 (by decide) ?_
        refine g_istore_n (lv' := [(2, .int (nI 0)), (0, .ref 81), (1, .int y1)]) dX10_look_157 rfl (by decide) rfl ?_
        refine g_sub [1, 2, 0] (lv' := [(0, .ref 81), (1, .int y1), (2, .int (nI 0))]) rfl ?_
        refine sl_X10_look_158 hA  ?_ _ _ _ h
        · intro u17 M18 h
          refine g_aload_n dX10_look_173 rfl 0 rfl ?_
          refine g_iload_n dX10_look_174 rfl 2 rfl ?_
          obtain ⟨v175_20, M175_19, eM175_19, h⟩ := bd_e h
          refine m_callVi (As := [.int u17]) (st := []) (s_X10_isHidden (d := d + 0) hA  eM175_19) rfl okX10 ck_X10_isHidden w_1560 rfl (Nat.le_of_ble_eq_true rfl) dX10_look_175 ?_
          obtain ⟨j22, ej22, h⟩ := jn_e h
          have hj22 : ∀ (M21 : Mm), j22 M21 = some M' → GG l B LY (d + 1) yX10_look cX10_look 3 none 0 0 (PV M') 97 0 0 282 [(0, .ref 81), (1, .int y1)] [] M21 := by
            intro M21 h
            rw [ej22] at h
            refine g_iinc (v := (y1 + (nI 1))) (lv' := [(1, .int (y1 + (nI 1))), (0, .ref 81)]) dX10_look_282 1 rfl rfl (by decide) rfl ?_
            refine g_goto (tgt := 137) dX10_look_285 (by decide) ?_
            refine g_sub [1, 0] (lv' := [(0, .ref 81), (1, .int (y1 + (nI 1)))]) rfl ?_
            exact ih _  _ h
          refine g_if_eq (tgt := 194) dX10_look_178 (by decide) (fun c34 => ?_) (fun c34 => ?_)
          · replace h := ite_p c34 h
            refine g_aload_n dX10_look_194 rfl 0 rfl ?_
            refine m_getr (k := 27) okX10 rfl rfl (by decide) w_1296 rfl dX10_look_195 ?_
            refine g_iload_n dX10_look_198 rfl 2 rfl ?_
            obtain ⟨hz, h⟩ := gd_s h
            refine m_iald rfl hz dX10_look_199 ?_
            refine g_if_lt (tgt := 252) dX10_look_200 (by decide) (fun c33 => ?_) (fun c33 => ?_)
            · replace h := ite_p c33 h
              refine g_aload_n dX10_look_252 rfl 0 rfl ?_
              refine m_getr (k := 17) okX10 rfl rfl (by decide) w_1286 rfl dX10_look_253 ?_
              refine g_bipush (v := (nI 19)) dX10_look_256 (by decide) ?_
              refine g_iload_n dX10_look_258 rfl 2 rfl ?_
              refine g_iadd dX10_look_259 ?_
              refine g_aload_n dX10_look_260 rfl 0 rfl ?_
              obtain ⟨v261_24, M261_23, eM261_23, h⟩ := bd_e h
              refine m_callVi (As := []) (st := [.int ((nI 19) + u17), .ref 86]) (s_X10_draw (d := d + 0) hA  eM261_23) rfl okX10 ck_X10_draw w_1543 rfl (Nat.le_of_ble_eq_true rfl) dX10_look_261 ?_
              refine g_aload_n dX10_look_264 rfl 0 rfl ?_
              refine m_getr (k := 15) okX10 rfl rfl (by decide) w_1284 rfl dX10_look_265 ?_
              refine g_bipush (v := (nI 76)) dX10_look_268 (by decide) ?_
              refine g_iload_n dX10_look_270 rfl 2 rfl ?_
              refine g_iadd dX10_look_271 ?_
              obtain ⟨hz, h⟩ := gd_s h
              refine m_iald rfl hz dX10_look_272 ?_
              obtain ⟨j27, ej27, h⟩ := jn_e h
              have hj27 : ∀ (s25 : Int32) (M26 : Mm), j27 s25 M26 = some M' → GG l B LY (d + 1) yX10_look cX10_look 3 none 0 0 (PV M') 97 0 0 281 [(0, .ref 81), (1, .int y1)] [.int s25, .int ((nI 19) + u17), .ref 86] M26 := by
                intro s25 M26 h
                rw [ej27] at h
                obtain ⟨hz, h⟩ := gd_s h
                refine m_iast hA rfl hz dX10_look_281 ?_
                refine g_sub [0, 1] (lv' := [(0, .ref 81), (1, .int y1)]) rfl ?_
                exact hj22  _ h
              refine g_icmp_ge (tgt := 280) dX10_look_273 (by decide) (fun c28 => ?_) (fun c28 => ?_)
              · replace h := ite_p c28 h
                refine g_iconst (v := (nI 0)) dX10_look_280 (by decide) ?_
                refine g_sub [0, 1] (lv' := [(0, .ref 81), (1, .int y1)]) rfl ?_
                exact hj27 _ _ h
              · replace h := ite_n c28 h
                refine g_iconst (v := (nI 5)) dX10_look_276 (by decide) ?_
                refine g_goto (tgt := 281) dX10_look_277 (by decide) ?_
                refine g_sub [0, 1] (lv' := [(0, .ref 81), (1, .int y1)]) rfl ?_
                exact hj27 _ _ h
            · replace h := ite_n c33 h
              refine g_aload_n dX10_look_203 rfl 0 rfl ?_
              refine m_getr (k := 17) okX10 rfl rfl (by decide) w_1286 rfl dX10_look_204 ?_
              refine g_bipush (v := (nI 19)) dX10_look_207 (by decide) ?_
              refine g_iload_n dX10_look_209 rfl 2 rfl ?_
              refine g_iadd dX10_look_210 ?_
              refine g_aload_n dX10_look_211 rfl 0 rfl ?_
              refine m_getr (k := 27) okX10 rfl rfl (by decide) w_1296 rfl dX10_look_212 ?_
              refine g_iload_n dX10_look_215 rfl 2 rfl ?_
              obtain ⟨hz, h⟩ := gd_s h
              refine m_iald rfl hz dX10_look_216 ?_
              refine g_aload_n dX10_look_217 rfl 0 rfl ?_
              refine m_getr (k := 15) okX10 rfl rfl (by decide) w_1284 rfl dX10_look_218 ?_
              refine g_iconst (v := (nI 5)) dX10_look_221 (by decide) ?_
              refine m_ialdL (k := 5) rfl rfl (by decide) dX10_look_222 ?_
              refine g_aload_n dX10_look_223 rfl 0 rfl ?_
              refine m_getr (k := 15) okX10 rfl rfl (by decide) w_1284 rfl dX10_look_224 ?_
              refine g_iconst (v := (nI 0)) dX10_look_227 (by decide) ?_
              refine m_ialdL (k := 0) rfl rfl (by decide) dX10_look_228 ?_
              refine g_iadd dX10_look_229 ?_
              refine g_aload_n dX10_look_230 rfl 0 rfl ?_
              refine m_getr (k := 17) okX10 rfl rfl (by decide) w_1286 rfl dX10_look_231 ?_
              refine g_bipush (v := (nI 9)) dX10_look_234 (by decide) ?_
              refine g_iload_n dX10_look_236 rfl 2 rfl ?_
              refine g_iadd dX10_look_237 ?_
              obtain ⟨hz, h⟩ := gd_s h
              refine m_iald rfl hz dX10_look_238 ?_
              refine g_isub dX10_look_239 ?_
              obtain ⟨j31, ej31, h⟩ := jn_e h
              have hj31 : ∀ (s29 : Int32) (M30 : Mm), j31 s29 M30 = some M' → GG l B LY (d + 1) yX10_look cX10_look 3 none 0 0 (PV M') 97 0 0 248 [(0, .ref 81), (1, .int y1)] [.int s29, .int ((nI 19) + u17), .ref 86] M30 := by
                intro s29 M30 h
                rw [ej31] at h
                obtain ⟨hz, h⟩ := gd_s h
                refine m_iast hA rfl hz dX10_look_248 ?_
                refine g_goto (tgt := 282) dX10_look_249 (by decide) ?_
                refine g_sub [0, 1] (lv' := [(0, .ref 81), (1, .int y1)]) rfl ?_
                exact hj22  _ h
              refine g_icmp_lt (tgt := 247) dX10_look_240 (by decide) (fun c32 => ?_) (fun c32 => ?_)
              · replace h := ite_p c32 h
                refine g_iconst (v := (nI 1)) dX10_look_247 (by decide) ?_
                refine g_sub [0, 1] (lv' := [(0, .ref 81), (1, .int y1)]) rfl ?_
                exact hj31 _ _ h
              · replace h := ite_n c32 h
                refine g_iconst (v := (nI 4)) dX10_look_243 (by decide) ?_
                refine g_goto (tgt := 248) dX10_look_244 (by decide) ?_
                refine g_sub [0, 1] (lv' := [(0, .ref 81), (1, .int y1)]) rfl ?_
                exact hj31 _ _ h
          · replace h := ite_n c34 h
            refine g_aload_n dX10_look_181 rfl 0 rfl ?_
            refine m_getr (k := 17) okX10 rfl rfl (by decide) w_1286 rfl dX10_look_182 ?_
            refine g_bipush (v := (nI 19)) dX10_look_185 (by decide) ?_
            refine g_iload_n dX10_look_187 rfl 2 rfl ?_
            refine g_iadd dX10_look_188 ?_
            refine g_iconst (v := (nI 2)) dX10_look_189 (by decide) ?_
            obtain ⟨hz, h⟩ := gd_s h
            refine m_iast hA rfl hz dX10_look_190 ?_
            refine g_goto (tgt := 282) dX10_look_191 (by decide) ?_
            refine g_sub [0, 1] (lv' := [(0, .ref 81), (1, .int y1)]) rfl ?_
            exact hj22  _ h
set_option maxHeartbeats 4000000 in
set_option maxRecDepth 100000 in
theorem sl_X10_look_290 {l : Launch} {B : BT} (hA : bA B = false) {d : Nat} {M' : Mm}   {k364 : Mm → Option (Mm)} (hk364 : ∀  (M9 : Mm), k364  M9 = some M' → GG l B LY (d + 1) yX10_look cX10_look 3 none 0 0 (PV M') 97 0 0 364 [(0, .ref 81)] [] M9) :
    ∀ (n : Nat) (y1 : Int32) (M : Mm), lp_X10_look_290 k364 n y1 M = some M' → GG l B LY (d + 1) yX10_look cX10_look 3 none 0 0 (PV M') 97 0 0 290 [(0, .ref 81), (1, .int y1)] [] M := by
  intro n
  induction n with
  | zero => intro y1 M h; cases h
  | succ n ih =>
    intro y1 M h
    rw [lp_X10_look_290] at h
    refine g_iload_n dX10_look_290 rfl 1 rfl ?_
    refine g_aload_n dX10_look_291 rfl 0 rfl ?_
    refine m_getr (k := 15) okX10 rfl rfl (by decide) w_1284 rfl dX10_look_292 ?_
    refine g_bipush (v := (nI 95)) dX10_look_295 (by decide) ?_
    refine m_ialdL (k := 95) rfl rfl (by decide) dX10_look_297 ?_
    refine g_icmp_ge (tgt := 364) dX10_look_298 (by decide) (fun c45 => ?_) (fun c45 => ?_)
    · replace h := ite_p c45 h
      refine g_sub [0] (lv' := [(0, .ref 81)]) rfl ?_
      exact hk364  _ h
    · replace h := ite_n c45 h
      refine g_aload_n dX10_look_301 rfl 0 rfl ?_
      refine m_getr (k := 17) okX10 rfl rfl (by decide) w_1286 rfl dX10_look_302 ?_
      refine g_bipush (v := (nI 19)) dX10_look_305 (by decide) ?_
      refine g_iload_n dX10_look_307 rfl 1 rfl ?_
      refine g_iadd dX10_look_308 ?_
      obtain ⟨hz, h⟩ := gd_s h
      refine m_iald rfl hz dX10_look_309 ?_
      refine g_iconst (v := (nI 4)) dX10_look_310 (by decide) ?_
      obtain ⟨j39, ej39, h⟩ := jn_e h
      have hj39 : ∀ (M38 : Mm), j39 M38 = some M' → GG l B LY (d + 1) yX10_look cX10_look 3 none 0 0 (PV M') 97 0 0 358 [(0, .ref 81), (1, .int y1)] [] M38 := by
        intro M38 h
        rw [ej39] at h
        refine g_iinc (v := (y1 + (nI 1))) (lv' := [(1, .int (y1 + (nI 1))), (0, .ref 81)]) dX10_look_358 1 rfl rfl (by decide) rfl ?_
        refine g_goto (tgt := 290) dX10_look_361 (by decide) ?_
        refine g_sub [1, 0] (lv' := [(0, .ref 81), (1, .int (y1 + (nI 1)))]) rfl ?_
        exact ih _  _ h
      refine g_icmp_ge (tgt := 317) dX10_look_311 (by decide) (fun c44 => ?_) (fun c44 => ?_)
      · replace h := ite_p c44 h
        refine g_aload_n dX10_look_317 rfl 0 rfl ?_
        refine m_getr (k := 17) okX10 rfl rfl (by decide) w_1286 rfl dX10_look_318 ?_
        refine g_bipush (v := (nI 9)) dX10_look_321 (by decide) ?_
        refine g_iload_n dX10_look_323 rfl 1 rfl ?_
        refine g_iadd dX10_look_324 ?_
        refine g_iconst (v := (nI 0)) dX10_look_325 (by decide) ?_
        obtain ⟨hz, h⟩ := gd_s h
        refine m_iast hA rfl hz dX10_look_326 ?_
        refine g_aload_n dX10_look_327 rfl 0 rfl ?_
        refine m_getr (k := 17) okX10 rfl rfl (by decide) w_1286 rfl dX10_look_328 ?_
        refine g_aload_n dX10_look_331 rfl 0 rfl ?_
        refine m_getr (k := 17) okX10 rfl rfl (by decide) w_1286 rfl dX10_look_332 ?_
        refine g_bipush (v := (nI 19)) dX10_look_335 (by decide) ?_
        refine g_iload_n dX10_look_337 rfl 1 rfl ?_
        refine g_iadd dX10_look_338 ?_
        obtain ⟨hz, h⟩ := gd_s h
        refine m_iald rfl hz dX10_look_339 ?_
        refine g_iconst (v := (nI 4)) dX10_look_340 (by decide) ?_
        obtain ⟨j42, ej42, h⟩ := jn_e h
        have hj42 : ∀ (s40 : Int32) (M41 : Mm), j42 s40 M41 = some M' → GG l B LY (d + 1) yX10_look cX10_look 3 none 0 0 (PV M') 97 0 0 351 [(0, .ref 81), (1, .int y1)] [.int s40, .ref 86] M41 := by
          intro s40 M41 h
          rw [ej42] at h
          refine g_iload_n dX10_look_351 rfl 1 rfl ?_
          refine g_iadd dX10_look_352 ?_
          refine g_dup2 dX10_look_353 rfl rfl ?_
          obtain ⟨hz, h⟩ := gd_s h
          refine m_iald rfl hz dX10_look_354 ?_
          refine g_iconst (v := (nI 1)) dX10_look_355 (by decide) ?_
          refine g_iadd dX10_look_356 ?_
          obtain ⟨hz, h⟩ := gd_s h
          refine m_iast hA rfl hz dX10_look_357 ?_
          refine g_sub [0, 1] (lv' := [(0, .ref 81), (1, .int y1)]) rfl ?_
          exact hj39  _ h
        refine g_icmp_ne (tgt := 349) dX10_look_341 (by decide) (fun c43 => ?_) (fun c43 => ?_)
        · replace h := ite_n c43 h
          refine g_bipush (v := (nI 29)) dX10_look_349 (by decide) ?_
          refine g_sub [0, 1] (lv' := [(0, .ref 81), (1, .int y1)]) rfl ?_
          exact hj42 _ _ h
        · replace h := ite_p c43 h
          refine g_bipush (v := (nI 24)) dX10_look_344 (by decide) ?_
          refine g_goto (tgt := 351) dX10_look_346 (by decide) ?_
          refine g_sub [0, 1] (lv' := [(0, .ref 81), (1, .int y1)]) rfl ?_
          exact hj42 _ _ h
      · replace h := ite_n c44 h
        refine g_goto (tgt := 358) dX10_look_314 (by decide) ?_
        refine g_sub [0, 1] (lv' := [(0, .ref 81), (1, .int y1)]) rfl ?_
        exact hj39  _ h
set_option maxHeartbeats 4000000 in
set_option maxRecDepth 100000 in
theorem s_X10_look {l : Launch} {B : BT} (hA : bA B = false) {d : Nat} {M' : Mm}  {M : Mm}  (h : f_X10_look  M = some M') : Con l B LY (d + 1) yX10_look cX10_look 3 none 0 0 [.ref 81] 97 M (PV M') := by
  refine con_of (by decide) (Nat.le_of_ble_eq_true rfl) ?_
  show GG l B LY (d + 1) yX10_look cX10_look 3 none 0 0 (PV M') 97 0 0 0 [(0, .ref 81)] [] M
  rw [f_X10_look] at h
  refine g_iconst (v := (nI 0)) dX10_look_0 (by decide) ?_
  refine g_istore_n (lv' := [(1, .int (nI 0)), (0, .ref 81)]) dX10_look_1 rfl (by decide) rfl ?_
  refine g_sub [1, 0] (lv' := [(0, .ref 81), (1, .int (nI 0))]) rfl ?_
  refine sl_X10_look_2 hA  ?_ _ _ _ h
  · intro  M11 h
    refine g_iconst (v := (nI 0)) dX10_look_135 (by decide) ?_
    refine g_istore_n (lv' := [(1, .int (nI 0)), (0, .ref 81)]) dX10_look_136 rfl (by decide) rfl ?_
    refine g_sub [1, 0] (lv' := [(0, .ref 81), (1, .int (nI 0))]) rfl ?_
    refine sl_X10_look_137 hA  ?_ _ _ _ h
    · intro  M37 h
      refine g_iconst (v := (nI 0)) dX10_look_288 (by decide) ?_
      refine g_istore_n (lv' := [(1, .int (nI 0)), (0, .ref 81)]) dX10_look_289 rfl (by decide) rfl ?_
      refine g_sub [1, 0] (lv' := [(0, .ref 81), (1, .int (nI 0))]) rfl ?_
      refine sl_X10_look_290 hA  ?_ _ _ _ h
      · intro  M46 h
        refine g_aload_n dX10_look_364 rfl 0 rfl ?_
        refine m_getr (k := 17) okX10 rfl rfl (by decide) w_1286 rfl dX10_look_365 ?_
        refine g_iconst (v := (nI 0)) dX10_look_368 (by decide) ?_
        refine g_iconst (v := (nI 0)) dX10_look_369 (by decide) ?_
        refine m_iastL (k := 0) hA rfl rfl (by decide) dX10_look_370 ?_
        refine g_aload_n dX10_look_371 rfl 0 rfl ?_
        refine m_getr (k := 17) okX10 rfl rfl (by decide) w_1286 rfl dX10_look_372 ?_
        refine g_iconst (v := (nI 2)) dX10_look_375 (by decide) ?_
        refine g_iconst (v := (nI 0)) dX10_look_376 (by decide) ?_
        refine m_iastL (k := 2) hA rfl rfl (by decide) dX10_look_377 ?_
        refine g_aload_n dX10_look_378 rfl 0 rfl ?_
        refine m_getr (k := 17) okX10 rfl rfl (by decide) w_1286 rfl dX10_look_379 ?_
        refine g_iconst (v := (nI 3)) dX10_look_382 (by decide) ?_
        refine g_dup2 dX10_look_383 rfl rfl ?_
        refine m_ialdL (k := 3) rfl rfl (by decide) dX10_look_384 ?_
        refine g_iconst (v := (nI 1)) dX10_look_385 (by decide) ?_
        refine g_iadd dX10_look_386 ?_
        refine m_iastL (k := 3) hA rfl rfl (by decide) dX10_look_387 ?_
        exact g_vret rfl (pv_of h) dX10_look_388
theorem ck_X10_look : CKV yX10_look cX10_look 3 none 0 := ⟨⟨by decide, by decide, by decide +kernel⟩, w_1551, w_81, ⟨w_1550, w_38⟩, by decide⟩
theorem dX10_tenth_0 : decode cX10_tenth 0 = .ok (.iconst 0, 1) := by decide +kernel
theorem dX10_tenth_1 : decode cX10_tenth 1 = .ok (.istore_n 1, 1) := by decide +kernel
theorem dX10_tenth_2 : decode cX10_tenth 2 = .ok (.iload_n 1, 1) := by decide +kernel
theorem dX10_tenth_3 : decode cX10_tenth 3 = .ok (.aload_n 0, 1) := by decide +kernel
theorem dX10_tenth_4 : decode cX10_tenth 4 = .ok (.getfield 20, 3) := by decide +kernel
theorem dX10_tenth_7 : decode cX10_tenth 7 = .ok (.bipush 95, 2) := by decide +kernel
theorem dX10_tenth_9 : decode cX10_tenth 9 = .ok (.iaload, 1) := by decide +kernel
theorem dX10_tenth_10 : decode cX10_tenth 10 = .ok (.if_icmp .ge 130, 3) := by decide +kernel
theorem dX10_tenth_13 : decode cX10_tenth 13 = .ok (.aload_n 0, 1) := by decide +kernel
theorem dX10_tenth_14 : decode cX10_tenth 14 = .ok (.getfield 26, 3) := by decide +kernel
theorem dX10_tenth_17 : decode cX10_tenth 17 = .ok (.bipush 39, 2) := by decide +kernel
theorem dX10_tenth_19 : decode cX10_tenth 19 = .ok (.iload_n 1, 1) := by decide +kernel
theorem dX10_tenth_20 : decode cX10_tenth 20 = .ok (.iadd, 1) := by decide +kernel
theorem dX10_tenth_21 : decode cX10_tenth 21 = .ok (.aload_n 0, 1) := by decide +kernel
theorem dX10_tenth_22 : decode cX10_tenth 22 = .ok (.iload_n 1, 1) := by decide +kernel
theorem dX10_tenth_23 : decode cX10_tenth 23 = .ok (.invokevirtual 240, 3) := by decide +kernel
theorem dX10_tenth_26 : decode cX10_tenth 26 = .ok (.ifCond .eq 7, 3) := by decide +kernel
theorem dX10_tenth_29 : decode cX10_tenth 29 = .ok (.iconst 1, 1) := by decide +kernel
theorem dX10_tenth_30 : decode cX10_tenth 30 = .ok (.goto 4, 3) := by decide +kernel
theorem dX10_tenth_33 : decode cX10_tenth 33 = .ok (.iconst 0, 1) := by decide +kernel
theorem dX10_tenth_34 : decode cX10_tenth 34 = .ok (.iastore, 1) := by decide +kernel
theorem dX10_tenth_35 : decode cX10_tenth 35 = .ok (.aload_n 0, 1) := by decide +kernel
theorem dX10_tenth_36 : decode cX10_tenth 36 = .ok (.getfield 26, 3) := by decide +kernel
theorem dX10_tenth_39 : decode cX10_tenth 39 = .ok (.bipush 14, 2) := by decide +kernel
theorem dX10_tenth_41 : decode cX10_tenth 41 = .ok (.iload_n 1, 1) := by decide +kernel
theorem dX10_tenth_42 : decode cX10_tenth 42 = .ok (.iadd, 1) := by decide +kernel
theorem dX10_tenth_43 : decode cX10_tenth 43 = .ok (.dup2, 1) := by decide +kernel
theorem dX10_tenth_44 : decode cX10_tenth 44 = .ok (.iaload, 1) := by decide +kernel
theorem dX10_tenth_45 : decode cX10_tenth 45 = .ok (.aload_n 0, 1) := by decide +kernel
theorem dX10_tenth_46 : decode cX10_tenth 46 = .ok (.getfield 26, 3) := by decide +kernel
theorem dX10_tenth_49 : decode cX10_tenth 49 = .ok (.bipush 39, 2) := by decide +kernel
theorem dX10_tenth_51 : decode cX10_tenth 51 = .ok (.iload_n 1, 1) := by decide +kernel
theorem dX10_tenth_52 : decode cX10_tenth 52 = .ok (.iadd, 1) := by decide +kernel
theorem dX10_tenth_53 : decode cX10_tenth 53 = .ok (.iaload, 1) := by decide +kernel
theorem dX10_tenth_54 : decode cX10_tenth 54 = .ok (.iadd, 1) := by decide +kernel
theorem dX10_tenth_55 : decode cX10_tenth 55 = .ok (.iastore, 1) := by decide +kernel
theorem dX10_tenth_56 : decode cX10_tenth 56 = .ok (.aload_n 0, 1) := by decide +kernel
theorem dX10_tenth_57 : decode cX10_tenth 57 = .ok (.getfield 26, 3) := by decide +kernel
theorem dX10_tenth_60 : decode cX10_tenth 60 = .ok (.bipush 14, 2) := by decide +kernel
theorem dX10_tenth_62 : decode cX10_tenth 62 = .ok (.iload_n 1, 1) := by decide +kernel
theorem dX10_tenth_63 : decode cX10_tenth 63 = .ok (.iadd, 1) := by decide +kernel
theorem dX10_tenth_64 : decode cX10_tenth 64 = .ok (.iaload, 1) := by decide +kernel
theorem dX10_tenth_65 : decode cX10_tenth 65 = .ok (.aload_n 0, 1) := by decide +kernel
theorem dX10_tenth_66 : decode cX10_tenth 66 = .ok (.getfield 20, 3) := by decide +kernel
theorem dX10_tenth_69 : decode cX10_tenth 69 = .ok (.bipush 61, 2) := by decide +kernel
theorem dX10_tenth_71 : decode cX10_tenth 71 = .ok (.iload_n 1, 1) := by decide +kernel
theorem dX10_tenth_72 : decode cX10_tenth 72 = .ok (.iadd, 1) := by decide +kernel
theorem dX10_tenth_73 : decode cX10_tenth 73 = .ok (.iaload, 1) := by decide +kernel
theorem dX10_tenth_74 : decode cX10_tenth 74 = .ok (.if_icmp .ge 6, 3) := by decide +kernel
theorem dX10_tenth_77 : decode cX10_tenth 77 = .ok (.goto 57, 3) := by decide +kernel
theorem dX10_tenth_80 : decode cX10_tenth 80 = .ok (.aload_n 0, 1) := by decide +kernel
theorem dX10_tenth_81 : decode cX10_tenth 81 = .ok (.getfield 26, 3) := by decide +kernel
theorem dX10_tenth_84 : decode cX10_tenth 84 = .ok (.bipush 14, 2) := by decide +kernel
theorem dX10_tenth_86 : decode cX10_tenth 86 = .ok (.iload_n 1, 1) := by decide +kernel
theorem dX10_tenth_87 : decode cX10_tenth 87 = .ok (.iadd, 1) := by decide +kernel
theorem dX10_tenth_88 : decode cX10_tenth 88 = .ok (.iconst 0, 1) := by decide +kernel
theorem dX10_tenth_89 : decode cX10_tenth 89 = .ok (.iastore, 1) := by decide +kernel
theorem dX10_tenth_90 : decode cX10_tenth 90 = .ok (.aload_n 0, 1) := by decide +kernel
theorem dX10_tenth_91 : decode cX10_tenth 91 = .ok (.getfield 26, 3) := by decide +kernel
theorem dX10_tenth_94 : decode cX10_tenth 94 = .ok (.bipush 9, 2) := by decide +kernel
theorem dX10_tenth_96 : decode cX10_tenth 96 = .ok (.iload_n 1, 1) := by decide +kernel
theorem dX10_tenth_97 : decode cX10_tenth 97 = .ok (.iadd, 1) := by decide +kernel
theorem dX10_tenth_98 : decode cX10_tenth 98 = .ok (.dup2, 1) := by decide +kernel
theorem dX10_tenth_99 : decode cX10_tenth 99 = .ok (.iaload, 1) := by decide +kernel
theorem dX10_tenth_100 : decode cX10_tenth 100 = .ok (.iconst 1, 1) := by decide +kernel
theorem dX10_tenth_101 : decode cX10_tenth 101 = .ok (.iadd, 1) := by decide +kernel
theorem dX10_tenth_102 : decode cX10_tenth 102 = .ok (.iastore, 1) := by decide +kernel
theorem dX10_tenth_103 : decode cX10_tenth 103 = .ok (.aload_n 0, 1) := by decide +kernel
theorem dX10_tenth_104 : decode cX10_tenth 104 = .ok (.getfield 26, 3) := by decide +kernel
theorem dX10_tenth_107 : decode cX10_tenth 107 = .ok (.iconst 2, 1) := by decide +kernel
theorem dX10_tenth_108 : decode cX10_tenth 108 = .ok (.dup2, 1) := by decide +kernel
theorem dX10_tenth_109 : decode cX10_tenth 109 = .ok (.iaload, 1) := by decide +kernel
theorem dX10_tenth_110 : decode cX10_tenth 110 = .ok (.aload_n 0, 1) := by decide +kernel
theorem dX10_tenth_111 : decode cX10_tenth 111 = .ok (.aload_n 0, 1) := by decide +kernel
theorem dX10_tenth_112 : decode cX10_tenth 112 = .ok (.getfield 20, 3) := by decide +kernel
theorem dX10_tenth_115 : decode cX10_tenth 115 = .ok (.bipush 56, 2) := by decide +kernel
theorem dX10_tenth_117 : decode cX10_tenth 117 = .ok (.iload_n 1, 1) := by decide +kernel
theorem dX10_tenth_118 : decode cX10_tenth 118 = .ok (.iadd, 1) := by decide +kernel
theorem dX10_tenth_119 : decode cX10_tenth 119 = .ok (.iaload, 1) := by decide +kernel
theorem dX10_tenth_120 : decode cX10_tenth 120 = .ok (.aload_n 0, 1) := by decide +kernel
theorem dX10_tenth_121 : decode cX10_tenth 121 = .ok (.getfield 26, 3) := by decide +kernel
theorem dX10_tenth_124 : decode cX10_tenth 124 = .ok (.bipush 9, 2) := by decide +kernel
theorem dX10_tenth_126 : decode cX10_tenth 126 = .ok (.iload_n 1, 1) := by decide +kernel
theorem dX10_tenth_127 : decode cX10_tenth 127 = .ok (.iadd, 1) := by decide +kernel
theorem dX10_tenth_128 : decode cX10_tenth 128 = .ok (.iaload, 1) := by decide +kernel
theorem dX10_tenth_129 : decode cX10_tenth 129 = .ok (.invokevirtual 243, 3) := by decide +kernel
theorem dX10_tenth_132 : decode cX10_tenth 132 = .ok (.iadd, 1) := by decide +kernel
theorem dX10_tenth_133 : decode cX10_tenth 133 = .ok (.iastore, 1) := by decide +kernel
theorem dX10_tenth_134 : decode cX10_tenth 134 = .ok (.iinc 1 1, 3) := by decide +kernel
theorem dX10_tenth_137 : decode cX10_tenth 137 = .ok (.goto (-135), 3) := by decide +kernel
theorem dX10_tenth_140 : decode cX10_tenth 140 = .ok (.aload_n 0, 1) := by decide +kernel
theorem dX10_tenth_141 : decode cX10_tenth 141 = .ok (.getfield 26, 3) := by decide +kernel
theorem dX10_tenth_144 : decode cX10_tenth 144 = .ok (.iconst 4, 1) := by decide +kernel
theorem dX10_tenth_145 : decode cX10_tenth 145 = .ok (.dup2, 1) := by decide +kernel
theorem dX10_tenth_146 : decode cX10_tenth 146 = .ok (.iaload, 1) := by decide +kernel
theorem dX10_tenth_147 : decode cX10_tenth 147 = .ok (.iconst 1, 1) := by decide +kernel
theorem dX10_tenth_148 : decode cX10_tenth 148 = .ok (.iadd, 1) := by decide +kernel
theorem dX10_tenth_149 : decode cX10_tenth 149 = .ok (.iastore, 1) := by decide +kernel
theorem dX10_tenth_150 : decode cX10_tenth 150 = .ok (.aload_n 0, 1) := by decide +kernel
theorem dX10_tenth_151 : decode cX10_tenth 151 = .ok (.getfield 26, 3) := by decide +kernel
theorem dX10_tenth_154 : decode cX10_tenth 154 = .ok (.iconst 1, 1) := by decide +kernel
theorem dX10_tenth_155 : decode cX10_tenth 155 = .ok (.dup2, 1) := by decide +kernel
theorem dX10_tenth_156 : decode cX10_tenth 156 = .ok (.iaload, 1) := by decide +kernel
theorem dX10_tenth_157 : decode cX10_tenth 157 = .ok (.iconst 1, 1) := by decide +kernel
theorem dX10_tenth_158 : decode cX10_tenth 158 = .ok (.iadd, 1) := by decide +kernel
theorem dX10_tenth_159 : decode cX10_tenth 159 = .ok (.iastore, 1) := by decide +kernel
theorem dX10_tenth_160 : decode cX10_tenth 160 = .ok (.aload_n 0, 1) := by decide +kernel
theorem dX10_tenth_161 : decode cX10_tenth 161 = .ok (.getfield 20, 3) := by decide +kernel
theorem dX10_tenth_164 : decode cX10_tenth 164 = .ok (.bipush 95, 2) := by decide +kernel
theorem dX10_tenth_166 : decode cX10_tenth 166 = .ok (.iaload, 1) := by decide +kernel
theorem dX10_tenth_167 : decode cX10_tenth 167 = .ok (.iconst 1, 1) := by decide +kernel
theorem dX10_tenth_168 : decode cX10_tenth 168 = .ok (.isub, 1) := by decide +kernel
theorem dX10_tenth_169 : decode cX10_tenth 169 = .ok (.istore_n 1, 1) := by decide +kernel
theorem dX10_tenth_170 : decode cX10_tenth 170 = .ok (.iload_n 1, 1) := by decide +kernel
theorem dX10_tenth_171 : decode cX10_tenth 171 = .ok (.ifCond .lt 34, 3) := by decide +kernel
theorem dX10_tenth_174 : decode cX10_tenth 174 = .ok (.aload_n 0, 1) := by decide +kernel
theorem dX10_tenth_175 : decode cX10_tenth 175 = .ok (.getfield 26, 3) := by decide +kernel
theorem dX10_tenth_178 : decode cX10_tenth 178 = .ok (.bipush 9, 2) := by decide +kernel
theorem dX10_tenth_180 : decode cX10_tenth 180 = .ok (.iload_n 1, 1) := by decide +kernel
theorem dX10_tenth_181 : decode cX10_tenth 181 = .ok (.iadd, 1) := by decide +kernel
theorem dX10_tenth_182 : decode cX10_tenth 182 = .ok (.iaload, 1) := by decide +kernel
theorem dX10_tenth_183 : decode cX10_tenth 183 = .ok (.aload_n 0, 1) := by decide +kernel
theorem dX10_tenth_184 : decode cX10_tenth 184 = .ok (.getfield 20, 3) := by decide +kernel
theorem dX10_tenth_187 : decode cX10_tenth 187 = .ok (.iconst 0, 1) := by decide +kernel
theorem dX10_tenth_188 : decode cX10_tenth 188 = .ok (.iaload, 1) := by decide +kernel
theorem dX10_tenth_189 : decode cX10_tenth 189 = .ok (.if_icmp .ne 10, 3) := by decide +kernel
theorem dX10_tenth_192 : decode cX10_tenth 192 = .ok (.aload_n 0, 1) := by decide +kernel
theorem dX10_tenth_193 : decode cX10_tenth 193 = .ok (.getfield 26, 3) := by decide +kernel
theorem dX10_tenth_196 : decode cX10_tenth 196 = .ok (.iconst 5, 1) := by decide +kernel
theorem dX10_tenth_197 : decode cX10_tenth 197 = .ok (.iload_n 1, 1) := by decide +kernel
theorem dX10_tenth_198 : decode cX10_tenth 198 = .ok (.iastore, 1) := by decide +kernel
theorem dX10_tenth_199 : decode cX10_tenth 199 = .ok (.iinc 1 (-1), 3) := by decide +kernel
theorem dX10_tenth_202 : decode cX10_tenth 202 = .ok (.goto (-32), 3) := by decide +kernel
theorem dX10_tenth_205 : decode cX10_tenth 205 = .ok (.aload_n 0, 1) := by decide +kernel
theorem dX10_tenth_206 : decode cX10_tenth 206 = .ok (.getfield 26, 3) := by decide +kernel
theorem dX10_tenth_209 : decode cX10_tenth 209 = .ok (.iconst 5, 1) := by decide +kernel
theorem dX10_tenth_210 : decode cX10_tenth 210 = .ok (.iaload, 1) := by decide +kernel
theorem dX10_tenth_211 : decode cX10_tenth 211 = .ok (.ifCond .lt 9, 3) := by decide +kernel
theorem dX10_tenth_214 : decode cX10_tenth 214 = .ok (.aload_n 0, 1) := by decide +kernel
theorem dX10_tenth_215 : decode cX10_tenth 215 = .ok (.invokevirtual 246, 3) := by decide +kernel
theorem dX10_tenth_218 : decode cX10_tenth 218 = .ok (.iconst 0, 1) := by decide +kernel
theorem dX10_tenth_219 : decode cX10_tenth 219 = .ok (.ireturn, 1) := by decide +kernel
theorem dX10_tenth_220 : decode cX10_tenth 220 = .ok (.aload_n 0, 1) := by decide +kernel
theorem dX10_tenth_221 : decode cX10_tenth 221 = .ok (.getfield 26, 3) := by decide +kernel
theorem dX10_tenth_224 : decode cX10_tenth 224 = .ok (.iconst 1, 1) := by decide +kernel
theorem dX10_tenth_225 : decode cX10_tenth 225 = .ok (.iaload, 1) := by decide +kernel
theorem dX10_tenth_226 : decode cX10_tenth 226 = .ok (.aload_n 0, 1) := by decide +kernel
theorem dX10_tenth_227 : decode cX10_tenth 227 = .ok (.aload_n 0, 1) := by decide +kernel
theorem dX10_tenth_228 : decode cX10_tenth 228 = .ok (.getfield 26, 3) := by decide +kernel
theorem dX10_tenth_231 : decode cX10_tenth 231 = .ok (.iconst 0, 1) := by decide +kernel
theorem dX10_tenth_232 : decode cX10_tenth 232 = .ok (.iaload, 1) := by decide +kernel
theorem dX10_tenth_233 : decode cX10_tenth 233 = .ok (.invokevirtual 237, 3) := by decide +kernel
theorem dX10_tenth_236 : decode cX10_tenth 236 = .ok (.if_icmp .ge 5, 3) := by decide +kernel
theorem dX10_tenth_239 : decode cX10_tenth 239 = .ok (.iconst 0, 1) := by decide +kernel
theorem dX10_tenth_240 : decode cX10_tenth 240 = .ok (.ireturn, 1) := by decide +kernel
theorem dX10_tenth_241 : decode cX10_tenth 241 = .ok (.aload_n 0, 1) := by decide +kernel
theorem dX10_tenth_242 : decode cX10_tenth 242 = .ok (.getfield 26, 3) := by decide +kernel
theorem dX10_tenth_245 : decode cX10_tenth 245 = .ok (.iconst 0, 1) := by decide +kernel
theorem dX10_tenth_246 : decode cX10_tenth 246 = .ok (.iaload, 1) := by decide +kernel
theorem dX10_tenth_247 : decode cX10_tenth 247 = .ok (.aload_n 0, 1) := by decide +kernel
theorem dX10_tenth_248 : decode cX10_tenth 248 = .ok (.getfield 20, 3) := by decide +kernel
theorem dX10_tenth_251 : decode cX10_tenth 251 = .ok (.bipush 92, 2) := by decide +kernel
theorem dX10_tenth_253 : decode cX10_tenth 253 = .ok (.iaload, 1) := by decide +kernel
theorem dX10_tenth_254 : decode cX10_tenth 254 = .ok (.iconst 1, 1) := by decide +kernel
theorem dX10_tenth_255 : decode cX10_tenth 255 = .ok (.isub, 1) := by decide +kernel
theorem dX10_tenth_256 : decode cX10_tenth 256 = .ok (.if_icmp .ne 7, 3) := by decide +kernel
theorem dX10_tenth_259 : decode cX10_tenth 259 = .ok (.iconst 1, 1) := by decide +kernel
theorem dX10_tenth_260 : decode cX10_tenth 260 = .ok (.goto 4, 3) := by decide +kernel
theorem dX10_tenth_263 : decode cX10_tenth 263 = .ok (.iconst 0, 1) := by decide +kernel
theorem dX10_tenth_264 : decode cX10_tenth 264 = .ok (.istore_n 1, 1) := by decide +kernel
theorem dX10_tenth_265 : decode cX10_tenth 265 = .ok (.iload_n 1, 1) := by decide +kernel
theorem dX10_tenth_266 : decode cX10_tenth 266 = .ok (.ifCond .ne 39, 3) := by decide +kernel
theorem dX10_tenth_269 : decode cX10_tenth 269 = .ok (.aload_n 0, 1) := by decide +kernel
theorem dX10_tenth_270 : decode cX10_tenth 270 = .ok (.invokevirtual 249, 3) := by decide +kernel
theorem dX10_tenth_273 : decode cX10_tenth 273 = .ok (.aload_n 0, 1) := by decide +kernel
theorem dX10_tenth_274 : decode cX10_tenth 274 = .ok (.getfield 20, 3) := by decide +kernel
theorem dX10_tenth_277 : decode cX10_tenth 277 = .ok (.bipush 6, 2) := by decide +kernel
theorem dX10_tenth_279 : decode cX10_tenth 279 = .ok (.iload_n 1, 1) := by decide +kernel
theorem dX10_tenth_280 : decode cX10_tenth 280 = .ok (.ifCond .eq 7, 3) := by decide +kernel
theorem dX10_tenth_283 : decode cX10_tenth 283 = .ok (.iconst 0, 1) := by decide +kernel
theorem dX10_tenth_284 : decode cX10_tenth 284 = .ok (.goto 9, 3) := by decide +kernel
theorem dX10_tenth_287 : decode cX10_tenth 287 = .ok (.aload_n 0, 1) := by decide +kernel
theorem dX10_tenth_288 : decode cX10_tenth 288 = .ok (.getfield 26, 3) := by decide +kernel
theorem dX10_tenth_291 : decode cX10_tenth 291 = .ok (.iconst 0, 1) := by decide +kernel
theorem dX10_tenth_292 : decode cX10_tenth 292 = .ok (.iaload, 1) := by decide +kernel
theorem dX10_tenth_293 : decode cX10_tenth 293 = .ok (.iadd, 1) := by decide +kernel
theorem dX10_tenth_294 : decode cX10_tenth 294 = .ok (.iaload, 1) := by decide +kernel
theorem dX10_tenth_295 : decode cX10_tenth 295 = .ok (.aload_n 0, 1) := by decide +kernel
theorem dX10_tenth_296 : decode cX10_tenth 296 = .ok (.getfield 26, 3) := by decide +kernel
theorem dX10_tenth_299 : decode cX10_tenth 299 = .ok (.iconst 2, 1) := by decide +kernel
theorem dX10_tenth_300 : decode cX10_tenth 300 = .ok (.iaload, 1) := by decide +kernel
theorem dX10_tenth_301 : decode cX10_tenth 301 = .ok (.iadd, 1) := by decide +kernel
theorem dX10_tenth_302 : decode cX10_tenth 302 = .ok (.if_icmp .ge 7, 3) := by decide +kernel
theorem dX10_tenth_305 : decode cX10_tenth 305 = .ok (.iconst 1, 1) := by decide +kernel
theorem dX10_tenth_306 : decode cX10_tenth 306 = .ok (.goto 4, 3) := by decide +kernel
theorem dX10_tenth_309 : decode cX10_tenth 309 = .ok (.iconst 0, 1) := by decide +kernel
theorem dX10_tenth_310 : decode cX10_tenth 310 = .ok (.istore_n 2, 1) := by decide +kernel
theorem dX10_tenth_311 : decode cX10_tenth 311 = .ok (.aload_n 0, 1) := by decide +kernel
theorem dX10_tenth_312 : decode cX10_tenth 312 = .ok (.getfield 26, 3) := by decide +kernel
theorem dX10_tenth_315 : decode cX10_tenth 315 = .ok (.iconst 0, 1) := by decide +kernel
theorem dX10_tenth_316 : decode cX10_tenth 316 = .ok (.dup2, 1) := by decide +kernel
theorem dX10_tenth_317 : decode cX10_tenth 317 = .ok (.iaload, 1) := by decide +kernel
theorem dX10_tenth_318 : decode cX10_tenth 318 = .ok (.iconst 1, 1) := by decide +kernel
theorem dX10_tenth_319 : decode cX10_tenth 319 = .ok (.iadd, 1) := by decide +kernel
theorem dX10_tenth_320 : decode cX10_tenth 320 = .ok (.iastore, 1) := by decide +kernel
theorem dX10_tenth_321 : decode cX10_tenth 321 = .ok (.aload_n 0, 1) := by decide +kernel
theorem dX10_tenth_322 : decode cX10_tenth 322 = .ok (.getfield 26, 3) := by decide +kernel
theorem dX10_tenth_325 : decode cX10_tenth 325 = .ok (.iconst 1, 1) := by decide +kernel
theorem dX10_tenth_326 : decode cX10_tenth 326 = .ok (.iconst 0, 1) := by decide +kernel
theorem dX10_tenth_327 : decode cX10_tenth 327 = .ok (.iastore, 1) := by decide +kernel
theorem dX10_tenth_328 : decode cX10_tenth 328 = .ok (.iload_n 2, 1) := by decide +kernel
theorem dX10_tenth_329 : decode cX10_tenth 329 = .ok (.ifCond .eq 7, 3) := by decide +kernel
theorem dX10_tenth_332 : decode cX10_tenth 332 = .ok (.aload_n 0, 1) := by decide +kernel
theorem dX10_tenth_333 : decode cX10_tenth 333 = .ok (.invokevirtual 252, 3) := by decide +kernel
theorem dX10_tenth_336 : decode cX10_tenth 336 = .ok (.iload_n 2, 1) := by decide +kernel
theorem dX10_tenth_337 : decode cX10_tenth 337 = .ok (.ireturn, 1) := by decide +kernel
def lp_X10_tenth_2  (k140 : Mm → Option (Int32 × Mm)) : Nat → Int32 → Mm → Option (Int32 × Mm)
  | 0, _, _ => none
  | n + 1, y1, M =>
    if (M 84 95) ≤ y1 then (k140  M) else (bd (f_X10_goesNow y1 M) fun v23_2 M23_1 => jn (fun (s3 : Int32) (M4 : Mm) => gd (inb ((nI 39) + y1) 44) <| gd (inb ((nI 14) + y1) 44) <| gd (inb ((nI 39) + y1) 44) <| gd (inb ((nI 14) + y1) 44) <| gd (inb ((nI 14) + y1) 44) <| gd (inb ((nI 61) + y1) 141) <| jn (fun (M6 : Mm) => lp_X10_tenth_2 k140 n (y1 + (nI 1)) M6) fun j7 => if ((mset (mset M4 86 ((nI 39) + y1).toNatClampNeg s3) 86 ((nI 14) + y1).toNatClampNeg (((mset M4 86 ((nI 39) + y1).toNatClampNeg s3) 86 ((nI 14) + y1).toNatClampNeg) + ((mset M4 86 ((nI 39) + y1).toNatClampNeg s3) 86 ((nI 39) + y1).toNatClampNeg))) 84 ((nI 61) + y1).toNatClampNeg) ≤ ((mset (mset M4 86 ((nI 39) + y1).toNatClampNeg s3) 86 ((nI 14) + y1).toNatClampNeg (((mset M4 86 ((nI 39) + y1).toNatClampNeg s3) 86 ((nI 14) + y1).toNatClampNeg) + ((mset M4 86 ((nI 39) + y1).toNatClampNeg s3) 86 ((nI 39) + y1).toNatClampNeg))) 86 ((nI 14) + y1).toNatClampNeg) then (gd (inb ((nI 14) + y1) 44) <| gd (inb ((nI 9) + y1) 44) <| gd (inb ((nI 9) + y1) 44) <| gd (inb ((nI 56) + y1) 141) <| gd (inb ((nI 9) + y1) 44) <| bd (f_X10_loudest ((mset (mset (mset (mset M4 86 ((nI 39) + y1).toNatClampNeg s3) 86 ((nI 14) + y1).toNatClampNeg (((mset M4 86 ((nI 39) + y1).toNatClampNeg s3) 86 ((nI 14) + y1).toNatClampNeg) + ((mset M4 86 ((nI 39) + y1).toNatClampNeg s3) 86 ((nI 39) + y1).toNatClampNeg))) 86 ((nI 14) + y1).toNatClampNeg (nI 0)) 86 ((nI 9) + y1).toNatClampNeg (((mset (mset (mset M4 86 ((nI 39) + y1).toNatClampNeg s3) 86 ((nI 14) + y1).toNatClampNeg (((mset M4 86 ((nI 39) + y1).toNatClampNeg s3) 86 ((nI 14) + y1).toNatClampNeg) + ((mset M4 86 ((nI 39) + y1).toNatClampNeg s3) 86 ((nI 39) + y1).toNatClampNeg))) 86 ((nI 14) + y1).toNatClampNeg (nI 0)) 86 ((nI 9) + y1).toNatClampNeg) + (nI 1))) 84 ((nI 56) + y1).toNatClampNeg) ((mset (mset (mset (mset M4 86 ((nI 39) + y1).toNatClampNeg s3) 86 ((nI 14) + y1).toNatClampNeg (((mset M4 86 ((nI 39) + y1).toNatClampNeg s3) 86 ((nI 14) + y1).toNatClampNeg) + ((mset M4 86 ((nI 39) + y1).toNatClampNeg s3) 86 ((nI 39) + y1).toNatClampNeg))) 86 ((nI 14) + y1).toNatClampNeg (nI 0)) 86 ((nI 9) + y1).toNatClampNeg (((mset (mset (mset M4 86 ((nI 39) + y1).toNatClampNeg s3) 86 ((nI 14) + y1).toNatClampNeg (((mset M4 86 ((nI 39) + y1).toNatClampNeg s3) 86 ((nI 14) + y1).toNatClampNeg) + ((mset M4 86 ((nI 39) + y1).toNatClampNeg s3) 86 ((nI 39) + y1).toNatClampNeg))) 86 ((nI 14) + y1).toNatClampNeg (nI 0)) 86 ((nI 9) + y1).toNatClampNeg) + (nI 1))) 86 ((nI 9) + y1).toNatClampNeg) (mset (mset (mset (mset M4 86 ((nI 39) + y1).toNatClampNeg s3) 86 ((nI 14) + y1).toNatClampNeg (((mset M4 86 ((nI 39) + y1).toNatClampNeg s3) 86 ((nI 14) + y1).toNatClampNeg) + ((mset M4 86 ((nI 39) + y1).toNatClampNeg s3) 86 ((nI 39) + y1).toNatClampNeg))) 86 ((nI 14) + y1).toNatClampNeg (nI 0)) 86 ((nI 9) + y1).toNatClampNeg (((mset (mset (mset M4 86 ((nI 39) + y1).toNatClampNeg s3) 86 ((nI 14) + y1).toNatClampNeg (((mset M4 86 ((nI 39) + y1).toNatClampNeg s3) 86 ((nI 14) + y1).toNatClampNeg) + ((mset M4 86 ((nI 39) + y1).toNatClampNeg s3) 86 ((nI 39) + y1).toNatClampNeg))) 86 ((nI 14) + y1).toNatClampNeg (nI 0)) 86 ((nI 9) + y1).toNatClampNeg) + (nI 1)))) fun v129_9 M129_8 => j7  (mset M129_8 86 2 (((mset (mset (mset (mset M4 86 ((nI 39) + y1).toNatClampNeg s3) 86 ((nI 14) + y1).toNatClampNeg (((mset M4 86 ((nI 39) + y1).toNatClampNeg s3) 86 ((nI 14) + y1).toNatClampNeg) + ((mset M4 86 ((nI 39) + y1).toNatClampNeg s3) 86 ((nI 39) + y1).toNatClampNeg))) 86 ((nI 14) + y1).toNatClampNeg (nI 0)) 86 ((nI 9) + y1).toNatClampNeg (((mset (mset (mset M4 86 ((nI 39) + y1).toNatClampNeg s3) 86 ((nI 14) + y1).toNatClampNeg (((mset M4 86 ((nI 39) + y1).toNatClampNeg s3) 86 ((nI 14) + y1).toNatClampNeg) + ((mset M4 86 ((nI 39) + y1).toNatClampNeg s3) 86 ((nI 39) + y1).toNatClampNeg))) 86 ((nI 14) + y1).toNatClampNeg (nI 0)) 86 ((nI 9) + y1).toNatClampNeg) + (nI 1))) 86 2) + v129_9))) else (j7  (mset (mset M4 86 ((nI 39) + y1).toNatClampNeg s3) 86 ((nI 14) + y1).toNatClampNeg (((mset M4 86 ((nI 39) + y1).toNatClampNeg s3) 86 ((nI 14) + y1).toNatClampNeg) + ((mset M4 86 ((nI 39) + y1).toNatClampNeg s3) 86 ((nI 39) + y1).toNatClampNeg))))) fun j5 => if v23_2 = 0 then (j5 (nI 0) M23_1) else (j5 (nI 1) M23_1))
def lp_X10_tenth_170  (k205 : Mm → Option (Int32 × Mm)) : Nat → Int32 → Mm → Option (Int32 × Mm)
  | 0, _, _ => none
  | n + 1, y1, M =>
    if y1 < 0 then (k205  M) else (gd (inb ((nI 9) + y1) 44) <| jn (fun (M15 : Mm) => lp_X10_tenth_170 k205 n (y1 + (-1 : Int32)) M15) fun j16 => if (M 86 ((nI 9) + y1).toNatClampNeg) = (M 84 0) then (j16  (mset M 86 5 y1)) else (j16  M))
def f_X10_tenth  (M : Mm) : Option (Int32 × Mm) :=
  lp_X10_tenth_2  (fun  (M13 : Mm) => lt ((((mset (mset M13 86 4 ((M13 86 4) + (nI 1))) 86 1 (((mset M13 86 4 ((M13 86 4) + (nI 1))) 86 1) + (nI 1))) 84 95) - (nI 1))) fun t14 => lp_X10_tenth_170  (fun  (M19 : Mm) => if (M19 86 5) < 0 then (bd (f_X10_tenthsOf (M19 86 0) M19) fun v233_21 M233_20 => if v233_21 ≤ (M19 86 1) then (jn (fun (s22 : Int32) (M23 : Mm) => jn (fun (s25 : Int32) (M26 : Mm) => if s25 = 0 then (gd (zo s25) <| some (s25, (mset (mset M26 86 0 ((M26 86 0) + (nI 1))) 86 1 (nI 0)))) else (bv (f_X10_look  (mset (mset M26 86 0 ((M26 86 0) + (nI 1))) 86 1 (nI 0))) fun M333_28 => gd (zo s25) <| some (s25, M333_28))) fun j27 => jn (fun (M31 : Mm) => j27 (nI 1) M31) fun j32 => if s22 = 0 then (bd (f_X10_draw  M23) fun v270_34 M270_33 => jn (fun (s35 : Int32) (M36 : Mm) => gd (inb ((nI 6) + s35) 141) <| if ((M36 84 ((nI 6) + s35).toNatClampNeg) + (M36 86 2)) ≤ v270_34 then (j27 (nI 0) M36) else (j32  M36)) fun j37 => if s22 = 0 then (j37 (M270_33 86 0) M270_33) else (j37 (nI 0) M270_33)) else (j32  M23)) fun j24 => if (M233_20 86 0) = ((M233_20 84 92) - (nI 1)) then (j24 (nI 1) M233_20) else (j24 (nI 0) M233_20)) else (some ((nI 0), M233_20))) else (bv (f_X10_run  M19) fun M215_43 => some ((nI 0), M215_43))) N0 t14 (mset (mset M13 86 4 ((M13 86 4) + (nI 1))) 86 1 (((mset M13 86 4 ((M13 86 4) + (nI 1))) 86 1) + (nI 1)))) N0 (nI 0) M
set_option maxHeartbeats 4000000 in
set_option maxRecDepth 100000 in
theorem sl_X10_tenth_2 {l : Launch} {B : BT} (hA : bA B = false) {d : Nat} {r : Int32} {M' : Mm}   {k140 : Mm → Option (Int32 × Mm)} (hk140 : ∀  (M9 : Mm), k140  M9 = some (r, M') → GG l B LY (d + 3) yX10_tenth cX10_tenth 3 (some .boolean) 0 0 (PI r M') 97 0 0 140 [(0, .ref 81)] [] M9) :
    ∀ (n : Nat) (y1 : Int32) (M : Mm), lp_X10_tenth_2 k140 n y1 M = some (r, M') → GG l B LY (d + 3) yX10_tenth cX10_tenth 3 (some .boolean) 0 0 (PI r M') 97 0 0 2 [(0, .ref 81), (1, .int y1)] [] M := by
  intro n
  induction n with
  | zero => intro y1 M h; cases h
  | succ n ih =>
    intro y1 M h
    rw [lp_X10_tenth_2] at h
    refine g_iload_n dX10_tenth_2 rfl 1 rfl ?_
    refine g_aload_n dX10_tenth_3 rfl 0 rfl ?_
    refine m_getr (k := 15) okX10 rfl rfl (by decide) w_1284 rfl dX10_tenth_4 ?_
    refine g_bipush (v := (nI 95)) dX10_tenth_7 (by decide) ?_
    refine m_ialdL (k := 95) rfl rfl (by decide) dX10_tenth_9 ?_
    refine g_icmp_ge (tgt := 140) dX10_tenth_10 (by decide) (fun c12 => ?_) (fun c12 => ?_)
    · replace h := ite_p c12 h
      refine g_sub [0] (lv' := [(0, .ref 81)]) rfl ?_
      exact hk140  _ h
    · replace h := ite_n c12 h
      refine g_aload_n dX10_tenth_13 rfl 0 rfl ?_
      refine m_getr (k := 17) okX10 rfl rfl (by decide) w_1286 rfl dX10_tenth_14 ?_
      refine g_bipush (v := (nI 39)) dX10_tenth_17 (by decide) ?_
      refine g_iload_n dX10_tenth_19 rfl 1 rfl ?_
      refine g_iadd dX10_tenth_20 ?_
      refine g_aload_n dX10_tenth_21 rfl 0 rfl ?_
      refine g_iload_n dX10_tenth_22 rfl 1 rfl ?_
      obtain ⟨v23_2, M23_1, eM23_1, h⟩ := bd_e h
      refine m_callVi (As := [.int y1]) (st := [.int ((nI 39) + y1), .ref 86]) (s_X10_goesNow (d := d + 1) hA  eM23_1) rfl okX10 ck_X10_goesNow w_1520 rfl (Nat.le_of_ble_eq_true rfl) dX10_tenth_23 ?_
      obtain ⟨j5, ej5, h⟩ := jn_e h
      have hj5 : ∀ (s3 : Int32) (M4 : Mm), j5 s3 M4 = some (r, M') → GG l B LY (d + 3) yX10_tenth cX10_tenth 3 (some .boolean) 0 0 (PI r M') 97 0 0 34 [(0, .ref 81), (1, .int y1)] [.int s3, .int ((nI 39) + y1), .ref 86] M4 := by
        intro s3 M4 h
        rw [ej5] at h
        obtain ⟨hz, h⟩ := gd_s h
        refine m_iast hA rfl hz dX10_tenth_34 ?_
        refine g_aload_n dX10_tenth_35 rfl 0 rfl ?_
        refine m_getr (k := 17) okX10 rfl rfl (by decide) w_1286 rfl dX10_tenth_36 ?_
        refine g_bipush (v := (nI 14)) dX10_tenth_39 (by decide) ?_
        refine g_iload_n dX10_tenth_41 rfl 1 rfl ?_
        refine g_iadd dX10_tenth_42 ?_
        refine g_dup2 dX10_tenth_43 rfl rfl ?_
        obtain ⟨hz, h⟩ := gd_s h
        refine m_iald rfl hz dX10_tenth_44 ?_
        refine g_aload_n dX10_tenth_45 rfl 0 rfl ?_
        refine m_getr (k := 17) okX10 rfl rfl (by decide) w_1286 rfl dX10_tenth_46 ?_
        refine g_bipush (v := (nI 39)) dX10_tenth_49 (by decide) ?_
        refine g_iload_n dX10_tenth_51 rfl 1 rfl ?_
        refine g_iadd dX10_tenth_52 ?_
        obtain ⟨hz, h⟩ := gd_s h
        refine m_iald rfl hz dX10_tenth_53 ?_
        refine g_iadd dX10_tenth_54 ?_
        obtain ⟨hz, h⟩ := gd_s h
        refine m_iast hA rfl hz dX10_tenth_55 ?_
        refine g_aload_n dX10_tenth_56 rfl 0 rfl ?_
        refine m_getr (k := 17) okX10 rfl rfl (by decide) w_1286 rfl dX10_tenth_57 ?_
        refine g_bipush (v := (nI 14)) dX10_tenth_60 (by decide) ?_
        refine g_iload_n dX10_tenth_62 rfl 1 rfl ?_
        refine g_iadd dX10_tenth_63 ?_
        obtain ⟨hz, h⟩ := gd_s h
        refine m_iald rfl hz dX10_tenth_64 ?_
        refine g_aload_n dX10_tenth_65 rfl 0 rfl ?_
        refine m_getr (k := 15) okX10 rfl rfl (by decide) w_1284 rfl dX10_tenth_66 ?_
        refine g_bipush (v := (nI 61)) dX10_tenth_69 (by decide) ?_
        refine g_iload_n dX10_tenth_71 rfl 1 rfl ?_
        refine g_iadd dX10_tenth_72 ?_
        obtain ⟨hz, h⟩ := gd_s h
        refine m_iald rfl hz dX10_tenth_73 ?_
        obtain ⟨j7, ej7, h⟩ := jn_e h
        have hj7 : ∀ (M6 : Mm), j7 M6 = some (r, M') → GG l B LY (d + 3) yX10_tenth cX10_tenth 3 (some .boolean) 0 0 (PI r M') 97 0 0 134 [(0, .ref 81), (1, .int y1)] [] M6 := by
          intro M6 h
          rw [ej7] at h
          refine g_iinc (v := (y1 + (nI 1))) (lv' := [(1, .int (y1 + (nI 1))), (0, .ref 81)]) dX10_tenth_134 1 rfl rfl (by decide) rfl ?_
          refine g_goto (tgt := 2) dX10_tenth_137 (by decide) ?_
          refine g_sub [1, 0] (lv' := [(0, .ref 81), (1, .int (y1 + (nI 1)))]) rfl ?_
          exact ih _  _ h
        refine g_icmp_ge (tgt := 80) dX10_tenth_74 (by decide) (fun c10 => ?_) (fun c10 => ?_)
        · replace h := ite_p c10 h
          refine g_aload_n dX10_tenth_80 rfl 0 rfl ?_
          refine m_getr (k := 17) okX10 rfl rfl (by decide) w_1286 rfl dX10_tenth_81 ?_
          refine g_bipush (v := (nI 14)) dX10_tenth_84 (by decide) ?_
          refine g_iload_n dX10_tenth_86 rfl 1 rfl ?_
          refine g_iadd dX10_tenth_87 ?_
          refine g_iconst (v := (nI 0)) dX10_tenth_88 (by decide) ?_
          obtain ⟨hz, h⟩ := gd_s h
          refine m_iast hA rfl hz dX10_tenth_89 ?_
          refine g_aload_n dX10_tenth_90 rfl 0 rfl ?_
          refine m_getr (k := 17) okX10 rfl rfl (by decide) w_1286 rfl dX10_tenth_91 ?_
          refine g_bipush (v := (nI 9)) dX10_tenth_94 (by decide) ?_
          refine g_iload_n dX10_tenth_96 rfl 1 rfl ?_
          refine g_iadd dX10_tenth_97 ?_
          refine g_dup2 dX10_tenth_98 rfl rfl ?_
          obtain ⟨hz, h⟩ := gd_s h
          refine m_iald rfl hz dX10_tenth_99 ?_
          refine g_iconst (v := (nI 1)) dX10_tenth_100 (by decide) ?_
          refine g_iadd dX10_tenth_101 ?_
          obtain ⟨hz, h⟩ := gd_s h
          refine m_iast hA rfl hz dX10_tenth_102 ?_
          refine g_aload_n dX10_tenth_103 rfl 0 rfl ?_
          refine m_getr (k := 17) okX10 rfl rfl (by decide) w_1286 rfl dX10_tenth_104 ?_
          refine g_iconst (v := (nI 2)) dX10_tenth_107 (by decide) ?_
          refine g_dup2 dX10_tenth_108 rfl rfl ?_
          refine m_ialdL (k := 2) rfl rfl (by decide) dX10_tenth_109 ?_
          refine g_aload_n dX10_tenth_110 rfl 0 rfl ?_
          refine g_aload_n dX10_tenth_111 rfl 0 rfl ?_
          refine m_getr (k := 15) okX10 rfl rfl (by decide) w_1284 rfl dX10_tenth_112 ?_
          refine g_bipush (v := (nI 56)) dX10_tenth_115 (by decide) ?_
          refine g_iload_n dX10_tenth_117 rfl 1 rfl ?_
          refine g_iadd dX10_tenth_118 ?_
          obtain ⟨hz, h⟩ := gd_s h
          refine m_iald rfl hz dX10_tenth_119 ?_
          refine g_aload_n dX10_tenth_120 rfl 0 rfl ?_
          refine m_getr (k := 17) okX10 rfl rfl (by decide) w_1286 rfl dX10_tenth_121 ?_
          refine g_bipush (v := (nI 9)) dX10_tenth_124 (by decide) ?_
          refine g_iload_n dX10_tenth_126 rfl 1 rfl ?_
          refine g_iadd dX10_tenth_127 ?_
          obtain ⟨hz, h⟩ := gd_s h
          refine m_iald rfl hz dX10_tenth_128 ?_
          obtain ⟨v129_9, M129_8, eM129_8, h⟩ := bd_e h
          refine m_callVi (As := [.int ((mset (mset (mset (mset M4 86 ((nI 39) + y1).toNatClampNeg s3) 86 ((nI 14) + y1).toNatClampNeg (((mset M4 86 ((nI 39) + y1).toNatClampNeg s3) 86 ((nI 14) + y1).toNatClampNeg) + ((mset M4 86 ((nI 39) + y1).toNatClampNeg s3) 86 ((nI 39) + y1).toNatClampNeg))) 86 ((nI 14) + y1).toNatClampNeg (nI 0)) 86 ((nI 9) + y1).toNatClampNeg (((mset (mset (mset M4 86 ((nI 39) + y1).toNatClampNeg s3) 86 ((nI 14) + y1).toNatClampNeg (((mset M4 86 ((nI 39) + y1).toNatClampNeg s3) 86 ((nI 14) + y1).toNatClampNeg) + ((mset M4 86 ((nI 39) + y1).toNatClampNeg s3) 86 ((nI 39) + y1).toNatClampNeg))) 86 ((nI 14) + y1).toNatClampNeg (nI 0)) 86 ((nI 9) + y1).toNatClampNeg) + (nI 1))) 84 ((nI 56) + y1).toNatClampNeg), .int ((mset (mset (mset (mset M4 86 ((nI 39) + y1).toNatClampNeg s3) 86 ((nI 14) + y1).toNatClampNeg (((mset M4 86 ((nI 39) + y1).toNatClampNeg s3) 86 ((nI 14) + y1).toNatClampNeg) + ((mset M4 86 ((nI 39) + y1).toNatClampNeg s3) 86 ((nI 39) + y1).toNatClampNeg))) 86 ((nI 14) + y1).toNatClampNeg (nI 0)) 86 ((nI 9) + y1).toNatClampNeg (((mset (mset (mset M4 86 ((nI 39) + y1).toNatClampNeg s3) 86 ((nI 14) + y1).toNatClampNeg (((mset M4 86 ((nI 39) + y1).toNatClampNeg s3) 86 ((nI 14) + y1).toNatClampNeg) + ((mset M4 86 ((nI 39) + y1).toNatClampNeg s3) 86 ((nI 39) + y1).toNatClampNeg))) 86 ((nI 14) + y1).toNatClampNeg (nI 0)) 86 ((nI 9) + y1).toNatClampNeg) + (nI 1))) 86 ((nI 9) + y1).toNatClampNeg)]) (st := [.int ((mset (mset (mset (mset M4 86 ((nI 39) + y1).toNatClampNeg s3) 86 ((nI 14) + y1).toNatClampNeg (((mset M4 86 ((nI 39) + y1).toNatClampNeg s3) 86 ((nI 14) + y1).toNatClampNeg) + ((mset M4 86 ((nI 39) + y1).toNatClampNeg s3) 86 ((nI 39) + y1).toNatClampNeg))) 86 ((nI 14) + y1).toNatClampNeg (nI 0)) 86 ((nI 9) + y1).toNatClampNeg (((mset (mset (mset M4 86 ((nI 39) + y1).toNatClampNeg s3) 86 ((nI 14) + y1).toNatClampNeg (((mset M4 86 ((nI 39) + y1).toNatClampNeg s3) 86 ((nI 14) + y1).toNatClampNeg) + ((mset M4 86 ((nI 39) + y1).toNatClampNeg s3) 86 ((nI 39) + y1).toNatClampNeg))) 86 ((nI 14) + y1).toNatClampNeg (nI 0)) 86 ((nI 9) + y1).toNatClampNeg) + (nI 1))) 86 2), .int (nI 2), .ref 86]) (s_X10_loudest (d := d + 1) hA  eM129_8) rfl okX10 ck_X10_loudest w_1528 rfl (Nat.le_of_ble_eq_true rfl) dX10_tenth_129 ?_
          refine g_iadd dX10_tenth_132 ?_
          refine m_iastL (k := 2) hA rfl rfl (by decide) dX10_tenth_133 ?_
          refine g_sub [0, 1] (lv' := [(0, .ref 81), (1, .int y1)]) rfl ?_
          exact hj7  _ h
        · replace h := ite_n c10 h
          refine g_goto (tgt := 134) dX10_tenth_77 (by decide) ?_
          refine g_sub [0, 1] (lv' := [(0, .ref 81), (1, .int y1)]) rfl ?_
          exact hj7  _ h
      refine g_if_eq (tgt := 33) dX10_tenth_26 (by decide) (fun c11 => ?_) (fun c11 => ?_)
      · replace h := ite_p c11 h
        refine g_iconst (v := (nI 0)) dX10_tenth_33 (by decide) ?_
        refine g_sub [0, 1] (lv' := [(0, .ref 81), (1, .int y1)]) rfl ?_
        exact hj5 _ _ h
      · replace h := ite_n c11 h
        refine g_iconst (v := (nI 1)) dX10_tenth_29 (by decide) ?_
        refine g_goto (tgt := 34) dX10_tenth_30 (by decide) ?_
        refine g_sub [0, 1] (lv' := [(0, .ref 81), (1, .int y1)]) rfl ?_
        exact hj5 _ _ h
set_option maxHeartbeats 4000000 in
set_option maxRecDepth 100000 in
theorem sl_X10_tenth_170 {l : Launch} {B : BT} (hA : bA B = false) {d : Nat} {r : Int32} {M' : Mm}   {k205 : Mm → Option (Int32 × Mm)} (hk205 : ∀  (M9 : Mm), k205  M9 = some (r, M') → GG l B LY (d + 3) yX10_tenth cX10_tenth 3 (some .boolean) 0 0 (PI r M') 97 0 0 205 [(0, .ref 81)] [] M9) :
    ∀ (n : Nat) (y1 : Int32) (M : Mm), lp_X10_tenth_170 k205 n y1 M = some (r, M') → GG l B LY (d + 3) yX10_tenth cX10_tenth 3 (some .boolean) 0 0 (PI r M') 97 0 0 170 [(0, .ref 81), (1, .int y1)] [] M := by
  intro n
  induction n with
  | zero => intro y1 M h; cases h
  | succ n ih =>
    intro y1 M h
    rw [lp_X10_tenth_170] at h
    refine g_iload_n dX10_tenth_170 rfl 1 rfl ?_
    refine g_if_lt (tgt := 205) dX10_tenth_171 (by decide) (fun c18 => ?_) (fun c18 => ?_)
    · replace h := ite_p c18 h
      refine g_sub [0] (lv' := [(0, .ref 81)]) rfl ?_
      exact hk205  _ h
    · replace h := ite_n c18 h
      refine g_aload_n dX10_tenth_174 rfl 0 rfl ?_
      refine m_getr (k := 17) okX10 rfl rfl (by decide) w_1286 rfl dX10_tenth_175 ?_
      refine g_bipush (v := (nI 9)) dX10_tenth_178 (by decide) ?_
      refine g_iload_n dX10_tenth_180 rfl 1 rfl ?_
      refine g_iadd dX10_tenth_181 ?_
      obtain ⟨hz, h⟩ := gd_s h
      refine m_iald rfl hz dX10_tenth_182 ?_
      refine g_aload_n dX10_tenth_183 rfl 0 rfl ?_
      refine m_getr (k := 15) okX10 rfl rfl (by decide) w_1284 rfl dX10_tenth_184 ?_
      refine g_iconst (v := (nI 0)) dX10_tenth_187 (by decide) ?_
      refine m_ialdL (k := 0) rfl rfl (by decide) dX10_tenth_188 ?_
      obtain ⟨j16, ej16, h⟩ := jn_e h
      have hj16 : ∀ (M15 : Mm), j16 M15 = some (r, M') → GG l B LY (d + 3) yX10_tenth cX10_tenth 3 (some .boolean) 0 0 (PI r M') 97 0 0 199 [(0, .ref 81), (1, .int y1)] [] M15 := by
        intro M15 h
        rw [ej16] at h
        refine g_iinc (v := (y1 + (-1 : Int32))) (lv' := [(1, .int (y1 + (-1 : Int32))), (0, .ref 81)]) dX10_tenth_199 1 rfl rfl (by decide) rfl ?_
        refine g_goto (tgt := 170) dX10_tenth_202 (by decide) ?_
        refine g_sub [1, 0] (lv' := [(0, .ref 81), (1, .int (y1 + (-1 : Int32)))]) rfl ?_
        exact ih _  _ h
      refine g_icmp_ne (tgt := 199) dX10_tenth_189 (by decide) (fun c17 => ?_) (fun c17 => ?_)
      · replace h := ite_n c17 h
        refine g_sub [0, 1] (lv' := [(0, .ref 81), (1, .int y1)]) rfl ?_
        exact hj16  _ h
      · replace h := ite_p c17 h
        refine g_aload_n dX10_tenth_192 rfl 0 rfl ?_
        refine m_getr (k := 17) okX10 rfl rfl (by decide) w_1286 rfl dX10_tenth_193 ?_
        refine g_iconst (v := (nI 5)) dX10_tenth_196 (by decide) ?_
        refine g_iload_n dX10_tenth_197 rfl 1 rfl ?_
        refine m_iastL (k := 5) hA rfl rfl (by decide) dX10_tenth_198 ?_
        refine g_sub [0, 1] (lv' := [(0, .ref 81), (1, .int y1)]) rfl ?_
        exact hj16  _ h
set_option maxHeartbeats 4000000 in
set_option maxRecDepth 100000 in
theorem s_X10_tenth {l : Launch} {B : BT} (hA : bA B = false) {d : Nat} {r : Int32} {M' : Mm}  {M : Mm}  (h : f_X10_tenth  M = some (r, M')) : Con l B LY (d + 3) yX10_tenth cX10_tenth 3 (some .boolean) 0 0 [.ref 81] 97 M (PI r M') := by
  refine con_of (by decide) (Nat.le_of_ble_eq_true rfl) ?_
  show GG l B LY (d + 3) yX10_tenth cX10_tenth 3 (some .boolean) 0 0 (PI r M') 97 0 0 0 [(0, .ref 81)] [] M
  rw [f_X10_tenth] at h
  refine g_iconst (v := (nI 0)) dX10_tenth_0 (by decide) ?_
  refine g_istore_n (lv' := [(1, .int (nI 0)), (0, .ref 81)]) dX10_tenth_1 rfl (by decide) rfl ?_
  refine g_sub [1, 0] (lv' := [(0, .ref 81), (1, .int (nI 0))]) rfl ?_
  refine sl_X10_tenth_2 hA  ?_ _ _ _ h
  · intro  M13 h
    refine g_aload_n dX10_tenth_140 rfl 0 rfl ?_
    refine m_getr (k := 17) okX10 rfl rfl (by decide) w_1286 rfl dX10_tenth_141 ?_
    refine g_iconst (v := (nI 4)) dX10_tenth_144 (by decide) ?_
    refine g_dup2 dX10_tenth_145 rfl rfl ?_
    refine m_ialdL (k := 4) rfl rfl (by decide) dX10_tenth_146 ?_
    refine g_iconst (v := (nI 1)) dX10_tenth_147 (by decide) ?_
    refine g_iadd dX10_tenth_148 ?_
    refine m_iastL (k := 4) hA rfl rfl (by decide) dX10_tenth_149 ?_
    refine g_aload_n dX10_tenth_150 rfl 0 rfl ?_
    refine m_getr (k := 17) okX10 rfl rfl (by decide) w_1286 rfl dX10_tenth_151 ?_
    refine g_iconst (v := (nI 1)) dX10_tenth_154 (by decide) ?_
    refine g_dup2 dX10_tenth_155 rfl rfl ?_
    refine m_ialdL (k := 1) rfl rfl (by decide) dX10_tenth_156 ?_
    refine g_iconst (v := (nI 1)) dX10_tenth_157 (by decide) ?_
    refine g_iadd dX10_tenth_158 ?_
    refine m_iastL (k := 1) hA rfl rfl (by decide) dX10_tenth_159 ?_
    refine g_aload_n dX10_tenth_160 rfl 0 rfl ?_
    refine m_getr (k := 15) okX10 rfl rfl (by decide) w_1284 rfl dX10_tenth_161 ?_
    refine g_bipush (v := (nI 95)) dX10_tenth_164 (by decide) ?_
    refine m_ialdL (k := 95) rfl rfl (by decide) dX10_tenth_166 ?_
    refine g_iconst (v := (nI 1)) dX10_tenth_167 (by decide) ?_
    refine g_isub dX10_tenth_168 ?_
    obtain ⟨t14, et14, h⟩ := lt_e h
    refine g_cuti et14 ?_
    refine g_istore_n (lv' := [(1, .int t14), (0, .ref 81)]) dX10_tenth_169 rfl (by decide) rfl ?_
    refine g_sub [1, 0] (lv' := [(0, .ref 81), (1, .int t14)]) rfl ?_
    refine sl_X10_tenth_170 hA  ?_ _ _ _ h
    · intro  M19 h
      refine g_aload_n dX10_tenth_205 rfl 0 rfl ?_
      refine m_getr (k := 17) okX10 rfl rfl (by decide) w_1286 rfl dX10_tenth_206 ?_
      refine g_iconst (v := (nI 5)) dX10_tenth_209 (by decide) ?_
      refine m_ialdL (k := 5) rfl rfl (by decide) dX10_tenth_210 ?_
      refine g_if_lt (tgt := 220) dX10_tenth_211 (by decide) (fun c45 => ?_) (fun c45 => ?_)
      · replace h := ite_p c45 h
        refine g_aload_n dX10_tenth_220 rfl 0 rfl ?_
        refine m_getr (k := 17) okX10 rfl rfl (by decide) w_1286 rfl dX10_tenth_221 ?_
        refine g_iconst (v := (nI 1)) dX10_tenth_224 (by decide) ?_
        refine m_ialdL (k := 1) rfl rfl (by decide) dX10_tenth_225 ?_
        refine g_aload_n dX10_tenth_226 rfl 0 rfl ?_
        refine g_aload_n dX10_tenth_227 rfl 0 rfl ?_
        refine m_getr (k := 17) okX10 rfl rfl (by decide) w_1286 rfl dX10_tenth_228 ?_
        refine g_iconst (v := (nI 0)) dX10_tenth_231 (by decide) ?_
        refine m_ialdL (k := 0) rfl rfl (by decide) dX10_tenth_232 ?_
        obtain ⟨v233_21, M233_20, eM233_20, h⟩ := bd_e h
        refine m_callVi (As := [.int (M19 86 0)]) (st := [.int (M19 86 1)]) (s_X10_tenthsOf (d := d + 2) hA  eM233_20) rfl okX10 ck_X10_tenthsOf w_1524 rfl (Nat.le_of_ble_eq_true rfl) dX10_tenth_233 ?_
        refine g_icmp_ge (tgt := 241) dX10_tenth_236 (by decide) (fun c42 => ?_) (fun c42 => ?_)
        · replace h := ite_p c42 h
          refine g_aload_n dX10_tenth_241 rfl 0 rfl ?_
          refine m_getr (k := 17) okX10 rfl rfl (by decide) w_1286 rfl dX10_tenth_242 ?_
          refine g_iconst (v := (nI 0)) dX10_tenth_245 (by decide) ?_
          refine m_ialdL (k := 0) rfl rfl (by decide) dX10_tenth_246 ?_
          refine g_aload_n dX10_tenth_247 rfl 0 rfl ?_
          refine m_getr (k := 15) okX10 rfl rfl (by decide) w_1284 rfl dX10_tenth_248 ?_
          refine g_bipush (v := (nI 92)) dX10_tenth_251 (by decide) ?_
          refine m_ialdL (k := 92) rfl rfl (by decide) dX10_tenth_253 ?_
          refine g_iconst (v := (nI 1)) dX10_tenth_254 (by decide) ?_
          refine g_isub dX10_tenth_255 ?_
          obtain ⟨j24, ej24, h⟩ := jn_e h
          have hj24 : ∀ (s22 : Int32) (M23 : Mm), j24 s22 M23 = some (r, M') → GG l B LY (d + 3) yX10_tenth cX10_tenth 3 (some .boolean) 0 0 (PI r M') 97 0 0 264 [(0, .ref 81)] [.int s22] M23 := by
            intro s22 M23 h
            rw [ej24] at h
            refine g_istore_n (lv' := [(1, .int s22), (0, .ref 81)]) dX10_tenth_264 rfl (by decide) rfl ?_
            refine g_iload_n dX10_tenth_265 rfl 0 rfl ?_
            obtain ⟨j27, ej27, h⟩ := jn_e h
            have hj27 : ∀ (s25 : Int32) (M26 : Mm), j27 s25 M26 = some (r, M') → GG l B LY (d + 3) yX10_tenth cX10_tenth 3 (some .boolean) 0 0 (PI r M') 97 0 0 310 [(0, .ref 81)] [.int s25] M26 := by
              intro s25 M26 h
              rw [ej27] at h
              refine g_istore_n (lv' := [(2, .int s25), (0, .ref 81)]) dX10_tenth_310 rfl (by decide) rfl ?_
              refine g_aload_n dX10_tenth_311 rfl 1 rfl ?_
              refine m_getr (k := 17) okX10 rfl rfl (by decide) w_1286 rfl dX10_tenth_312 ?_
              refine g_iconst (v := (nI 0)) dX10_tenth_315 (by decide) ?_
              refine g_dup2 dX10_tenth_316 rfl rfl ?_
              refine m_ialdL (k := 0) rfl rfl (by decide) dX10_tenth_317 ?_
              refine g_iconst (v := (nI 1)) dX10_tenth_318 (by decide) ?_
              refine g_iadd dX10_tenth_319 ?_
              refine m_iastL (k := 0) hA rfl rfl (by decide) dX10_tenth_320 ?_
              refine g_aload_n dX10_tenth_321 rfl 1 rfl ?_
              refine m_getr (k := 17) okX10 rfl rfl (by decide) w_1286 rfl dX10_tenth_322 ?_
              refine g_iconst (v := (nI 1)) dX10_tenth_325 (by decide) ?_
              refine g_iconst (v := (nI 0)) dX10_tenth_326 (by decide) ?_
              refine m_iastL (k := 1) hA rfl rfl (by decide) dX10_tenth_327 ?_
              refine g_iload_n dX10_tenth_328 rfl 0 rfl ?_
              refine g_if_eq (tgt := 336) dX10_tenth_329 (by decide) (fun c30 => ?_) (fun c30 => ?_)
              · replace h := ite_p c30 h
                refine g_iload_n dX10_tenth_336 rfl 0 rfl ?_
                obtain ⟨hz, h⟩ := gd_s h
                exact g_zret rfl (nar_zo hz) (pi_of h) dX10_tenth_337
              · replace h := ite_n c30 h
                refine g_aload_n dX10_tenth_332 rfl 1 rfl ?_
                obtain ⟨M333_28, eM333_28, h⟩ := bv_e h
                refine m_callVv (As := []) (st := []) (s_X10_look (d := d + 1) hA  eM333_28) rfl okX10 ck_X10_look w_1548 rfl (Nat.le_of_ble_eq_true rfl) dX10_tenth_333 ?_
                refine g_iload_n dX10_tenth_336 rfl 0 rfl ?_
                obtain ⟨hz, h⟩ := gd_s h
                exact g_zret rfl (nar_zo hz) (pi_of h) dX10_tenth_337
            obtain ⟨j32, ej32, h⟩ := jn_e h
            have hj32 : ∀ (M31 : Mm), j32 M31 = some (r, M') → GG l B LY (d + 3) yX10_tenth cX10_tenth 3 (some .boolean) 0 0 (PI r M') 97 0 0 305 [(0, .ref 81)] [] M31 := by
              intro M31 h
              rw [ej32] at h
              refine g_iconst (v := (nI 1)) dX10_tenth_305 (by decide) ?_
              refine g_goto (tgt := 310) dX10_tenth_306 (by decide) ?_
              refine g_sub [0] (lv' := [(0, .ref 81)]) rfl ?_
              exact hj27 _ _ h
            refine g_if_ne (tgt := 305) dX10_tenth_266 (by decide) (fun c40 => ?_) (fun c40 => ?_)
            · replace h := ite_n c40 h
              refine g_sub [1] (lv' := [(0, .ref 81)]) rfl ?_
              exact hj32  _ h
            · replace h := ite_p c40 h
              refine g_aload_n dX10_tenth_269 rfl 1 rfl ?_
              obtain ⟨v270_34, M270_33, eM270_33, h⟩ := bd_e h
              refine m_callVi (As := []) (st := []) (s_X10_draw (d := d + 2) hA  eM270_33) rfl okX10 ck_X10_draw w_1543 rfl (Nat.le_of_ble_eq_true rfl) dX10_tenth_270 ?_
              refine g_aload_n dX10_tenth_273 rfl 1 rfl ?_
              refine m_getr (k := 15) okX10 rfl rfl (by decide) w_1284 rfl dX10_tenth_274 ?_
              refine g_bipush (v := (nI 6)) dX10_tenth_277 (by decide) ?_
              refine g_iload_n dX10_tenth_279 rfl 0 rfl ?_
              obtain ⟨j37, ej37, h⟩ := jn_e h
              have hj37 : ∀ (s35 : Int32) (M36 : Mm), j37 s35 M36 = some (r, M') → GG l B LY (d + 3) yX10_tenth cX10_tenth 3 (some .boolean) 0 0 (PI r M') 97 0 0 293 [(0, .ref 81)] [.int s35, .int (nI 6), .ref 84, .int v270_34] M36 := by
                intro s35 M36 h
                rw [ej37] at h
                refine g_iadd dX10_tenth_293 ?_
                obtain ⟨hz, h⟩ := gd_s h
                refine m_iald rfl hz dX10_tenth_294 ?_
                refine g_aload_n dX10_tenth_295 rfl 0 rfl ?_
                refine m_getr (k := 17) okX10 rfl rfl (by decide) w_1286 rfl dX10_tenth_296 ?_
                refine g_iconst (v := (nI 2)) dX10_tenth_299 (by decide) ?_
                refine m_ialdL (k := 2) rfl rfl (by decide) dX10_tenth_300 ?_
                refine g_iadd dX10_tenth_301 ?_
                refine g_icmp_ge (tgt := 309) dX10_tenth_302 (by decide) (fun c38 => ?_) (fun c38 => ?_)
                · replace h := ite_p c38 h
                  refine g_iconst (v := (nI 0)) dX10_tenth_309 (by decide) ?_
                  refine g_sub [0] (lv' := [(0, .ref 81)]) rfl ?_
                  exact hj27 _ _ h
                · replace h := ite_n c38 h
                  refine g_sub [0] (lv' := [(0, .ref 81)]) rfl ?_
                  exact hj32  _ h
              refine g_if_eq (tgt := 287) dX10_tenth_280 (by decide) (fun c39 => ?_) (fun c39 => ?_)
              · replace h := ite_p c39 h
                refine g_aload_n dX10_tenth_287 rfl 1 rfl ?_
                refine m_getr (k := 17) okX10 rfl rfl (by decide) w_1286 rfl dX10_tenth_288 ?_
                refine g_iconst (v := (nI 0)) dX10_tenth_291 (by decide) ?_
                refine m_ialdL (k := 0) rfl rfl (by decide) dX10_tenth_292 ?_
                refine g_sub [1] (lv' := [(0, .ref 81)]) rfl ?_
                exact hj37 _ _ h
              · replace h := ite_n c39 h
                refine g_iconst (v := (nI 0)) dX10_tenth_283 (by decide) ?_
                refine g_goto (tgt := 293) dX10_tenth_284 (by decide) ?_
                refine g_sub [1] (lv' := [(0, .ref 81)]) rfl ?_
                exact hj37 _ _ h
          refine g_icmp_ne (tgt := 263) dX10_tenth_256 (by decide) (fun c41 => ?_) (fun c41 => ?_)
          · replace h := ite_n c41 h
            refine g_iconst (v := (nI 0)) dX10_tenth_263 (by decide) ?_
            refine g_sub [0] (lv' := [(0, .ref 81)]) rfl ?_
            exact hj24 _ _ h
          · replace h := ite_p c41 h
            refine g_iconst (v := (nI 1)) dX10_tenth_259 (by decide) ?_
            refine g_goto (tgt := 264) dX10_tenth_260 (by decide) ?_
            refine g_sub [0] (lv' := [(0, .ref 81)]) rfl ?_
            exact hj24 _ _ h
        · replace h := ite_n c42 h
          refine g_iconst (v := (nI 0)) dX10_tenth_239 (by decide) ?_
          exact g_zret rfl rfl (pi_of h) dX10_tenth_240
      · replace h := ite_n c45 h
        refine g_aload_n dX10_tenth_214 rfl 0 rfl ?_
        obtain ⟨M215_43, eM215_43, h⟩ := bv_e h
        refine m_callVv (As := []) (st := []) (s_X10_run (d := d + 0) hA  eM215_43) rfl okX10 ck_X10_run w_1532 rfl (Nat.le_of_ble_eq_true rfl) dX10_tenth_215 ?_
        refine g_iconst (v := (nI 0)) dX10_tenth_218 (by decide) ?_
        exact g_zret rfl rfl (pi_of h) dX10_tenth_219
theorem ck_X10_tenth : CKV yX10_tenth cX10_tenth 3 (some .boolean) 0 := ⟨⟨by decide, by decide, by decide +kernel⟩, w_1519, w_81, ⟨w_1518, w_31⟩, by decide⟩
theorem dX10_start_0 : decode cX10_start 0 = .ok (.aload_n 0, 1) := by decide +kernel
theorem dX10_start_1 : decode cX10_start 1 = .ok (.invokevirtual 156, 3) := by decide +kernel
theorem dX10_start_4 : decode cX10_start 4 = .ok (.aload_n 0, 1) := by decide +kernel
theorem dX10_start_5 : decode cX10_start 5 = .ok (.getfield 165, 3) := by decide +kernel
theorem dX10_start_8 : decode cX10_start 8 = .ok (.ifCond .ne 9, 3) := by decide +kernel
theorem dX10_start_11 : decode cX10_start 11 = .ok (.aload_n 0, 1) := by decide +kernel
theorem dX10_start_12 : decode cX10_start 12 = .ok (.iconst 1, 1) := by decide +kernel
theorem dX10_start_13 : decode cX10_start 13 = .ok (.invokevirtual 271, 3) := by decide +kernel
theorem dX10_start_16 : decode cX10_start 16 = .ok (.ireturn, 1) := by decide +kernel
theorem dX10_start_17 : decode cX10_start 17 = .ok (.iload_n 1, 1) := by decide +kernel
theorem dX10_start_18 : decode cX10_start 18 = .ok (.iconst 0, 1) := by decide +kernel
theorem dX10_start_19 : decode cX10_start 19 = .ok (.ldc_w 274, 3) := by decide +kernel
theorem dX10_start_22 : decode cX10_start 22 = .ok (.invokestatic 144, 3) := by decide +kernel
theorem dX10_start_25 : decode cX10_start 25 = .ok (.ifCond .ne 9, 3) := by decide +kernel
theorem dX10_start_28 : decode cX10_start 28 = .ok (.aload_n 0, 1) := by decide +kernel
theorem dX10_start_29 : decode cX10_start 29 = .ok (.iconst 2, 1) := by decide +kernel
theorem dX10_start_30 : decode cX10_start 30 = .ok (.invokevirtual 271, 3) := by decide +kernel
theorem dX10_start_33 : decode cX10_start 33 = .ok (.ireturn, 1) := by decide +kernel
theorem dX10_start_34 : decode cX10_start 34 = .ok (.aload_n 0, 1) := by decide +kernel
theorem dX10_start_35 : decode cX10_start 35 = .ok (.iload_n 1, 1) := by decide +kernel
theorem dX10_start_36 : decode cX10_start 36 = .ok (.invokevirtual 168, 3) := by decide +kernel
theorem dX10_start_39 : decode cX10_start 39 = .ok (.iconst 1, 1) := by decide +kernel
theorem dX10_start_40 : decode cX10_start 40 = .ok (.ireturn, 1) := by decide +kernel
def f_X10_start (x1 : Int32) (M : Mm) : Option (Int32 × Mm) :=
  bv (f_X10_good  M) fun M1_1 => if (M1_1 81 14) = 0 then (bd (f_X10_isNot (nI 1) M1_1) fun v13_11 M13_10 => gd (zo v13_11) <| some (v13_11, M13_10)) else (bd (f_X10_within x1 (nI 0) (nI 65536) M1_1) fun v22_4 M22_3 => if v22_4 = 0 then (bd (f_X10_isNot (nI 2) M22_3) fun v30_8 M30_7 => gd (zo v30_8) <| some (v30_8, M30_7)) else (bv (f_X10_begin x1 M22_3) fun M36_5 => some ((nI 1), M36_5)))
set_option maxHeartbeats 4000000 in
set_option maxRecDepth 100000 in
theorem s_X10_start {l : Launch} {B : BT} (hA : bA B = false) {d : Nat} {r : Int32} {M' : Mm} {x1 : Int32} {M : Mm}  (h : f_X10_start x1 M = some (r, M')) : Con l B LY (d + 1) yX10_start cX10_start 2 (some .boolean) 0 0 [.ref 81, .int x1] 97 M (PI r M') := by
  refine con_of (by decide) (Nat.le_of_ble_eq_true rfl) ?_
  show GG l B LY (d + 1) yX10_start cX10_start 2 (some .boolean) 0 0 (PI r M') 97 0 0 0 [(0, .ref 81), (1, .int x1)] [] M
  rw [f_X10_start] at h
  refine g_aload_n dX10_start_0 rfl 0 rfl ?_
  obtain ⟨M1_1, eM1_1, h⟩ := bv_e h
  refine m_callVv (As := []) (st := []) (s_X10_good (d := d + 0) hA  eM1_1) rfl okX10 ck_X10_good w_1381 rfl (Nat.le_of_ble_eq_true rfl) dX10_start_1 ?_
  refine g_aload_n dX10_start_4 rfl 0 rfl ?_
  refine m_geti (k := 14) okX10 rfl rfl (by decide) w_1283 rfl dX10_start_5 ?_
  refine g_if_ne (tgt := 17) dX10_start_8 (by decide) (fun c12 => ?_) (fun c12 => ?_)
  · replace h := ite_n c12 h
    refine g_iload_n dX10_start_17 rfl 1 rfl ?_
    refine g_iconst (v := (nI 0)) dX10_start_18 (by decide) ?_
    refine g_ldcw (v := (nI 65536)) w_1511 dX10_start_19 ?_
    obtain ⟨v22_4, M22_3, eM22_3, h⟩ := bd_e h
    refine m_callSi (As := [.int x1, .int (nI 0), .int (nI 65536)]) (st := []) (s_X10_within (d := d + 0) hA  eM22_3) ck_X10_within w_1385 rfl (Nat.le_of_ble_eq_true rfl) dX10_start_22 ?_
    refine g_if_ne (tgt := 34) dX10_start_25 (by decide) (fun c9 => ?_) (fun c9 => ?_)
    · replace h := ite_n c9 h
      refine g_aload_n dX10_start_34 rfl 0 rfl ?_
      refine g_iload_n dX10_start_35 rfl 1 rfl ?_
      obtain ⟨M36_5, eM36_5, h⟩ := bv_e h
      refine m_callVv (As := [.int x1]) (st := []) (s_X10_begin (d := d + 0) hA  eM36_5) rfl okX10 ck_X10_begin w_1491 rfl (Nat.le_of_ble_eq_true rfl) dX10_start_36 ?_
      refine g_iconst (v := (nI 1)) dX10_start_39 (by decide) ?_
      exact g_zret rfl rfl (pi_of h) dX10_start_40
    · replace h := ite_p c9 h
      refine g_aload_n dX10_start_28 rfl 0 rfl ?_
      refine g_iconst (v := (nI 2)) dX10_start_29 (by decide) ?_
      obtain ⟨v30_8, M30_7, eM30_7, h⟩ := bd_e h
      refine m_callVi (As := [.int (nI 2)]) (st := []) (s_X10_isNot (d := d + 0) hA  eM30_7) rfl okX10 ck_X10_isNot w_1507 rfl (Nat.le_of_ble_eq_true rfl) dX10_start_30 ?_
      obtain ⟨hz, h⟩ := gd_s h
      exact g_zret rfl (nar_zo hz) (pi_of h) dX10_start_33
  · replace h := ite_p c12 h
    refine g_aload_n dX10_start_11 rfl 0 rfl ?_
    refine g_iconst (v := (nI 1)) dX10_start_12 (by decide) ?_
    obtain ⟨v13_11, M13_10, eM13_10, h⟩ := bd_e h
    refine m_callVi (As := [.int (nI 1)]) (st := []) (s_X10_isNot (d := d + 0) hA  eM13_10) rfl okX10 ck_X10_isNot w_1507 rfl (Nat.le_of_ble_eq_true rfl) dX10_start_13 ?_
    obtain ⟨hz, h⟩ := gd_s h
    exact g_zret rfl (nar_zo hz) (pi_of h) dX10_start_16
theorem ck_X10_start : CKV yX10_start cX10_start 2 (some .boolean) 1 := ⟨⟨by decide, by decide, by decide +kernel⟩, w_1506, w_81, ⟨w_1504, w_1505⟩, by decide⟩
