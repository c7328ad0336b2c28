/-! walks: X10_steps X10_strip X10_layWhy X10_lay X10_heard X10_loud X10_led X10_size X10_creeper X10_trouble. Written by wip/programs/parts.py. -/
theorem dX10_steps_0 : decode cX10_steps 0 = .ok (.iconst 0, 1) := by decide +kernel
theorem dX10_steps_1 : decode cX10_steps 1 = .ok (.istore 4, 2) := by decide +kernel
theorem dX10_steps_3 : decode cX10_steps 3 = .ok (.iconst 0, 1) := by decide +kernel
theorem dX10_steps_4 : decode cX10_steps 4 = .ok (.istore 5, 2) := by decide +kernel
theorem dX10_steps_6 : decode cX10_steps 6 = .ok (.iload 5, 2) := by decide +kernel
theorem dX10_steps_8 : decode cX10_steps 8 = .ok (.aload_n 0, 1) := by decide +kernel
theorem dX10_steps_9 : decode cX10_steps 9 = .ok (.getfield 20, 3) := by decide +kernel
theorem dX10_steps_12 : decode cX10_steps 12 = .ok (.bipush 95, 2) := by decide +kernel
theorem dX10_steps_14 : decode cX10_steps 14 = .ok (.iaload, 1) := by decide +kernel
theorem dX10_steps_15 : decode cX10_steps 15 = .ok (.if_icmp .ge 75, 3) := by decide +kernel
theorem dX10_steps_18 : decode cX10_steps 18 = .ok (.iload_n 2, 1) := by decide +kernel
theorem dX10_steps_19 : decode cX10_steps 19 = .ok (.istore 6, 2) := by decide +kernel
theorem dX10_steps_21 : decode cX10_steps 21 = .ok (.iload 6, 2) := by decide +kernel
theorem dX10_steps_23 : decode cX10_steps 23 = .ok (.iload_n 2, 1) := by decide +kernel
theorem dX10_steps_24 : decode cX10_steps 24 = .ok (.iload_n 3, 1) := by decide +kernel
theorem dX10_steps_25 : decode cX10_steps 25 = .ok (.iadd, 1) := by decide +kernel
theorem dX10_steps_26 : decode cX10_steps 26 = .ok (.if_icmp .ge 58, 3) := by decide +kernel
theorem dX10_steps_29 : decode cX10_steps 29 = .ok (.iload 4, 2) := by decide +kernel
theorem dX10_steps_31 : decode cX10_steps 31 = .ok (.aload_n 0, 1) := by decide +kernel
theorem dX10_steps_32 : decode cX10_steps 32 = .ok (.getfield 20, 3) := by decide +kernel
theorem dX10_steps_35 : decode cX10_steps 35 = .ok (.bipush 56, 2) := by decide +kernel
theorem dX10_steps_37 : decode cX10_steps 37 = .ok (.iload 5, 2) := by decide +kernel
theorem dX10_steps_39 : decode cX10_steps 39 = .ok (.iadd, 1) := by decide +kernel
theorem dX10_steps_40 : decode cX10_steps 40 = .ok (.iaload, 1) := by decide +kernel
theorem dX10_steps_41 : decode cX10_steps 41 = .ok (.iload_n 1, 1) := by decide +kernel
theorem dX10_steps_42 : decode cX10_steps 42 = .ok (.if_icmp .ne 32, 3) := by decide +kernel
theorem dX10_steps_45 : decode cX10_steps 45 = .ok (.iload 6, 2) := by decide +kernel
theorem dX10_steps_47 : decode cX10_steps 47 = .ok (.aload_n 0, 1) := by decide +kernel
theorem dX10_steps_48 : decode cX10_steps 48 = .ok (.getfield 26, 3) := by decide +kernel
theorem dX10_steps_51 : decode cX10_steps 51 = .ok (.bipush 9, 2) := by decide +kernel
theorem dX10_steps_53 : decode cX10_steps 53 = .ok (.iload 5, 2) := by decide +kernel
theorem dX10_steps_55 : decode cX10_steps 55 = .ok (.iadd, 1) := by decide +kernel
theorem dX10_steps_56 : decode cX10_steps 56 = .ok (.iaload, 1) := by decide +kernel
theorem dX10_steps_57 : decode cX10_steps 57 = .ok (.if_icmp .le 17, 3) := by decide +kernel
theorem dX10_steps_60 : decode cX10_steps 60 = .ok (.aload_n 0, 1) := by decide +kernel
theorem dX10_steps_61 : decode cX10_steps 61 = .ok (.iload_n 1, 1) := by decide +kernel
theorem dX10_steps_62 : decode cX10_steps 62 = .ok (.iload 6, 2) := by decide +kernel
theorem dX10_steps_64 : decode cX10_steps 64 = .ok (.invokevirtual 243, 3) := by decide +kernel
theorem dX10_steps_67 : decode cX10_steps 67 = .ok (.ifCond .ne 7, 3) := by decide +kernel
theorem dX10_steps_70 : decode cX10_steps 70 = .ok (.iconst 1, 1) := by decide +kernel
theorem dX10_steps_71 : decode cX10_steps 71 = .ok (.goto 4, 3) := by decide +kernel
theorem dX10_steps_74 : decode cX10_steps 74 = .ok (.iconst 0, 1) := by decide +kernel
theorem dX10_steps_75 : decode cX10_steps 75 = .ok (.iadd, 1) := by decide +kernel
theorem dX10_steps_76 : decode cX10_steps 76 = .ok (.istore 4, 2) := by decide +kernel
theorem dX10_steps_78 : decode cX10_steps 78 = .ok (.iinc 6 1, 3) := by decide +kernel
theorem dX10_steps_81 : decode cX10_steps 81 = .ok (.goto (-60), 3) := by decide +kernel
theorem dX10_steps_84 : decode cX10_steps 84 = .ok (.iinc 5 1, 3) := by decide +kernel
theorem dX10_steps_87 : decode cX10_steps 87 = .ok (.goto (-81), 3) := by decide +kernel
theorem dX10_steps_90 : decode cX10_steps 90 = .ok (.iload 4, 2) := by decide +kernel
theorem dX10_steps_92 : decode cX10_steps 92 = .ok (.ireturn, 1) := by decide +kernel
def lp_X10_steps_21 (y1 : Int32) (y2 : Int32) (y3 : Int32) (y5 : Int32) (k84 : Int32 → Mm → Option (Int32 × Mm)) : Nat → Int32 → Int32 → Mm → Option (Int32 × Mm)
  | 0, _, _, _ => none
  | n + 1, y4, y6, M =>
    if (y2 + y3) ≤ y6 then (k84 y4 M) else (gd (inb ((nI 56) + y5) 141) <| jn (fun (s1 : Int32) (M2 : Mm) => lp_X10_steps_21 y1 y2 y3 y5 k84 n (y4 + s1) (y6 + (nI 1)) M2) fun j3 => jn (fun (M4 : Mm) => j3 (nI 0) M4) fun j5 => if (M 84 ((nI 56) + y5).toNatClampNeg) = y1 then (gd (inb ((nI 9) + y5) 44) <| if y6 ≤ (M 86 ((nI 9) + y5).toNatClampNeg) then (j5  M) else (bd (f_X10_loudest y1 y6 M) fun v64_7 M64_6 => if v64_7 = 0 then (j3 (nI 1) M64_6) else (j5  M64_6))) else (j5  M))
def lp_X10_steps_6 (y1 : Int32) (y2 : Int32) (y3 : Int32)  : Nat → Int32 → Int32 → Mm → Option (Int32 × Mm)
  | 0, _, _, _ => none
  | n + 1, y4, y5, M =>
    if (M 84 95) ≤ y5 then (some (y4, M)) else (lp_X10_steps_21 y1 y2 y3 y5 (fun (u12 : Int32) (M13 : Mm) => lp_X10_steps_6 y1 y2 y3 n u12 (y5 + (nI 1)) M13) N0 y4 y2 M)
def f_X10_steps (x1 : Int32) (x2 : Int32) (x3 : Int32) (M : Mm) : Option (Int32 × Mm) :=
  lp_X10_steps_6 x1 x2 x3  N0 (nI 0) (nI 0) M
set_option maxHeartbeats 4000000 in
set_option maxRecDepth 100000 in
theorem sl_X10_steps_21 {l : Launch} {B : BT} (hA : bA B = false) {d : Nat} {r : Int32} {M' : Mm} {y1 : Int32} {y2 : Int32} {y3 : Int32} {y5 : Int32}  {k84 : Int32 → Mm → Option (Int32 × Mm)} (hk84 : ∀ (z4 : Int32) (M9 : Mm), k84 z4 M9 = some (r, M') → GG l B LY (d + 2) yX10_steps cX10_steps 7 (some .int) 0 0 (PI r M') 97 0 0 84 [(0, .ref 81), (1, .int y1), (2, .int y2), (3, .int y3), (4, .int z4), (5, .int y5)] [] M9) :
    ∀ (n : Nat) (y4 : Int32) (y6 : Int32) (M : Mm), lp_X10_steps_21 y1 y2 y3 y5 k84 n y4 y6 M = some (r, M') → GG l B LY (d + 2) yX10_steps cX10_steps 7 (some .int) 0 0 (PI r M') 97 0 0 21 [(0, .ref 81), (1, .int y1), (2, .int y2), (3, .int y3), (4, .int y4), (5, .int y5), (6, .int y6)] [] M := by
  intro n
  induction n with
  | zero => intro y4 y6 M h; cases h
  | succ n ih =>
    intro y4 y6 M h
    rw [lp_X10_steps_21] at h
    refine g_iload dX10_steps_21 6 rfl ?_
    refine g_iload_n dX10_steps_23 rfl 2 rfl ?_
    refine g_iload_n dX10_steps_24 rfl 3 rfl ?_
    refine g_iadd dX10_steps_25 ?_
    refine g_icmp_ge (tgt := 84) dX10_steps_26 (by decide) (fun c11 => ?_) (fun c11 => ?_)
    · replace h := ite_p c11 h
      refine g_sub [0, 1, 2, 3, 4, 5] (lv' := [(0, .ref 81), (1, .int y1), (2, .int y2), (3, .int y3), (4, .int y4), (5, .int y5)]) rfl ?_
      exact hk84 _ _ h
    · replace h := ite_n c11 h
      refine g_iload dX10_steps_29 4 rfl ?_
      refine g_aload_n dX10_steps_31 rfl 0 rfl ?_
      refine m_getr (k := 15) okX10 rfl rfl (by decide) w_1284 rfl dX10_steps_32 ?_
      refine g_bipush (v := (nI 56)) dX10_steps_35 (by decide) ?_
      refine g_iload dX10_steps_37 5 rfl ?_
      refine g_iadd dX10_steps_39 ?_
      obtain ⟨hz, h⟩ := gd_s h
      refine m_iald rfl hz dX10_steps_40 ?_
      refine g_iload_n dX10_steps_41 rfl 1 rfl ?_
      obtain ⟨j3, ej3, h⟩ := jn_e h
      have hj3 : ∀ (s1 : Int32) (M2 : Mm), j3 s1 M2 = some (r, M') → GG l B LY (d + 2) yX10_steps cX10_steps 7 (some .int) 0 0 (PI r M') 97 0 0 75 [(0, .ref 81), (1, .int y1), (2, .int y2), (3, .int y3), (5, .int y5), (6, .int y6)] [.int s1, .int y4] M2 := by
        intro s1 M2 h
        rw [ej3] at h
        refine g_iadd dX10_steps_75 ?_
        refine g_istore (lv' := [(4, .int (y4 + s1)), (0, .ref 81), (1, .int y1), (2, .int y2), (3, .int y3), (5, .int y5), (6, .int y6)]) dX10_steps_76 (by decide) rfl ?_
        refine g_iinc (v := (y6 + (nI 1))) (lv' := [(6, .int (y6 + (nI 1))), (4, .int (y4 + s1)), (0, .ref 81), (1, .int y1), (2, .int y2), (3, .int y3), (5, .int y5)]) dX10_steps_78 6 rfl rfl (by decide) rfl ?_
        refine g_goto (tgt := 21) dX10_steps_81 (by decide) ?_
        refine g_sub [2, 3, 4, 5, 1, 6, 0] (lv' := [(0, .ref 81), (1, .int y1), (2, .int y2), (3, .int y3), (4, .int (y4 + s1)), (5, .int y5), (6, .int (y6 + (nI 1)))]) rfl ?_
        exact ih _ _  _ h
      obtain ⟨j5, ej5, h⟩ := jn_e h
      have hj5 : ∀ (M4 : Mm), j5 M4 = some (r, M') → GG l B LY (d + 2) yX10_steps cX10_steps 7 (some .int) 0 0 (PI r M') 97 0 0 74 [(0, .ref 81), (1, .int y1), (2, .int y2), (3, .int y3), (5, .int y5), (6, .int y6)] [.int y4] M4 := by
        intro M4 h
        rw [ej5] at h
        refine g_iconst (v := (nI 0)) dX10_steps_74 (by decide) ?_
        refine g_sub [0, 1, 2, 3, 4, 5] (lv' := [(0, .ref 81), (1, .int y1), (2, .int y2), (3, .int y3), (5, .int y5), (6, .int y6)]) rfl ?_
        exact hj3 _ _ h
      refine g_icmp_ne (tgt := 74) dX10_steps_42 (by decide) (fun c10 => ?_) (fun c10 => ?_)
      · replace h := ite_n c10 h
        refine g_sub [0, 1, 2, 3, 5, 6] (lv' := [(0, .ref 81), (1, .int y1), (2, .int y2), (3, .int y3), (5, .int y5), (6, .int y6)]) rfl ?_
        exact hj5  _ h
      · replace h := ite_p c10 h
        refine g_iload dX10_steps_45 6 rfl ?_
        refine g_aload_n dX10_steps_47 rfl 0 rfl ?_
        refine m_getr (k := 17) okX10 rfl rfl (by decide) w_1286 rfl dX10_steps_48 ?_
        refine g_bipush (v := (nI 9)) dX10_steps_51 (by decide) ?_
        refine g_iload dX10_steps_53 5 rfl ?_
        refine g_iadd dX10_steps_55 ?_
        obtain ⟨hz, h⟩ := gd_s h
        refine m_iald rfl hz dX10_steps_56 ?_
        refine g_icmp_le (tgt := 74) dX10_steps_57 (by decide) (fun c9 => ?_) (fun c9 => ?_)
        · replace h := ite_p c9 h
          refine g_sub [0, 1, 2, 3, 5, 6] (lv' := [(0, .ref 81), (1, .int y1), (2, .int y2), (3, .int y3), (5, .int y5), (6, .int y6)]) rfl ?_
          exact hj5  _ h
        · replace h := ite_n c9 h
          refine g_aload_n dX10_steps_60 rfl 0 rfl ?_
          refine g_iload_n dX10_steps_61 rfl 1 rfl ?_
          refine g_iload dX10_steps_62 6 rfl ?_
          obtain ⟨v64_7, M64_6, eM64_6, h⟩ := bd_e h
          refine m_callVi (As := [.int y1, .int y6]) (st := [.int y4]) (s_X10_loudest (d := d + 0) hA  eM64_6) rfl okX10 ck_X10_loudest w_1528 rfl (Nat.le_of_ble_eq_true rfl) dX10_steps_64 ?_
          refine g_if_ne (tgt := 74) dX10_steps_67 (by decide) (fun c8 => ?_) (fun c8 => ?_)
          · replace h := ite_n c8 h
            refine g_sub [0, 1, 2, 3, 5, 6] (lv' := [(0, .ref 81), (1, .int y1), (2, .int y2), (3, .int y3), (5, .int y5), (6, .int y6)]) rfl ?_
            exact hj5  _ h
          · replace h := ite_p c8 h
            refine g_iconst (v := (nI 1)) dX10_steps_70 (by decide) ?_
            refine g_goto (tgt := 75) dX10_steps_71 (by decide) ?_
            refine g_sub [0, 1, 2, 3, 5, 6] (lv' := [(0, .ref 81), (1, .int y1), (2, .int y2), (3, .int y3), (5, .int y5), (6, .int y6)]) rfl ?_
            exact hj3 _ _ h
set_option maxHeartbeats 4000000 in
set_option maxRecDepth 100000 in
theorem sl_X10_steps_6 {l : Launch} {B : BT} (hA : bA B = false) {d : Nat} {r : Int32} {M' : Mm} {y1 : Int32} {y2 : Int32} {y3 : Int32}    :
    ∀ (n : Nat) (y4 : Int32) (y5 : Int32) (M : Mm), lp_X10_steps_6 y1 y2 y3 n y4 y5 M = some (r, M') → GG l B LY (d + 2) yX10_steps cX10_steps 7 (some .int) 0 0 (PI r M') 97 0 0 6 [(0, .ref 81), (1, .int y1), (2, .int y2), (3, .int y3), (4, .int y4), (5, .int y5)] [] M := by
  intro n
  induction n with
  | zero => intro y4 y5 M h; cases h
  | succ n ih =>
    intro y4 y5 M h
    rw [lp_X10_steps_6] at h
    refine g_iload dX10_steps_6 5 rfl ?_
    refine g_aload_n dX10_steps_8 rfl 0 rfl ?_
    refine m_getr (k := 15) okX10 rfl rfl (by decide) w_1284 rfl dX10_steps_9 ?_
    refine g_bipush (v := (nI 95)) dX10_steps_12 (by decide) ?_
    refine m_ialdL (k := 95) rfl rfl (by decide) dX10_steps_14 ?_
    refine g_icmp_ge (tgt := 90) dX10_steps_15 (by decide) (fun c14 => ?_) (fun c14 => ?_)
    · replace h := ite_p c14 h
      refine g_iload dX10_steps_90 4 rfl ?_
      exact g_zret rfl rfl (pi_of h) dX10_steps_92
    · replace h := ite_n c14 h
      refine g_iload_n dX10_steps_18 rfl 2 rfl ?_
      refine g_istore (lv' := [(6, .int y2), (0, .ref 81), (1, .int y1), (2, .int y2), (3, .int y3), (4, .int y4), (5, .int y5)]) dX10_steps_19 (by decide) rfl ?_
      refine g_sub [1, 2, 3, 4, 5, 6, 0] (lv' := [(0, .ref 81), (1, .int y1), (2, .int y2), (3, .int y3), (4, .int y4), (5, .int y5), (6, .int y2)]) rfl ?_
      refine sl_X10_steps_21 hA  ?_ _ _ _ _ h
      · intro u12 M13 h
        refine g_iinc (v := (y5 + (nI 1))) (lv' := [(5, .int (y5 + (nI 1))), (0, .ref 81), (1, .int y1), (2, .int y2), (3, .int y3), (4, .int u12)]) dX10_steps_84 5 rfl rfl (by decide) rfl ?_
        refine g_goto (tgt := 6) dX10_steps_87 (by decide) ?_
        refine g_sub [1, 2, 3, 4, 5, 0] (lv' := [(0, .ref 81), (1, .int y1), (2, .int y2), (3, .int y3), (4, .int u12), (5, .int (y5 + (nI 1)))]) rfl ?_
        exact ih _ _  _ h
set_option maxHeartbeats 4000000 in
set_option maxRecDepth 100000 in
theorem s_X10_steps {l : Launch} {B : BT} (hA : bA B = false) {d : Nat} {r : Int32} {M' : Mm} {x1 : Int32} {x2 : Int32} {x3 : Int32} {M : Mm}  (h : f_X10_steps x1 x2 x3 M = some (r, M')) : Con l B LY (d + 2) yX10_steps cX10_steps 7 (some .int) 0 0 [.ref 81, .int x1, .int x2, .int x3] 97 M (PI r M') := by
  refine con_of (by decide) (Nat.le_of_ble_eq_true rfl) ?_
  show GG l B LY (d + 2) yX10_steps cX10_steps 7 (some .int) 0 0 (PI r M') 97 0 0 0 [(0, .ref 81), (1, .int x1), (2, .int x2), (3, .int x3)] [] M
  rw [f_X10_steps] at h
  refine g_iconst (v := (nI 0)) dX10_steps_0 (by decide) ?_
  refine g_istore (lv' := [(4, .int (nI 0)), (0, .ref 81), (1, .int x1), (2, .int x2), (3, .int x3)]) dX10_steps_1 (by decide) rfl ?_
  refine g_iconst (v := (nI 0)) dX10_steps_3 (by decide) ?_
  refine g_istore (lv' := [(5, .int (nI 0)), (4, .int (nI 0)), (0, .ref 81), (1, .int x1), (2, .int x2), (3, .int x3)]) dX10_steps_4 (by decide) rfl ?_
  refine g_sub [2, 3, 4, 5, 1, 0] (lv' := [(0, .ref 81), (1, .int x1), (2, .int x2), (3, .int x3), (4, .int (nI 0)), (5, .int (nI 0))]) rfl ?_
  refine sl_X10_steps_6 hA   _ _ _ _ h
theorem ck_X10_steps : CKV yX10_steps cX10_steps 7 (some .int) 3 := ⟨⟨by decide, by decide, by decide +kernel⟩, w_1828, w_81, ⟨w_1827, w_70⟩, by decide⟩
theorem dX10_strip_0 : decode cX10_strip 0 = .ok (.iconst (-1), 1) := by decide +kernel
theorem dX10_strip_1 : decode cX10_strip 1 = .ok (.istore_n 2, 1) := by decide +kernel
theorem dX10_strip_2 : decode cX10_strip 2 = .ok (.iconst 0, 1) := by decide +kernel
theorem dX10_strip_3 : decode cX10_strip 3 = .ok (.istore_n 3, 1) := by decide +kernel
theorem dX10_strip_4 : decode cX10_strip 4 = .ok (.iload_n 3, 1) := by decide +kernel
theorem dX10_strip_5 : decode cX10_strip 5 = .ok (.aload_n 0, 1) := by decide +kernel
theorem dX10_strip_6 : decode cX10_strip 6 = .ok (.getfield 20, 3) := by decide +kernel
theorem dX10_strip_9 : decode cX10_strip 9 = .ok (.iconst 1, 1) := by decide +kernel
theorem dX10_strip_10 : decode cX10_strip 10 = .ok (.iaload, 1) := by decide +kernel
theorem dX10_strip_11 : decode cX10_strip 11 = .ok (.if_icmp .ge 73, 3) := by decide +kernel
theorem dX10_strip_14 : decode cX10_strip 14 = .ok (.iconst 1, 1) := by decide +kernel
theorem dX10_strip_15 : decode cX10_strip 15 = .ok (.istore 4, 2) := by decide +kernel
theorem dX10_strip_17 : decode cX10_strip 17 = .ok (.iload 4, 2) := by decide +kernel
theorem dX10_strip_19 : decode cX10_strip 19 = .ok (.iload_n 1, 1) := by decide +kernel
theorem dX10_strip_20 : decode cX10_strip 20 = .ok (.iadd, 1) := by decide +kernel
theorem dX10_strip_21 : decode cX10_strip 21 = .ok (.iconst 1, 1) := by decide +kernel
theorem dX10_strip_22 : decode cX10_strip 22 = .ok (.isub, 1) := by decide +kernel
theorem dX10_strip_23 : decode cX10_strip 23 = .ok (.aload_n 0, 1) := by decide +kernel
theorem dX10_strip_24 : decode cX10_strip 24 = .ok (.getfield 20, 3) := by decide +kernel
theorem dX10_strip_27 : decode cX10_strip 27 = .ok (.iconst 0, 1) := by decide +kernel
theorem dX10_strip_28 : decode cX10_strip 28 = .ok (.iaload, 1) := by decide +kernel
theorem dX10_strip_29 : decode cX10_strip 29 = .ok (.if_icmp .gt 49, 3) := by decide +kernel
theorem dX10_strip_32 : decode cX10_strip 32 = .ok (.aload_n 0, 1) := by decide +kernel
theorem dX10_strip_33 : decode cX10_strip 33 = .ok (.iload_n 3, 1) := by decide +kernel
theorem dX10_strip_34 : decode cX10_strip 34 = .ok (.iload 4, 2) := by decide +kernel
theorem dX10_strip_36 : decode cX10_strip 36 = .ok (.iload_n 1, 1) := by decide +kernel
theorem dX10_strip_37 : decode cX10_strip 37 = .ok (.invokevirtual 388, 3) := by decide +kernel
theorem dX10_strip_40 : decode cX10_strip 40 = .ok (.istore 5, 2) := by decide +kernel
theorem dX10_strip_42 : decode cX10_strip 42 = .ok (.iload_n 2, 1) := by decide +kernel
theorem dX10_strip_43 : decode cX10_strip 43 = .ok (.ifCond .lt 15, 3) := by decide +kernel
theorem dX10_strip_46 : decode cX10_strip 46 = .ok (.iload 5, 2) := by decide +kernel
theorem dX10_strip_48 : decode cX10_strip 48 = .ok (.aload_n 0, 1) := by decide +kernel
theorem dX10_strip_49 : decode cX10_strip 49 = .ok (.getfield 391, 3) := by decide +kernel
theorem dX10_strip_52 : decode cX10_strip 52 = .ok (.if_icmp .gt 6, 3) := by decide +kernel
theorem dX10_strip_55 : decode cX10_strip 55 = .ok (.goto 17, 3) := by decide +kernel
theorem dX10_strip_58 : decode cX10_strip 58 = .ok (.bipush 100, 2) := by decide +kernel
theorem dX10_strip_60 : decode cX10_strip 60 = .ok (.iload_n 3, 1) := by decide +kernel
theorem dX10_strip_61 : decode cX10_strip 61 = .ok (.imul, 1) := by decide +kernel
theorem dX10_strip_62 : decode cX10_strip 62 = .ok (.iload 4, 2) := by decide +kernel
theorem dX10_strip_64 : decode cX10_strip 64 = .ok (.iadd, 1) := by decide +kernel
theorem dX10_strip_65 : decode cX10_strip 65 = .ok (.istore_n 2, 1) := by decide +kernel
theorem dX10_strip_66 : decode cX10_strip 66 = .ok (.aload_n 0, 1) := by decide +kernel
theorem dX10_strip_67 : decode cX10_strip 67 = .ok (.iload 5, 2) := by decide +kernel
theorem dX10_strip_69 : decode cX10_strip 69 = .ok (.putfield 391, 3) := by decide +kernel
theorem dX10_strip_72 : decode cX10_strip 72 = .ok (.iinc 4 1, 3) := by decide +kernel
theorem dX10_strip_75 : decode cX10_strip 75 = .ok (.goto (-58), 3) := by decide +kernel
theorem dX10_strip_78 : decode cX10_strip 78 = .ok (.iinc 3 1, 3) := by decide +kernel
theorem dX10_strip_81 : decode cX10_strip 81 = .ok (.goto (-77), 3) := by decide +kernel
theorem dX10_strip_84 : decode cX10_strip 84 = .ok (.iload_n 2, 1) := by decide +kernel
theorem dX10_strip_85 : decode cX10_strip 85 = .ok (.ireturn, 1) := by decide +kernel
def lp_X10_strip_17 (y1 : Int32) (y3 : Int32) (k78 : Int32 → Mm → Option (Int32 × Mm)) : Nat → Int32 → Int32 → Mm → Option (Int32 × Mm)
  | 0, _, _, _ => none
  | n + 1, y2, y4, M =>
    if (M 84 0) < ((y4 + y1) - (nI 1)) then (k78 y2 M) else (bd (f_X10_steps y3 y4 y1 M) fun v37_2 M37_1 => jn (fun (u3 : Int32) (M4 : Mm) => lp_X10_strip_17 y1 y3 k78 n u3 (y4 + (nI 1)) M4) fun j5 => jn (fun (M6 : Mm) => j5 (((nI 100) * y3) + y4) (mset M6 81 32 v37_2)) fun j7 => if y2 < 0 then (j7  M37_1) else (if (M37_1 81 32) < v37_2 then (j7  M37_1) else (j5 y2 M37_1)))
def lp_X10_strip_4 (y1 : Int32)  : Nat → Int32 → Int32 → Mm → Option (Int32 × Mm)
  | 0, _, _, _ => none
  | n + 1, y2, y3, M =>
    if (M 84 1) ≤ y3 then (some (y2, M)) else (lp_X10_strip_17 y1 y3 (fun (u11 : Int32) (M12 : Mm) => lp_X10_strip_4 y1 n u11 (y3 + (nI 1)) M12) N0 y2 (nI 1) M)
def f_X10_strip (x1 : Int32) (M : Mm) : Option (Int32 × Mm) :=
  lp_X10_strip_4 x1  N0 (-1 : Int32) (nI 0) M
set_option maxHeartbeats 4000000 in
set_option maxRecDepth 100000 in
theorem sl_X10_strip_17 {l : Launch} {B : BT} (hA : bA B = false) {d : Nat} {r : Int32} {M' : Mm} {y1 : Int32} {y3 : Int32}  {k78 : Int32 → Mm → Option (Int32 × Mm)} (hk78 : ∀ (z2 : Int32) (M9 : Mm), k78 z2 M9 = some (r, M') → GG l B LY (d + 3) yX10_strip cX10_strip 6 (some .int) 0 0 (PI r M') 97 0 0 78 [(0, .ref 81), (1, .int y1), (2, .int z2), (3, .int y3)] [] M9) :
    ∀ (n : Nat) (y2 : Int32) (y4 : Int32) (M : Mm), lp_X10_strip_17 y1 y3 k78 n y2 y4 M = some (r, M') → GG l B LY (d + 3) yX10_strip cX10_strip 6 (some .int) 0 0 (PI r M') 97 0 0 17 [(0, .ref 81), (1, .int y1), (2, .int y2), (3, .int y3), (4, .int y4)] [] M := by
  intro n
  induction n with
  | zero => intro y2 y4 M h; cases h
  | succ n ih =>
    intro y2 y4 M h
    rw [lp_X10_strip_17] at h
    refine g_iload dX10_strip_17 4 rfl ?_
    refine g_iload_n dX10_strip_19 rfl 1 rfl ?_
    refine g_iadd dX10_strip_20 ?_
    refine g_iconst (v := (nI 1)) dX10_strip_21 (by decide) ?_
    refine g_isub dX10_strip_22 ?_
    refine g_aload_n dX10_strip_23 rfl 0 rfl ?_
    refine m_getr (k := 15) okX10 rfl rfl (by decide) w_1284 rfl dX10_strip_24 ?_
    refine g_iconst (v := (nI 0)) dX10_strip_27 (by decide) ?_
    refine m_ialdL (k := 0) rfl rfl (by decide) dX10_strip_28 ?_
    refine g_icmp_gt (tgt := 78) dX10_strip_29 (by decide) (fun c10 => ?_) (fun c10 => ?_)
    · replace h := ite_p c10 h
      refine g_sub [0, 1, 2, 3] (lv' := [(0, .ref 81), (1, .int y1), (2, .int y2), (3, .int y3)]) rfl ?_
      exact hk78 _ _ h
    · replace h := ite_n c10 h
      refine g_aload_n dX10_strip_32 rfl 0 rfl ?_
      refine g_iload_n dX10_strip_33 rfl 3 rfl ?_
      refine g_iload dX10_strip_34 4 rfl ?_
      refine g_iload_n dX10_strip_36 rfl 1 rfl ?_
      obtain ⟨v37_2, M37_1, eM37_1, h⟩ := bd_e h
      refine m_callVi (As := [.int y3, .int y4, .int y1]) (st := []) (s_X10_steps (d := d + 0) hA  eM37_1) rfl okX10 ck_X10_steps w_1825 rfl (Nat.le_of_ble_eq_true rfl) dX10_strip_37 ?_
      refine g_istore (lv' := [(5, .int v37_2), (0, .ref 81), (1, .int y1), (2, .int y2), (3, .int y3), (4, .int y4)]) dX10_strip_40 (by decide) rfl ?_
      refine g_iload_n dX10_strip_42 rfl 3 rfl ?_
      obtain ⟨j5, ej5, h⟩ := jn_e h
      have hj5 : ∀ (u3 : Int32) (M4 : Mm), j5 u3 M4 = some (r, M') → GG l B LY (d + 3) yX10_strip cX10_strip 6 (some .int) 0 0 (PI r M') 97 0 0 72 [(0, .ref 81), (1, .int y1), (2, .int u3), (3, .int y3), (4, .int y4)] [] M4 := by
        intro u3 M4 h
        rw [ej5] at h
        refine g_iinc (v := (y4 + (nI 1))) (lv' := [(4, .int (y4 + (nI 1))), (0, .ref 81), (1, .int y1), (2, .int u3), (3, .int y3)]) dX10_strip_72 4 rfl rfl (by decide) rfl ?_
        refine g_goto (tgt := 17) dX10_strip_75 (by decide) ?_
        refine g_sub [1, 2, 3, 4, 0] (lv' := [(0, .ref 81), (1, .int y1), (2, .int u3), (3, .int y3), (4, .int (y4 + (nI 1)))]) rfl ?_
        exact ih _ _  _ h
      obtain ⟨j7, ej7, h⟩ := jn_e h
      have hj7 : ∀ (M6 : Mm), j7 M6 = some (r, M') → GG l B LY (d + 3) yX10_strip cX10_strip 6 (some .int) 0 0 (PI r M') 97 0 0 58 [(0, .ref 81), (1, .int y1), (3, .int y3), (4, .int y4), (5, .int v37_2)] [] M6 := by
        intro M6 h
        rw [ej7] at h
        refine g_bipush (v := (nI 100)) dX10_strip_58 (by decide) ?_
        refine g_iload_n dX10_strip_60 rfl 2 rfl ?_
        refine g_imul dX10_strip_61 ?_
        refine g_iload dX10_strip_62 3 rfl ?_
        refine g_iadd dX10_strip_64 ?_
        refine g_istore_n (lv' := [(2, .int (((nI 100) * y3) + y4)), (0, .ref 81), (1, .int y1), (3, .int y3), (4, .int y4), (5, .int v37_2)]) dX10_strip_65 rfl (by decide) rfl ?_
        refine g_aload_n dX10_strip_66 rfl 1 rfl ?_
        refine g_iload dX10_strip_67 5 rfl ?_
        refine m_puti (k := 32) okX10 rfl rfl (by decide) w_1301 rfl rfl rfl dX10_strip_69 ?_
        refine g_sub [1, 2, 0, 3, 4] (lv' := [(0, .ref 81), (1, .int y1), (2, .int (((nI 100) * y3) + y4)), (3, .int y3), (4, .int y4)]) rfl ?_
        exact hj5 _ _ h
      refine g_if_lt (tgt := 58) dX10_strip_43 (by decide) (fun c9 => ?_) (fun c9 => ?_)
      · replace h := ite_p c9 h
        refine g_sub [1, 2, 4, 5, 0] (lv' := [(0, .ref 81), (1, .int y1), (3, .int y3), (4, .int y4), (5, .int v37_2)]) rfl ?_
        exact hj7  _ h
      · replace h := ite_n c9 h
        refine g_iload dX10_strip_46 0 rfl ?_
        refine g_aload_n dX10_strip_48 rfl 1 rfl ?_
        refine m_geti (k := 32) okX10 rfl rfl (by decide) w_1301 rfl dX10_strip_49 ?_
        refine g_icmp_gt (tgt := 58) dX10_strip_52 (by decide) (fun c8 => ?_) (fun c8 => ?_)
        · replace h := ite_p c8 h
          refine g_sub [1, 2, 4, 5, 0] (lv' := [(0, .ref 81), (1, .int y1), (3, .int y3), (4, .int y4), (5, .int v37_2)]) rfl ?_
          exact hj7  _ h
        · replace h := ite_n c8 h
          refine g_goto (tgt := 72) dX10_strip_55 (by decide) ?_
          refine g_sub [1, 2, 3, 4, 5] (lv' := [(0, .ref 81), (1, .int y1), (2, .int y2), (3, .int y3), (4, .int y4)]) rfl ?_
          exact hj5 _ _ h
set_option maxHeartbeats 4000000 in
set_option maxRecDepth 100000 in
theorem sl_X10_strip_4 {l : Launch} {B : BT} (hA : bA B = false) {d : Nat} {r : Int32} {M' : Mm} {y1 : Int32}    :
    ∀ (n : Nat) (y2 : Int32) (y3 : Int32) (M : Mm), lp_X10_strip_4 y1 n y2 y3 M = some (r, M') → GG l B LY (d + 3) yX10_strip cX10_strip 6 (some .int) 0 0 (PI r M') 97 0 0 4 [(0, .ref 81), (1, .int y1), (2, .int y2), (3, .int y3)] [] M := by
  intro n
  induction n with
  | zero => intro y2 y3 M h; cases h
  | succ n ih =>
    intro y2 y3 M h
    rw [lp_X10_strip_4] at h
    refine g_iload_n dX10_strip_4 rfl 3 rfl ?_
    refine g_aload_n dX10_strip_5 rfl 0 rfl ?_
    refine m_getr (k := 15) okX10 rfl rfl (by decide) w_1284 rfl dX10_strip_6 ?_
    refine g_iconst (v := (nI 1)) dX10_strip_9 (by decide) ?_
    refine m_ialdL (k := 1) rfl rfl (by decide) dX10_strip_10 ?_
    refine g_icmp_ge (tgt := 84) dX10_strip_11 (by decide) (fun c13 => ?_) (fun c13 => ?_)
    · replace h := ite_p c13 h
      refine g_iload_n dX10_strip_84 rfl 2 rfl ?_
      exact g_zret rfl rfl (pi_of h) dX10_strip_85
    · replace h := ite_n c13 h
      refine g_iconst (v := (nI 1)) dX10_strip_14 (by decide) ?_
      refine g_istore (lv' := [(4, .int (nI 1)), (0, .ref 81), (1, .int y1), (2, .int y2), (3, .int y3)]) dX10_strip_15 (by decide) rfl ?_
      refine g_sub [1, 2, 3, 4, 0] (lv' := [(0, .ref 81), (1, .int y1), (2, .int y2), (3, .int y3), (4, .int (nI 1))]) rfl ?_
      refine sl_X10_strip_17 hA  ?_ _ _ _ _ h
      · intro u11 M12 h
        refine g_iinc (v := (y3 + (nI 1))) (lv' := [(3, .int (y3 + (nI 1))), (0, .ref 81), (1, .int y1), (2, .int u11)]) dX10_strip_78 3 rfl rfl (by decide) rfl ?_
        refine g_goto (tgt := 4) dX10_strip_81 (by decide) ?_
        refine g_sub [1, 2, 3, 0] (lv' := [(0, .ref 81), (1, .int y1), (2, .int u11), (3, .int (y3 + (nI 1)))]) rfl ?_
        exact ih _ _  _ h
set_option maxHeartbeats 4000000 in
set_option maxRecDepth 100000 in
theorem s_X10_strip {l : Launch} {B : BT} (hA : bA B = false) {d : Nat} {r : Int32} {M' : Mm} {x1 : Int32} {M : Mm}  (h : f_X10_strip x1 M = some (r, M')) : Con l B LY (d + 3) yX10_strip cX10_strip 6 (some .int) 0 0 [.ref 81, .int x1] 97 M (PI r M') := by
  refine con_of (by decide) (Nat.le_of_ble_eq_true rfl) ?_
  show GG l B LY (d + 3) yX10_strip cX10_strip 6 (some .int) 0 0 (PI r M') 97 0 0 0 [(0, .ref 81), (1, .int x1)] [] M
  rw [f_X10_strip] at h
  refine g_iconst (v := (-1 : Int32)) dX10_strip_0 (by decide) ?_
  refine g_istore_n (lv' := [(2, .int (-1 : Int32)), (0, .ref 81), (1, .int x1)]) dX10_strip_1 rfl (by decide) rfl ?_
  refine g_iconst (v := (nI 0)) dX10_strip_2 (by decide) ?_
  refine g_istore_n (lv' := [(3, .int (nI 0)), (2, .int (-1 : Int32)), (0, .ref 81), (1, .int x1)]) dX10_strip_3 rfl (by decide) rfl ?_
  refine g_sub [2, 3, 1, 0] (lv' := [(0, .ref 81), (1, .int x1), (2, .int (-1 : Int32)), (3, .int (nI 0))]) rfl ?_
  refine sl_X10_strip_4 hA   _ _ _ _ h
theorem ck_X10_strip : CKV yX10_strip cX10_strip 6 (some .int) 1 := ⟨⟨by decide, by decide, by decide +kernel⟩, w_1824, w_81, ⟨w_1823, w_69⟩, by decide⟩
theorem dX10_layWhy_0 : decode cX10_layWhy 0 = .ok (.aload_n 0, 1) := by decide +kernel
theorem dX10_layWhy_1 : decode cX10_layWhy 1 = .ok (.getfield 165, 3) := by decide +kernel
theorem dX10_layWhy_4 : decode cX10_layWhy 4 = .ok (.ifCond .ne 7, 3) := by decide +kernel
theorem dX10_layWhy_7 : decode cX10_layWhy 7 = .ok (.iconst 1, 1) := by decide +kernel
theorem dX10_layWhy_8 : decode cX10_layWhy 8 = .ok (.goto 22, 3) := by decide +kernel
theorem dX10_layWhy_11 : decode cX10_layWhy 11 = .ok (.iload_n 1, 1) := by decide +kernel
theorem dX10_layWhy_12 : decode cX10_layWhy 12 = .ok (.iconst 1, 1) := by decide +kernel
theorem dX10_layWhy_13 : decode cX10_layWhy 13 = .ok (.aload_n 0, 1) := by decide +kernel
theorem dX10_layWhy_14 : decode cX10_layWhy 14 = .ok (.getfield 20, 3) := by decide +kernel
theorem dX10_layWhy_17 : decode cX10_layWhy 17 = .ok (.iconst 0, 1) := by decide +kernel
theorem dX10_layWhy_18 : decode cX10_layWhy 18 = .ok (.iaload, 1) := by decide +kernel
theorem dX10_layWhy_19 : decode cX10_layWhy 19 = .ok (.invokestatic 144, 3) := by decide +kernel
theorem dX10_layWhy_22 : decode cX10_layWhy 22 = .ok (.ifCond .eq 7, 3) := by decide +kernel
theorem dX10_layWhy_25 : decode cX10_layWhy 25 = .ok (.iconst 0, 1) := by decide +kernel
theorem dX10_layWhy_26 : decode cX10_layWhy 26 = .ok (.goto 4, 3) := by decide +kernel
theorem dX10_layWhy_29 : decode cX10_layWhy 29 = .ok (.iconst 2, 1) := by decide +kernel
theorem dX10_layWhy_30 : decode cX10_layWhy 30 = .ok (.ireturn, 1) := by decide +kernel
def f_X10_layWhy (x1 : Int32) (M : Mm) : Option (Int32 × Mm) :=
  if (M 81 14) = 0 then (some ((nI 1), M)) else (bd (f_X10_within x1 (nI 1) (M 84 0) M) fun v19_2 M19_1 => if v19_2 = 0 then (some ((nI 2), M19_1)) else (some ((nI 0), M19_1)))
set_option maxHeartbeats 4000000 in
set_option maxRecDepth 100000 in
theorem s_X10_layWhy {l : Launch} {B : BT} (hA : bA B = false) {d : Nat} {r : Int32} {M' : Mm} {x1 : Int32} {M : Mm}  (h : f_X10_layWhy x1 M = some (r, M')) : Con l B LY (d + 1) yX10_layWhy cX10_layWhy 2 (some .int) 0 0 [.ref 81, .int x1] 97 M (PI r M') := by
  refine con_of (by decide) (Nat.le_of_ble_eq_true rfl) ?_
  show GG l B LY (d + 1) yX10_layWhy cX10_layWhy 2 (some .int) 0 0 (PI r M') 97 0 0 0 [(0, .ref 81), (1, .int x1)] [] M
  rw [f_X10_layWhy] at h
  refine g_aload_n dX10_layWhy_0 rfl 0 rfl ?_
  refine m_geti (k := 14) okX10 rfl rfl (by decide) w_1283 rfl dX10_layWhy_1 ?_
  refine g_if_ne (tgt := 11) dX10_layWhy_4 (by decide) (fun c4 => ?_) (fun c4 => ?_)
  · replace h := ite_n c4 h
    refine g_iload_n dX10_layWhy_11 rfl 1 rfl ?_
    refine g_iconst (v := (nI 1)) dX10_layWhy_12 (by decide) ?_
    refine g_aload_n dX10_layWhy_13 rfl 0 rfl ?_
    refine m_getr (k := 15) okX10 rfl rfl (by decide) w_1284 rfl dX10_layWhy_14 ?_
    refine g_iconst (v := (nI 0)) dX10_layWhy_17 (by decide) ?_
    refine m_ialdL (k := 0) rfl rfl (by decide) dX10_layWhy_18 ?_
    obtain ⟨v19_2, M19_1, eM19_1, h⟩ := bd_e h
    refine m_callSi (As := [.int x1, .int (nI 1), .int (M 84 0)]) (st := []) (s_X10_within (d := d + 0) hA  eM19_1) ck_X10_within w_1385 rfl (Nat.le_of_ble_eq_true rfl) dX10_layWhy_19 ?_
    refine g_if_eq (tgt := 29) dX10_layWhy_22 (by decide) (fun c3 => ?_) (fun c3 => ?_)
    · replace h := ite_p c3 h
      refine g_iconst (v := (nI 2)) dX10_layWhy_29 (by decide) ?_
      exact g_zret rfl rfl (pi_of h) dX10_layWhy_30
    · replace h := ite_n c3 h
      refine g_iconst (v := (nI 0)) dX10_layWhy_25 (by decide) ?_
      refine g_goto (tgt := 30) dX10_layWhy_26 (by decide) ?_
      exact g_zret rfl rfl (pi_of h) dX10_layWhy_30
  · replace h := ite_p c4 h
    refine g_iconst (v := (nI 1)) dX10_layWhy_7 (by decide) ?_
    refine g_goto (tgt := 30) dX10_layWhy_8 (by decide) ?_
    exact g_zret rfl rfl (pi_of h) dX10_layWhy_30
theorem ck_X10_layWhy : CKV yX10_layWhy cX10_layWhy 2 (some .int) 1 := ⟨⟨by decide, by decide, by decide +kernel⟩, w_1820, w_81, ⟨w_1819, w_68⟩, by decide⟩
theorem dX10_lay_0 : decode cX10_lay 0 = .ok (.aload_n 0, 1) := by decide +kernel
theorem dX10_lay_1 : decode cX10_lay 1 = .ok (.invokevirtual 156, 3) := by decide +kernel
theorem dX10_lay_4 : decode cX10_lay 4 = .ok (.aload_n 0, 1) := by decide +kernel
theorem dX10_lay_5 : decode cX10_lay 5 = .ok (.iload_n 1, 1) := by decide +kernel
theorem dX10_lay_6 : decode cX10_lay 6 = .ok (.invokevirtual 394, 3) := by decide +kernel
theorem dX10_lay_9 : decode cX10_lay 9 = .ok (.istore_n 2, 1) := by decide +kernel
theorem dX10_lay_10 : decode cX10_lay 10 = .ok (.iload_n 2, 1) := by decide +kernel
theorem dX10_lay_11 : decode cX10_lay 11 = .ok (.ifCond .eq 11, 3) := by decide +kernel
theorem dX10_lay_14 : decode cX10_lay 14 = .ok (.aload_n 0, 1) := by decide +kernel
theorem dX10_lay_15 : decode cX10_lay 15 = .ok (.iload_n 2, 1) := by decide +kernel
theorem dX10_lay_16 : decode cX10_lay 16 = .ok (.invokevirtual 159, 3) := by decide +kernel
theorem dX10_lay_19 : decode cX10_lay 19 = .ok (.goto 8, 3) := by decide +kernel
theorem dX10_lay_22 : decode cX10_lay 22 = .ok (.aload_n 0, 1) := by decide +kernel
theorem dX10_lay_23 : decode cX10_lay 23 = .ok (.iload_n 1, 1) := by decide +kernel
theorem dX10_lay_24 : decode cX10_lay 24 = .ok (.invokevirtual 397, 3) := by decide +kernel
theorem dX10_lay_27 : decode cX10_lay 27 = .ok (.ireturn, 1) := by decide +kernel
def f_X10_lay (x1 : Int32) (M : Mm) : Option (Int32 × Mm) :=
  bv (f_X10_good  M) fun M1_1 => bd (f_X10_layWhy x1 M1_1) fun v6_4 M6_3 => if v6_4 = 0 then (bd (f_X10_strip x1 M6_3) fun v24_6 M24_5 => some (v24_6, M24_5)) else (bd (f_X10_no v6_4 M6_3) fun v16_8 M16_7 => some (v16_8, M16_7))
set_option maxHeartbeats 4000000 in
set_option maxRecDepth 100000 in
theorem s_X10_lay {l : Launch} {B : BT} (hA : bA B = false) {d : Nat} {r : Int32} {M' : Mm} {x1 : Int32} {M : Mm}  (h : f_X10_lay x1 M = some (r, M')) : Con l B LY (d + 4) yX10_lay cX10_lay 3 (some .int) 0 0 [.ref 81, .int x1] 97 M (PI r M') := by
  refine con_of (by decide) (Nat.le_of_ble_eq_true rfl) ?_
  show GG l B LY (d + 4) yX10_lay cX10_lay 3 (some .int) 0 0 (PI r M') 97 0 0 0 [(0, .ref 81), (1, .int x1)] [] M
  rw [f_X10_lay] at h
  refine g_aload_n dX10_lay_0 rfl 0 rfl ?_
  obtain ⟨M1_1, eM1_1, h⟩ := bv_e h
  refine m_callVv (As := []) (st := []) (s_X10_good (d := d + 3) hA  eM1_1) rfl okX10 ck_X10_good w_1381 rfl (Nat.le_of_ble_eq_true rfl) dX10_lay_1 ?_
  refine g_aload_n dX10_lay_4 rfl 0 rfl ?_
  refine g_iload_n dX10_lay_5 rfl 1 rfl ?_
  obtain ⟨v6_4, M6_3, eM6_3, h⟩ := bd_e h
  refine m_callVi (As := [.int x1]) (st := []) (s_X10_layWhy (d := d + 2) hA  eM6_3) rfl okX10 ck_X10_layWhy w_1817 rfl (Nat.le_of_ble_eq_true rfl) dX10_lay_6 ?_
  refine g_istore_n (lv' := [(2, .int v6_4), (0, .ref 81), (1, .int x1)]) dX10_lay_9 rfl (by decide) rfl ?_
  refine g_iload_n dX10_lay_10 rfl 0 rfl ?_
  refine g_if_eq (tgt := 22) dX10_lay_11 (by decide) (fun c9 => ?_) (fun c9 => ?_)
  · replace h := ite_p c9 h
    refine g_aload_n dX10_lay_22 rfl 1 rfl ?_
    refine g_iload_n dX10_lay_23 rfl 2 rfl ?_
    obtain ⟨v24_6, M24_5, eM24_5, h⟩ := bd_e h
    refine m_callVi (As := [.int x1]) (st := []) (s_X10_strip (d := d + 0) hA  eM24_5) rfl okX10 ck_X10_strip w_1821 rfl (Nat.le_of_ble_eq_true rfl) dX10_lay_24 ?_
    exact g_zret rfl rfl (pi_of h) dX10_lay_27
  · replace h := ite_n c9 h
    refine g_aload_n dX10_lay_14 rfl 1 rfl ?_
    refine g_iload_n dX10_lay_15 rfl 0 rfl ?_
    obtain ⟨v16_8, M16_7, eM16_7, h⟩ := bd_e h
    refine m_callVi (As := [.int v6_4]) (st := []) (s_X10_no (d := d + 3) hA  eM16_7) rfl okX10 ck_X10_no w_1388 rfl (Nat.le_of_ble_eq_true rfl) dX10_lay_16 ?_
    refine g_goto (tgt := 27) dX10_lay_19 (by decide) ?_
    exact g_zret rfl rfl (pi_of h) dX10_lay_27
theorem ck_X10_lay : CKV yX10_lay cX10_lay 3 (some .int) 1 := ⟨⟨by decide, by decide, by decide +kernel⟩, w_1816, w_81, ⟨w_1814, w_1815⟩, by decide⟩
theorem dX10_heard_0 : decode cX10_heard 0 = .ok (.aload_n 0, 1) := by decide +kernel
theorem dX10_heard_1 : decode cX10_heard 1 = .ok (.invokevirtual 156, 3) := by decide +kernel
theorem dX10_heard_4 : decode cX10_heard 4 = .ok (.aload_n 0, 1) := by decide +kernel
theorem dX10_heard_5 : decode cX10_heard 5 = .ok (.iload_n 1, 1) := by decide +kernel
theorem dX10_heard_6 : decode cX10_heard 6 = .ok (.invokevirtual 394, 3) := by decide +kernel
theorem dX10_heard_9 : decode cX10_heard 9 = .ok (.istore_n 2, 1) := by decide +kernel
theorem dX10_heard_10 : decode cX10_heard 10 = .ok (.iload_n 2, 1) := by decide +kernel
theorem dX10_heard_11 : decode cX10_heard 11 = .ok (.ifCond .eq 9, 3) := by decide +kernel
theorem dX10_heard_14 : decode cX10_heard 14 = .ok (.aload_n 0, 1) := by decide +kernel
theorem dX10_heard_15 : decode cX10_heard 15 = .ok (.iload_n 2, 1) := by decide +kernel
theorem dX10_heard_16 : decode cX10_heard 16 = .ok (.invokevirtual 159, 3) := by decide +kernel
theorem dX10_heard_19 : decode cX10_heard 19 = .ok (.ireturn, 1) := by decide +kernel
theorem dX10_heard_20 : decode cX10_heard 20 = .ok (.aload_n 0, 1) := by decide +kernel
theorem dX10_heard_21 : decode cX10_heard 21 = .ok (.iload_n 1, 1) := by decide +kernel
theorem dX10_heard_22 : decode cX10_heard 22 = .ok (.invokevirtual 397, 3) := by decide +kernel
theorem dX10_heard_25 : decode cX10_heard 25 = .ok (.istore_n 3, 1) := by decide +kernel
theorem dX10_heard_26 : decode cX10_heard 26 = .ok (.iload_n 3, 1) := by decide +kernel
theorem dX10_heard_27 : decode cX10_heard 27 = .ok (.ifCond .ge 7, 3) := by decide +kernel
theorem dX10_heard_30 : decode cX10_heard 30 = .ok (.iconst (-1), 1) := by decide +kernel
theorem dX10_heard_31 : decode cX10_heard 31 = .ok (.goto 7, 3) := by decide +kernel
theorem dX10_heard_34 : decode cX10_heard 34 = .ok (.aload_n 0, 1) := by decide +kernel
theorem dX10_heard_35 : decode cX10_heard 35 = .ok (.getfield 391, 3) := by decide +kernel
theorem dX10_heard_38 : decode cX10_heard 38 = .ok (.ireturn, 1) := by decide +kernel
def f_X10_heard (x1 : Int32) (M : Mm) : Option (Int32 × Mm) :=
  bv (f_X10_good  M) fun M1_1 => bd (f_X10_layWhy x1 M1_1) fun v6_4 M6_3 => if v6_4 = 0 then (bd (f_X10_strip x1 M6_3) fun v22_6 M22_5 => if 0 ≤ v22_6 then (some ((M22_5 81 32), M22_5)) else (some ((-1 : Int32), M22_5))) else (bd (f_X10_no v6_4 M6_3) fun v16_9 M16_8 => some (v16_9, M16_8))
set_option maxHeartbeats 4000000 in
set_option maxRecDepth 100000 in
theorem s_X10_heard {l : Launch} {B : BT} (hA : bA B = false) {d : Nat} {r : Int32} {M' : Mm} {x1 : Int32} {M : Mm}  (h : f_X10_heard x1 M = some (r, M')) : Con l B LY (d + 4) yX10_heard cX10_heard 4 (some .int) 0 0 [.ref 81, .int x1] 97 M (PI r M') := by
  refine con_of (by decide) (Nat.le_of_ble_eq_true rfl) ?_
  show GG l B LY (d + 4) yX10_heard cX10_heard 4 (some .int) 0 0 (PI r M') 97 0 0 0 [(0, .ref 81), (1, .int x1)] [] M
  rw [f_X10_heard] at h
  refine g_aload_n dX10_heard_0 rfl 0 rfl ?_
  obtain ⟨M1_1, eM1_1, h⟩ := bv_e h
  refine m_callVv (As := []) (st := []) (s_X10_good (d := d + 3) hA  eM1_1) rfl okX10 ck_X10_good w_1381 rfl (Nat.le_of_ble_eq_true rfl) dX10_heard_1 ?_
  refine g_aload_n dX10_heard_4 rfl 0 rfl ?_
  refine g_iload_n dX10_heard_5 rfl 1 rfl ?_
  obtain ⟨v6_4, M6_3, eM6_3, h⟩ := bd_e h
  refine m_callVi (As := [.int x1]) (st := []) (s_X10_layWhy (d := d + 2) hA  eM6_3) rfl okX10 ck_X10_layWhy w_1817 rfl (Nat.le_of_ble_eq_true rfl) dX10_heard_6 ?_
  refine g_istore_n (lv' := [(2, .int v6_4), (0, .ref 81), (1, .int x1)]) dX10_heard_9 rfl (by decide) rfl ?_
  refine g_iload_n dX10_heard_10 rfl 0 rfl ?_
  refine g_if_eq (tgt := 20) dX10_heard_11 (by decide) (fun c10 => ?_) (fun c10 => ?_)
  · replace h := ite_p c10 h
    refine g_aload_n dX10_heard_20 rfl 1 rfl ?_
    refine g_iload_n dX10_heard_21 rfl 2 rfl ?_
    obtain ⟨v22_6, M22_5, eM22_5, h⟩ := bd_e h
    refine m_callVi (As := [.int x1]) (st := []) (s_X10_strip (d := d + 0) hA  eM22_5) rfl okX10 ck_X10_strip w_1821 rfl (Nat.le_of_ble_eq_true rfl) dX10_heard_22 ?_
    refine g_istore_n (lv' := [(3, .int v22_6), (2, .int v6_4), (0, .ref 81), (1, .int x1)]) dX10_heard_25 rfl (by decide) rfl ?_
    refine g_iload_n dX10_heard_26 rfl 0 rfl ?_
    refine g_if_ge (tgt := 34) dX10_heard_27 (by decide) (fun c7 => ?_) (fun c7 => ?_)
    · replace h := ite_p c7 h
      refine g_aload_n dX10_heard_34 rfl 2 rfl ?_
      refine m_geti (k := 32) okX10 rfl rfl (by decide) w_1301 rfl dX10_heard_35 ?_
      exact g_zret rfl rfl (pi_of h) dX10_heard_38
    · replace h := ite_n c7 h
      refine g_iconst (v := (-1 : Int32)) dX10_heard_30 (by decide) ?_
      refine g_goto (tgt := 38) dX10_heard_31 (by decide) ?_
      exact g_zret rfl rfl (pi_of h) dX10_heard_38
  · replace h := ite_n c10 h
    refine g_aload_n dX10_heard_14 rfl 1 rfl ?_
    refine g_iload_n dX10_heard_15 rfl 0 rfl ?_
    obtain ⟨v16_9, M16_8, eM16_8, h⟩ := bd_e h
    refine m_callVi (As := [.int v6_4]) (st := []) (s_X10_no (d := d + 3) hA  eM16_8) rfl okX10 ck_X10_no w_1388 rfl (Nat.le_of_ble_eq_true rfl) dX10_heard_16 ?_
    exact g_zret rfl rfl (pi_of h) dX10_heard_19
theorem ck_X10_heard : CKV yX10_heard cX10_heard 4 (some .int) 1 := ⟨⟨by decide, by decide, by decide +kernel⟩, w_1832, w_81, ⟨w_1830, w_1831⟩, by decide⟩
theorem dX10_loud_0 : decode cX10_loud 0 = .ok (.aload_n 0, 1) := by decide +kernel
theorem dX10_loud_1 : decode cX10_loud 1 = .ok (.invokevirtual 156, 3) := by decide +kernel
theorem dX10_loud_4 : decode cX10_loud 4 = .ok (.aload_n 0, 1) := by decide +kernel
theorem dX10_loud_5 : decode cX10_loud 5 = .ok (.getfield 165, 3) := by decide +kernel
theorem dX10_loud_8 : decode cX10_loud 8 = .ok (.ifCond .eq 42, 3) := by decide +kernel
theorem dX10_loud_11 : decode cX10_loud 11 = .ok (.iload_n 1, 1) := by decide +kernel
theorem dX10_loud_12 : decode cX10_loud 12 = .ok (.iconst 0, 1) := by decide +kernel
theorem dX10_loud_13 : decode cX10_loud 13 = .ok (.aload_n 0, 1) := by decide +kernel
theorem dX10_loud_14 : decode cX10_loud 14 = .ok (.getfield 20, 3) := by decide +kernel
theorem dX10_loud_17 : decode cX10_loud 17 = .ok (.iconst 1, 1) := by decide +kernel
theorem dX10_loud_18 : decode cX10_loud 18 = .ok (.iaload, 1) := by decide +kernel
theorem dX10_loud_19 : decode cX10_loud 19 = .ok (.iconst 1, 1) := by decide +kernel
theorem dX10_loud_20 : decode cX10_loud 20 = .ok (.isub, 1) := by decide +kernel
theorem dX10_loud_21 : decode cX10_loud 21 = .ok (.invokestatic 144, 3) := by decide +kernel
theorem dX10_loud_24 : decode cX10_loud 24 = .ok (.ifCond .eq 26, 3) := by decide +kernel
theorem dX10_loud_27 : decode cX10_loud 27 = .ok (.iload_n 2, 1) := by decide +kernel
theorem dX10_loud_28 : decode cX10_loud 28 = .ok (.iconst 1, 1) := by decide +kernel
theorem dX10_loud_29 : decode cX10_loud 29 = .ok (.aload_n 0, 1) := by decide +kernel
theorem dX10_loud_30 : decode cX10_loud 30 = .ok (.getfield 20, 3) := by decide +kernel
theorem dX10_loud_33 : decode cX10_loud 33 = .ok (.iconst 0, 1) := by decide +kernel
theorem dX10_loud_34 : decode cX10_loud 34 = .ok (.iaload, 1) := by decide +kernel
theorem dX10_loud_35 : decode cX10_loud 35 = .ok (.invokestatic 144, 3) := by decide +kernel
theorem dX10_loud_38 : decode cX10_loud 38 = .ok (.ifCond .eq 12, 3) := by decide +kernel
theorem dX10_loud_41 : decode cX10_loud 41 = .ok (.aload_n 0, 1) := by decide +kernel
theorem dX10_loud_42 : decode cX10_loud 42 = .ok (.iload_n 1, 1) := by decide +kernel
theorem dX10_loud_43 : decode cX10_loud 43 = .ok (.iload_n 2, 1) := by decide +kernel
theorem dX10_loud_44 : decode cX10_loud 44 = .ok (.invokevirtual 243, 3) := by decide +kernel
theorem dX10_loud_47 : decode cX10_loud 47 = .ok (.goto 8, 3) := by decide +kernel
theorem dX10_loud_50 : decode cX10_loud 50 = .ok (.aload_n 0, 1) := by decide +kernel
theorem dX10_loud_51 : decode cX10_loud 51 = .ok (.iconst 1, 1) := by decide +kernel
theorem dX10_loud_52 : decode cX10_loud 52 = .ok (.invokevirtual 159, 3) := by decide +kernel
theorem dX10_loud_55 : decode cX10_loud 55 = .ok (.ireturn, 1) := by decide +kernel
def f_X10_loud (x1 : Int32) (x2 : Int32) (M : Mm) : Option (Int32 × Mm) :=
  bv (f_X10_good  M) fun M1_1 => jn (fun (M3 : Mm) => bd (f_X10_no (nI 1) M3) fun v52_6 M52_5 => some (v52_6, M52_5)) fun j4 => if (M1_1 81 14) = 0 then (j4  M1_1) else (bd (f_X10_within x1 (nI 0) ((M1_1 84 1) - (nI 1)) M1_1) fun v21_8 M21_7 => if v21_8 = 0 then (j4  M21_7) else (bd (f_X10_within x2 (nI 1) (M21_7 84 0) M21_7) fun v35_10 M35_9 => if v35_10 = 0 then (j4  M35_9) else (bd (f_X10_loudest x1 x2 M35_9) fun v44_12 M44_11 => some (v44_12, M44_11))))
set_option maxHeartbeats 4000000 in
set_option maxRecDepth 100000 in
theorem s_X10_loud {l : Launch} {B : BT} (hA : bA B = false) {d : Nat} {r : Int32} {M' : Mm} {x1 : Int32} {x2 : Int32} {M : Mm}  (h : f_X10_loud x1 x2 M = some (r, M')) : Con l B LY (d + 2) yX10_loud cX10_loud 3 (some .int) 0 0 [.ref 81, .int x1, .int x2] 97 M (PI r M') := by
  refine con_of (by decide) (Nat.le_of_ble_eq_true rfl) ?_
  show GG l B LY (d + 2) yX10_loud cX10_loud 3 (some .int) 0 0 (PI r M') 97 0 0 0 [(0, .ref 81), (1, .int x1), (2, .int x2)] [] M
  rw [f_X10_loud] at h
  refine g_aload_n dX10_loud_0 rfl 0 rfl ?_
  obtain ⟨M1_1, eM1_1, h⟩ := bv_e h
  refine m_callVv (As := []) (st := []) (s_X10_good (d := d + 1) hA  eM1_1) rfl okX10 ck_X10_good w_1381 rfl (Nat.le_of_ble_eq_true rfl) dX10_loud_1 ?_
  refine g_aload_n dX10_loud_4 rfl 0 rfl ?_
  refine m_geti (k := 14) okX10 rfl rfl (by decide) w_1283 rfl dX10_loud_5 ?_
  obtain ⟨j4, ej4, h⟩ := jn_e h
  have hj4 : ∀ (M3 : Mm), j4 M3 = some (r, M') → GG l B LY (d + 2) yX10_loud cX10_loud 3 (some .int) 0 0 (PI r M') 97 0 0 50 [(0, .ref 81)] [] M3 := by
    intro M3 h
    rw [ej4] at h
    refine g_aload_n dX10_loud_50 rfl 0 rfl ?_
    refine g_iconst (v := (nI 1)) dX10_loud_51 (by decide) ?_
    obtain ⟨v52_6, M52_5, eM52_5, h⟩ := bd_e h
    refine m_callVi (As := [.int (nI 1)]) (st := []) (s_X10_no (d := d + 1) hA  eM52_5) rfl okX10 ck_X10_no w_1388 rfl (Nat.le_of_ble_eq_true rfl) dX10_loud_52 ?_
    exact g_zret rfl rfl (pi_of h) dX10_loud_55
  refine g_if_eq (tgt := 50) dX10_loud_8 (by decide) (fun c15 => ?_) (fun c15 => ?_)
  · replace h := ite_p c15 h
    refine g_sub [0] (lv' := [(0, .ref 81)]) rfl ?_
    exact hj4  _ h
  · replace h := ite_n c15 h
    refine g_iload_n dX10_loud_11 rfl 1 rfl ?_
    refine g_iconst (v := (nI 0)) dX10_loud_12 (by decide) ?_
    refine g_aload_n dX10_loud_13 rfl 0 rfl ?_
    refine m_getr (k := 15) okX10 rfl rfl (by decide) w_1284 rfl dX10_loud_14 ?_
    refine g_iconst (v := (nI 1)) dX10_loud_17 (by decide) ?_
    refine m_ialdL (k := 1) rfl rfl (by decide) dX10_loud_18 ?_
    refine g_iconst (v := (nI 1)) dX10_loud_19 (by decide) ?_
    refine g_isub dX10_loud_20 ?_
    obtain ⟨v21_8, M21_7, eM21_7, h⟩ := bd_e h
    refine m_callSi (As := [.int x1, .int (nI 0), .int ((M1_1 84 1) - (nI 1))]) (st := []) (s_X10_within (d := d + 1) hA  eM21_7) ck_X10_within w_1385 rfl (Nat.le_of_ble_eq_true rfl) dX10_loud_21 ?_
    refine g_if_eq (tgt := 50) dX10_loud_24 (by decide) (fun c14 => ?_) (fun c14 => ?_)
    · replace h := ite_p c14 h
      refine g_sub [0] (lv' := [(0, .ref 81)]) rfl ?_
      exact hj4  _ h
    · replace h := ite_n c14 h
      refine g_iload_n dX10_loud_27 rfl 2 rfl ?_
      refine g_iconst (v := (nI 1)) dX10_loud_28 (by decide) ?_
      refine g_aload_n dX10_loud_29 rfl 0 rfl ?_
      refine m_getr (k := 15) okX10 rfl rfl (by decide) w_1284 rfl dX10_loud_30 ?_
      refine g_iconst (v := (nI 0)) dX10_loud_33 (by decide) ?_
      refine m_ialdL (k := 0) rfl rfl (by decide) dX10_loud_34 ?_
      obtain ⟨v35_10, M35_9, eM35_9, h⟩ := bd_e h
      refine m_callSi (As := [.int x2, .int (nI 1), .int (M21_7 84 0)]) (st := []) (s_X10_within (d := d + 1) hA  eM35_9) ck_X10_within w_1385 rfl (Nat.le_of_ble_eq_true rfl) dX10_loud_35 ?_
      refine g_if_eq (tgt := 50) dX10_loud_38 (by decide) (fun c13 => ?_) (fun c13 => ?_)
      · replace h := ite_p c13 h
        refine g_sub [0] (lv' := [(0, .ref 81)]) rfl ?_
        exact hj4  _ h
      · replace h := ite_n c13 h
        refine g_aload_n dX10_loud_41 rfl 0 rfl ?_
        refine g_iload_n dX10_loud_42 rfl 1 rfl ?_
        refine g_iload_n dX10_loud_43 rfl 2 rfl ?_
        obtain ⟨v44_12, M44_11, eM44_11, h⟩ := bd_e h
        refine m_callVi (As := [.int x1, .int x2]) (st := []) (s_X10_loudest (d := d + 0) hA  eM44_11) rfl okX10 ck_X10_loudest w_1528 rfl (Nat.le_of_ble_eq_true rfl) dX10_loud_44 ?_
        refine g_goto (tgt := 55) dX10_loud_47 (by decide) ?_
        exact g_zret rfl rfl (pi_of h) dX10_loud_55
theorem ck_X10_loud : CKV yX10_loud cX10_loud 3 (some .int) 2 := ⟨⟨by decide, by decide, by decide +kernel⟩, w_1836, w_81, ⟨w_1834, w_1835⟩, by decide⟩
theorem dX10_led_0 : decode cX10_led 0 = .ok (.iconst 0, 1) := by decide +kernel
theorem dX10_led_1 : decode cX10_led 1 = .ok (.istore_n 2, 1) := by decide +kernel
theorem dX10_led_2 : decode cX10_led 2 = .ok (.aload_n 0, 1) := by decide +kernel
theorem dX10_led_3 : decode cX10_led 3 = .ok (.getfield 165, 3) := by decide +kernel
theorem dX10_led_6 : decode cX10_led 6 = .ok (.ifCond .eq 39, 3) := by decide +kernel
theorem dX10_led_9 : decode cX10_led 9 = .ok (.iload_n 2, 1) := by decide +kernel
theorem dX10_led_10 : decode cX10_led 10 = .ok (.aload_n 0, 1) := by decide +kernel
theorem dX10_led_11 : decode cX10_led 11 = .ok (.getfield 20, 3) := by decide +kernel
theorem dX10_led_14 : decode cX10_led 14 = .ok (.bipush 95, 2) := by decide +kernel
theorem dX10_led_16 : decode cX10_led 16 = .ok (.iaload, 1) := by decide +kernel
theorem dX10_led_17 : decode cX10_led 17 = .ok (.if_icmp .ge 28, 3) := by decide +kernel
theorem dX10_led_20 : decode cX10_led 20 = .ok (.aload_n 0, 1) := by decide +kernel
theorem dX10_led_21 : decode cX10_led 21 = .ok (.iload_n 2, 1) := by decide +kernel
theorem dX10_led_22 : decode cX10_led 22 = .ok (.invokevirtual 265, 3) := by decide +kernel
theorem dX10_led_25 : decode cX10_led 25 = .ok (.iload_n 1, 1) := by decide +kernel
theorem dX10_led_26 : decode cX10_led 26 = .ok (.if_icmp .eq 6, 3) := by decide +kernel
theorem dX10_led_29 : decode cX10_led 29 = .ok (.goto 10, 3) := by decide +kernel
theorem dX10_led_32 : decode cX10_led 32 = .ok (.aload_n 0, 1) := by decide +kernel
theorem dX10_led_33 : decode cX10_led 33 = .ok (.iconst 0, 1) := by decide +kernel
theorem dX10_led_34 : decode cX10_led 34 = .ok (.putfield 59, 3) := by decide +kernel
theorem dX10_led_37 : decode cX10_led 37 = .ok (.iload_n 2, 1) := by decide +kernel
theorem dX10_led_38 : decode cX10_led 38 = .ok (.ireturn, 1) := by decide +kernel
theorem dX10_led_39 : decode cX10_led 39 = .ok (.iinc 2 1, 3) := by decide +kernel
theorem dX10_led_42 : decode cX10_led 42 = .ok (.goto (-40), 3) := by decide +kernel
theorem dX10_led_45 : decode cX10_led 45 = .ok (.aload_n 0, 1) := by decide +kernel
theorem dX10_led_46 : decode cX10_led 46 = .ok (.iconst 1, 1) := by decide +kernel
theorem dX10_led_47 : decode cX10_led 47 = .ok (.putfield 59, 3) := by decide +kernel
theorem dX10_led_50 : decode cX10_led 50 = .ok (.iconst 0, 1) := by decide +kernel
theorem dX10_led_51 : decode cX10_led 51 = .ok (.ireturn, 1) := by decide +kernel
def lp_X10_led_2 (y1 : Int32) (k32 : Int32 → Mm → Option (Int32 × Mm)) (k45 : Mm → Option (Int32 × Mm)) : Nat → Int32 → Mm → Option (Int32 × Mm)
  | 0, _, _ => none
  | n + 1, y2, M =>
    if (M 81 14) = 0 then (k45  M) else (if (M 84 95) ≤ y2 then (k45  M) else (bd (f_X10_ahead y2 M) fun v22_2 M22_1 => if v22_2 = y1 then (k32 y2 M22_1) else (lp_X10_led_2 y1 k32 k45 n (y2 + (nI 1)) M22_1)))
def f_X10_led (x1 : Int32) (M : Mm) : Option (Int32 × Mm) :=
  lp_X10_led_2 x1 (fun (u6 : Int32) (M7 : Mm) => some (u6, (mset M7 81 0 (nI 0)))) (fun  (M8 : Mm) => some ((nI 0), (mset M8 81 0 (nI 1)))) N0 (nI 0) M
set_option maxHeartbeats 4000000 in
set_option maxRecDepth 100000 in
theorem sl_X10_led_2 {l : Launch} {B : BT} (hA : bA B = false) {d : Nat} {r : Int32} {M' : Mm} {y1 : Int32}  {k32 : Int32 → Mm → Option (Int32 × Mm)} {k45 : Mm → Option (Int32 × Mm)} (hk32 : ∀ (z2 : Int32) (M9 : Mm), k32 z2 M9 = some (r, M') → GG l B LY (d + 1) yX10_led cX10_led 3 (some .int) 0 0 (PI r M') 97 0 0 32 [(0, .ref 81), (2, .int z2)] [] M9) (hk45 : ∀  (M9 : Mm), k45  M9 = some (r, M') → GG l B LY (d + 1) yX10_led cX10_led 3 (some .int) 0 0 (PI r M') 97 0 0 45 [(0, .ref 81)] [] M9) :
    ∀ (n : Nat) (y2 : Int32) (M : Mm), lp_X10_led_2 y1 k32 k45 n y2 M = some (r, M') → GG l B LY (d + 1) yX10_led cX10_led 3 (some .int) 0 0 (PI r M') 97 0 0 2 [(0, .ref 81), (1, .int y1), (2, .int y2)] [] M := by
  intro n
  induction n with
  | zero => intro y2 M h; cases h
  | succ n ih =>
    intro y2 M h
    rw [lp_X10_led_2] at h
    refine g_aload_n dX10_led_2 rfl 0 rfl ?_
    refine m_geti (k := 14) okX10 rfl rfl (by decide) w_1283 rfl dX10_led_3 ?_
    refine g_if_eq (tgt := 45) dX10_led_6 (by decide) (fun c5 => ?_) (fun c5 => ?_)
    · replace h := ite_p c5 h
      refine g_sub [0] (lv' := [(0, .ref 81)]) rfl ?_
      exact hk45  _ h
    · replace h := ite_n c5 h
      refine g_iload_n dX10_led_9 rfl 2 rfl ?_
      refine g_aload_n dX10_led_10 rfl 0 rfl ?_
      refine m_getr (k := 15) okX10 rfl rfl (by decide) w_1284 rfl dX10_led_11 ?_
      refine g_bipush (v := (nI 95)) dX10_led_14 (by decide) ?_
      refine m_ialdL (k := 95) rfl rfl (by decide) dX10_led_16 ?_
      refine g_icmp_ge (tgt := 45) dX10_led_17 (by decide) (fun c4 => ?_) (fun c4 => ?_)
      · replace h := ite_p c4 h
        refine g_sub [0] (lv' := [(0, .ref 81)]) rfl ?_
        exact hk45  _ h
      · replace h := ite_n c4 h
        refine g_aload_n dX10_led_20 rfl 0 rfl ?_
        refine g_iload_n dX10_led_21 rfl 2 rfl ?_
        obtain ⟨v22_2, M22_1, eM22_1, h⟩ := bd_e h
        refine m_callVi (As := [.int y2]) (st := []) (s_X10_ahead (d := d + 0) hA  eM22_1) rfl okX10 ck_X10_ahead w_1556 rfl (Nat.le_of_ble_eq_true rfl) dX10_led_22 ?_
        refine g_iload_n dX10_led_25 rfl 1 rfl ?_
        refine g_icmp_eq (tgt := 32) dX10_led_26 (by decide) (fun c3 => ?_) (fun c3 => ?_)
        · replace h := ite_p c3 h
          refine g_sub [0, 2] (lv' := [(0, .ref 81), (2, .int y2)]) rfl ?_
          exact hk32 _ _ h
        · replace h := ite_n c3 h
          refine g_goto (tgt := 39) dX10_led_29 (by decide) ?_
          refine g_iinc (v := (y2 + (nI 1))) (lv' := [(2, .int (y2 + (nI 1))), (0, .ref 81), (1, .int y1)]) dX10_led_39 2 rfl rfl (by decide) rfl ?_
          refine g_goto (tgt := 2) dX10_led_42 (by decide) ?_
          refine g_sub [1, 2, 0] (lv' := [(0, .ref 81), (1, .int y1), (2, .int (y2 + (nI 1)))]) rfl ?_
          exact ih _  _ h
set_option maxHeartbeats 4000000 in
set_option maxRecDepth 100000 in
theorem s_X10_led {l : Launch} {B : BT} (hA : bA B = false) {d : Nat} {r : Int32} {M' : Mm} {x1 : Int32} {M : Mm}  (h : f_X10_led x1 M = some (r, M')) : Con l B LY (d + 1) yX10_led cX10_led 3 (some .int) 0 0 [.ref 81, .int x1] 97 M (PI r M') := by
  refine con_of (by decide) (Nat.le_of_ble_eq_true rfl) ?_
  show GG l B LY (d + 1) yX10_led cX10_led 3 (some .int) 0 0 (PI r M') 97 0 0 0 [(0, .ref 81), (1, .int x1)] [] M
  rw [f_X10_led] at h
  refine g_iconst (v := (nI 0)) dX10_led_0 (by decide) ?_
  refine g_istore_n (lv' := [(2, .int (nI 0)), (0, .ref 81), (1, .int x1)]) dX10_led_1 rfl (by decide) rfl ?_
  refine g_sub [1, 2, 0] (lv' := [(0, .ref 81), (1, .int x1), (2, .int (nI 0))]) rfl ?_
  refine sl_X10_led_2 hA  ?_ ?_ _ _ _ h
  · intro u6 M7 h
    refine g_aload_n dX10_led_32 rfl 0 rfl ?_
    refine g_iconst (v := (nI 0)) dX10_led_33 (by decide) ?_
    refine m_puti (k := 0) okX10 rfl rfl (by decide) w_1269 rfl rfl rfl dX10_led_34 ?_
    refine g_iload_n dX10_led_37 rfl 1 rfl ?_
    exact g_zret rfl rfl (pi_of h) dX10_led_38
  · intro  M8 h
    refine g_aload_n dX10_led_45 rfl 0 rfl ?_
    refine g_iconst (v := (nI 1)) dX10_led_46 (by decide) ?_
    refine m_puti (k := 0) okX10 rfl rfl (by decide) w_1269 rfl rfl rfl dX10_led_47 ?_
    refine g_iconst (v := (nI 0)) dX10_led_50 (by decide) ?_
    exact g_zret rfl rfl (pi_of h) dX10_led_51
theorem ck_X10_led : CKV yX10_led cX10_led 3 (some .int) 1 := ⟨⟨by decide, by decide, by decide +kernel⟩, w_1840, w_81, ⟨w_1838, w_1839⟩, by decide⟩
theorem dX10_size_0 : decode cX10_size 0 = .ok (.aload_n 0, 1) := by decide +kernel
theorem dX10_size_1 : decode cX10_size 1 = .ok (.iconst 0, 1) := by decide +kernel
theorem dX10_size_2 : decode cX10_size 2 = .ok (.putfield 59, 3) := by decide +kernel
theorem dX10_size_5 : decode cX10_size 5 = .ok (.iload_n 1, 1) := by decide +kernel
theorem dX10_size_6 : decode cX10_size 6 = .ok (.bipush 6, 2) := by decide +kernel
theorem dX10_size_8 : decode cX10_size 8 = .ok (.if_icmp .ne 8, 3) := by decide +kernel
theorem dX10_size_11 : decode cX10_size 11 = .ok (.aload_n 0, 1) := by decide +kernel
theorem dX10_size_12 : decode cX10_size 12 = .ok (.getfield 65, 3) := by decide +kernel
theorem dX10_size_15 : decode cX10_size 15 = .ok (.ireturn, 1) := by decide +kernel
theorem dX10_size_16 : decode cX10_size 16 = .ok (.aload_n 0, 1) := by decide +kernel
theorem dX10_size_17 : decode cX10_size 17 = .ok (.getfield 165, 3) := by decide +kernel
theorem dX10_size_20 : decode cX10_size 20 = .ok (.ifCond .ne 19, 3) := by decide +kernel
theorem dX10_size_23 : decode cX10_size 23 = .ok (.iload_n 1, 1) := by decide +kernel
theorem dX10_size_24 : decode cX10_size 24 = .ok (.iconst 0, 1) := by decide +kernel
theorem dX10_size_25 : decode cX10_size 25 = .ok (.bipush 10, 2) := by decide +kernel
theorem dX10_size_27 : decode cX10_size 27 = .ok (.invokestatic 144, 3) := by decide +kernel
theorem dX10_size_30 : decode cX10_size 30 = .ok (.ifCond .eq 7, 3) := by decide +kernel
theorem dX10_size_33 : decode cX10_size 33 = .ok (.iconst 0, 1) := by decide +kernel
theorem dX10_size_34 : decode cX10_size 34 = .ok (.goto 4, 3) := by decide +kernel
theorem dX10_size_37 : decode cX10_size 37 = .ok (.iconst (-1), 1) := by decide +kernel
theorem dX10_size_38 : decode cX10_size 38 = .ok (.ireturn, 1) := by decide +kernel
theorem dX10_size_39 : decode cX10_size 39 = .ok (.iload_n 1, 1) := by decide +kernel
theorem dX10_size_40 : decode cX10_size 40 = .ok (.tableswitch 135 0 10 #[60, 67, 74, 82, 90, 98, 135, 106, 111, 116, 121], 60) := by decide +kernel
theorem dX10_size_100 : decode cX10_size 100 = .ok (.aload_n 0, 1) := by decide +kernel
theorem dX10_size_101 : decode cX10_size 101 = .ok (.getfield 20, 3) := by decide +kernel
theorem dX10_size_104 : decode cX10_size 104 = .ok (.iconst 0, 1) := by decide +kernel
theorem dX10_size_105 : decode cX10_size 105 = .ok (.iaload, 1) := by decide +kernel
theorem dX10_size_106 : decode cX10_size 106 = .ok (.ireturn, 1) := by decide +kernel
theorem dX10_size_107 : decode cX10_size 107 = .ok (.aload_n 0, 1) := by decide +kernel
theorem dX10_size_108 : decode cX10_size 108 = .ok (.getfield 20, 3) := by decide +kernel
theorem dX10_size_111 : decode cX10_size 111 = .ok (.iconst 1, 1) := by decide +kernel
theorem dX10_size_112 : decode cX10_size 112 = .ok (.iaload, 1) := by decide +kernel
theorem dX10_size_113 : decode cX10_size 113 = .ok (.ireturn, 1) := by decide +kernel
theorem dX10_size_114 : decode cX10_size 114 = .ok (.aload_n 0, 1) := by decide +kernel
theorem dX10_size_115 : decode cX10_size 115 = .ok (.getfield 20, 3) := by decide +kernel
theorem dX10_size_118 : decode cX10_size 118 = .ok (.bipush 92, 2) := by decide +kernel
theorem dX10_size_120 : decode cX10_size 120 = .ok (.iaload, 1) := by decide +kernel
theorem dX10_size_121 : decode cX10_size 121 = .ok (.ireturn, 1) := by decide +kernel
theorem dX10_size_122 : decode cX10_size 122 = .ok (.aload_n 0, 1) := by decide +kernel
theorem dX10_size_123 : decode cX10_size 123 = .ok (.getfield 20, 3) := by decide +kernel
theorem dX10_size_126 : decode cX10_size 126 = .ok (.bipush 94, 2) := by decide +kernel
theorem dX10_size_128 : decode cX10_size 128 = .ok (.iaload, 1) := by decide +kernel
theorem dX10_size_129 : decode cX10_size 129 = .ok (.ireturn, 1) := by decide +kernel
theorem dX10_size_130 : decode cX10_size 130 = .ok (.aload_n 0, 1) := by decide +kernel
theorem dX10_size_131 : decode cX10_size 131 = .ok (.getfield 20, 3) := by decide +kernel
theorem dX10_size_134 : decode cX10_size 134 = .ok (.bipush 95, 2) := by decide +kernel
theorem dX10_size_136 : decode cX10_size 136 = .ok (.iaload, 1) := by decide +kernel
theorem dX10_size_137 : decode cX10_size 137 = .ok (.ireturn, 1) := by decide +kernel
theorem dX10_size_138 : decode cX10_size 138 = .ok (.aload_n 0, 1) := by decide +kernel
theorem dX10_size_139 : decode cX10_size 139 = .ok (.getfield 26, 3) := by decide +kernel
theorem dX10_size_142 : decode cX10_size 142 = .ok (.bipush 6, 2) := by decide +kernel
theorem dX10_size_144 : decode cX10_size 144 = .ok (.iaload, 1) := by decide +kernel
theorem dX10_size_145 : decode cX10_size 145 = .ok (.ireturn, 1) := by decide +kernel
theorem dX10_size_146 : decode cX10_size 146 = .ok (.aload_n 0, 1) := by decide +kernel
theorem dX10_size_147 : decode cX10_size 147 = .ok (.getfield 172, 3) := by decide +kernel
theorem dX10_size_150 : decode cX10_size 150 = .ok (.ireturn, 1) := by decide +kernel
theorem dX10_size_151 : decode cX10_size 151 = .ok (.aload_n 0, 1) := by decide +kernel
theorem dX10_size_152 : decode cX10_size 152 = .ok (.getfield 175, 3) := by decide +kernel
theorem dX10_size_155 : decode cX10_size 155 = .ok (.ireturn, 1) := by decide +kernel
theorem dX10_size_156 : decode cX10_size 156 = .ok (.aload_n 0, 1) := by decide +kernel
theorem dX10_size_157 : decode cX10_size 157 = .ok (.invokevirtual 318, 3) := by decide +kernel
theorem dX10_size_160 : decode cX10_size 160 = .ok (.ireturn, 1) := by decide +kernel
theorem dX10_size_161 : decode cX10_size 161 = .ok (.aload_n 0, 1) := by decide +kernel
theorem dX10_size_162 : decode cX10_size 162 = .ok (.getfield 20, 3) := by decide +kernel
theorem dX10_size_165 : decode cX10_size 165 = .ok (.iconst 3, 1) := by decide +kernel
theorem dX10_size_166 : decode cX10_size 166 = .ok (.iaload, 1) := by decide +kernel
theorem dX10_size_167 : decode cX10_size 167 = .ok (.aload_n 0, 1) := by decide +kernel
theorem dX10_size_168 : decode cX10_size 168 = .ok (.getfield 20, 3) := by decide +kernel
theorem dX10_size_171 : decode cX10_size 171 = .ok (.iconst 4, 1) := by decide +kernel
theorem dX10_size_172 : decode cX10_size 172 = .ok (.iaload, 1) := by decide +kernel
theorem dX10_size_173 : decode cX10_size 173 = .ok (.idiv, 1) := by decide +kernel
theorem dX10_size_174 : decode cX10_size 174 = .ok (.ireturn, 1) := by decide +kernel
theorem dX10_size_175 : decode cX10_size 175 = .ok (.iconst (-1), 1) := by decide +kernel
theorem dX10_size_176 : decode cX10_size 176 = .ok (.ireturn, 1) := by decide +kernel
def f_X10_size (x1 : Int32) (M : Mm) : Option (Int32 × Mm) :=
  if x1 = (nI 6) then (some (((mset M 81 0 (nI 0)) 81 2), (mset M 81 0 (nI 0)))) else (if ((mset M 81 0 (nI 0)) 81 14) = 0 then (bd (f_X10_within x1 (nI 0) (nI 10) (mset M 81 0 (nI 0))) fun v27_15 M27_14 => if v27_15 = 0 then (some ((-1 : Int32), M27_14)) else (some ((nI 0), M27_14))) else (if x1 = (nI 0) then (some (((mset M 81 0 (nI 0)) 84 0), (mset M 81 0 (nI 0)))) else (if x1 = (nI 1) then (some (((mset M 81 0 (nI 0)) 84 1), (mset M 81 0 (nI 0)))) else (if x1 = (nI 2) then (some (((mset M 81 0 (nI 0)) 84 92), (mset M 81 0 (nI 0)))) else (if x1 = (nI 3) then (some (((mset M 81 0 (nI 0)) 84 94), (mset M 81 0 (nI 0)))) else (if x1 = (nI 4) then (some (((mset M 81 0 (nI 0)) 84 95), (mset M 81 0 (nI 0)))) else (if x1 = (nI 5) then (some (((mset M 81 0 (nI 0)) 86 6), (mset M 81 0 (nI 0)))) else (if x1 = (nI 6) then (some ((-1 : Int32), (mset M 81 0 (nI 0)))) else (if x1 = (nI 7) then (some (((mset M 81 0 (nI 0)) 81 19), (mset M 81 0 (nI 0)))) else (if x1 = (nI 8) then (some (((mset M 81 0 (nI 0)) 81 26), (mset M 81 0 (nI 0)))) else (if x1 = (nI 9) then (bd (f_X10_whole  (mset M 81 0 (nI 0))) fun v157_12 M157_11 => some (v157_12, M157_11)) else (if x1 = (nI 10) then (gd (nzi ((mset M 81 0 (nI 0)) 84 4)) <| some ((((mset M 81 0 (nI 0)) 84 3) / ((mset M 81 0 (nI 0)) 84 4)), (mset M 81 0 (nI 0)))) else (some ((-1 : Int32), (mset M 81 0 (nI 0))))))))))))))))
set_option maxHeartbeats 4000000 in
set_option maxRecDepth 100000 in
theorem s_X10_size {l : Launch} {B : BT} (hA : bA B = false) {d : Nat} {r : Int32} {M' : Mm} {x1 : Int32} {M : Mm}  (h : f_X10_size x1 M = some (r, M')) : Con l B LY (d + 3) yX10_size cX10_size 2 (some .int) 0 0 [.ref 81, .int x1] 97 M (PI r M') := by
  refine con_of (by decide) (Nat.le_of_ble_eq_true rfl) ?_
  show GG l B LY (d + 3) yX10_size cX10_size 2 (some .int) 0 0 (PI r M') 97 0 0 0 [(0, .ref 81), (1, .int x1)] [] M
  rw [f_X10_size] at h
  refine g_aload_n dX10_size_0 rfl 0 rfl ?_
  refine g_iconst (v := (nI 0)) dX10_size_1 (by decide) ?_
  refine m_puti (k := 0) okX10 rfl rfl (by decide) w_1269 rfl rfl rfl dX10_size_2 ?_
  refine g_iload_n dX10_size_5 rfl 1 rfl ?_
  refine g_bipush (v := (nI 6)) dX10_size_6 (by decide) ?_
  refine g_icmp_ne (tgt := 16) dX10_size_8 (by decide) (fun c18 => ?_) (fun c18 => ?_)
  · replace h := ite_n c18 h
    refine g_aload_n dX10_size_16 rfl 0 rfl ?_
    refine m_geti (k := 14) okX10 rfl rfl (by decide) w_1283 rfl dX10_size_17 ?_
    refine g_if_ne (tgt := 39) dX10_size_20 (by decide) (fun c17 => ?_) (fun c17 => ?_)
    · replace h := ite_n c17 h
      refine g_iload_n dX10_size_39 rfl 1 rfl ?_
      by_cases c1 : x1 = (nI 0)
      · replace h := ite_p c1 h
        refine g_tabIn (tgt := 100) dX10_size_40 (by rw [c1]; decide) (by rw [c1]; decide) (off := 60) (by rw [c1]; rfl) (by decide) ?_
        refine g_aload_n dX10_size_100 rfl 0 rfl ?_
        refine m_getr (k := 15) okX10 rfl rfl (by decide) w_1284 rfl dX10_size_101 ?_
        refine g_iconst (v := (nI 0)) dX10_size_104 (by decide) ?_
        refine m_ialdL (k := 0) rfl rfl (by decide) dX10_size_105 ?_
        exact g_zret rfl rfl (pi_of h) dX10_size_106
      replace h := ite_n c1 h
      by_cases c2 : x1 = (nI 1)
      · replace h := ite_p c2 h
        refine g_tabIn (tgt := 107) dX10_size_40 (by rw [c2]; decide) (by rw [c2]; decide) (off := 67) (by rw [c2]; rfl) (by decide) ?_
        refine g_aload_n dX10_size_107 rfl 0 rfl ?_
        refine m_getr (k := 15) okX10 rfl rfl (by decide) w_1284 rfl dX10_size_108 ?_
        refine g_iconst (v := (nI 1)) dX10_size_111 (by decide) ?_
        refine m_ialdL (k := 1) rfl rfl (by decide) dX10_size_112 ?_
        exact g_zret rfl rfl (pi_of h) dX10_size_113
      replace h := ite_n c2 h
      by_cases c3 : x1 = (nI 2)
      · replace h := ite_p c3 h
        refine g_tabIn (tgt := 114) dX10_size_40 (by rw [c3]; decide) (by rw [c3]; decide) (off := 74) (by rw [c3]; rfl) (by decide) ?_
        refine g_aload_n dX10_size_114 rfl 0 rfl ?_
        refine m_getr (k := 15) okX10 rfl rfl (by decide) w_1284 rfl dX10_size_115 ?_
        refine g_bipush (v := (nI 92)) dX10_size_118 (by decide) ?_
        refine m_ialdL (k := 92) rfl rfl (by decide) dX10_size_120 ?_
        exact g_zret rfl rfl (pi_of h) dX10_size_121
      replace h := ite_n c3 h
      by_cases c4 : x1 = (nI 3)
      · replace h := ite_p c4 h
        refine g_tabIn (tgt := 122) dX10_size_40 (by rw [c4]; decide) (by rw [c4]; decide) (off := 82) (by rw [c4]; rfl) (by decide) ?_
        refine g_aload_n dX10_size_122 rfl 0 rfl ?_
        refine m_getr (k := 15) okX10 rfl rfl (by decide) w_1284 rfl dX10_size_123 ?_
        refine g_bipush (v := (nI 94)) dX10_size_126 (by decide) ?_
        refine m_ialdL (k := 94) rfl rfl (by decide) dX10_size_128 ?_
        exact g_zret rfl rfl (pi_of h) dX10_size_129
      replace h := ite_n c4 h
      by_cases c5 : x1 = (nI 4)
      · replace h := ite_p c5 h
        refine g_tabIn (tgt := 130) dX10_size_40 (by rw [c5]; decide) (by rw [c5]; decide) (off := 90) (by rw [c5]; rfl) (by decide) ?_
        refine g_aload_n dX10_size_130 rfl 0 rfl ?_
        refine m_getr (k := 15) okX10 rfl rfl (by decide) w_1284 rfl dX10_size_131 ?_
        refine g_bipush (v := (nI 95)) dX10_size_134 (by decide) ?_
        refine m_ialdL (k := 95) rfl rfl (by decide) dX10_size_136 ?_
        exact g_zret rfl rfl (pi_of h) dX10_size_137
      replace h := ite_n c5 h
      by_cases c6 : x1 = (nI 5)
      · replace h := ite_p c6 h
        refine g_tabIn (tgt := 138) dX10_size_40 (by rw [c6]; decide) (by rw [c6]; decide) (off := 98) (by rw [c6]; rfl) (by decide) ?_
        refine g_aload_n dX10_size_138 rfl 0 rfl ?_
        refine m_getr (k := 17) okX10 rfl rfl (by decide) w_1286 rfl dX10_size_139 ?_
        refine g_bipush (v := (nI 6)) dX10_size_142 (by decide) ?_
        refine m_ialdL (k := 6) rfl rfl (by decide) dX10_size_144 ?_
        exact g_zret rfl rfl (pi_of h) dX10_size_145
      replace h := ite_n c6 h
      by_cases c7 : x1 = (nI 6)
      · replace h := ite_p c7 h
        refine g_tabIn (tgt := 175) dX10_size_40 (by rw [c7]; decide) (by rw [c7]; decide) (off := 135) (by rw [c7]; rfl) (by decide) ?_
        refine g_iconst (v := (-1 : Int32)) dX10_size_175 (by decide) ?_
        exact g_zret rfl rfl (pi_of h) dX10_size_176
      replace h := ite_n c7 h
      by_cases c8 : x1 = (nI 7)
      · replace h := ite_p c8 h
        refine g_tabIn (tgt := 146) dX10_size_40 (by rw [c8]; decide) (by rw [c8]; decide) (off := 106) (by rw [c8]; rfl) (by decide) ?_
        refine g_aload_n dX10_size_146 rfl 0 rfl ?_
        refine m_geti (k := 19) okX10 rfl rfl (by decide) w_1288 rfl dX10_size_147 ?_
        exact g_zret rfl rfl (pi_of h) dX10_size_150
      replace h := ite_n c8 h
      by_cases c9 : x1 = (nI 8)
      · replace h := ite_p c9 h
        refine g_tabIn (tgt := 151) dX10_size_40 (by rw [c9]; decide) (by rw [c9]; decide) (off := 111) (by rw [c9]; rfl) (by decide) ?_
        refine g_aload_n dX10_size_151 rfl 0 rfl ?_
        refine m_geti (k := 26) okX10 rfl rfl (by decide) w_1295 rfl dX10_size_152 ?_
        exact g_zret rfl rfl (pi_of h) dX10_size_155
      replace h := ite_n c9 h
      by_cases c10 : x1 = (nI 9)
      · replace h := ite_p c10 h
        refine g_tabIn (tgt := 156) dX10_size_40 (by rw [c10]; decide) (by rw [c10]; decide) (off := 116) (by rw [c10]; rfl) (by decide) ?_
        refine g_aload_n dX10_size_156 rfl 0 rfl ?_
        obtain ⟨v157_12, M157_11, eM157_11, h⟩ := bd_e h
        refine m_callVi (As := []) (st := []) (s_X10_whole (d := d + 0) hA  eM157_11) rfl okX10 ck_X10_whole w_1637 rfl (Nat.le_of_ble_eq_true rfl) dX10_size_157 ?_
        exact g_zret rfl rfl (pi_of h) dX10_size_160
      replace h := ite_n c10 h
      by_cases c13 : x1 = (nI 10)
      · replace h := ite_p c13 h
        refine g_tabIn (tgt := 161) dX10_size_40 (by rw [c13]; decide) (by rw [c13]; decide) (off := 121) (by rw [c13]; rfl) (by decide) ?_
        refine g_aload_n dX10_size_161 rfl 0 rfl ?_
        refine m_getr (k := 15) okX10 rfl rfl (by decide) w_1284 rfl dX10_size_162 ?_
        refine g_iconst (v := (nI 3)) dX10_size_165 (by decide) ?_
        refine m_ialdL (k := 3) rfl rfl (by decide) dX10_size_166 ?_
        refine g_aload_n dX10_size_167 rfl 0 rfl ?_
        refine m_getr (k := 15) okX10 rfl rfl (by decide) w_1284 rfl dX10_size_168 ?_
        refine g_iconst (v := (nI 4)) dX10_size_171 (by decide) ?_
        refine m_ialdL (k := 4) rfl rfl (by decide) dX10_size_172 ?_
        obtain ⟨hz, h⟩ := gd_s h
        refine g_idiv dX10_size_173 (nzi_s hz) ?_
        exact g_zret rfl rfl (pi_of h) dX10_size_174
      replace h := ite_n c13 h
      have tc1 : x1.toInt ≠ 0 := fun e => c1 (Int32.toInt_inj.mp (e.trans (by decide)))
      have tc2 : x1.toInt ≠ 1 := fun e => c2 (Int32.toInt_inj.mp (e.trans (by decide)))
      have tc3 : x1.toInt ≠ 2 := fun e => c3 (Int32.toInt_inj.mp (e.trans (by decide)))
      have tc4 : x1.toInt ≠ 3 := fun e => c4 (Int32.toInt_inj.mp (e.trans (by decide)))
      have tc5 : x1.toInt ≠ 4 := fun e => c5 (Int32.toInt_inj.mp (e.trans (by decide)))
      have tc6 : x1.toInt ≠ 5 := fun e => c6 (Int32.toInt_inj.mp (e.trans (by decide)))
      have tc7 : x1.toInt ≠ 6 := fun e => c7 (Int32.toInt_inj.mp (e.trans (by decide)))
      have tc8 : x1.toInt ≠ 7 := fun e => c8 (Int32.toInt_inj.mp (e.trans (by decide)))
      have tc9 : x1.toInt ≠ 8 := fun e => c9 (Int32.toInt_inj.mp (e.trans (by decide)))
      have tc10 : x1.toInt ≠ 9 := fun e => c10 (Int32.toInt_inj.mp (e.trans (by decide)))
      have tc13 : x1.toInt ≠ 10 := fun e => c13 (Int32.toInt_inj.mp (e.trans (by decide)))
      refine g_tabOut (tgt := 175) dX10_size_40 (by omega) (by decide) ?_
      refine g_iconst (v := (-1 : Int32)) dX10_size_175 (by decide) ?_
      exact g_zret rfl rfl (pi_of h) dX10_size_176
    · replace h := ite_p c17 h
      refine g_iload_n dX10_size_23 rfl 1 rfl ?_
      refine g_iconst (v := (nI 0)) dX10_size_24 (by decide) ?_
      refine g_bipush (v := (nI 10)) dX10_size_25 (by decide) ?_
      obtain ⟨v27_15, M27_14, eM27_14, h⟩ := bd_e h
      refine m_callSi (As := [.int x1, .int (nI 0), .int (nI 10)]) (st := []) (s_X10_within (d := d + 2) hA  eM27_14) ck_X10_within w_1385 rfl (Nat.le_of_ble_eq_true rfl) dX10_size_27 ?_
      refine g_if_eq (tgt := 37) dX10_size_30 (by decide) (fun c16 => ?_) (fun c16 => ?_)
      · replace h := ite_p c16 h
        refine g_iconst (v := (-1 : Int32)) dX10_size_37 (by decide) ?_
        exact g_zret rfl rfl (pi_of h) dX10_size_38
      · replace h := ite_n c16 h
        refine g_iconst (v := (nI 0)) dX10_size_33 (by decide) ?_
        refine g_goto (tgt := 38) dX10_size_34 (by decide) ?_
        exact g_zret rfl rfl (pi_of h) dX10_size_38
  · replace h := ite_p c18 h
    refine g_aload_n dX10_size_11 rfl 0 rfl ?_
    refine m_geti (k := 2) okX10 rfl rfl (by decide) w_1271 rfl dX10_size_12 ?_
    exact g_zret rfl rfl (pi_of h) dX10_size_15
theorem ck_X10_size : CKV yX10_size cX10_size 2 (some .int) 1 := ⟨⟨by decide, by decide, by decide +kernel⟩, w_1844, w_81, ⟨w_1842, w_1843⟩, by decide⟩
theorem dX10_creeper_0 : decode cX10_creeper 0 = .ok (.aload_n 0, 1) := by decide +kernel
theorem dX10_creeper_1 : decode cX10_creeper 1 = .ok (.iconst 0, 1) := by decide +kernel
theorem dX10_creeper_2 : decode cX10_creeper 2 = .ok (.putfield 59, 3) := by decide +kernel
theorem dX10_creeper_5 : decode cX10_creeper 5 = .ok (.aload_n 0, 1) := by decide +kernel
theorem dX10_creeper_6 : decode cX10_creeper 6 = .ok (.iload_n 1, 1) := by decide +kernel
theorem dX10_creeper_7 : decode cX10_creeper 7 = .ok (.invokevirtual 278, 3) := by decide +kernel
theorem dX10_creeper_10 : decode cX10_creeper 10 = .ok (.ifCond .ne 5, 3) := by decide +kernel
theorem dX10_creeper_13 : decode cX10_creeper 13 = .ok (.iconst (-1), 1) := by decide +kernel
theorem dX10_creeper_14 : decode cX10_creeper 14 = .ok (.ireturn, 1) := by decide +kernel
theorem dX10_creeper_15 : decode cX10_creeper 15 = .ok (.iload_n 2, 1) := by decide +kernel
theorem dX10_creeper_16 : decode cX10_creeper 16 = .ok (.tableswitch 114 0 6 #[44, 54, 64, 74, 84, 94, 104], 44) := by decide +kernel
theorem dX10_creeper_60 : decode cX10_creeper 60 = .ok (.aload_n 0, 1) := by decide +kernel
theorem dX10_creeper_61 : decode cX10_creeper 61 = .ok (.getfield 20, 3) := by decide +kernel
theorem dX10_creeper_64 : decode cX10_creeper 64 = .ok (.bipush 56, 2) := by decide +kernel
theorem dX10_creeper_66 : decode cX10_creeper 66 = .ok (.iload_n 1, 1) := by decide +kernel
theorem dX10_creeper_67 : decode cX10_creeper 67 = .ok (.iadd, 1) := by decide +kernel
theorem dX10_creeper_68 : decode cX10_creeper 68 = .ok (.iaload, 1) := by decide +kernel
theorem dX10_creeper_69 : decode cX10_creeper 69 = .ok (.ireturn, 1) := by decide +kernel
theorem dX10_creeper_70 : decode cX10_creeper 70 = .ok (.aload_n 0, 1) := by decide +kernel
theorem dX10_creeper_71 : decode cX10_creeper 71 = .ok (.getfield 20, 3) := by decide +kernel
theorem dX10_creeper_74 : decode cX10_creeper 74 = .ok (.bipush 61, 2) := by decide +kernel
theorem dX10_creeper_76 : decode cX10_creeper 76 = .ok (.iload_n 1, 1) := by decide +kernel
theorem dX10_creeper_77 : decode cX10_creeper 77 = .ok (.iadd, 1) := by decide +kernel
theorem dX10_creeper_78 : decode cX10_creeper 78 = .ok (.iaload, 1) := by decide +kernel
theorem dX10_creeper_79 : decode cX10_creeper 79 = .ok (.ireturn, 1) := by decide +kernel
theorem dX10_creeper_80 : decode cX10_creeper 80 = .ok (.aload_n 0, 1) := by decide +kernel
theorem dX10_creeper_81 : decode cX10_creeper 81 = .ok (.getfield 20, 3) := by decide +kernel
theorem dX10_creeper_84 : decode cX10_creeper 84 = .ok (.bipush 66, 2) := by decide +kernel
theorem dX10_creeper_86 : decode cX10_creeper 86 = .ok (.iload_n 1, 1) := by decide +kernel
theorem dX10_creeper_87 : decode cX10_creeper 87 = .ok (.iadd, 1) := by decide +kernel
theorem dX10_creeper_88 : decode cX10_creeper 88 = .ok (.iaload, 1) := by decide +kernel
theorem dX10_creeper_89 : decode cX10_creeper 89 = .ok (.ireturn, 1) := by decide +kernel
theorem dX10_creeper_90 : decode cX10_creeper 90 = .ok (.aload_n 0, 1) := by decide +kernel
theorem dX10_creeper_91 : decode cX10_creeper 91 = .ok (.getfield 20, 3) := by decide +kernel
theorem dX10_creeper_94 : decode cX10_creeper 94 = .ok (.bipush 71, 2) := by decide +kernel
theorem dX10_creeper_96 : decode cX10_creeper 96 = .ok (.iload_n 1, 1) := by decide +kernel
theorem dX10_creeper_97 : decode cX10_creeper 97 = .ok (.iadd, 1) := by decide +kernel
theorem dX10_creeper_98 : decode cX10_creeper 98 = .ok (.iaload, 1) := by decide +kernel
theorem dX10_creeper_99 : decode cX10_creeper 99 = .ok (.ireturn, 1) := by decide +kernel
theorem dX10_creeper_100 : decode cX10_creeper 100 = .ok (.aload_n 0, 1) := by decide +kernel
theorem dX10_creeper_101 : decode cX10_creeper 101 = .ok (.getfield 20, 3) := by decide +kernel
theorem dX10_creeper_104 : decode cX10_creeper 104 = .ok (.bipush 76, 2) := by decide +kernel
theorem dX10_creeper_106 : decode cX10_creeper 106 = .ok (.iload_n 1, 1) := by decide +kernel
theorem dX10_creeper_107 : decode cX10_creeper 107 = .ok (.iadd, 1) := by decide +kernel
theorem dX10_creeper_108 : decode cX10_creeper 108 = .ok (.iaload, 1) := by decide +kernel
theorem dX10_creeper_109 : decode cX10_creeper 109 = .ok (.ireturn, 1) := by decide +kernel
theorem dX10_creeper_110 : decode cX10_creeper 110 = .ok (.aload_n 0, 1) := by decide +kernel
theorem dX10_creeper_111 : decode cX10_creeper 111 = .ok (.getfield 20, 3) := by decide +kernel
theorem dX10_creeper_114 : decode cX10_creeper 114 = .ok (.bipush 81, 2) := by decide +kernel
theorem dX10_creeper_116 : decode cX10_creeper 116 = .ok (.iload_n 1, 1) := by decide +kernel
theorem dX10_creeper_117 : decode cX10_creeper 117 = .ok (.iadd, 1) := by decide +kernel
theorem dX10_creeper_118 : decode cX10_creeper 118 = .ok (.iaload, 1) := by decide +kernel
theorem dX10_creeper_119 : decode cX10_creeper 119 = .ok (.ireturn, 1) := by decide +kernel
theorem dX10_creeper_120 : decode cX10_creeper 120 = .ok (.aload_n 0, 1) := by decide +kernel
theorem dX10_creeper_121 : decode cX10_creeper 121 = .ok (.getfield 20, 3) := by decide +kernel
theorem dX10_creeper_124 : decode cX10_creeper 124 = .ok (.bipush 86, 2) := by decide +kernel
theorem dX10_creeper_126 : decode cX10_creeper 126 = .ok (.iload_n 1, 1) := by decide +kernel
theorem dX10_creeper_127 : decode cX10_creeper 127 = .ok (.iadd, 1) := by decide +kernel
theorem dX10_creeper_128 : decode cX10_creeper 128 = .ok (.iaload, 1) := by decide +kernel
theorem dX10_creeper_129 : decode cX10_creeper 129 = .ok (.ireturn, 1) := by decide +kernel
theorem dX10_creeper_130 : decode cX10_creeper 130 = .ok (.iconst (-1), 1) := by decide +kernel
theorem dX10_creeper_131 : decode cX10_creeper 131 = .ok (.ireturn, 1) := by decide +kernel
def f_X10_creeper (x1 : Int32) (x2 : Int32) (M : Mm) : Option (Int32 × Mm) :=
  bd (f_X10_isCreeper x1 (mset M 81 0 (nI 0))) fun v7_2 M7_1 => if v7_2 = 0 then (some ((-1 : Int32), M7_1)) else (if x2 = (nI 0) then (gd (inb ((nI 56) + x1) 141) <| some ((M7_1 84 ((nI 56) + x1).toNatClampNeg), M7_1)) else (if x2 = (nI 1) then (gd (inb ((nI 61) + x1) 141) <| some ((M7_1 84 ((nI 61) + x1).toNatClampNeg), M7_1)) else (if x2 = (nI 2) then (gd (inb ((nI 66) + x1) 141) <| some ((M7_1 84 ((nI 66) + x1).toNatClampNeg), M7_1)) else (if x2 = (nI 3) then (gd (inb ((nI 71) + x1) 141) <| some ((M7_1 84 ((nI 71) + x1).toNatClampNeg), M7_1)) else (if x2 = (nI 4) then (gd (inb ((nI 76) + x1) 141) <| some ((M7_1 84 ((nI 76) + x1).toNatClampNeg), M7_1)) else (if x2 = (nI 5) then (gd (inb ((nI 81) + x1) 141) <| some ((M7_1 84 ((nI 81) + x1).toNatClampNeg), M7_1)) else (if x2 = (nI 6) then (gd (inb ((nI 86) + x1) 141) <| some ((M7_1 84 ((nI 86) + x1).toNatClampNeg), M7_1)) else (some ((-1 : Int32), M7_1)))))))))
set_option maxHeartbeats 4000000 in
set_option maxRecDepth 100000 in
theorem s_X10_creeper {l : Launch} {B : BT} (hA : bA B = false) {d : Nat} {r : Int32} {M' : Mm} {x1 : Int32} {x2 : Int32} {M : Mm}  (h : f_X10_creeper x1 x2 M = some (r, M')) : Con l B LY (d + 2) yX10_creeper cX10_creeper 3 (some .int) 0 0 [.ref 81, .int x1, .int x2] 97 M (PI r M') := by
  refine con_of (by decide) (Nat.le_of_ble_eq_true rfl) ?_
  show GG l B LY (d + 2) yX10_creeper cX10_creeper 3 (some .int) 0 0 (PI r M') 97 0 0 0 [(0, .ref 81), (1, .int x1), (2, .int x2)] [] M
  rw [f_X10_creeper] at h
  refine g_aload_n dX10_creeper_0 rfl 0 rfl ?_
  refine g_iconst (v := (nI 0)) dX10_creeper_1 (by decide) ?_
  refine m_puti (k := 0) okX10 rfl rfl (by decide) w_1269 rfl rfl rfl dX10_creeper_2 ?_
  refine g_aload_n dX10_creeper_5 rfl 0 rfl ?_
  refine g_iload_n dX10_creeper_6 rfl 1 rfl ?_
  obtain ⟨v7_2, M7_1, eM7_1, h⟩ := bd_e h
  refine m_callVi (As := [.int x1]) (st := []) (s_X10_isCreeper (d := d + 0) hA  eM7_1) rfl okX10 ck_X10_isCreeper w_1572 rfl (Nat.le_of_ble_eq_true rfl) dX10_creeper_7 ?_
  refine g_if_ne (tgt := 15) dX10_creeper_10 (by decide) (fun c10 => ?_) (fun c10 => ?_)
  · replace h := ite_n c10 h
    refine g_iload_n dX10_creeper_15 rfl 2 rfl ?_
    by_cases c3 : x2 = (nI 0)
    · replace h := ite_p c3 h
      refine g_tabIn (tgt := 60) dX10_creeper_16 (by rw [c3]; decide) (by rw [c3]; decide) (off := 44) (by rw [c3]; rfl) (by decide) ?_
      refine g_aload_n dX10_creeper_60 rfl 0 rfl ?_
      refine m_getr (k := 15) okX10 rfl rfl (by decide) w_1284 rfl dX10_creeper_61 ?_
      refine g_bipush (v := (nI 56)) dX10_creeper_64 (by decide) ?_
      refine g_iload_n dX10_creeper_66 rfl 1 rfl ?_
      refine g_iadd dX10_creeper_67 ?_
      obtain ⟨hz, h⟩ := gd_s h
      refine m_iald rfl hz dX10_creeper_68 ?_
      exact g_zret rfl rfl (pi_of h) dX10_creeper_69
    replace h := ite_n c3 h
    by_cases c4 : x2 = (nI 1)
    · replace h := ite_p c4 h
      refine g_tabIn (tgt := 70) dX10_creeper_16 (by rw [c4]; decide) (by rw [c4]; decide) (off := 54) (by rw [c4]; rfl) (by decide) ?_
      refine g_aload_n dX10_creeper_70 rfl 0 rfl ?_
      refine m_getr (k := 15) okX10 rfl rfl (by decide) w_1284 rfl dX10_creeper_71 ?_
      refine g_bipush (v := (nI 61)) dX10_creeper_74 (by decide) ?_
      refine g_iload_n dX10_creeper_76 rfl 1 rfl ?_
      refine g_iadd dX10_creeper_77 ?_
      obtain ⟨hz, h⟩ := gd_s h
      refine m_iald rfl hz dX10_creeper_78 ?_
      exact g_zret rfl rfl (pi_of h) dX10_creeper_79
    replace h := ite_n c4 h
    by_cases c5 : x2 = (nI 2)
    · replace h := ite_p c5 h
      refine g_tabIn (tgt := 80) dX10_creeper_16 (by rw [c5]; decide) (by rw [c5]; decide) (off := 64) (by rw [c5]; rfl) (by decide) ?_
      refine g_aload_n dX10_creeper_80 rfl 0 rfl ?_
      refine m_getr (k := 15) okX10 rfl rfl (by decide) w_1284 rfl dX10_creeper_81 ?_
      refine g_bipush (v := (nI 66)) dX10_creeper_84 (by decide) ?_
      refine g_iload_n dX10_creeper_86 rfl 1 rfl ?_
      refine g_iadd dX10_creeper_87 ?_
      obtain ⟨hz, h⟩ := gd_s h
      refine m_iald rfl hz dX10_creeper_88 ?_
      exact g_zret rfl rfl (pi_of h) dX10_creeper_89
    replace h := ite_n c5 h
    by_cases c6 : x2 = (nI 3)
    · replace h := ite_p c6 h
      refine g_tabIn (tgt := 90) dX10_creeper_16 (by rw [c6]; decide) (by rw [c6]; decide) (off := 74) (by rw [c6]; rfl) (by decide) ?_
      refine g_aload_n dX10_creeper_90 rfl 0 rfl ?_
      refine m_getr (k := 15) okX10 rfl rfl (by decide) w_1284 rfl dX10_creeper_91 ?_
      refine g_bipush (v := (nI 71)) dX10_creeper_94 (by decide) ?_
      refine g_iload_n dX10_creeper_96 rfl 1 rfl ?_
      refine g_iadd dX10_creeper_97 ?_
      obtain ⟨hz, h⟩ := gd_s h
      refine m_iald rfl hz dX10_creeper_98 ?_
      exact g_zret rfl rfl (pi_of h) dX10_creeper_99
    replace h := ite_n c6 h
    by_cases c7 : x2 = (nI 4)
    · replace h := ite_p c7 h
      refine g_tabIn (tgt := 100) dX10_creeper_16 (by rw [c7]; decide) (by rw [c7]; decide) (off := 84) (by rw [c7]; rfl) (by decide) ?_
      refine g_aload_n dX10_creeper_100 rfl 0 rfl ?_
      refine m_getr (k := 15) okX10 rfl rfl (by decide) w_1284 rfl dX10_creeper_101 ?_
      refine g_bipush (v := (nI 76)) dX10_creeper_104 (by decide) ?_
      refine g_iload_n dX10_creeper_106 rfl 1 rfl ?_
      refine g_iadd dX10_creeper_107 ?_
      obtain ⟨hz, h⟩ := gd_s h
      refine m_iald rfl hz dX10_creeper_108 ?_
      exact g_zret rfl rfl (pi_of h) dX10_creeper_109
    replace h := ite_n c7 h
    by_cases c8 : x2 = (nI 5)
    · replace h := ite_p c8 h
      refine g_tabIn (tgt := 110) dX10_creeper_16 (by rw [c8]; decide) (by rw [c8]; decide) (off := 94) (by rw [c8]; rfl) (by decide) ?_
      refine g_aload_n dX10_creeper_110 rfl 0 rfl ?_
      refine m_getr (k := 15) okX10 rfl rfl (by decide) w_1284 rfl dX10_creeper_111 ?_
      refine g_bipush (v := (nI 81)) dX10_creeper_114 (by decide) ?_
      refine g_iload_n dX10_creeper_116 rfl 1 rfl ?_
      refine g_iadd dX10_creeper_117 ?_
      obtain ⟨hz, h⟩ := gd_s h
      refine m_iald rfl hz dX10_creeper_118 ?_
      exact g_zret rfl rfl (pi_of h) dX10_creeper_119
    replace h := ite_n c8 h
    by_cases c9 : x2 = (nI 6)
    · replace h := ite_p c9 h
      refine g_tabIn (tgt := 120) dX10_creeper_16 (by rw [c9]; decide) (by rw [c9]; decide) (off := 104) (by rw [c9]; rfl) (by decide) ?_
      refine g_aload_n dX10_creeper_120 rfl 0 rfl ?_
      refine m_getr (k := 15) okX10 rfl rfl (by decide) w_1284 rfl dX10_creeper_121 ?_
      refine g_bipush (v := (nI 86)) dX10_creeper_124 (by decide) ?_
      refine g_iload_n dX10_creeper_126 rfl 1 rfl ?_
      refine g_iadd dX10_creeper_127 ?_
      obtain ⟨hz, h⟩ := gd_s h
      refine m_iald rfl hz dX10_creeper_128 ?_
      exact g_zret rfl rfl (pi_of h) dX10_creeper_129
    replace h := ite_n c9 h
    have tc3 : x2.toInt ≠ 0 := fun e => c3 (Int32.toInt_inj.mp (e.trans (by decide)))
    have tc4 : x2.toInt ≠ 1 := fun e => c4 (Int32.toInt_inj.mp (e.trans (by decide)))
    have tc5 : x2.toInt ≠ 2 := fun e => c5 (Int32.toInt_inj.mp (e.trans (by decide)))
    have tc6 : x2.toInt ≠ 3 := fun e => c6 (Int32.toInt_inj.mp (e.trans (by decide)))
    have tc7 : x2.toInt ≠ 4 := fun e => c7 (Int32.toInt_inj.mp (e.trans (by decide)))
    have tc8 : x2.toInt ≠ 5 := fun e => c8 (Int32.toInt_inj.mp (e.trans (by decide)))
    have tc9 : x2.toInt ≠ 6 := fun e => c9 (Int32.toInt_inj.mp (e.trans (by decide)))
    refine g_tabOut (tgt := 130) dX10_creeper_16 (by omega) (by decide) ?_
    refine g_iconst (v := (-1 : Int32)) dX10_creeper_130 (by decide) ?_
    exact g_zret rfl rfl (pi_of h) dX10_creeper_131
  · replace h := ite_p c10 h
    refine g_iconst (v := (-1 : Int32)) dX10_creeper_13 (by decide) ?_
    exact g_zret rfl rfl (pi_of h) dX10_creeper_14
theorem ck_X10_creeper : CKV yX10_creeper cX10_creeper 3 (some .int) 2 := ⟨⟨by decide, by decide, by decide +kernel⟩, w_1848, w_81, ⟨w_1846, w_1847⟩, by decide⟩
theorem dX10_trouble_0 : decode cX10_trouble 0 = .ok (.aload_n 0, 1) := by decide +kernel
theorem dX10_trouble_1 : decode cX10_trouble 1 = .ok (.iconst 0, 1) := by decide +kernel
theorem dX10_trouble_2 : decode cX10_trouble 2 = .ok (.putfield 59, 3) := by decide +kernel
theorem dX10_trouble_5 : decode cX10_trouble 5 = .ok (.aload_n 0, 1) := by decide +kernel
theorem dX10_trouble_6 : decode cX10_trouble 6 = .ok (.getfield 62, 3) := by decide +kernel
theorem dX10_trouble_9 : decode cX10_trouble 9 = .ok (.ireturn, 1) := by decide +kernel
def f_X10_trouble  (M : Mm) : Option (Int32 × Mm) :=
  some (((mset M 81 0 (nI 0)) 81 11), (mset M 81 0 (nI 0)))
set_option maxHeartbeats 4000000 in
set_option maxRecDepth 100000 in
theorem s_X10_trouble {l : Launch} {B : BT} (hA : bA B = false) {d : Nat} {r : Int32} {M' : Mm}  {M : Mm}  (h : f_X10_trouble  M = some (r, M')) : Con l B LY (d + 0) yX10_trouble cX10_trouble 1 (some .int) 0 0 [.ref 81] 97 M (PI r M') := by
  refine con_of (by decide) (Nat.le_of_ble_eq_true rfl) ?_
  show GG l B LY (d + 0) yX10_trouble cX10_trouble 1 (some .int) 0 0 (PI r M') 97 0 0 0 [(0, .ref 81)] [] M
  rw [f_X10_trouble] at h
  refine g_aload_n dX10_trouble_0 rfl 0 rfl ?_
  refine g_iconst (v := (nI 0)) dX10_trouble_1 (by decide) ?_
  refine m_puti (k := 0) okX10 rfl rfl (by decide) w_1269 rfl rfl rfl dX10_trouble_2 ?_
  refine g_aload_n dX10_trouble_5 rfl 0 rfl ?_
  refine m_geti (k := 11) okX10 rfl rfl (by decide) w_1280 rfl dX10_trouble_6 ?_
  exact g_zret rfl rfl (pi_of h) dX10_trouble_9
theorem ck_X10_trouble : CKV yX10_trouble cX10_trouble 1 (some .int) 0 := ⟨⟨by decide, by decide, by decide +kernel⟩, w_1852, w_81, ⟨w_1850, w_1851⟩, by decide⟩
