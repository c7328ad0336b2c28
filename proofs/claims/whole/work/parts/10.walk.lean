/-! walks: X9_fill X0_clear X0_isWhole X0_endOf X9_put X0_addPart X9_at X9_add X0_addSyllable X0_verseTenths X0_syllable X0_partOf X9_by X0_eyes X0_trait X0_goes X0_tenthsMeant X0_loudnessOf X0_isCaughtFrom X1_clear X1_addFilm X1_counted X1_lawOf X1_lawBy X1_addStop X1_waysOf X1_waysBetween X1_isUsual. Written by wip/programs/parts.py. -/
theorem dX9_fill_0 : decode cX9_fill 0 = .ok (.iconst 0, 1) := by decide +kernel
theorem dX9_fill_1 : decode cX9_fill 1 = .ok (.istore_n 2, 1) := by decide +kernel
theorem dX9_fill_2 : decode cX9_fill 2 = .ok (.iload_n 2, 1) := by decide +kernel
theorem dX9_fill_3 : decode cX9_fill 3 = .ok (.aload_n 0, 1) := by decide +kernel
theorem dX9_fill_4 : decode cX9_fill 4 = .ok (.arraylength, 1) := by decide +kernel
theorem dX9_fill_5 : decode cX9_fill 5 = .ok (.if_icmp .ge 13, 3) := by decide +kernel
theorem dX9_fill_8 : decode cX9_fill 8 = .ok (.aload_n 0, 1) := by decide +kernel
theorem dX9_fill_9 : decode cX9_fill 9 = .ok (.iload_n 2, 1) := by decide +kernel
theorem dX9_fill_10 : decode cX9_fill 10 = .ok (.iload_n 1, 1) := by decide +kernel
theorem dX9_fill_11 : decode cX9_fill 11 = .ok (.iastore, 1) := by decide +kernel
theorem dX9_fill_12 : decode cX9_fill 12 = .ok (.iinc 2 1, 3) := by decide +kernel
theorem dX9_fill_15 : decode cX9_fill 15 = .ok (.goto (-13), 3) := by decide +kernel
theorem dX9_fill_18 : decode cX9_fill 18 = .ok (.return_, 1) := by decide +kernel
def lp_X9_fill_2 (y0 : Nat) (y1 : Int32)  : Nat → Int32 → Mm → Option (Mm)
  | 0, _, _ => none
  | n + 1, y2, M =>
    if (nI (alen y0)) ≤ y2 then (some M) else (gd (inb y2 (alen y0)) <| lp_X9_fill_2 y0 y1 n (y2 + (nI 1)) (mset M y0 y2.toNatClampNeg y1))
def f_X9_fill (x0 : Nat) (x1 : Int32) (M : Mm) : Option (Mm) :=
  lp_X9_fill_2 x0 x1  N0 (nI 0) M
set_option maxHeartbeats 4000000 in
set_option maxRecDepth 100000 in
theorem sl_X9_fill_2 {l : Launch} {B : BT} (hA : bA B = false) {d : Nat} {M' : Mm} {y0 : Nat} {y1 : Int32} (hy0 : LY y0 = .inr (0, (alen y0)))   :
    ∀ (n : Nat) (y2 : Int32) (M : Mm), lp_X9_fill_2 y0 y1 n y2 M = some M' → GG l B LY (d + 0) yX9_fill cX9_fill 3 none 0 0 (PV M') 97 0 0 2 [(0, .ref y0), (1, .int y1), (2, .int y2)] [] M := by
  intro n
  induction n with
  | zero => intro y2 M h; cases h
  | succ n ih =>
    intro y2 M h
    rw [lp_X9_fill_2] at h
    refine g_iload_n dX9_fill_2 rfl 2 rfl ?_
    refine g_aload_n dX9_fill_3 rfl 0 rfl ?_
    refine m_alen (v := (nI (alen y0))) hy0 (by decide) rfl dX9_fill_4 ?_
    refine g_icmp_ge (tgt := 18) dX9_fill_5 (by decide) (fun c1 => ?_) (fun c1 => ?_)
    · replace h := ite_p c1 h
      exact g_vret rfl (pv_of h) dX9_fill_18
    · replace h := ite_n c1 h
      refine g_aload_n dX9_fill_8 rfl 0 rfl ?_
      refine g_iload_n dX9_fill_9 rfl 2 rfl ?_
      refine g_iload_n dX9_fill_10 rfl 1 rfl ?_
      obtain ⟨hz, h⟩ := gd_s h
      refine m_iast hA hy0 hz dX9_fill_11 ?_
      refine g_iinc (v := (y2 + (nI 1))) (lv' := [(2, .int (y2 + (nI 1))), (0, .ref y0), (1, .int y1)]) dX9_fill_12 2 rfl rfl (by decide) rfl ?_
      refine g_goto (tgt := 2) dX9_fill_15 (by decide) ?_
      refine g_sub [1, 2, 0] (lv' := [(0, .ref y0), (1, .int y1), (2, .int (y2 + (nI 1)))]) rfl ?_
      exact ih _  _ h
set_option maxHeartbeats 4000000 in
set_option maxRecDepth 100000 in
theorem s_X9_fill {l : Launch} {B : BT} (hA : bA B = false) {d : Nat} {M' : Mm} {x0 : Nat} {x1 : Int32} {M : Mm} (hx0 : LY x0 = .inr (0, (alen x0))) (h : f_X9_fill x0 x1 M = some M') : Con l B LY (d + 0) yX9_fill cX9_fill 3 none 0 0 [.ref x0, .int x1] 97 M (PV M') := by
  refine con_of (by decide) (Nat.le_of_ble_eq_true rfl) ?_
  show GG l B LY (d + 0) yX9_fill cX9_fill 3 none 0 0 (PV M') 97 0 0 0 [(0, .ref x0), (1, .int x1)] [] M
  rw [f_X9_fill] at h
  refine g_iconst (v := (nI 0)) dX9_fill_0 (by decide) ?_
  refine g_istore_n (lv' := [(2, .int (nI 0)), (0, .ref x0), (1, .int x1)]) dX9_fill_1 rfl (by decide) rfl ?_
  refine g_sub [1, 2, 0] (lv' := [(0, .ref x0), (1, .int x1), (2, .int (nI 0))]) rfl ?_
  refine sl_X9_fill_2 hA hx0  _ _ _ h
theorem ck_X9_fill : CKS yX9_fill cX9_fill 3 none 2 := ⟨⟨by decide, by decide, by decide +kernel⟩, w_482, w_72, w_481, by decide⟩
theorem dX0_clear_0 : decode cX0_clear 0 = .ok (.aload_n 0, 1) := by decide +kernel
theorem dX0_clear_1 : decode cX0_clear 1 = .ok (.getfield 9, 3) := by decide +kernel
theorem dX0_clear_4 : decode cX0_clear 4 = .ok (.iconst 0, 1) := by decide +kernel
theorem dX0_clear_5 : decode cX0_clear 5 = .ok (.invokestatic 30, 3) := by decide +kernel
theorem dX0_clear_8 : decode cX0_clear 8 = .ok (.aload_n 0, 1) := by decide +kernel
theorem dX0_clear_9 : decode cX0_clear 9 = .ok (.getfield 15, 3) := by decide +kernel
theorem dX0_clear_12 : decode cX0_clear 12 = .ok (.iconst 0, 1) := by decide +kernel
theorem dX0_clear_13 : decode cX0_clear 13 = .ok (.invokestatic 30, 3) := by decide +kernel
theorem dX0_clear_16 : decode cX0_clear 16 = .ok (.aload_n 0, 1) := by decide +kernel
theorem dX0_clear_17 : decode cX0_clear 17 = .ok (.getfield 18, 3) := by decide +kernel
theorem dX0_clear_20 : decode cX0_clear 20 = .ok (.iconst 0, 1) := by decide +kernel
theorem dX0_clear_21 : decode cX0_clear 21 = .ok (.invokestatic 30, 3) := by decide +kernel
theorem dX0_clear_24 : decode cX0_clear 24 = .ok (.aload_n 0, 1) := by decide +kernel
theorem dX0_clear_25 : decode cX0_clear 25 = .ok (.getfield 21, 3) := by decide +kernel
theorem dX0_clear_28 : decode cX0_clear 28 = .ok (.iconst 0, 1) := by decide +kernel
theorem dX0_clear_29 : decode cX0_clear 29 = .ok (.invokestatic 30, 3) := by decide +kernel
theorem dX0_clear_32 : decode cX0_clear 32 = .ok (.aload_n 0, 1) := by decide +kernel
theorem dX0_clear_33 : decode cX0_clear 33 = .ok (.getfield 24, 3) := by decide +kernel
theorem dX0_clear_36 : decode cX0_clear 36 = .ok (.iconst 0, 1) := by decide +kernel
theorem dX0_clear_37 : decode cX0_clear 37 = .ok (.invokestatic 30, 3) := by decide +kernel
theorem dX0_clear_40 : decode cX0_clear 40 = .ok (.aload_n 0, 1) := by decide +kernel
theorem dX0_clear_41 : decode cX0_clear 41 = .ok (.getfield 27, 3) := by decide +kernel
theorem dX0_clear_44 : decode cX0_clear 44 = .ok (.iconst 0, 1) := by decide +kernel
theorem dX0_clear_45 : decode cX0_clear 45 = .ok (.invokestatic 30, 3) := by decide +kernel
theorem dX0_clear_48 : decode cX0_clear 48 = .ok (.aload_n 0, 1) := by decide +kernel
theorem dX0_clear_49 : decode cX0_clear 49 = .ok (.iconst 0, 1) := by decide +kernel
theorem dX0_clear_50 : decode cX0_clear 50 = .ok (.putfield 34, 3) := by decide +kernel
theorem dX0_clear_53 : decode cX0_clear 53 = .ok (.aload_n 0, 1) := by decide +kernel
theorem dX0_clear_54 : decode cX0_clear 54 = .ok (.iconst 0, 1) := by decide +kernel
theorem dX0_clear_55 : decode cX0_clear 55 = .ok (.putfield 38, 3) := by decide +kernel
theorem dX0_clear_58 : decode cX0_clear 58 = .ok (.aload_n 0, 1) := by decide +kernel
theorem dX0_clear_59 : decode cX0_clear 59 = .ok (.iconst 0, 1) := by decide +kernel
theorem dX0_clear_60 : decode cX0_clear 60 = .ok (.putfield 41, 3) := by decide +kernel
theorem dX0_clear_63 : decode cX0_clear 63 = .ok (.aload_n 0, 1) := by decide +kernel
theorem dX0_clear_64 : decode cX0_clear 64 = .ok (.iconst 0, 1) := by decide +kernel
theorem dX0_clear_65 : decode cX0_clear 65 = .ok (.putfield 44, 3) := by decide +kernel
theorem dX0_clear_68 : decode cX0_clear 68 = .ok (.aload_n 0, 1) := by decide +kernel
theorem dX0_clear_69 : decode cX0_clear 69 = .ok (.iconst 0, 1) := by decide +kernel
theorem dX0_clear_70 : decode cX0_clear 70 = .ok (.putfield 47, 3) := by decide +kernel
theorem dX0_clear_73 : decode cX0_clear 73 = .ok (.aload_n 0, 1) := by decide +kernel
theorem dX0_clear_74 : decode cX0_clear 74 = .ok (.iconst 0, 1) := by decide +kernel
theorem dX0_clear_75 : decode cX0_clear 75 = .ok (.putfield 50, 3) := by decide +kernel
theorem dX0_clear_78 : decode cX0_clear 78 = .ok (.aload_n 0, 1) := by decide +kernel
theorem dX0_clear_79 : decode cX0_clear 79 = .ok (.iconst 0, 1) := by decide +kernel
theorem dX0_clear_80 : decode cX0_clear 80 = .ok (.putfield 53, 3) := by decide +kernel
theorem dX0_clear_83 : decode cX0_clear 83 = .ok (.aload_n 0, 1) := by decide +kernel
theorem dX0_clear_84 : decode cX0_clear 84 = .ok (.iconst 0, 1) := by decide +kernel
theorem dX0_clear_85 : decode cX0_clear 85 = .ok (.putfield 56, 3) := by decide +kernel
theorem dX0_clear_88 : decode cX0_clear 88 = .ok (.aload_n 0, 1) := by decide +kernel
theorem dX0_clear_89 : decode cX0_clear 89 = .ok (.iconst 0, 1) := by decide +kernel
theorem dX0_clear_90 : decode cX0_clear 90 = .ok (.putfield 59, 3) := by decide +kernel
theorem dX0_clear_93 : decode cX0_clear 93 = .ok (.return_, 1) := by decide +kernel
def f_X0_clear (x0 : Nat) (M : Mm) : Option (Mm) :=
  bv (f_X9_fill (x0 + 1) (nI 0) M) fun M5_1 => bv (f_X9_fill (x0 + 2) (nI 0) M5_1) fun M13_3 => bv (f_X9_fill (x0 + 3) (nI 0) M13_3) fun M21_5 => bv (f_X9_fill (x0 + 4) (nI 0) M21_5) fun M29_7 => bv (f_X9_fill (x0 + 5) (nI 0) M29_7) fun M37_9 => bv (f_X9_fill (x0 + 6) (nI 0) M37_9) fun M45_11 => some ((mset (mset (mset (mset (mset (mset (mset (mset (mset M45_11 x0 6 (nI 0)) x0 7 (nI 0)) x0 8 (nI 0)) x0 9 (nI 0)) x0 10 (nI 0)) x0 11 (nI 0)) x0 12 (nI 0)) x0 13 (nI 0)) x0 14 (nI 0)))
set_option maxHeartbeats 4000000 in
set_option maxRecDepth 100000 in
theorem s_X0_clear {l : Launch} {B : BT} (hA : bA B = false) {d : Nat} {M' : Mm} {x0 : Nat} {M : Mm} (hx0 : LY x0 = .inl (0, fk0)) (h : f_X0_clear x0 M = some M') : Con l B LY (d + 1) yX0_clear cX0_clear 1 none 0 0 [.ref x0] 97 M (PV M') := by
  refine con_of (by decide) (Nat.le_of_ble_eq_true rfl) ?_
  show GG l B LY (d + 1) yX0_clear cX0_clear 1 none 0 0 (PV M') 97 0 0 0 [(0, .ref x0)] [] M
  rw [f_X0_clear] at h
  refine g_aload_n dX0_clear_0 rfl 0 rfl ?_
  refine m_getr (k := 0) okX0 hx0 rfl (by decide) w_107 rfl dX0_clear_1 ?_
  refine g_iconst (v := (nI 0)) dX0_clear_4 (by decide) ?_
  obtain ⟨M5_1, eM5_1, h⟩ := bv_e h
  refine m_callNv (As := [.ref (x0 + 1), .int (nI 0)]) (st := []) (s_X9_fill (d := d + 0) hA (al_of (aX0_1 hx0)) eM5_1) ck_X9_fill (host := "StillYard") (List.mem_of_getElem? (i := 8) rfl) rfl (Nat.le_of_ble_eq_true rfl) dX0_clear_5 ?_
  refine g_aload_n dX0_clear_8 rfl 0 rfl ?_
  refine m_getr (k := 1) okX0 hx0 rfl (by decide) w_108 rfl dX0_clear_9 ?_
  refine g_iconst (v := (nI 0)) dX0_clear_12 (by decide) ?_
  obtain ⟨M13_3, eM13_3, h⟩ := bv_e h
  refine m_callNv (As := [.ref (x0 + 2), .int (nI 0)]) (st := []) (s_X9_fill (d := d + 0) hA (al_of (aX0_2 hx0)) eM13_3) ck_X9_fill (host := "StillYard") (List.mem_of_getElem? (i := 8) rfl) rfl (Nat.le_of_ble_eq_true rfl) dX0_clear_13 ?_
  refine g_aload_n dX0_clear_16 rfl 0 rfl ?_
  refine m_getr (k := 2) okX0 hx0 rfl (by decide) w_110 rfl dX0_clear_17 ?_
  refine g_iconst (v := (nI 0)) dX0_clear_20 (by decide) ?_
  obtain ⟨M21_5, eM21_5, h⟩ := bv_e h
  refine m_callNv (As := [.ref (x0 + 3), .int (nI 0)]) (st := []) (s_X9_fill (d := d + 0) hA (al_of (aX0_3 hx0)) eM21_5) ck_X9_fill (host := "StillYard") (List.mem_of_getElem? (i := 8) rfl) rfl (Nat.le_of_ble_eq_true rfl) dX0_clear_21 ?_
  refine g_aload_n dX0_clear_24 rfl 0 rfl ?_
  refine m_getr (k := 3) okX0 hx0 rfl (by decide) w_111 rfl dX0_clear_25 ?_
  refine g_iconst (v := (nI 0)) dX0_clear_28 (by decide) ?_
  obtain ⟨M29_7, eM29_7, h⟩ := bv_e h
  refine m_callNv (As := [.ref (x0 + 4), .int (nI 0)]) (st := []) (s_X9_fill (d := d + 0) hA (al_of (aX0_4 hx0)) eM29_7) ck_X9_fill (host := "StillYard") (List.mem_of_getElem? (i := 8) rfl) rfl (Nat.le_of_ble_eq_true rfl) dX0_clear_29 ?_
  refine g_aload_n dX0_clear_32 rfl 0 rfl ?_
  refine m_getr (k := 4) okX0 hx0 rfl (by decide) w_116 rfl dX0_clear_33 ?_
  refine g_iconst (v := (nI 0)) dX0_clear_36 (by decide) ?_
  obtain ⟨M37_9, eM37_9, h⟩ := bv_e h
  refine m_callNv (As := [.ref (x0 + 5), .int (nI 0)]) (st := []) (s_X9_fill (d := d + 0) hA (al_of (aX0_5 hx0)) eM37_9) ck_X9_fill (host := "StillYard") (List.mem_of_getElem? (i := 8) rfl) rfl (Nat.le_of_ble_eq_true rfl) dX0_clear_37 ?_
  refine g_aload_n dX0_clear_40 rfl 0 rfl ?_
  refine m_getr (k := 5) okX0 hx0 rfl (by decide) w_118 rfl dX0_clear_41 ?_
  refine g_iconst (v := (nI 0)) dX0_clear_44 (by decide) ?_
  obtain ⟨M45_11, eM45_11, h⟩ := bv_e h
  refine m_callNv (As := [.ref (x0 + 6), .int (nI 0)]) (st := []) (s_X9_fill (d := d + 0) hA (al_of (aX0_6 hx0)) eM45_11) ck_X9_fill (host := "StillYard") (List.mem_of_getElem? (i := 8) rfl) rfl (Nat.le_of_ble_eq_true rfl) dX0_clear_45 ?_
  refine g_aload_n dX0_clear_48 rfl 0 rfl ?_
  refine g_iconst (v := (nI 0)) dX0_clear_49 (by decide) ?_
  refine m_puti (k := 6) okX0 hx0 rfl (by decide) w_122 rfl rfl rfl dX0_clear_50 ?_
  refine g_aload_n dX0_clear_53 rfl 0 rfl ?_
  refine g_iconst (v := (nI 0)) dX0_clear_54 (by decide) ?_
  refine m_puti (k := 7) okX0 hx0 rfl (by decide) w_128 rfl rfl rfl dX0_clear_55 ?_
  refine g_aload_n dX0_clear_58 rfl 0 rfl ?_
  refine g_iconst (v := (nI 0)) dX0_clear_59 (by decide) ?_
  refine m_puti (k := 8) okX0 hx0 rfl (by decide) w_131 rfl rfl rfl dX0_clear_60 ?_
  refine g_aload_n dX0_clear_63 rfl 0 rfl ?_
  refine g_iconst (v := (nI 0)) dX0_clear_64 (by decide) ?_
  refine m_puti (k := 9) okX0 hx0 rfl (by decide) w_133 rfl rfl rfl dX0_clear_65 ?_
  refine g_aload_n dX0_clear_68 rfl 0 rfl ?_
  refine g_iconst (v := (nI 0)) dX0_clear_69 (by decide) ?_
  refine m_puti (k := 10) okX0 hx0 rfl (by decide) w_138 rfl rfl rfl dX0_clear_70 ?_
  refine g_aload_n dX0_clear_73 rfl 0 rfl ?_
  refine g_iconst (v := (nI 0)) dX0_clear_74 (by decide) ?_
  refine m_puti (k := 11) okX0 hx0 rfl (by decide) w_140 rfl rfl rfl dX0_clear_75 ?_
  refine g_aload_n dX0_clear_78 rfl 0 rfl ?_
  refine g_iconst (v := (nI 0)) dX0_clear_79 (by decide) ?_
  refine m_puti (k := 12) okX0 hx0 rfl (by decide) w_142 rfl rfl rfl dX0_clear_80 ?_
  refine g_aload_n dX0_clear_83 rfl 0 rfl ?_
  refine g_iconst (v := (nI 0)) dX0_clear_84 (by decide) ?_
  refine m_puti (k := 13) okX0 hx0 rfl (by decide) w_146 rfl rfl rfl dX0_clear_85 ?_
  refine g_aload_n dX0_clear_88 rfl 0 rfl ?_
  refine g_iconst (v := (nI 0)) dX0_clear_89 (by decide) ?_
  refine m_puti (k := 14) okX0 hx0 rfl (by decide) w_150 rfl rfl rfl dX0_clear_90 ?_
  exact g_vret rfl (pv_of h) dX0_clear_93
theorem ck_X0_clear : CKV yX0_clear cX0_clear 1 none 0 := ⟨⟨by decide, by decide, by decide +kernel⟩, w_479, w_73, ⟨w_477, w_478⟩, by decide⟩
theorem dX0_isWhole_0 : decode cX0_isWhole 0 = .ok (.aload_n 0, 1) := by decide +kernel
theorem dX0_isWhole_1 : decode cX0_isWhole 1 = .ok (.getfield 34, 3) := by decide +kernel
theorem dX0_isWhole_4 : decode cX0_isWhole 4 = .ok (.ifCond .le 28, 3) := by decide +kernel
theorem dX0_isWhole_7 : decode cX0_isWhole 7 = .ok (.aload_n 0, 1) := by decide +kernel
theorem dX0_isWhole_8 : decode cX0_isWhole 8 = .ok (.getfield 44, 3) := by decide +kernel
theorem dX0_isWhole_11 : decode cX0_isWhole 11 = .ok (.ifCond .le 21, 3) := by decide +kernel
theorem dX0_isWhole_14 : decode cX0_isWhole 14 = .ok (.aload_n 0, 1) := by decide +kernel
theorem dX0_isWhole_15 : decode cX0_isWhole 15 = .ok (.getfield 50, 3) := by decide +kernel
theorem dX0_isWhole_18 : decode cX0_isWhole 18 = .ok (.ifCond .le 14, 3) := by decide +kernel
theorem dX0_isWhole_21 : decode cX0_isWhole 21 = .ok (.aload_n 0, 1) := by decide +kernel
theorem dX0_isWhole_22 : decode cX0_isWhole 22 = .ok (.getfield 59, 3) := by decide +kernel
theorem dX0_isWhole_25 : decode cX0_isWhole 25 = .ok (.ifCond .le 7, 3) := by decide +kernel
theorem dX0_isWhole_28 : decode cX0_isWhole 28 = .ok (.iconst 1, 1) := by decide +kernel
theorem dX0_isWhole_29 : decode cX0_isWhole 29 = .ok (.goto 4, 3) := by decide +kernel
theorem dX0_isWhole_32 : decode cX0_isWhole 32 = .ok (.iconst 0, 1) := by decide +kernel
theorem dX0_isWhole_33 : decode cX0_isWhole 33 = .ok (.ireturn, 1) := by decide +kernel
def f_X0_isWhole (x0 : Nat) (M : Mm) : Option (Int32 × Mm) :=
  jn (fun (M1 : Mm) => some ((nI 0), M1)) fun j2 => if (M x0 6) ≤ 0 then (j2  M) else (if (M x0 9) ≤ 0 then (j2  M) else (if (M x0 11) ≤ 0 then (j2  M) else (if (M x0 14) ≤ 0 then (j2  M) else (some ((nI 1), M)))))
set_option maxHeartbeats 4000000 in
set_option maxRecDepth 100000 in
theorem s_X0_isWhole {l : Launch} {B : BT} (hA : bA B = false) {d : Nat} {r : Int32} {M' : Mm} {x0 : Nat} {M : Mm} (hx0 : LY x0 = .inl (0, fk0)) (h : f_X0_isWhole x0 M = some (r, M')) : Con l B LY (d + 0) yX0_isWhole cX0_isWhole 1 (some .boolean) 0 0 [.ref x0] 97 M (PI r M') := by
  refine con_of (by decide) (Nat.le_of_ble_eq_true rfl) ?_
  show GG l B LY (d + 0) yX0_isWhole cX0_isWhole 1 (some .boolean) 0 0 (PI r M') 97 0 0 0 [(0, .ref x0)] [] M
  rw [f_X0_isWhole] at h
  refine g_aload_n dX0_isWhole_0 rfl 0 rfl ?_
  refine m_geti (k := 6) okX0 hx0 rfl (by decide) w_122 rfl dX0_isWhole_1 ?_
  obtain ⟨j2, ej2, h⟩ := jn_e h
  have hj2 : ∀ (M1 : Mm), j2 M1 = some (r, M') → GG l B LY (d + 0) yX0_isWhole cX0_isWhole 1 (some .boolean) 0 0 (PI r M') 97 0 0 32 [] [] M1 := by
    intro M1 h
    rw [ej2] at h
    refine g_iconst (v := (nI 0)) dX0_isWhole_32 (by decide) ?_
    exact g_zret rfl rfl (pi_of h) dX0_isWhole_33
  refine g_if_le (tgt := 32) dX0_isWhole_4 (by decide) (fun c6 => ?_) (fun c6 => ?_)
  · replace h := ite_p c6 h
    refine g_sub [] (lv' := []) rfl ?_
    exact hj2  _ h
  · replace h := ite_n c6 h
    refine g_aload_n dX0_isWhole_7 rfl 0 rfl ?_
    refine m_geti (k := 9) okX0 hx0 rfl (by decide) w_133 rfl dX0_isWhole_8 ?_
    refine g_if_le (tgt := 32) dX0_isWhole_11 (by decide) (fun c5 => ?_) (fun c5 => ?_)
    · replace h := ite_p c5 h
      refine g_sub [] (lv' := []) rfl ?_
      exact hj2  _ h
    · replace h := ite_n c5 h
      refine g_aload_n dX0_isWhole_14 rfl 0 rfl ?_
      refine m_geti (k := 11) okX0 hx0 rfl (by decide) w_140 rfl dX0_isWhole_15 ?_
      refine g_if_le (tgt := 32) dX0_isWhole_18 (by decide) (fun c4 => ?_) (fun c4 => ?_)
      · replace h := ite_p c4 h
        refine g_sub [] (lv' := []) rfl ?_
        exact hj2  _ h
      · replace h := ite_n c4 h
        refine g_aload_n dX0_isWhole_21 rfl 0 rfl ?_
        refine m_geti (k := 14) okX0 hx0 rfl (by decide) w_150 rfl dX0_isWhole_22 ?_
        refine g_if_le (tgt := 32) dX0_isWhole_25 (by decide) (fun c3 => ?_) (fun c3 => ?_)
        · replace h := ite_p c3 h
          refine g_sub [] (lv' := []) rfl ?_
          exact hj2  _ h
        · replace h := ite_n c3 h
          refine g_iconst (v := (nI 1)) dX0_isWhole_28 (by decide) ?_
          refine g_goto (tgt := 33) dX0_isWhole_29 (by decide) ?_
          exact g_zret rfl rfl (pi_of h) dX0_isWhole_33
theorem ck_X0_isWhole : CKV yX0_isWhole cX0_isWhole 1 (some .boolean) 0 := ⟨⟨by decide, by decide, by decide +kernel⟩, w_666, w_73, ⟨w_664, w_665⟩, by decide⟩
theorem dX0_endOf_0 : decode cX0_endOf 0 = .ok (.iload_n 1, 1) := by decide +kernel
theorem dX0_endOf_1 : decode cX0_endOf 1 = .ok (.ifCond .lt 21, 3) := by decide +kernel
theorem dX0_endOf_4 : decode cX0_endOf 4 = .ok (.iload_n 1, 1) := by decide +kernel
theorem dX0_endOf_5 : decode cX0_endOf 5 = .ok (.aload_n 0, 1) := by decide +kernel
theorem dX0_endOf_6 : decode cX0_endOf 6 = .ok (.getfield 9, 3) := by decide +kernel
theorem dX0_endOf_9 : decode cX0_endOf 9 = .ok (.arraylength, 1) := by decide +kernel
theorem dX0_endOf_10 : decode cX0_endOf 10 = .ok (.if_icmp .ge 12, 3) := by decide +kernel
theorem dX0_endOf_13 : decode cX0_endOf 13 = .ok (.aload_n 0, 1) := by decide +kernel
theorem dX0_endOf_14 : decode cX0_endOf 14 = .ok (.getfield 9, 3) := by decide +kernel
theorem dX0_endOf_17 : decode cX0_endOf 17 = .ok (.iload_n 1, 1) := by decide +kernel
theorem dX0_endOf_18 : decode cX0_endOf 18 = .ok (.iaload, 1) := by decide +kernel
theorem dX0_endOf_19 : decode cX0_endOf 19 = .ok (.goto 4, 3) := by decide +kernel
theorem dX0_endOf_22 : decode cX0_endOf 22 = .ok (.iconst 0, 1) := by decide +kernel
theorem dX0_endOf_23 : decode cX0_endOf 23 = .ok (.ireturn, 1) := by decide +kernel
def f_X0_endOf (x0 : Nat) (x1 : Int32) (M : Mm) : Option (Int32 × Mm) :=
  jn (fun (M1 : Mm) => some ((nI 0), M1)) fun j2 => if x1 < 0 then (j2  M) else (if (nI 5) ≤ x1 then (j2  M) else (gd (inb x1 5) <| some ((M (x0 + 1) x1.toNatClampNeg), M)))
set_option maxHeartbeats 4000000 in
set_option maxRecDepth 100000 in
theorem s_X0_endOf {l : Launch} {B : BT} (hA : bA B = false) {d : Nat} {r : Int32} {M' : Mm} {x0 : Nat} {x1 : Int32} {M : Mm} (hx0 : LY x0 = .inl (0, fk0)) (h : f_X0_endOf x0 x1 M = some (r, M')) : Con l B LY (d + 0) yX0_endOf cX0_endOf 2 (some .int) 0 0 [.ref x0, .int x1] 97 M (PI r M') := by
  refine con_of (by decide) (Nat.le_of_ble_eq_true rfl) ?_
  show GG l B LY (d + 0) yX0_endOf cX0_endOf 2 (some .int) 0 0 (PI r M') 97 0 0 0 [(0, .ref x0), (1, .int x1)] [] M
  rw [f_X0_endOf] at h
  refine g_iload_n dX0_endOf_0 rfl 1 rfl ?_
  obtain ⟨j2, ej2, h⟩ := jn_e h
  have hj2 : ∀ (M1 : Mm), j2 M1 = some (r, M') → GG l B LY (d + 0) yX0_endOf cX0_endOf 2 (some .int) 0 0 (PI r M') 97 0 0 22 [] [] M1 := by
    intro M1 h
    rw [ej2] at h
    refine g_iconst (v := (nI 0)) dX0_endOf_22 (by decide) ?_
    exact g_zret rfl rfl (pi_of h) dX0_endOf_23
  refine g_if_lt (tgt := 22) dX0_endOf_1 (by decide) (fun c4 => ?_) (fun c4 => ?_)
  · replace h := ite_p c4 h
    refine g_sub [] (lv' := []) rfl ?_
    exact hj2  _ h
  · replace h := ite_n c4 h
    refine g_iload_n dX0_endOf_4 rfl 1 rfl ?_
    refine g_aload_n dX0_endOf_5 rfl 0 rfl ?_
    refine m_getr (k := 0) okX0 hx0 rfl (by decide) w_107 rfl dX0_endOf_6 ?_
    refine m_alen (v := (nI 5)) (aX0_1 hx0) (by decide) rfl dX0_endOf_9 ?_
    refine g_icmp_ge (tgt := 22) dX0_endOf_10 (by decide) (fun c3 => ?_) (fun c3 => ?_)
    · replace h := ite_p c3 h
      refine g_sub [] (lv' := []) rfl ?_
      exact hj2  _ h
    · replace h := ite_n c3 h
      refine g_aload_n dX0_endOf_13 rfl 0 rfl ?_
      refine m_getr (k := 0) okX0 hx0 rfl (by decide) w_107 rfl dX0_endOf_14 ?_
      refine g_iload_n dX0_endOf_17 rfl 1 rfl ?_
      obtain ⟨hz, h⟩ := gd_s h
      refine m_iald (aX0_1 hx0) hz dX0_endOf_18 ?_
      refine g_goto (tgt := 23) dX0_endOf_19 (by decide) ?_
      exact g_zret rfl rfl (pi_of h) dX0_endOf_23
theorem ck_X0_endOf : CKV yX0_endOf cX0_endOf 2 (some .int) 1 := ⟨⟨by decide, by decide, by decide +kernel⟩, w_591, w_73, ⟨w_589, w_590⟩, by decide⟩
theorem dX9_put_0 : decode cX9_put 0 = .ok (.aload_n 0, 1) := by decide +kernel
theorem dX9_put_1 : decode cX9_put 1 = .ok (.ifnull 17, 3) := by decide +kernel
theorem dX9_put_4 : decode cX9_put 4 = .ok (.iload_n 1, 1) := by decide +kernel
theorem dX9_put_5 : decode cX9_put 5 = .ok (.ifCond .lt 13, 3) := by decide +kernel
theorem dX9_put_8 : decode cX9_put 8 = .ok (.iload_n 1, 1) := by decide +kernel
theorem dX9_put_9 : decode cX9_put 9 = .ok (.aload_n 0, 1) := by decide +kernel
theorem dX9_put_10 : decode cX9_put 10 = .ok (.arraylength, 1) := by decide +kernel
theorem dX9_put_11 : decode cX9_put 11 = .ok (.if_icmp .ge 7, 3) := by decide +kernel
theorem dX9_put_14 : decode cX9_put 14 = .ok (.aload_n 0, 1) := by decide +kernel
theorem dX9_put_15 : decode cX9_put 15 = .ok (.iload_n 1, 1) := by decide +kernel
theorem dX9_put_16 : decode cX9_put 16 = .ok (.iload_n 2, 1) := by decide +kernel
theorem dX9_put_17 : decode cX9_put 17 = .ok (.iastore, 1) := by decide +kernel
theorem dX9_put_18 : decode cX9_put 18 = .ok (.return_, 1) := by decide +kernel
def f_X9_put (x0 : Nat) (x1 : Int32) (x2 : Int32) (M : Mm) : Option (Mm) :=
  if x1 < 0 then (some M) else (if (nI (alen x0)) ≤ x1 then (some M) else (gd (inb x1 (alen x0)) <| some ((mset M x0 x1.toNatClampNeg x2))))
set_option maxHeartbeats 4000000 in
set_option maxRecDepth 100000 in
theorem s_X9_put {l : Launch} {B : BT} (hA : bA B = false) {d : Nat} {M' : Mm} {x0 : Nat} {x1 : Int32} {x2 : Int32} {M : Mm} (hx0 : LY x0 = .inr (0, (alen x0))) (h : f_X9_put x0 x1 x2 M = some M') : Con l B LY (d + 0) yX9_put cX9_put 3 none 0 0 [.ref x0, .int x1, .int x2] 97 M (PV M') := by
  refine con_of (by decide) (Nat.le_of_ble_eq_true rfl) ?_
  show GG l B LY (d + 0) yX9_put cX9_put 3 none 0 0 (PV M') 97 0 0 0 [(0, .ref x0), (1, .int x1), (2, .int x2)] [] M
  rw [f_X9_put] at h
  refine g_aload_n dX9_put_0 rfl 0 rfl ?_
  refine g_ifnull dX9_put_1 ?_
  refine g_iload_n dX9_put_4 rfl 1 rfl ?_
  refine g_if_lt (tgt := 18) dX9_put_5 (by decide) (fun c2 => ?_) (fun c2 => ?_)
  · replace h := ite_p c2 h
    exact g_vret rfl (pv_of h) dX9_put_18
  · replace h := ite_n c2 h
    refine g_iload_n dX9_put_8 rfl 1 rfl ?_
    refine g_aload_n dX9_put_9 rfl 0 rfl ?_
    refine m_alen (v := (nI (alen x0))) hx0 (by decide) rfl dX9_put_10 ?_
    refine g_icmp_ge (tgt := 18) dX9_put_11 (by decide) (fun c1 => ?_) (fun c1 => ?_)
    · replace h := ite_p c1 h
      exact g_vret rfl (pv_of h) dX9_put_18
    · replace h := ite_n c1 h
      refine g_aload_n dX9_put_14 rfl 0 rfl ?_
      refine g_iload_n dX9_put_15 rfl 1 rfl ?_
      refine g_iload_n dX9_put_16 rfl 2 rfl ?_
      obtain ⟨hz, h⟩ := gd_s h
      refine m_iast hA hx0 hz dX9_put_17 ?_
      exact g_vret rfl (pv_of h) dX9_put_18
theorem ck_X9_put : CKS yX9_put cX9_put 3 none 3 := ⟨⟨by decide, by decide, by decide +kernel⟩, w_594, w_72, w_593, by decide⟩
theorem dX0_addPart_0 : decode cX0_addPart 0 = .ok (.aload_n 0, 1) := by decide +kernel
theorem dX0_addPart_1 : decode cX0_addPart 1 = .ok (.getfield 9, 3) := by decide +kernel
theorem dX0_addPart_4 : decode cX0_addPart 4 = .ok (.aload_n 0, 1) := by decide +kernel
theorem dX0_addPart_5 : decode cX0_addPart 5 = .ok (.getfield 44, 3) := by decide +kernel
theorem dX0_addPart_8 : decode cX0_addPart 8 = .ok (.aload_n 0, 1) := by decide +kernel
theorem dX0_addPart_9 : decode cX0_addPart 9 = .ok (.aload_n 0, 1) := by decide +kernel
theorem dX0_addPart_10 : decode cX0_addPart 10 = .ok (.getfield 44, 3) := by decide +kernel
theorem dX0_addPart_13 : decode cX0_addPart 13 = .ok (.iconst 1, 1) := by decide +kernel
theorem dX0_addPart_14 : decode cX0_addPart 14 = .ok (.isub, 1) := by decide +kernel
theorem dX0_addPart_15 : decode cX0_addPart 15 = .ok (.invokevirtual 62, 3) := by decide +kernel
theorem dX0_addPart_18 : decode cX0_addPart 18 = .ok (.invokestatic 66, 3) := by decide +kernel
theorem dX0_addPart_21 : decode cX0_addPart 21 = .ok (.aload_n 0, 1) := by decide +kernel
theorem dX0_addPart_22 : decode cX0_addPart 22 = .ok (.dup, 1) := by decide +kernel
theorem dX0_addPart_23 : decode cX0_addPart 23 = .ok (.getfield 44, 3) := by decide +kernel
theorem dX0_addPart_26 : decode cX0_addPart 26 = .ok (.iconst 1, 1) := by decide +kernel
theorem dX0_addPart_27 : decode cX0_addPart 27 = .ok (.iadd, 1) := by decide +kernel
theorem dX0_addPart_28 : decode cX0_addPart 28 = .ok (.putfield 44, 3) := by decide +kernel
theorem dX0_addPart_31 : decode cX0_addPart 31 = .ok (.return_, 1) := by decide +kernel
def f_X0_addPart (x0 : Nat) (M : Mm) : Option (Mm) :=
  bd (f_X0_endOf x0 ((M x0 9) - (nI 1)) M) fun v15_2 M15_1 => bv (f_X9_put (x0 + 1) (M x0 9) v15_2 M15_1) fun M18_3 => some ((mset M18_3 x0 9 ((M18_3 x0 9) + (nI 1))))
set_option maxHeartbeats 4000000 in
set_option maxRecDepth 100000 in
theorem s_X0_addPart {l : Launch} {B : BT} (hA : bA B = false) {d : Nat} {M' : Mm} {x0 : Nat} {M : Mm} (hx0 : LY x0 = .inl (0, fk0)) (h : f_X0_addPart x0 M = some M') : Con l B LY (d + 1) yX0_addPart cX0_addPart 1 none 0 0 [.ref x0] 97 M (PV M') := by
  refine con_of (by decide) (Nat.le_of_ble_eq_true rfl) ?_
  show GG l B LY (d + 1) yX0_addPart cX0_addPart 1 none 0 0 (PV M') 97 0 0 0 [(0, .ref x0)] [] M
  rw [f_X0_addPart] at h
  refine g_aload_n dX0_addPart_0 rfl 0 rfl ?_
  refine m_getr (k := 0) okX0 hx0 rfl (by decide) w_107 rfl dX0_addPart_1 ?_
  refine g_aload_n dX0_addPart_4 rfl 0 rfl ?_
  refine m_geti (k := 9) okX0 hx0 rfl (by decide) w_133 rfl dX0_addPart_5 ?_
  refine g_aload_n dX0_addPart_8 rfl 0 rfl ?_
  refine g_aload_n dX0_addPart_9 rfl 0 rfl ?_
  refine m_geti (k := 9) okX0 hx0 rfl (by decide) w_133 rfl dX0_addPart_10 ?_
  refine g_iconst (v := (nI 1)) dX0_addPart_13 (by decide) ?_
  refine g_isub dX0_addPart_14 ?_
  obtain ⟨v15_2, M15_1, eM15_1, h⟩ := bd_e h
  refine m_callVi (As := [.int ((M x0 9) - (nI 1))]) (st := [.int (M x0 9), .ref (x0 + 1)]) (s_X0_endOf (d := d + 0) hA hx0 eM15_1) hx0 okX0 ck_X0_endOf w_588 rfl (Nat.le_of_ble_eq_true rfl) dX0_addPart_15 ?_
  obtain ⟨M18_3, eM18_3, h⟩ := bv_e h
  refine m_callNv (As := [.ref (x0 + 1), .int (M x0 9), .int v15_2]) (st := []) (s_X9_put (d := d + 0) hA (al_of (aX0_1 hx0)) eM18_3) ck_X9_put (host := "StillYard") (List.mem_of_getElem? (i := 9) rfl) rfl (Nat.le_of_ble_eq_true rfl) dX0_addPart_18 ?_
  refine g_aload_n dX0_addPart_21 rfl 0 rfl ?_
  refine g_dup dX0_addPart_22 rfl ?_
  refine m_geti (k := 9) okX0 hx0 rfl (by decide) w_133 rfl dX0_addPart_23 ?_
  refine g_iconst (v := (nI 1)) dX0_addPart_26 (by decide) ?_
  refine g_iadd dX0_addPart_27 ?_
  refine m_puti (k := 9) okX0 hx0 rfl (by decide) w_133 rfl rfl rfl dX0_addPart_28 ?_
  exact g_vret rfl (pv_of h) dX0_addPart_31
theorem ck_X0_addPart : CKV yX0_addPart cX0_addPart 1 none 0 := ⟨⟨by decide, by decide, by decide +kernel⟩, w_587, w_73, ⟨w_585, w_586⟩, by decide⟩
theorem dX9_at_0 : decode cX9_at 0 = .ok (.aload_n 0, 1) := by decide +kernel
theorem dX9_at_1 : decode cX9_at 1 = .ok (.ifnull 19, 3) := by decide +kernel
theorem dX9_at_4 : decode cX9_at 4 = .ok (.iload_n 1, 1) := by decide +kernel
theorem dX9_at_5 : decode cX9_at 5 = .ok (.ifCond .lt 15, 3) := by decide +kernel
theorem dX9_at_8 : decode cX9_at 8 = .ok (.iload_n 1, 1) := by decide +kernel
theorem dX9_at_9 : decode cX9_at 9 = .ok (.aload_n 0, 1) := by decide +kernel
theorem dX9_at_10 : decode cX9_at 10 = .ok (.arraylength, 1) := by decide +kernel
theorem dX9_at_11 : decode cX9_at 11 = .ok (.if_icmp .ge 9, 3) := by decide +kernel
theorem dX9_at_14 : decode cX9_at 14 = .ok (.aload_n 0, 1) := by decide +kernel
theorem dX9_at_15 : decode cX9_at 15 = .ok (.iload_n 1, 1) := by decide +kernel
theorem dX9_at_16 : decode cX9_at 16 = .ok (.iaload, 1) := by decide +kernel
theorem dX9_at_17 : decode cX9_at 17 = .ok (.goto 4, 3) := by decide +kernel
theorem dX9_at_20 : decode cX9_at 20 = .ok (.iconst 0, 1) := by decide +kernel
theorem dX9_at_21 : decode cX9_at 21 = .ok (.ireturn, 1) := by decide +kernel
def f_X9_at (x0 : Nat) (x1 : Int32) (M : Mm) : Option (Int32 × Mm) :=
  jn (fun (M1 : Mm) => some ((nI 0), M1)) fun j2 => if x1 < 0 then (j2  M) else (if (nI (alen x0)) ≤ x1 then (j2  M) else (gd (inb x1 (alen x0)) <| some ((M x0 x1.toNatClampNeg), M)))
set_option maxHeartbeats 4000000 in
set_option maxRecDepth 100000 in
theorem s_X9_at {l : Launch} {B : BT} (hA : bA B = false) {d : Nat} {r : Int32} {M' : Mm} {x0 : Nat} {x1 : Int32} {M : Mm} (hx0 : LY x0 = .inr (0, (alen x0))) (h : f_X9_at x0 x1 M = some (r, M')) : Con l B LY (d + 0) yX9_at cX9_at 2 (some .int) 0 0 [.ref x0, .int x1] 97 M (PI r M') := by
  refine con_of (by decide) (Nat.le_of_ble_eq_true rfl) ?_
  show GG l B LY (d + 0) yX9_at cX9_at 2 (some .int) 0 0 (PI r M') 97 0 0 0 [(0, .ref x0), (1, .int x1)] [] M
  rw [f_X9_at] at h
  refine g_aload_n dX9_at_0 rfl 0 rfl ?_
  refine g_ifnull dX9_at_1 ?_
  refine g_iload_n dX9_at_4 rfl 1 rfl ?_
  obtain ⟨j2, ej2, h⟩ := jn_e h
  have hj2 : ∀ (M1 : Mm), j2 M1 = some (r, M') → GG l B LY (d + 0) yX9_at cX9_at 2 (some .int) 0 0 (PI r M') 97 0 0 20 [] [] M1 := by
    intro M1 h
    rw [ej2] at h
    refine g_iconst (v := (nI 0)) dX9_at_20 (by decide) ?_
    exact g_zret rfl rfl (pi_of h) dX9_at_21
  refine g_if_lt (tgt := 20) dX9_at_5 (by decide) (fun c4 => ?_) (fun c4 => ?_)
  · replace h := ite_p c4 h
    refine g_sub [] (lv' := []) rfl ?_
    exact hj2  _ h
  · replace h := ite_n c4 h
    refine g_iload_n dX9_at_8 rfl 1 rfl ?_
    refine g_aload_n dX9_at_9 rfl 0 rfl ?_
    refine m_alen (v := (nI (alen x0))) hx0 (by decide) rfl dX9_at_10 ?_
    refine g_icmp_ge (tgt := 20) dX9_at_11 (by decide) (fun c3 => ?_) (fun c3 => ?_)
    · replace h := ite_p c3 h
      refine g_sub [] (lv' := []) rfl ?_
      exact hj2  _ h
    · replace h := ite_n c3 h
      refine g_aload_n dX9_at_14 rfl 0 rfl ?_
      refine g_iload_n dX9_at_15 rfl 1 rfl ?_
      obtain ⟨hz, h⟩ := gd_s h
      refine m_iald hx0 hz dX9_at_16 ?_
      refine g_goto (tgt := 21) dX9_at_17 (by decide) ?_
      exact g_zret rfl rfl (pi_of h) dX9_at_21
theorem ck_X9_at : CKS yX9_at cX9_at 2 (some .int) 2 := ⟨⟨by decide, by decide, by decide +kernel⟩, w_601, w_72, w_600, by decide⟩
theorem dX9_add_0 : decode cX9_add 0 = .ok (.aload_n 0, 1) := by decide +kernel
theorem dX9_add_1 : decode cX9_add 1 = .ok (.iload_n 1, 1) := by decide +kernel
theorem dX9_add_2 : decode cX9_add 2 = .ok (.aload_n 0, 1) := by decide +kernel
theorem dX9_add_3 : decode cX9_add 3 = .ok (.iload_n 1, 1) := by decide +kernel
theorem dX9_add_4 : decode cX9_add 4 = .ok (.invokestatic 166, 3) := by decide +kernel
theorem dX9_add_7 : decode cX9_add 7 = .ok (.iload_n 2, 1) := by decide +kernel
theorem dX9_add_8 : decode cX9_add 8 = .ok (.iadd, 1) := by decide +kernel
theorem dX9_add_9 : decode cX9_add 9 = .ok (.invokestatic 156, 3) := by decide +kernel
theorem dX9_add_12 : decode cX9_add 12 = .ok (.return_, 1) := by decide +kernel
def f_X9_add (x0 : Nat) (x1 : Int32) (x2 : Int32) (M : Mm) : Option (Mm) :=
  bd (f_X9_at x0 x1 M) fun v4_2 M4_1 => bv (f_X9_put x0 x1 (v4_2 + x2) M4_1) fun M9_3 => some M9_3
set_option maxHeartbeats 4000000 in
set_option maxRecDepth 100000 in
theorem s_X9_add {l : Launch} {B : BT} (hA : bA B = false) {d : Nat} {M' : Mm} {x0 : Nat} {x1 : Int32} {x2 : Int32} {M : Mm} (hx0 : LY x0 = .inr (0, (alen x0))) (h : f_X9_add x0 x1 x2 M = some M') : Con l B LY (d + 1) yX9_add cX9_add 3 none 0 0 [.ref x0, .int x1, .int x2] 97 M (PV M') := by
  refine con_of (by decide) (Nat.le_of_ble_eq_true rfl) ?_
  show GG l B LY (d + 1) yX9_add cX9_add 3 none 0 0 (PV M') 97 0 0 0 [(0, .ref x0), (1, .int x1), (2, .int x2)] [] M
  rw [f_X9_add] at h
  refine g_aload_n dX9_add_0 rfl 0 rfl ?_
  refine g_iload_n dX9_add_1 rfl 1 rfl ?_
  refine g_aload_n dX9_add_2 rfl 0 rfl ?_
  refine g_iload_n dX9_add_3 rfl 1 rfl ?_
  obtain ⟨v4_2, M4_1, eM4_1, h⟩ := bd_e h
  refine m_callSi (As := [.ref x0, .int x1]) (st := [.int x1, .ref x0]) (s_X9_at (d := d + 0) hA hx0 eM4_1) ck_X9_at w_605 rfl (Nat.le_of_ble_eq_true rfl) dX9_add_4 ?_
  refine g_iload_n dX9_add_7 rfl 2 rfl ?_
  refine g_iadd dX9_add_8 ?_
  obtain ⟨M9_3, eM9_3, h⟩ := bv_e h
  refine m_callSv (As := [.ref x0, .int x1, .int (v4_2 + x2)]) (st := []) (s_X9_put (d := d + 0) hA hx0 eM9_3) ck_X9_put w_606 rfl (Nat.le_of_ble_eq_true rfl) dX9_add_9 ?_
  exact g_vret rfl (pv_of h) dX9_add_12
theorem ck_X9_add : CKS yX9_add cX9_add 3 none 3 := ⟨⟨by decide, by decide, by decide +kernel⟩, w_604, w_72, w_603, by decide⟩
theorem dX0_addSyllable_0 : decode cX0_addSyllable 0 = .ok (.aload_n 0, 1) := by decide +kernel
theorem dX0_addSyllable_1 : decode cX0_addSyllable 1 = .ok (.getfield 44, 3) := by decide +kernel
theorem dX0_addSyllable_4 : decode cX0_addSyllable 4 = .ok (.iconst 1, 1) := by decide +kernel
theorem dX0_addSyllable_5 : decode cX0_addSyllable 5 = .ok (.isub, 1) := by decide +kernel
theorem dX0_addSyllable_6 : decode cX0_addSyllable 6 = .ok (.istore_n 2, 1) := by decide +kernel
theorem dX0_addSyllable_7 : decode cX0_addSyllable 7 = .ok (.aload_n 0, 1) := by decide +kernel
theorem dX0_addSyllable_8 : decode cX0_addSyllable 8 = .ok (.getfield 15, 3) := by decide +kernel
theorem dX0_addSyllable_11 : decode cX0_addSyllable 11 = .ok (.iload_n 2, 1) := by decide +kernel
theorem dX0_addSyllable_12 : decode cX0_addSyllable 12 = .ok (.invokestatic 70, 3) := by decide +kernel
theorem dX0_addSyllable_15 : decode cX0_addSyllable 15 = .ok (.istore_n 3, 1) := by decide +kernel
theorem dX0_addSyllable_16 : decode cX0_addSyllable 16 = .ok (.aload_n 0, 1) := by decide +kernel
theorem dX0_addSyllable_17 : decode cX0_addSyllable 17 = .ok (.getfield 18, 3) := by decide +kernel
theorem dX0_addSyllable_20 : decode cX0_addSyllable 20 = .ok (.iload_n 2, 1) := by decide +kernel
theorem dX0_addSyllable_21 : decode cX0_addSyllable 21 = .ok (.iconst 4, 1) := by decide +kernel
theorem dX0_addSyllable_22 : decode cX0_addSyllable 22 = .ok (.imul, 1) := by decide +kernel
theorem dX0_addSyllable_23 : decode cX0_addSyllable 23 = .ok (.iload_n 3, 1) := by decide +kernel
theorem dX0_addSyllable_24 : decode cX0_addSyllable 24 = .ok (.iadd, 1) := by decide +kernel
theorem dX0_addSyllable_25 : decode cX0_addSyllable 25 = .ok (.iload_n 1, 1) := by decide +kernel
theorem dX0_addSyllable_26 : decode cX0_addSyllable 26 = .ok (.invokestatic 66, 3) := by decide +kernel
theorem dX0_addSyllable_29 : decode cX0_addSyllable 29 = .ok (.aload_n 0, 1) := by decide +kernel
theorem dX0_addSyllable_30 : decode cX0_addSyllable 30 = .ok (.getfield 15, 3) := by decide +kernel
theorem dX0_addSyllable_33 : decode cX0_addSyllable 33 = .ok (.iload_n 2, 1) := by decide +kernel
theorem dX0_addSyllable_34 : decode cX0_addSyllable 34 = .ok (.iload_n 3, 1) := by decide +kernel
theorem dX0_addSyllable_35 : decode cX0_addSyllable 35 = .ok (.iconst 1, 1) := by decide +kernel
theorem dX0_addSyllable_36 : decode cX0_addSyllable 36 = .ok (.iadd, 1) := by decide +kernel
theorem dX0_addSyllable_37 : decode cX0_addSyllable 37 = .ok (.invokestatic 66, 3) := by decide +kernel
theorem dX0_addSyllable_40 : decode cX0_addSyllable 40 = .ok (.aload_n 0, 1) := by decide +kernel
theorem dX0_addSyllable_41 : decode cX0_addSyllable 41 = .ok (.getfield 9, 3) := by decide +kernel
theorem dX0_addSyllable_44 : decode cX0_addSyllable 44 = .ok (.iload_n 2, 1) := by decide +kernel
theorem dX0_addSyllable_45 : decode cX0_addSyllable 45 = .ok (.iload_n 1, 1) := by decide +kernel
theorem dX0_addSyllable_46 : decode cX0_addSyllable 46 = .ok (.invokestatic 74, 3) := by decide +kernel
theorem dX0_addSyllable_49 : decode cX0_addSyllable 49 = .ok (.return_, 1) := by decide +kernel
def f_X0_addSyllable (x0 : Nat) (x1 : Int32) (M : Mm) : Option (Mm) :=
  bd (f_X9_at (x0 + 2) ((M x0 9) - (nI 1)) M) fun v12_2 M12_1 => bv (f_X9_put (x0 + 3) ((((M x0 9) - (nI 1)) * (nI 4)) + v12_2) x1 M12_1) fun M26_3 => bv (f_X9_put (x0 + 2) ((M x0 9) - (nI 1)) (v12_2 + (nI 1)) M26_3) fun M37_5 => bv (f_X9_add (x0 + 1) ((M x0 9) - (nI 1)) x1 M37_5) fun M46_7 => some M46_7
set_option maxHeartbeats 4000000 in
set_option maxRecDepth 100000 in
theorem s_X0_addSyllable {l : Launch} {B : BT} (hA : bA B = false) {d : Nat} {M' : Mm} {x0 : Nat} {x1 : Int32} {M : Mm} (hx0 : LY x0 = .inl (0, fk0)) (h : f_X0_addSyllable x0 x1 M = some M') : Con l B LY (d + 2) yX0_addSyllable cX0_addSyllable 4 none 0 0 [.ref x0, .int x1] 97 M (PV M') := by
  refine con_of (by decide) (Nat.le_of_ble_eq_true rfl) ?_
  show GG l B LY (d + 2) yX0_addSyllable cX0_addSyllable 4 none 0 0 (PV M') 97 0 0 0 [(0, .ref x0), (1, .int x1)] [] M
  rw [f_X0_addSyllable] at h
  refine g_aload_n dX0_addSyllable_0 rfl 0 rfl ?_
  refine m_geti (k := 9) okX0 hx0 rfl (by decide) w_133 rfl dX0_addSyllable_1 ?_
  refine g_iconst (v := (nI 1)) dX0_addSyllable_4 (by decide) ?_
  refine g_isub dX0_addSyllable_5 ?_
  refine g_istore_n (lv' := [(2, .int ((M x0 9) - (nI 1))), (0, .ref x0), (1, .int x1)]) dX0_addSyllable_6 rfl (by decide) rfl ?_
  refine g_aload_n dX0_addSyllable_7 rfl 1 rfl ?_
  refine m_getr (k := 1) okX0 hx0 rfl (by decide) w_108 rfl dX0_addSyllable_8 ?_
  refine g_iload_n dX0_addSyllable_11 rfl 0 rfl ?_
  obtain ⟨v12_2, M12_1, eM12_1, h⟩ := bd_e h
  refine m_callNi (As := [.ref (x0 + 2), .int ((M x0 9) - (nI 1))]) (st := []) (s_X9_at (d := d + 1) hA (al_of (aX0_2 hx0)) eM12_1) ck_X9_at (host := "StillYard") (List.mem_of_getElem? (i := 10) rfl) rfl (Nat.le_of_ble_eq_true rfl) dX0_addSyllable_12 ?_
  refine g_istore_n (lv' := [(3, .int v12_2), (2, .int ((M x0 9) - (nI 1))), (0, .ref x0), (1, .int x1)]) dX0_addSyllable_15 rfl (by decide) rfl ?_
  refine g_aload_n dX0_addSyllable_16 rfl 2 rfl ?_
  refine m_getr (k := 2) okX0 hx0 rfl (by decide) w_110 rfl dX0_addSyllable_17 ?_
  refine g_iload_n dX0_addSyllable_20 rfl 1 rfl ?_
  refine g_iconst (v := (nI 4)) dX0_addSyllable_21 (by decide) ?_
  refine g_imul dX0_addSyllable_22 ?_
  refine g_iload_n dX0_addSyllable_23 rfl 0 rfl ?_
  refine g_iadd dX0_addSyllable_24 ?_
  refine g_iload_n dX0_addSyllable_25 rfl 3 rfl ?_
  obtain ⟨M26_3, eM26_3, h⟩ := bv_e h
  refine m_callNv (As := [.ref (x0 + 3), .int ((((M x0 9) - (nI 1)) * (nI 4)) + v12_2), .int x1]) (st := []) (s_X9_put (d := d + 1) hA (al_of (aX0_3 hx0)) eM26_3) ck_X9_put (host := "StillYard") (List.mem_of_getElem? (i := 9) rfl) rfl (Nat.le_of_ble_eq_true rfl) dX0_addSyllable_26 ?_
  refine g_aload_n dX0_addSyllable_29 rfl 2 rfl ?_
  refine m_getr (k := 1) okX0 hx0 rfl (by decide) w_108 rfl dX0_addSyllable_30 ?_
  refine g_iload_n dX0_addSyllable_33 rfl 1 rfl ?_
  refine g_iload_n dX0_addSyllable_34 rfl 0 rfl ?_
  refine g_iconst (v := (nI 1)) dX0_addSyllable_35 (by decide) ?_
  refine g_iadd dX0_addSyllable_36 ?_
  obtain ⟨M37_5, eM37_5, h⟩ := bv_e h
  refine m_callNv (As := [.ref (x0 + 2), .int ((M x0 9) - (nI 1)), .int (v12_2 + (nI 1))]) (st := []) (s_X9_put (d := d + 1) hA (al_of (aX0_2 hx0)) eM37_5) ck_X9_put (host := "StillYard") (List.mem_of_getElem? (i := 9) rfl) rfl (Nat.le_of_ble_eq_true rfl) dX0_addSyllable_37 ?_
  refine g_aload_n dX0_addSyllable_40 rfl 2 rfl ?_
  refine m_getr (k := 0) okX0 hx0 rfl (by decide) w_107 rfl dX0_addSyllable_41 ?_
  refine g_iload_n dX0_addSyllable_44 rfl 1 rfl ?_
  refine g_iload_n dX0_addSyllable_45 rfl 3 rfl ?_
  obtain ⟨M46_7, eM46_7, h⟩ := bv_e h
  refine m_callNv (As := [.ref (x0 + 1), .int ((M x0 9) - (nI 1)), .int x1]) (st := []) (s_X9_add (d := d + 0) hA (al_of (aX0_1 hx0)) eM46_7) ck_X9_add (host := "StillYard") (List.mem_of_getElem? (i := 11) rfl) rfl (Nat.le_of_ble_eq_true rfl) dX0_addSyllable_46 ?_
  exact g_vret rfl (pv_of h) dX0_addSyllable_49
theorem ck_X0_addSyllable : CKV yX0_addSyllable cX0_addSyllable 4 none 1 := ⟨⟨by decide, by decide, by decide +kernel⟩, w_598, w_73, ⟨w_596, w_597⟩, by decide⟩
theorem dX0_verseTenths_0 : decode cX0_verseTenths 0 = .ok (.aload_n 0, 1) := by decide +kernel
theorem dX0_verseTenths_1 : decode cX0_verseTenths 1 = .ok (.aload_n 0, 1) := by decide +kernel
theorem dX0_verseTenths_2 : decode cX0_verseTenths 2 = .ok (.getfield 44, 3) := by decide +kernel
theorem dX0_verseTenths_5 : decode cX0_verseTenths 5 = .ok (.iconst 1, 1) := by decide +kernel
theorem dX0_verseTenths_6 : decode cX0_verseTenths 6 = .ok (.isub, 1) := by decide +kernel
theorem dX0_verseTenths_7 : decode cX0_verseTenths 7 = .ok (.invokevirtual 62, 3) := by decide +kernel
theorem dX0_verseTenths_10 : decode cX0_verseTenths 10 = .ok (.ireturn, 1) := by decide +kernel
def f_X0_verseTenths (x0 : Nat) (M : Mm) : Option (Int32 × Mm) :=
  bd (f_X0_endOf x0 ((M x0 9) - (nI 1)) M) fun v7_2 M7_1 => some (v7_2, M7_1)
set_option maxHeartbeats 4000000 in
set_option maxRecDepth 100000 in
theorem s_X0_verseTenths {l : Launch} {B : BT} (hA : bA B = false) {d : Nat} {r : Int32} {M' : Mm} {x0 : Nat} {M : Mm} (hx0 : LY x0 = .inl (0, fk0)) (h : f_X0_verseTenths x0 M = some (r, M')) : Con l B LY (d + 1) yX0_verseTenths cX0_verseTenths 1 (some .int) 0 0 [.ref x0] 97 M (PI r M') := by
  refine con_of (by decide) (Nat.le_of_ble_eq_true rfl) ?_
  show GG l B LY (d + 1) yX0_verseTenths cX0_verseTenths 1 (some .int) 0 0 (PI r M') 97 0 0 0 [(0, .ref x0)] [] M
  rw [f_X0_verseTenths] at h
  refine g_aload_n dX0_verseTenths_0 rfl 0 rfl ?_
  refine g_aload_n dX0_verseTenths_1 rfl 0 rfl ?_
  refine m_geti (k := 9) okX0 hx0 rfl (by decide) w_133 rfl dX0_verseTenths_2 ?_
  refine g_iconst (v := (nI 1)) dX0_verseTenths_5 (by decide) ?_
  refine g_isub dX0_verseTenths_6 ?_
  obtain ⟨v7_2, M7_1, eM7_1, h⟩ := bd_e h
  refine m_callVi (As := [.int ((M x0 9) - (nI 1))]) (st := []) (s_X0_endOf (d := d + 0) hA hx0 eM7_1) hx0 okX0 ck_X0_endOf w_588 rfl (Nat.le_of_ble_eq_true rfl) dX0_verseTenths_7 ?_
  exact g_zret rfl rfl (pi_of h) dX0_verseTenths_10
theorem ck_X0_verseTenths : CKV yX0_verseTenths cX0_verseTenths 1 (some .int) 0 := ⟨⟨by decide, by decide, by decide +kernel⟩, w_811, w_73, ⟨w_809, w_810⟩, by decide⟩
theorem dX0_syllable_0 : decode cX0_syllable 0 = .ok (.aload_n 0, 1) := by decide +kernel
theorem dX0_syllable_1 : decode cX0_syllable 1 = .ok (.getfield 18, 3) := by decide +kernel
theorem dX0_syllable_4 : decode cX0_syllable 4 = .ok (.iload_n 1, 1) := by decide +kernel
theorem dX0_syllable_5 : decode cX0_syllable 5 = .ok (.iconst 4, 1) := by decide +kernel
theorem dX0_syllable_6 : decode cX0_syllable 6 = .ok (.imul, 1) := by decide +kernel
theorem dX0_syllable_7 : decode cX0_syllable 7 = .ok (.iload_n 2, 1) := by decide +kernel
theorem dX0_syllable_8 : decode cX0_syllable 8 = .ok (.iadd, 1) := by decide +kernel
theorem dX0_syllable_9 : decode cX0_syllable 9 = .ok (.invokestatic 70, 3) := by decide +kernel
theorem dX0_syllable_12 : decode cX0_syllable 12 = .ok (.ireturn, 1) := by decide +kernel
def f_X0_syllable (x0 : Nat) (x1 : Int32) (x2 : Int32) (M : Mm) : Option (Int32 × Mm) :=
  bd (f_X9_at (x0 + 3) ((x1 * (nI 4)) + x2) M) fun v9_2 M9_1 => some (v9_2, M9_1)
set_option maxHeartbeats 4000000 in
set_option maxRecDepth 100000 in
theorem s_X0_syllable {l : Launch} {B : BT} (hA : bA B = false) {d : Nat} {r : Int32} {M' : Mm} {x0 : Nat} {x1 : Int32} {x2 : Int32} {M : Mm} (hx0 : LY x0 = .inl (0, fk0)) (h : f_X0_syllable x0 x1 x2 M = some (r, M')) : Con l B LY (d + 1) yX0_syllable cX0_syllable 3 (some .int) 0 0 [.ref x0, .int x1, .int x2] 97 M (PI r M') := by
  refine con_of (by decide) (Nat.le_of_ble_eq_true rfl) ?_
  show GG l B LY (d + 1) yX0_syllable cX0_syllable 3 (some .int) 0 0 (PI r M') 97 0 0 0 [(0, .ref x0), (1, .int x1), (2, .int x2)] [] M
  rw [f_X0_syllable] at h
  refine g_aload_n dX0_syllable_0 rfl 0 rfl ?_
  refine m_getr (k := 2) okX0 hx0 rfl (by decide) w_110 rfl dX0_syllable_1 ?_
  refine g_iload_n dX0_syllable_4 rfl 1 rfl ?_
  refine g_iconst (v := (nI 4)) dX0_syllable_5 (by decide) ?_
  refine g_imul dX0_syllable_6 ?_
  refine g_iload_n dX0_syllable_7 rfl 2 rfl ?_
  refine g_iadd dX0_syllable_8 ?_
  obtain ⟨v9_2, M9_1, eM9_1, h⟩ := bd_e h
  refine m_callNi (As := [.ref (x0 + 3), .int ((x1 * (nI 4)) + x2)]) (st := []) (s_X9_at (d := d + 0) hA (al_of (aX0_3 hx0)) eM9_1) ck_X9_at (host := "StillYard") (List.mem_of_getElem? (i := 10) rfl) rfl (Nat.le_of_ble_eq_true rfl) dX0_syllable_9 ?_
  exact g_zret rfl rfl (pi_of h) dX0_syllable_12
theorem ck_X0_syllable : CKV yX0_syllable cX0_syllable 3 (some .int) 2 := ⟨⟨by decide, by decide, by decide +kernel⟩, w_853, w_73, ⟨w_851, w_852⟩, by decide⟩
theorem dX0_partOf_0 : decode cX0_partOf 0 = .ok (.iconst 0, 1) := by decide +kernel
theorem dX0_partOf_1 : decode cX0_partOf 1 = .ok (.istore_n 2, 1) := by decide +kernel
theorem dX0_partOf_2 : decode cX0_partOf 2 = .ok (.iload_n 2, 1) := by decide +kernel
theorem dX0_partOf_3 : decode cX0_partOf 3 = .ok (.aload_n 0, 1) := by decide +kernel
theorem dX0_partOf_4 : decode cX0_partOf 4 = .ok (.getfield 44, 3) := by decide +kernel
theorem dX0_partOf_7 : decode cX0_partOf 7 = .ok (.iconst 1, 1) := by decide +kernel
theorem dX0_partOf_8 : decode cX0_partOf 8 = .ok (.isub, 1) := by decide +kernel
theorem dX0_partOf_9 : decode cX0_partOf 9 = .ok (.if_icmp .ge 18, 3) := by decide +kernel
theorem dX0_partOf_12 : decode cX0_partOf 12 = .ok (.iload_n 1, 1) := by decide +kernel
theorem dX0_partOf_13 : decode cX0_partOf 13 = .ok (.aload_n 0, 1) := by decide +kernel
theorem dX0_partOf_14 : decode cX0_partOf 14 = .ok (.iload_n 2, 1) := by decide +kernel
theorem dX0_partOf_15 : decode cX0_partOf 15 = .ok (.invokevirtual 62, 3) := by decide +kernel
theorem dX0_partOf_18 : decode cX0_partOf 18 = .ok (.if_icmp .lt 9, 3) := by decide +kernel
theorem dX0_partOf_21 : decode cX0_partOf 21 = .ok (.iinc 2 1, 3) := by decide +kernel
theorem dX0_partOf_24 : decode cX0_partOf 24 = .ok (.goto (-22), 3) := by decide +kernel
theorem dX0_partOf_27 : decode cX0_partOf 27 = .ok (.iload_n 2, 1) := by decide +kernel
theorem dX0_partOf_28 : decode cX0_partOf 28 = .ok (.ireturn, 1) := by decide +kernel
def lp_X0_partOf_2 (y0 : Nat) (y1 : Int32)  : Nat → Int32 → Mm → Option (Int32 × Mm)
  | 0, _, _ => none
  | n + 1, y2, M =>
    if ((M y0 9) - (nI 1)) ≤ y2 then (some (y2, M)) else (bd (f_X0_endOf y0 y2 M) fun v15_2 M15_1 => if y1 < v15_2 then (some (y2, M15_1)) else (lp_X0_partOf_2 y0 y1 n (y2 + (nI 1)) M15_1))
def f_X0_partOf (x0 : Nat) (x1 : Int32) (M : Mm) : Option (Int32 × Mm) :=
  lp_X0_partOf_2 x0 x1  N0 (nI 0) M
set_option maxHeartbeats 4000000 in
set_option maxRecDepth 100000 in
theorem sl_X0_partOf_2 {l : Launch} {B : BT} (hA : bA B = false) {d : Nat} {r : Int32} {M' : Mm} {y0 : Nat} {y1 : Int32} (hy0 : LY y0 = .inl (0, fk0))   :
    ∀ (n : Nat) (y2 : Int32) (M : Mm), lp_X0_partOf_2 y0 y1 n y2 M = some (r, M') → GG l B LY (d + 1) yX0_partOf cX0_partOf 3 (some .int) 0 0 (PI r M') 97 0 0 2 [(0, .ref y0), (1, .int y1), (2, .int y2)] [] M := by
  intro n
  induction n with
  | zero => intro y2 M h; cases h
  | succ n ih =>
    intro y2 M h
    rw [lp_X0_partOf_2] at h
    refine g_iload_n dX0_partOf_2 rfl 2 rfl ?_
    refine g_aload_n dX0_partOf_3 rfl 0 rfl ?_
    refine m_geti (k := 9) okX0 hy0 rfl (by decide) w_133 rfl dX0_partOf_4 ?_
    refine g_iconst (v := (nI 1)) dX0_partOf_7 (by decide) ?_
    refine g_isub dX0_partOf_8 ?_
    refine g_icmp_ge (tgt := 27) dX0_partOf_9 (by decide) (fun c4 => ?_) (fun c4 => ?_)
    · replace h := ite_p c4 h
      refine g_iload_n dX0_partOf_27 rfl 2 rfl ?_
      exact g_zret rfl rfl (pi_of h) dX0_partOf_28
    · replace h := ite_n c4 h
      refine g_iload_n dX0_partOf_12 rfl 1 rfl ?_
      refine g_aload_n dX0_partOf_13 rfl 0 rfl ?_
      refine g_iload_n dX0_partOf_14 rfl 2 rfl ?_
      obtain ⟨v15_2, M15_1, eM15_1, h⟩ := bd_e h
      refine m_callVi (As := [.int y2]) (st := [.int y1]) (s_X0_endOf (d := d + 0) hA hy0 eM15_1) hy0 okX0 ck_X0_endOf w_588 rfl (Nat.le_of_ble_eq_true rfl) dX0_partOf_15 ?_
      refine g_icmp_lt (tgt := 27) dX0_partOf_18 (by decide) (fun c3 => ?_) (fun c3 => ?_)
      · replace h := ite_p c3 h
        refine g_iload_n dX0_partOf_27 rfl 2 rfl ?_
        exact g_zret rfl rfl (pi_of h) dX0_partOf_28
      · replace h := ite_n c3 h
        refine g_iinc (v := (y2 + (nI 1))) (lv' := [(2, .int (y2 + (nI 1))), (0, .ref y0), (1, .int y1)]) dX0_partOf_21 2 rfl rfl (by decide) rfl ?_
        refine g_goto (tgt := 2) dX0_partOf_24 (by decide) ?_
        refine g_sub [1, 2, 0] (lv' := [(0, .ref y0), (1, .int y1), (2, .int (y2 + (nI 1)))]) rfl ?_
        exact ih _  _ h
set_option maxHeartbeats 4000000 in
set_option maxRecDepth 100000 in
theorem s_X0_partOf {l : Launch} {B : BT} (hA : bA B = false) {d : Nat} {r : Int32} {M' : Mm} {x0 : Nat} {x1 : Int32} {M : Mm} (hx0 : LY x0 = .inl (0, fk0)) (h : f_X0_partOf x0 x1 M = some (r, M')) : Con l B LY (d + 1) yX0_partOf cX0_partOf 3 (some .int) 0 0 [.ref x0, .int x1] 97 M (PI r M') := by
  refine con_of (by decide) (Nat.le_of_ble_eq_true rfl) ?_
  show GG l B LY (d + 1) yX0_partOf cX0_partOf 3 (some .int) 0 0 (PI r M') 97 0 0 0 [(0, .ref x0), (1, .int x1)] [] M
  rw [f_X0_partOf] at h
  refine g_iconst (v := (nI 0)) dX0_partOf_0 (by decide) ?_
  refine g_istore_n (lv' := [(2, .int (nI 0)), (0, .ref x0), (1, .int x1)]) dX0_partOf_1 rfl (by decide) rfl ?_
  refine g_sub [1, 2, 0] (lv' := [(0, .ref x0), (1, .int x1), (2, .int (nI 0))]) rfl ?_
  refine sl_X0_partOf_2 hA hx0  _ _ _ h
theorem ck_X0_partOf : CKV yX0_partOf cX0_partOf 3 (some .int) 1 := ⟨⟨by decide, by decide, by decide +kernel⟩, w_736, w_73, ⟨w_734, w_735⟩, by decide⟩
theorem dX9_by_0 : decode cX9_by 0 = .ok (.iload_n 1, 1) := by decide +kernel
theorem dX9_by_1 : decode cX9_by 1 = .ok (.ifCond .le 9, 3) := by decide +kernel
theorem dX9_by_4 : decode cX9_by 4 = .ok (.iload_n 0, 1) := by decide +kernel
theorem dX9_by_5 : decode cX9_by 5 = .ok (.iload_n 1, 1) := by decide +kernel
theorem dX9_by_6 : decode cX9_by 6 = .ok (.idiv, 1) := by decide +kernel
theorem dX9_by_7 : decode cX9_by 7 = .ok (.goto 4, 3) := by decide +kernel
theorem dX9_by_10 : decode cX9_by 10 = .ok (.iconst 0, 1) := by decide +kernel
theorem dX9_by_11 : decode cX9_by 11 = .ok (.ireturn, 1) := by decide +kernel
def f_X9_by (x0 : Int32) (x1 : Int32) (M : Mm) : Option (Int32 × Mm) :=
  if x1 ≤ 0 then (some ((nI 0), M)) else (gd (nzi x1) <| some ((x0 / x1), M))
set_option maxHeartbeats 4000000 in
set_option maxRecDepth 100000 in
theorem s_X9_by {l : Launch} {B : BT} (hA : bA B = false) {d : Nat} {r : Int32} {M' : Mm} {x0 : Int32} {x1 : Int32} {M : Mm}  (h : f_X9_by x0 x1 M = some (r, M')) : Con l B LY (d + 0) yX9_by cX9_by 2 (some .int) 0 0 [.int x0, .int x1] 97 M (PI r M') := by
  refine con_of (by decide) (Nat.le_of_ble_eq_true rfl) ?_
  show GG l B LY (d + 0) yX9_by cX9_by 2 (some .int) 0 0 (PI r M') 97 0 0 0 [(0, .int x0), (1, .int x1)] [] M
  rw [f_X9_by] at h
  refine g_iload_n dX9_by_0 rfl 1 rfl ?_
  refine g_if_le (tgt := 10) dX9_by_1 (by decide) (fun c1 => ?_) (fun c1 => ?_)
  · replace h := ite_p c1 h
    refine g_iconst (v := (nI 0)) dX9_by_10 (by decide) ?_
    exact g_zret rfl rfl (pi_of h) dX9_by_11
  · replace h := ite_n c1 h
    refine g_iload_n dX9_by_4 rfl 0 rfl ?_
    refine g_iload_n dX9_by_5 rfl 1 rfl ?_
    obtain ⟨hz, h⟩ := gd_s h
    refine g_idiv dX9_by_6 (nzi_s hz) ?_
    refine g_goto (tgt := 11) dX9_by_7 (by decide) ?_
    exact g_zret rfl rfl (pi_of h) dX9_by_11
theorem ck_X9_by : CKS yX9_by cX9_by 2 (some .int) 2 := ⟨⟨by decide, by decide, by decide +kernel⟩, w_720, w_72, w_719, by decide⟩
theorem dX0_eyes_0 : decode cX0_eyes 0 = .ok (.aload_n 0, 1) := by decide +kernel
theorem dX0_eyes_1 : decode cX0_eyes 1 = .ok (.getfield 47, 3) := by decide +kernel
theorem dX0_eyes_4 : decode cX0_eyes 4 = .ok (.aload_n 0, 1) := by decide +kernel
theorem dX0_eyes_5 : decode cX0_eyes 5 = .ok (.getfield 50, 3) := by decide +kernel
theorem dX0_eyes_8 : decode cX0_eyes 8 = .ok (.invokestatic 77, 3) := by decide +kernel
theorem dX0_eyes_11 : decode cX0_eyes 11 = .ok (.ireturn, 1) := by decide +kernel
def f_X0_eyes (x0 : Nat) (M : Mm) : Option (Int32 × Mm) :=
  bd (f_X9_by (M x0 10) (M x0 11) M) fun v8_2 M8_1 => some (v8_2, M8_1)
set_option maxHeartbeats 4000000 in
set_option maxRecDepth 100000 in
theorem s_X0_eyes {l : Launch} {B : BT} (hA : bA B = false) {d : Nat} {r : Int32} {M' : Mm} {x0 : Nat} {M : Mm} (hx0 : LY x0 = .inl (0, fk0)) (h : f_X0_eyes x0 M = some (r, M')) : Con l B LY (d + 1) yX0_eyes cX0_eyes 1 (some .int) 0 0 [.ref x0] 97 M (PI r M') := by
  refine con_of (by decide) (Nat.le_of_ble_eq_true rfl) ?_
  show GG l B LY (d + 1) yX0_eyes cX0_eyes 1 (some .int) 0 0 (PI r M') 97 0 0 0 [(0, .ref x0)] [] M
  rw [f_X0_eyes] at h
  refine g_aload_n dX0_eyes_0 rfl 0 rfl ?_
  refine m_geti (k := 10) okX0 hx0 rfl (by decide) w_138 rfl dX0_eyes_1 ?_
  refine g_aload_n dX0_eyes_4 rfl 0 rfl ?_
  refine m_geti (k := 11) okX0 hx0 rfl (by decide) w_140 rfl dX0_eyes_5 ?_
  obtain ⟨v8_2, M8_1, eM8_1, h⟩ := bd_e h
  refine m_callNi (As := [.int (M x0 10), .int (M x0 11)]) (st := []) (s_X9_by (d := d + 0) hA  eM8_1) ck_X9_by (host := "StillYard") (List.mem_of_getElem? (i := 16) rfl) rfl (Nat.le_of_ble_eq_true rfl) dX0_eyes_8 ?_
  exact g_zret rfl rfl (pi_of h) dX0_eyes_11
theorem ck_X0_eyes : CKV yX0_eyes cX0_eyes 1 (some .int) 0 := ⟨⟨by decide, by decide, by decide +kernel⟩, w_717, w_73, ⟨w_715, w_716⟩, by decide⟩
theorem dX0_trait_0 : decode cX0_trait 0 = .ok (.iload_n 1, 1) := by decide +kernel
theorem dX0_trait_1 : decode cX0_trait 1 = .ok (.bipush 7, 2) := by decide +kernel
theorem dX0_trait_3 : decode cX0_trait 3 = .ok (.imul, 1) := by decide +kernel
theorem dX0_trait_4 : decode cX0_trait 4 = .ok (.iload_n 2, 1) := by decide +kernel
theorem dX0_trait_5 : decode cX0_trait 5 = .ok (.iadd, 1) := by decide +kernel
theorem dX0_trait_6 : decode cX0_trait 6 = .ok (.istore_n 3, 1) := by decide +kernel
theorem dX0_trait_7 : decode cX0_trait 7 = .ok (.iload_n 3, 1) := by decide +kernel
theorem dX0_trait_8 : decode cX0_trait 8 = .ok (.ifCond .lt 21, 3) := by decide +kernel
theorem dX0_trait_11 : decode cX0_trait 11 = .ok (.iload_n 3, 1) := by decide +kernel
theorem dX0_trait_12 : decode cX0_trait 12 = .ok (.aload_n 0, 1) := by decide +kernel
theorem dX0_trait_13 : decode cX0_trait 13 = .ok (.getfield 27, 3) := by decide +kernel
theorem dX0_trait_16 : decode cX0_trait 16 = .ok (.arraylength, 1) := by decide +kernel
theorem dX0_trait_17 : decode cX0_trait 17 = .ok (.if_icmp .ge 12, 3) := by decide +kernel
theorem dX0_trait_20 : decode cX0_trait 20 = .ok (.aload_n 0, 1) := by decide +kernel
theorem dX0_trait_21 : decode cX0_trait 21 = .ok (.getfield 27, 3) := by decide +kernel
theorem dX0_trait_24 : decode cX0_trait 24 = .ok (.iload_n 3, 1) := by decide +kernel
theorem dX0_trait_25 : decode cX0_trait 25 = .ok (.iaload, 1) := by decide +kernel
theorem dX0_trait_26 : decode cX0_trait 26 = .ok (.goto 4, 3) := by decide +kernel
theorem dX0_trait_29 : decode cX0_trait 29 = .ok (.iconst 0, 1) := by decide +kernel
theorem dX0_trait_30 : decode cX0_trait 30 = .ok (.ireturn, 1) := by decide +kernel
def f_X0_trait (x0 : Nat) (x1 : Int32) (x2 : Int32) (M : Mm) : Option (Int32 × Mm) :=
  jn (fun (M1 : Mm) => some ((nI 0), M1)) fun j2 => if ((x1 * (nI 7)) + x2) < 0 then (j2  M) else (if (nI 35) ≤ ((x1 * (nI 7)) + x2) then (j2  M) else (gd (inb ((x1 * (nI 7)) + x2) 35) <| some ((M (x0 + 6) ((x1 * (nI 7)) + x2).toNatClampNeg), M)))
set_option maxHeartbeats 4000000 in
set_option maxRecDepth 100000 in
theorem s_X0_trait {l : Launch} {B : BT} (hA : bA B = false) {d : Nat} {r : Int32} {M' : Mm} {x0 : Nat} {x1 : Int32} {x2 : Int32} {M : Mm} (hx0 : LY x0 = .inl (0, fk0)) (h : f_X0_trait x0 x1 x2 M = some (r, M')) : Con l B LY (d + 0) yX0_trait cX0_trait 4 (some .int) 0 0 [.ref x0, .int x1, .int x2] 97 M (PI r M') := by
  refine con_of (by decide) (Nat.le_of_ble_eq_true rfl) ?_
  show GG l B LY (d + 0) yX0_trait cX0_trait 4 (some .int) 0 0 (PI r M') 97 0 0 0 [(0, .ref x0), (1, .int x1), (2, .int x2)] [] M
  rw [f_X0_trait] at h
  refine g_iload_n dX0_trait_0 rfl 1 rfl ?_
  refine g_bipush (v := (nI 7)) dX0_trait_1 (by decide) ?_
  refine g_imul dX0_trait_3 ?_
  refine g_iload_n dX0_trait_4 rfl 2 rfl ?_
  refine g_iadd dX0_trait_5 ?_
  refine g_istore_n (lv' := [(3, .int ((x1 * (nI 7)) + x2)), (0, .ref x0), (1, .int x1), (2, .int x2)]) dX0_trait_6 rfl (by decide) rfl ?_
  refine g_iload_n dX0_trait_7 rfl 0 rfl ?_
  obtain ⟨j2, ej2, h⟩ := jn_e h
  have hj2 : ∀ (M1 : Mm), j2 M1 = some (r, M') → GG l B LY (d + 0) yX0_trait cX0_trait 4 (some .int) 0 0 (PI r M') 97 0 0 29 [] [] M1 := by
    intro M1 h
    rw [ej2] at h
    refine g_iconst (v := (nI 0)) dX0_trait_29 (by decide) ?_
    exact g_zret rfl rfl (pi_of h) dX0_trait_30
  refine g_if_lt (tgt := 29) dX0_trait_8 (by decide) (fun c4 => ?_) (fun c4 => ?_)
  · replace h := ite_p c4 h
    refine g_sub [] (lv' := []) rfl ?_
    exact hj2  _ h
  · replace h := ite_n c4 h
    refine g_iload_n dX0_trait_11 rfl 0 rfl ?_
    refine g_aload_n dX0_trait_12 rfl 1 rfl ?_
    refine m_getr (k := 5) okX0 hx0 rfl (by decide) w_118 rfl dX0_trait_13 ?_
    refine m_alen (v := (nI 35)) (aX0_6 hx0) (by decide) rfl dX0_trait_16 ?_
    refine g_icmp_ge (tgt := 29) dX0_trait_17 (by decide) (fun c3 => ?_) (fun c3 => ?_)
    · replace h := ite_p c3 h
      refine g_sub [] (lv' := []) rfl ?_
      exact hj2  _ h
    · replace h := ite_n c3 h
      refine g_aload_n dX0_trait_20 rfl 1 rfl ?_
      refine m_getr (k := 5) okX0 hx0 rfl (by decide) w_118 rfl dX0_trait_21 ?_
      refine g_iload_n dX0_trait_24 rfl 0 rfl ?_
      obtain ⟨hz, h⟩ := gd_s h
      refine m_iald (aX0_6 hx0) hz dX0_trait_25 ?_
      refine g_goto (tgt := 30) dX0_trait_26 (by decide) ?_
      exact g_zret rfl rfl (pi_of h) dX0_trait_30
theorem ck_X0_trait : CKV yX0_trait cX0_trait 4 (some .int) 2 := ⟨⟨by decide, by decide, by decide +kernel⟩, w_740, w_73, ⟨w_738, w_739⟩, by decide⟩
theorem dX0_goes_0 : decode cX0_goes 0 = .ok (.aload_n 0, 1) := by decide +kernel
theorem dX0_goes_1 : decode cX0_goes 1 = .ok (.iload_n 2, 1) := by decide +kernel
theorem dX0_goes_2 : decode cX0_goes 2 = .ok (.invokevirtual 81, 3) := by decide +kernel
theorem dX0_goes_5 : decode cX0_goes 5 = .ok (.istore_n 3, 1) := by decide +kernel
theorem dX0_goes_6 : decode cX0_goes 6 = .ok (.aload_n 0, 1) := by decide +kernel
theorem dX0_goes_7 : decode cX0_goes 7 = .ok (.iload_n 1, 1) := by decide +kernel
theorem dX0_goes_8 : decode cX0_goes 8 = .ok (.bipush 6, 2) := by decide +kernel
theorem dX0_goes_10 : decode cX0_goes 10 = .ok (.invokevirtual 84, 3) := by decide +kernel
theorem dX0_goes_13 : decode cX0_goes 13 = .ok (.istore 4, 2) := by decide +kernel
theorem dX0_goes_15 : decode cX0_goes 15 = .ok (.aload_n 0, 1) := by decide +kernel
theorem dX0_goes_16 : decode cX0_goes 16 = .ok (.iload_n 1, 1) := by decide +kernel
theorem dX0_goes_17 : decode cX0_goes 17 = .ok (.iconst 5, 1) := by decide +kernel
theorem dX0_goes_18 : decode cX0_goes 18 = .ok (.invokevirtual 84, 3) := by decide +kernel
theorem dX0_goes_21 : decode cX0_goes 21 = .ok (.lookupswitch 57 #[(1, 27), (2, 39)], 27) := by decide +kernel
theorem dX0_goes_48 : decode cX0_goes 48 = .ok (.iload_n 3, 1) := by decide +kernel
theorem dX0_goes_49 : decode cX0_goes 49 = .ok (.iload 4, 2) := by decide +kernel
theorem dX0_goes_51 : decode cX0_goes 51 = .ok (.if_icmp .ge 7, 3) := by decide +kernel
theorem dX0_goes_54 : decode cX0_goes 54 = .ok (.iconst 1, 1) := by decide +kernel
theorem dX0_goes_55 : decode cX0_goes 55 = .ok (.goto 4, 3) := by decide +kernel
theorem dX0_goes_58 : decode cX0_goes 58 = .ok (.iconst 0, 1) := by decide +kernel
theorem dX0_goes_59 : decode cX0_goes 59 = .ok (.ireturn, 1) := by decide +kernel
theorem dX0_goes_60 : decode cX0_goes 60 = .ok (.iload_n 2, 1) := by decide +kernel
theorem dX0_goes_61 : decode cX0_goes 61 = .ok (.aload_n 0, 1) := by decide +kernel
theorem dX0_goes_62 : decode cX0_goes 62 = .ok (.iload_n 3, 1) := by decide +kernel
theorem dX0_goes_63 : decode cX0_goes 63 = .ok (.invokevirtual 62, 3) := by decide +kernel
theorem dX0_goes_66 : decode cX0_goes 66 = .ok (.iload 4, 2) := by decide +kernel
theorem dX0_goes_68 : decode cX0_goes 68 = .ok (.isub, 1) := by decide +kernel
theorem dX0_goes_69 : decode cX0_goes 69 = .ok (.if_icmp .ge 7, 3) := by decide +kernel
theorem dX0_goes_72 : decode cX0_goes 72 = .ok (.iconst 1, 1) := by decide +kernel
theorem dX0_goes_73 : decode cX0_goes 73 = .ok (.goto 4, 3) := by decide +kernel
theorem dX0_goes_76 : decode cX0_goes 76 = .ok (.iconst 0, 1) := by decide +kernel
theorem dX0_goes_77 : decode cX0_goes 77 = .ok (.ireturn, 1) := by decide +kernel
theorem dX0_goes_78 : decode cX0_goes 78 = .ok (.iconst 1, 1) := by decide +kernel
theorem dX0_goes_79 : decode cX0_goes 79 = .ok (.ireturn, 1) := by decide +kernel
def f_X0_goes (x0 : Nat) (x1 : Int32) (x2 : Int32) (M : Mm) : Option (Int32 × Mm) :=
  bd (f_X0_partOf x0 x2 M) fun v2_2 M2_1 => bd (f_X0_trait x0 x1 (nI 6) M2_1) fun v10_4 M10_3 => bd (f_X0_trait x0 x1 (nI 5) M10_3) fun v18_6 M18_5 => if v18_6 = (nI 1) then (if v10_4 ≤ v2_2 then (some ((nI 0), M18_5)) else (some ((nI 1), M18_5))) else (if v18_6 = (nI 2) then (bd (f_X0_endOf x0 v2_2 M18_5) fun v63_11 M63_10 => if (v63_11 - v10_4) ≤ x2 then (some ((nI 0), M63_10)) else (some ((nI 1), M63_10))) else (some ((nI 1), M18_5)))
set_option maxHeartbeats 4000000 in
set_option maxRecDepth 100000 in
theorem s_X0_goes {l : Launch} {B : BT} (hA : bA B = false) {d : Nat} {r : Int32} {M' : Mm} {x0 : Nat} {x1 : Int32} {x2 : Int32} {M : Mm} (hx0 : LY x0 = .inl (0, fk0)) (h : f_X0_goes x0 x1 x2 M = some (r, M')) : Con l B LY (d + 2) yX0_goes cX0_goes 5 (some .boolean) 0 0 [.ref x0, .int x1, .int x2] 97 M (PI r M') := by
  refine con_of (by decide) (Nat.le_of_ble_eq_true rfl) ?_
  show GG l B LY (d + 2) yX0_goes cX0_goes 5 (some .boolean) 0 0 (PI r M') 97 0 0 0 [(0, .ref x0), (1, .int x1), (2, .int x2)] [] M
  rw [f_X0_goes] at h
  refine g_aload_n dX0_goes_0 rfl 0 rfl ?_
  refine g_iload_n dX0_goes_1 rfl 2 rfl ?_
  obtain ⟨v2_2, M2_1, eM2_1, h⟩ := bd_e h
  refine m_callVi (As := [.int x2]) (st := []) (s_X0_partOf (d := d + 0) hA hx0 eM2_1) hx0 okX0 ck_X0_partOf w_733 rfl (Nat.le_of_ble_eq_true rfl) dX0_goes_2 ?_
  refine g_istore_n (lv' := [(3, .int v2_2), (0, .ref x0), (1, .int x1), (2, .int x2)]) dX0_goes_5 rfl (by decide) rfl ?_
  refine g_aload_n dX0_goes_6 rfl 1 rfl ?_
  refine g_iload_n dX0_goes_7 rfl 2 rfl ?_
  refine g_bipush (v := (nI 6)) dX0_goes_8 (by decide) ?_
  obtain ⟨v10_4, M10_3, eM10_3, h⟩ := bd_e h
  refine m_callVi (As := [.int x1, .int (nI 6)]) (st := []) (s_X0_trait (d := d + 1) hA hx0 eM10_3) hx0 okX0 ck_X0_trait w_737 rfl (Nat.le_of_ble_eq_true rfl) dX0_goes_10 ?_
  refine g_istore (lv' := [(4, .int v10_4), (3, .int v2_2), (0, .ref x0), (1, .int x1), (2, .int x2)]) dX0_goes_13 (by decide) rfl ?_
  refine g_aload_n dX0_goes_15 rfl 2 rfl ?_
  refine g_iload_n dX0_goes_16 rfl 3 rfl ?_
  refine g_iconst (v := (nI 5)) dX0_goes_17 (by decide) ?_
  obtain ⟨v18_6, M18_5, eM18_5, h⟩ := bd_e h
  refine m_callVi (As := [.int x1, .int (nI 5)]) (st := []) (s_X0_trait (d := d + 1) hA hx0 eM18_5) hx0 okX0 ck_X0_trait w_737 rfl (Nat.le_of_ble_eq_true rfl) dX0_goes_18 ?_
  by_cases c7 : v18_6 = (nI 1)
  · replace h := ite_p c7 h
    refine g_lookup (tgt := 48) dX0_goes_21 rfl (off := 27) (by rw [c7]; rfl) (by decide) ?_
    refine g_iload_n dX0_goes_48 rfl 1 rfl ?_
    refine g_iload dX0_goes_49 0 rfl ?_
    refine g_icmp_ge (tgt := 58) dX0_goes_51 (by decide) (fun c8 => ?_) (fun c8 => ?_)
    · replace h := ite_p c8 h
      refine g_iconst (v := (nI 0)) dX0_goes_58 (by decide) ?_
      exact g_zret rfl rfl (pi_of h) dX0_goes_59
    · replace h := ite_n c8 h
      refine g_iconst (v := (nI 1)) dX0_goes_54 (by decide) ?_
      refine g_goto (tgt := 59) dX0_goes_55 (by decide) ?_
      exact g_zret rfl rfl (pi_of h) dX0_goes_59
  replace h := ite_n c7 h
  by_cases c9 : v18_6 = (nI 2)
  · replace h := ite_p c9 h
    refine g_lookup (tgt := 60) dX0_goes_21 rfl (off := 39) (by rw [c9]; rfl) (by decide) ?_
    refine g_iload_n dX0_goes_60 rfl 4 rfl ?_
    refine g_aload_n dX0_goes_61 rfl 2 rfl ?_
    refine g_iload_n dX0_goes_62 rfl 1 rfl ?_
    obtain ⟨v63_11, M63_10, eM63_10, h⟩ := bd_e h
    refine m_callVi (As := [.int v2_2]) (st := [.int x2]) (s_X0_endOf (d := d + 1) hA hx0 eM63_10) hx0 okX0 ck_X0_endOf w_588 rfl (Nat.le_of_ble_eq_true rfl) dX0_goes_63 ?_
    refine g_iload dX0_goes_66 0 rfl ?_
    refine g_isub dX0_goes_68 ?_
    refine g_icmp_ge (tgt := 76) dX0_goes_69 (by decide) (fun c12 => ?_) (fun c12 => ?_)
    · replace h := ite_p c12 h
      refine g_iconst (v := (nI 0)) dX0_goes_76 (by decide) ?_
      exact g_zret rfl rfl (pi_of h) dX0_goes_77
    · replace h := ite_n c12 h
      refine g_iconst (v := (nI 1)) dX0_goes_72 (by decide) ?_
      refine g_goto (tgt := 77) dX0_goes_73 (by decide) ?_
      exact g_zret rfl rfl (pi_of h) dX0_goes_77
  replace h := ite_n c9 h
  refine g_lookup (tgt := 78) dX0_goes_21 rfl (off := 57) ((lv_osw c7 (by decide)).trans ((lv_osw c9 (by decide)).trans rfl)) (by decide) ?_
  refine g_iconst (v := (nI 1)) dX0_goes_78 (by decide) ?_
  exact g_zret rfl rfl (pi_of h) dX0_goes_79
theorem ck_X0_goes : CKV yX0_goes cX0_goes 5 (some .boolean) 2 := ⟨⟨by decide, by decide, by decide +kernel⟩, w_732, w_73, ⟨w_730, w_731⟩, by decide⟩
theorem dX0_tenthsMeant_0 : decode cX0_tenthsMeant 0 = .ok (.aload_n 0, 1) := by decide +kernel
theorem dX0_tenthsMeant_1 : decode cX0_tenthsMeant 1 = .ok (.iload_n 1, 1) := by decide +kernel
theorem dX0_tenthsMeant_2 : decode cX0_tenthsMeant 2 = .ok (.bipush 6, 2) := by decide +kernel
theorem dX0_tenthsMeant_4 : decode cX0_tenthsMeant 4 = .ok (.invokevirtual 84, 3) := by decide +kernel
theorem dX0_tenthsMeant_7 : decode cX0_tenthsMeant 7 = .ok (.istore_n 2, 1) := by decide +kernel
theorem dX0_tenthsMeant_8 : decode cX0_tenthsMeant 8 = .ok (.aload_n 0, 1) := by decide +kernel
theorem dX0_tenthsMeant_9 : decode cX0_tenthsMeant 9 = .ok (.iload_n 1, 1) := by decide +kernel
theorem dX0_tenthsMeant_10 : decode cX0_tenthsMeant 10 = .ok (.iconst 5, 1) := by decide +kernel
theorem dX0_tenthsMeant_11 : decode cX0_tenthsMeant 11 = .ok (.invokevirtual 84, 3) := by decide +kernel
theorem dX0_tenthsMeant_14 : decode cX0_tenthsMeant 14 = .ok (.lookupswitch 53 #[(1, 26), (2, 41)], 26) := by decide +kernel
theorem dX0_tenthsMeant_40 : decode cX0_tenthsMeant 40 = .ok (.aload_n 0, 1) := by decide +kernel
theorem dX0_tenthsMeant_41 : decode cX0_tenthsMeant 41 = .ok (.iload_n 2, 1) := by decide +kernel
theorem dX0_tenthsMeant_42 : decode cX0_tenthsMeant 42 = .ok (.aload_n 0, 1) := by decide +kernel
theorem dX0_tenthsMeant_43 : decode cX0_tenthsMeant 43 = .ok (.getfield 44, 3) := by decide +kernel
theorem dX0_tenthsMeant_46 : decode cX0_tenthsMeant 46 = .ok (.invokestatic 87, 3) := by decide +kernel
theorem dX0_tenthsMeant_49 : decode cX0_tenthsMeant 49 = .ok (.iconst 1, 1) := by decide +kernel
theorem dX0_tenthsMeant_50 : decode cX0_tenthsMeant 50 = .ok (.isub, 1) := by decide +kernel
theorem dX0_tenthsMeant_51 : decode cX0_tenthsMeant 51 = .ok (.invokevirtual 62, 3) := by decide +kernel
theorem dX0_tenthsMeant_54 : decode cX0_tenthsMeant 54 = .ok (.ireturn, 1) := by decide +kernel
theorem dX0_tenthsMeant_55 : decode cX0_tenthsMeant 55 = .ok (.aload_n 0, 1) := by decide +kernel
theorem dX0_tenthsMeant_56 : decode cX0_tenthsMeant 56 = .ok (.iconst 0, 1) := by decide +kernel
theorem dX0_tenthsMeant_57 : decode cX0_tenthsMeant 57 = .ok (.invokevirtual 62, 3) := by decide +kernel
theorem dX0_tenthsMeant_60 : decode cX0_tenthsMeant 60 = .ok (.iload_n 2, 1) := by decide +kernel
theorem dX0_tenthsMeant_61 : decode cX0_tenthsMeant 61 = .ok (.isub, 1) := by decide +kernel
theorem dX0_tenthsMeant_62 : decode cX0_tenthsMeant 62 = .ok (.iconst 0, 1) := by decide +kernel
theorem dX0_tenthsMeant_63 : decode cX0_tenthsMeant 63 = .ok (.invokestatic 92, 3) := by decide +kernel
theorem dX0_tenthsMeant_66 : decode cX0_tenthsMeant 66 = .ok (.ireturn, 1) := by decide +kernel
theorem dX0_tenthsMeant_67 : decode cX0_tenthsMeant 67 = .ok (.aload_n 0, 1) := by decide +kernel
theorem dX0_tenthsMeant_68 : decode cX0_tenthsMeant 68 = .ok (.invokevirtual 95, 3) := by decide +kernel
theorem dX0_tenthsMeant_71 : decode cX0_tenthsMeant 71 = .ok (.ireturn, 1) := by decide +kernel
def f_X0_tenthsMeant (x0 : Nat) (x1 : Int32) (M : Mm) : Option (Int32 × Mm) :=
  bd (f_X0_trait x0 x1 (nI 6) M) fun v4_2 M4_1 => bd (f_X0_trait x0 x1 (nI 5) M4_1) fun v11_4 M11_3 => if v11_4 = (nI 1) then (bd (f_X0_endOf x0 ((if (M11_3 x0 9) < v4_2 then (M11_3 x0 9) else v4_2) - (nI 1)) M11_3) fun v51_7 M51_6 => some (v51_7, M51_6)) else (if v11_4 = (nI 2) then (bd (f_X0_endOf x0 (nI 0) M11_3) fun v57_10 M57_9 => some ((if (v57_10 - v4_2) < (nI 0) then (nI 0) else (v57_10 - v4_2)), M57_9)) else (bd (f_X0_verseTenths x0 M11_3) fun v68_12 M68_11 => some (v68_12, M68_11)))
set_option maxHeartbeats 4000000 in
set_option maxRecDepth 100000 in
theorem s_X0_tenthsMeant {l : Launch} {B : BT} (hA : bA B = false) {d : Nat} {r : Int32} {M' : Mm} {x0 : Nat} {x1 : Int32} {M : Mm} (hx0 : LY x0 = .inl (0, fk0)) (h : f_X0_tenthsMeant x0 x1 M = some (r, M')) : Con l B LY (d + 2) yX0_tenthsMeant cX0_tenthsMeant 3 (some .int) 0 0 [.ref x0, .int x1] 97 M (PI r M') := by
  refine con_of (by decide) (Nat.le_of_ble_eq_true rfl) ?_
  show GG l B LY (d + 2) yX0_tenthsMeant cX0_tenthsMeant 3 (some .int) 0 0 (PI r M') 97 0 0 0 [(0, .ref x0), (1, .int x1)] [] M
  rw [f_X0_tenthsMeant] at h
  refine g_aload_n dX0_tenthsMeant_0 rfl 0 rfl ?_
  refine g_iload_n dX0_tenthsMeant_1 rfl 1 rfl ?_
  refine g_bipush (v := (nI 6)) dX0_tenthsMeant_2 (by decide) ?_
  obtain ⟨v4_2, M4_1, eM4_1, h⟩ := bd_e h
  refine m_callVi (As := [.int x1, .int (nI 6)]) (st := []) (s_X0_trait (d := d + 1) hA hx0 eM4_1) hx0 okX0 ck_X0_trait w_737 rfl (Nat.le_of_ble_eq_true rfl) dX0_tenthsMeant_4 ?_
  refine g_istore_n (lv' := [(2, .int v4_2), (0, .ref x0), (1, .int x1)]) dX0_tenthsMeant_7 rfl (by decide) rfl ?_
  refine g_aload_n dX0_tenthsMeant_8 rfl 1 rfl ?_
  refine g_iload_n dX0_tenthsMeant_9 rfl 2 rfl ?_
  refine g_iconst (v := (nI 5)) dX0_tenthsMeant_10 (by decide) ?_
  obtain ⟨v11_4, M11_3, eM11_3, h⟩ := bd_e h
  refine m_callVi (As := [.int x1, .int (nI 5)]) (st := []) (s_X0_trait (d := d + 1) hA hx0 eM11_3) hx0 okX0 ck_X0_trait w_737 rfl (Nat.le_of_ble_eq_true rfl) dX0_tenthsMeant_11 ?_
  by_cases c5 : v11_4 = (nI 1)
  · replace h := ite_p c5 h
    refine g_lookup (tgt := 40) dX0_tenthsMeant_14 rfl (off := 26) (by rw [c5]; rfl) (by decide) ?_
    refine g_aload_n dX0_tenthsMeant_40 rfl 1 rfl ?_
    refine g_iload_n dX0_tenthsMeant_41 rfl 0 rfl ?_
    refine g_aload_n dX0_tenthsMeant_42 rfl 1 rfl ?_
    refine m_geti (k := 9) okX0 hx0 rfl (by decide) w_133 rfl dX0_tenthsMeant_43 ?_
    refine m_mmin (st := [.ref x0]) w_993 w_927 w_86 w_928 (Nat.le_of_ble_eq_true rfl) dX0_tenthsMeant_46 ?_
    refine g_iconst (v := (nI 1)) dX0_tenthsMeant_49 (by decide) ?_
    refine g_isub dX0_tenthsMeant_50 ?_
    obtain ⟨v51_7, M51_6, eM51_6, h⟩ := bd_e h
    refine m_callVi (As := [.int ((if (M11_3 x0 9) < v4_2 then (M11_3 x0 9) else v4_2) - (nI 1))]) (st := []) (s_X0_endOf (d := d + 1) hA hx0 eM51_6) hx0 okX0 ck_X0_endOf w_588 rfl (Nat.le_of_ble_eq_true rfl) dX0_tenthsMeant_51 ?_
    exact g_zret rfl rfl (pi_of h) dX0_tenthsMeant_54
  replace h := ite_n c5 h
  by_cases c8 : v11_4 = (nI 2)
  · replace h := ite_p c8 h
    refine g_lookup (tgt := 55) dX0_tenthsMeant_14 rfl (off := 41) (by rw [c8]; rfl) (by decide) ?_
    refine g_aload_n dX0_tenthsMeant_55 rfl 1 rfl ?_
    refine g_iconst (v := (nI 0)) dX0_tenthsMeant_56 (by decide) ?_
    obtain ⟨v57_10, M57_9, eM57_9, h⟩ := bd_e h
    refine m_callVi (As := [.int (nI 0)]) (st := []) (s_X0_endOf (d := d + 1) hA hx0 eM57_9) hx0 okX0 ck_X0_endOf w_588 rfl (Nat.le_of_ble_eq_true rfl) dX0_tenthsMeant_57 ?_
    refine g_iload_n dX0_tenthsMeant_60 rfl 0 rfl ?_
    refine g_isub dX0_tenthsMeant_61 ?_
    refine g_iconst (v := (nI 0)) dX0_tenthsMeant_62 (by decide) ?_
    refine m_mmax (st := []) w_753 w_754 w_86 w_755 (Nat.le_of_ble_eq_true rfl) dX0_tenthsMeant_63 ?_
    exact g_zret rfl rfl (pi_of h) dX0_tenthsMeant_66
  replace h := ite_n c8 h
  refine g_lookup (tgt := 67) dX0_tenthsMeant_14 rfl (off := 53) ((lv_osw c5 (by decide)).trans ((lv_osw c8 (by decide)).trans rfl)) (by decide) ?_
  refine g_aload_n dX0_tenthsMeant_67 rfl 1 rfl ?_
  obtain ⟨v68_12, M68_11, eM68_11, h⟩ := bd_e h
  refine m_callVi (As := []) (st := []) (s_X0_verseTenths (d := d + 0) hA hx0 eM68_11) hx0 okX0 ck_X0_verseTenths w_994 rfl (Nat.le_of_ble_eq_true rfl) dX0_tenthsMeant_68 ?_
  exact g_zret rfl rfl (pi_of h) dX0_tenthsMeant_71
theorem ck_X0_tenthsMeant : CKV yX0_tenthsMeant cX0_tenthsMeant 3 (some .int) 1 := ⟨⟨by decide, by decide, by decide +kernel⟩, w_992, w_73, ⟨w_990, w_991⟩, by decide⟩
theorem dX0_loudnessOf_0 : decode cX0_loudnessOf 0 = .ok (.iconst 0, 1) := by decide +kernel
theorem dX0_loudnessOf_1 : decode cX0_loudnessOf 1 = .ok (.istore_n 3, 1) := by decide +kernel
theorem dX0_loudnessOf_2 : decode cX0_loudnessOf 2 = .ok (.iconst 0, 1) := by decide +kernel
theorem dX0_loudnessOf_3 : decode cX0_loudnessOf 3 = .ok (.istore 4, 2) := by decide +kernel
theorem dX0_loudnessOf_5 : decode cX0_loudnessOf 5 = .ok (.iload 4, 2) := by decide +kernel
theorem dX0_loudnessOf_7 : decode cX0_loudnessOf 7 = .ok (.aload_n 0, 1) := by decide +kernel
theorem dX0_loudnessOf_8 : decode cX0_loudnessOf 8 = .ok (.getfield 56, 3) := by decide +kernel
theorem dX0_loudnessOf_11 : decode cX0_loudnessOf 11 = .ok (.if_icmp .ge 76, 3) := by decide +kernel
theorem dX0_loudnessOf_14 : decode cX0_loudnessOf 14 = .ok (.iload 4, 2) := by decide +kernel
theorem dX0_loudnessOf_16 : decode cX0_loudnessOf 16 = .ok (.iconst 4, 1) := by decide +kernel
theorem dX0_loudnessOf_17 : decode cX0_loudnessOf 17 = .ok (.imul, 1) := by decide +kernel
theorem dX0_loudnessOf_18 : decode cX0_loudnessOf 18 = .ok (.istore 5, 2) := by decide +kernel
theorem dX0_loudnessOf_20 : decode cX0_loudnessOf 20 = .ok (.aload_n 0, 1) := by decide +kernel
theorem dX0_loudnessOf_21 : decode cX0_loudnessOf 21 = .ok (.getfield 24, 3) := by decide +kernel
theorem dX0_loudnessOf_24 : decode cX0_loudnessOf 24 = .ok (.iload 5, 2) := by decide +kernel
theorem dX0_loudnessOf_26 : decode cX0_loudnessOf 26 = .ok (.iconst 0, 1) := by decide +kernel
theorem dX0_loudnessOf_27 : decode cX0_loudnessOf 27 = .ok (.iadd, 1) := by decide +kernel
theorem dX0_loudnessOf_28 : decode cX0_loudnessOf 28 = .ok (.invokestatic 70, 3) := by decide +kernel
theorem dX0_loudnessOf_31 : decode cX0_loudnessOf 31 = .ok (.iload_n 1, 1) := by decide +kernel
theorem dX0_loudnessOf_32 : decode cX0_loudnessOf 32 = .ok (.if_icmp .ne 49, 3) := by decide +kernel
theorem dX0_loudnessOf_35 : decode cX0_loudnessOf 35 = .ok (.aload_n 0, 1) := by decide +kernel
theorem dX0_loudnessOf_36 : decode cX0_loudnessOf 36 = .ok (.getfield 24, 3) := by decide +kernel
theorem dX0_loudnessOf_39 : decode cX0_loudnessOf 39 = .ok (.iload 5, 2) := by decide +kernel
theorem dX0_loudnessOf_41 : decode cX0_loudnessOf 41 = .ok (.iconst 1, 1) := by decide +kernel
theorem dX0_loudnessOf_42 : decode cX0_loudnessOf 42 = .ok (.iadd, 1) := by decide +kernel
theorem dX0_loudnessOf_43 : decode cX0_loudnessOf 43 = .ok (.invokestatic 70, 3) := by decide +kernel
theorem dX0_loudnessOf_46 : decode cX0_loudnessOf 46 = .ok (.iload_n 2, 1) := by decide +kernel
theorem dX0_loudnessOf_47 : decode cX0_loudnessOf 47 = .ok (.if_icmp .gt 34, 3) := by decide +kernel
theorem dX0_loudnessOf_50 : decode cX0_loudnessOf 50 = .ok (.aload_n 0, 1) := by decide +kernel
theorem dX0_loudnessOf_51 : decode cX0_loudnessOf 51 = .ok (.getfield 24, 3) := by decide +kernel
theorem dX0_loudnessOf_54 : decode cX0_loudnessOf 54 = .ok (.iload 5, 2) := by decide +kernel
theorem dX0_loudnessOf_56 : decode cX0_loudnessOf 56 = .ok (.iconst 2, 1) := by decide +kernel
theorem dX0_loudnessOf_57 : decode cX0_loudnessOf 57 = .ok (.iadd, 1) := by decide +kernel
theorem dX0_loudnessOf_58 : decode cX0_loudnessOf 58 = .ok (.invokestatic 70, 3) := by decide +kernel
theorem dX0_loudnessOf_61 : decode cX0_loudnessOf 61 = .ok (.iload_n 2, 1) := by decide +kernel
theorem dX0_loudnessOf_62 : decode cX0_loudnessOf 62 = .ok (.if_icmp .lt 19, 3) := by decide +kernel
theorem dX0_loudnessOf_65 : decode cX0_loudnessOf 65 = .ok (.iload_n 3, 1) := by decide +kernel
theorem dX0_loudnessOf_66 : decode cX0_loudnessOf 66 = .ok (.aload_n 0, 1) := by decide +kernel
theorem dX0_loudnessOf_67 : decode cX0_loudnessOf 67 = .ok (.getfield 24, 3) := by decide +kernel
theorem dX0_loudnessOf_70 : decode cX0_loudnessOf 70 = .ok (.iload 5, 2) := by decide +kernel
theorem dX0_loudnessOf_72 : decode cX0_loudnessOf 72 = .ok (.iconst 3, 1) := by decide +kernel
theorem dX0_loudnessOf_73 : decode cX0_loudnessOf 73 = .ok (.iadd, 1) := by decide +kernel
theorem dX0_loudnessOf_74 : decode cX0_loudnessOf 74 = .ok (.invokestatic 70, 3) := by decide +kernel
theorem dX0_loudnessOf_77 : decode cX0_loudnessOf 77 = .ok (.invokestatic 92, 3) := by decide +kernel
theorem dX0_loudnessOf_80 : decode cX0_loudnessOf 80 = .ok (.istore_n 3, 1) := by decide +kernel
theorem dX0_loudnessOf_81 : decode cX0_loudnessOf 81 = .ok (.iinc 4 1, 3) := by decide +kernel
theorem dX0_loudnessOf_84 : decode cX0_loudnessOf 84 = .ok (.goto (-79), 3) := by decide +kernel
theorem dX0_loudnessOf_87 : decode cX0_loudnessOf 87 = .ok (.iload_n 3, 1) := by decide +kernel
theorem dX0_loudnessOf_88 : decode cX0_loudnessOf 88 = .ok (.ireturn, 1) := by decide +kernel
def lp_X0_loudnessOf_5 (y0 : Nat) (y1 : Int32) (y2 : Int32)  : Nat → Int32 → Int32 → Mm → Option (Int32 × Mm)
  | 0, _, _, _ => none
  | n + 1, y3, y4, M =>
    if (M y0 13) ≤ y4 then (some (y3, M)) else (bd (f_X9_at (y0 + 5) ((y4 * (nI 4)) + (nI 0)) M) fun v28_2 M28_1 => jn (fun (u3 : Int32) (M4 : Mm) => lp_X0_loudnessOf_5 y0 y1 y2 n u3 (y4 + (nI 1)) M4) fun j5 => if v28_2 = y1 then (bd (f_X9_at (y0 + 5) ((y4 * (nI 4)) + (nI 1)) M28_1) fun v43_7 M43_6 => if y2 < v43_7 then (j5 y3 M43_6) else (bd (f_X9_at (y0 + 5) ((y4 * (nI 4)) + (nI 2)) M43_6) fun v58_9 M58_8 => if v58_9 < y2 then (j5 y3 M58_8) else (bd (f_X9_at (y0 + 5) ((y4 * (nI 4)) + (nI 3)) M58_8) fun v74_11 M74_10 => lt ((if y3 < v74_11 then v74_11 else y3)) fun t12 => j5 t12 M74_10))) else (j5 y3 M28_1))
def f_X0_loudnessOf (x0 : Nat) (x1 : Int32) (x2 : Int32) (M : Mm) : Option (Int32 × Mm) :=
  lp_X0_loudnessOf_5 x0 x1 x2  N0 (nI 0) (nI 0) M
set_option maxHeartbeats 4000000 in
set_option maxRecDepth 100000 in
theorem sl_X0_loudnessOf_5 {l : Launch} {B : BT} (hA : bA B = false) {d : Nat} {r : Int32} {M' : Mm} {y0 : Nat} {y1 : Int32} {y2 : Int32} (hy0 : LY y0 = .inl (0, fk0))   :
    ∀ (n : Nat) (y3 : Int32) (y4 : Int32) (M : Mm), lp_X0_loudnessOf_5 y0 y1 y2 n y3 y4 M = some (r, M') → GG l B LY (d + 1) yX0_loudnessOf cX0_loudnessOf 6 (some .int) 0 0 (PI r M') 97 0 0 5 [(0, .ref y0), (1, .int y1), (2, .int y2), (3, .int y3), (4, .int y4)] [] M := by
  intro n
  induction n with
  | zero => intro y3 y4 M h; cases h
  | succ n ih =>
    intro y3 y4 M h
    rw [lp_X0_loudnessOf_5] at h
    refine g_iload dX0_loudnessOf_5 4 rfl ?_
    refine g_aload_n dX0_loudnessOf_7 rfl 0 rfl ?_
    refine m_geti (k := 13) okX0 hy0 rfl (by decide) w_146 rfl dX0_loudnessOf_8 ?_
    refine g_icmp_ge (tgt := 87) dX0_loudnessOf_11 (by decide) (fun c16 => ?_) (fun c16 => ?_)
    · replace h := ite_p c16 h
      refine g_iload_n dX0_loudnessOf_87 rfl 3 rfl ?_
      exact g_zret rfl rfl (pi_of h) dX0_loudnessOf_88
    · replace h := ite_n c16 h
      refine g_iload dX0_loudnessOf_14 4 rfl ?_
      refine g_iconst (v := (nI 4)) dX0_loudnessOf_16 (by decide) ?_
      refine g_imul dX0_loudnessOf_17 ?_
      refine g_istore (lv' := [(5, .int (y4 * (nI 4))), (0, .ref y0), (1, .int y1), (2, .int y2), (3, .int y3), (4, .int y4)]) dX0_loudnessOf_18 (by decide) rfl ?_
      refine g_aload_n dX0_loudnessOf_20 rfl 1 rfl ?_
      refine m_getr (k := 4) okX0 hy0 rfl (by decide) w_116 rfl dX0_loudnessOf_21 ?_
      refine g_iload dX0_loudnessOf_24 0 rfl ?_
      refine g_iconst (v := (nI 0)) dX0_loudnessOf_26 (by decide) ?_
      refine g_iadd dX0_loudnessOf_27 ?_
      obtain ⟨v28_2, M28_1, eM28_1, h⟩ := bd_e h
      refine m_callNi (As := [.ref (y0 + 5), .int ((y4 * (nI 4)) + (nI 0))]) (st := []) (s_X9_at (d := d + 0) hA (al_of (aX0_5 hy0)) eM28_1) ck_X9_at (host := "StillYard") (List.mem_of_getElem? (i := 10) rfl) rfl (Nat.le_of_ble_eq_true rfl) dX0_loudnessOf_28 ?_
      refine g_iload_n dX0_loudnessOf_31 rfl 2 rfl ?_
      obtain ⟨j5, ej5, h⟩ := jn_e h
      have hj5 : ∀ (u3 : Int32) (M4 : Mm), j5 u3 M4 = some (r, M') → GG l B LY (d + 1) yX0_loudnessOf cX0_loudnessOf 6 (some .int) 0 0 (PI r M') 97 0 0 81 [(0, .ref y0), (1, .int y1), (2, .int y2), (3, .int u3), (4, .int y4)] [] M4 := by
        intro u3 M4 h
        rw [ej5] at h
        refine g_iinc (v := (y4 + (nI 1))) (lv' := [(4, .int (y4 + (nI 1))), (0, .ref y0), (1, .int y1), (2, .int y2), (3, .int u3)]) dX0_loudnessOf_81 4 rfl rfl (by decide) rfl ?_
        refine g_goto (tgt := 5) dX0_loudnessOf_84 (by decide) ?_
        refine g_sub [1, 2, 3, 4, 0] (lv' := [(0, .ref y0), (1, .int y1), (2, .int y2), (3, .int u3), (4, .int (y4 + (nI 1)))]) rfl ?_
        exact ih _ _  _ h
      refine g_icmp_ne (tgt := 81) dX0_loudnessOf_32 (by decide) (fun c15 => ?_) (fun c15 => ?_)
      · replace h := ite_n c15 h
        refine g_sub [1, 2, 3, 4, 5] (lv' := [(0, .ref y0), (1, .int y1), (2, .int y2), (3, .int y3), (4, .int y4)]) rfl ?_
        exact hj5 _ _ h
      · replace h := ite_p c15 h
        refine g_aload_n dX0_loudnessOf_35 rfl 1 rfl ?_
        refine m_getr (k := 4) okX0 hy0 rfl (by decide) w_116 rfl dX0_loudnessOf_36 ?_
        refine g_iload dX0_loudnessOf_39 0 rfl ?_
        refine g_iconst (v := (nI 1)) dX0_loudnessOf_41 (by decide) ?_
        refine g_iadd dX0_loudnessOf_42 ?_
        obtain ⟨v43_7, M43_6, eM43_6, h⟩ := bd_e h
        refine m_callNi (As := [.ref (y0 + 5), .int ((y4 * (nI 4)) + (nI 1))]) (st := []) (s_X9_at (d := d + 0) hA (al_of (aX0_5 hy0)) eM43_6) ck_X9_at (host := "StillYard") (List.mem_of_getElem? (i := 10) rfl) rfl (Nat.le_of_ble_eq_true rfl) dX0_loudnessOf_43 ?_
        refine g_iload_n dX0_loudnessOf_46 rfl 3 rfl ?_
        refine g_icmp_gt (tgt := 81) dX0_loudnessOf_47 (by decide) (fun c14 => ?_) (fun c14 => ?_)
        · replace h := ite_p c14 h
          refine g_sub [1, 2, 3, 4, 5] (lv' := [(0, .ref y0), (1, .int y1), (2, .int y2), (3, .int y3), (4, .int y4)]) rfl ?_
          exact hj5 _ _ h
        · replace h := ite_n c14 h
          refine g_aload_n dX0_loudnessOf_50 rfl 1 rfl ?_
          refine m_getr (k := 4) okX0 hy0 rfl (by decide) w_116 rfl dX0_loudnessOf_51 ?_
          refine g_iload dX0_loudnessOf_54 0 rfl ?_
          refine g_iconst (v := (nI 2)) dX0_loudnessOf_56 (by decide) ?_
          refine g_iadd dX0_loudnessOf_57 ?_
          obtain ⟨v58_9, M58_8, eM58_8, h⟩ := bd_e h
          refine m_callNi (As := [.ref (y0 + 5), .int ((y4 * (nI 4)) + (nI 2))]) (st := []) (s_X9_at (d := d + 0) hA (al_of (aX0_5 hy0)) eM58_8) ck_X9_at (host := "StillYard") (List.mem_of_getElem? (i := 10) rfl) rfl (Nat.le_of_ble_eq_true rfl) dX0_loudnessOf_58 ?_
          refine g_iload_n dX0_loudnessOf_61 rfl 3 rfl ?_
          refine g_icmp_lt (tgt := 81) dX0_loudnessOf_62 (by decide) (fun c13 => ?_) (fun c13 => ?_)
          · replace h := ite_p c13 h
            refine g_sub [1, 2, 3, 4, 5] (lv' := [(0, .ref y0), (1, .int y1), (2, .int y2), (3, .int y3), (4, .int y4)]) rfl ?_
            exact hj5 _ _ h
          · replace h := ite_n c13 h
            refine g_iload_n dX0_loudnessOf_65 rfl 4 rfl ?_
            refine g_aload_n dX0_loudnessOf_66 rfl 1 rfl ?_
            refine m_getr (k := 4) okX0 hy0 rfl (by decide) w_116 rfl dX0_loudnessOf_67 ?_
            refine g_iload dX0_loudnessOf_70 0 rfl ?_
            refine g_iconst (v := (nI 3)) dX0_loudnessOf_72 (by decide) ?_
            refine g_iadd dX0_loudnessOf_73 ?_
            obtain ⟨v74_11, M74_10, eM74_10, h⟩ := bd_e h
            refine m_callNi (As := [.ref (y0 + 5), .int ((y4 * (nI 4)) + (nI 3))]) (st := [.int y3]) (s_X9_at (d := d + 0) hA (al_of (aX0_5 hy0)) eM74_10) ck_X9_at (host := "StillYard") (List.mem_of_getElem? (i := 10) rfl) rfl (Nat.le_of_ble_eq_true rfl) dX0_loudnessOf_74 ?_
            refine m_mmax (st := []) w_753 w_754 w_86 w_755 (Nat.le_of_ble_eq_true rfl) dX0_loudnessOf_77 ?_
            obtain ⟨t12, et12, h⟩ := lt_e h
            refine g_cuti et12 ?_
            refine g_istore_n (lv' := [(3, .int t12), (5, .int (y4 * (nI 4))), (0, .ref y0), (1, .int y1), (2, .int y2), (4, .int y4)]) dX0_loudnessOf_80 rfl (by decide) rfl ?_
            refine g_sub [2, 3, 4, 0, 5] (lv' := [(0, .ref y0), (1, .int y1), (2, .int y2), (3, .int t12), (4, .int y4)]) rfl ?_
            exact hj5 _ _ h
set_option maxHeartbeats 4000000 in
set_option maxRecDepth 100000 in
theorem s_X0_loudnessOf {l : Launch} {B : BT} (hA : bA B = false) {d : Nat} {r : Int32} {M' : Mm} {x0 : Nat} {x1 : Int32} {x2 : Int32} {M : Mm} (hx0 : LY x0 = .inl (0, fk0)) (h : f_X0_loudnessOf x0 x1 x2 M = some (r, M')) : Con l B LY (d + 1) yX0_loudnessOf cX0_loudnessOf 6 (some .int) 0 0 [.ref x0, .int x1, .int x2] 97 M (PI r M') := by
  refine con_of (by decide) (Nat.le_of_ble_eq_true rfl) ?_
  show GG l B LY (d + 1) yX0_loudnessOf cX0_loudnessOf 6 (some .int) 0 0 (PI r M') 97 0 0 0 [(0, .ref x0), (1, .int x1), (2, .int x2)] [] M
  rw [f_X0_loudnessOf] at h
  refine g_iconst (v := (nI 0)) dX0_loudnessOf_0 (by decide) ?_
  refine g_istore_n (lv' := [(3, .int (nI 0)), (0, .ref x0), (1, .int x1), (2, .int x2)]) dX0_loudnessOf_1 rfl (by decide) rfl ?_
  refine g_iconst (v := (nI 0)) dX0_loudnessOf_2 (by decide) ?_
  refine g_istore (lv' := [(4, .int (nI 0)), (3, .int (nI 0)), (0, .ref x0), (1, .int x1), (2, .int x2)]) dX0_loudnessOf_3 (by decide) rfl ?_
  refine g_sub [2, 3, 4, 1, 0] (lv' := [(0, .ref x0), (1, .int x1), (2, .int x2), (3, .int (nI 0)), (4, .int (nI 0))]) rfl ?_
  refine sl_X0_loudnessOf_5 hA hx0  _ _ _ _ h
theorem ck_X0_loudnessOf : CKV yX0_loudnessOf cX0_loudnessOf 6 (some .int) 2 := ⟨⟨by decide, by decide, by decide +kernel⟩, w_752, w_73, ⟨w_750, w_751⟩, by decide⟩
theorem dX0_isCaughtFrom_0 : decode cX0_isCaughtFrom 0 = .ok (.iload_n 2, 1) := by decide +kernel
theorem dX0_isCaughtFrom_1 : decode cX0_isCaughtFrom 1 = .ok (.aload_n 0, 1) := by decide +kernel
theorem dX0_isCaughtFrom_2 : decode cX0_isCaughtFrom 2 = .ok (.iload_n 1, 1) := by decide +kernel
theorem dX0_isCaughtFrom_3 : decode cX0_isCaughtFrom 3 = .ok (.iconst 1, 1) := by decide +kernel
theorem dX0_isCaughtFrom_4 : decode cX0_isCaughtFrom 4 = .ok (.invokevirtual 84, 3) := by decide +kernel
theorem dX0_isCaughtFrom_7 : decode cX0_isCaughtFrom 7 = .ok (.imul, 1) := by decide +kernel
theorem dX0_isCaughtFrom_8 : decode cX0_isCaughtFrom 8 = .ok (.iconst 1, 1) := by decide +kernel
theorem dX0_isCaughtFrom_9 : decode cX0_isCaughtFrom 9 = .ok (.iadd, 1) := by decide +kernel
theorem dX0_isCaughtFrom_10 : decode cX0_isCaughtFrom 10 = .ok (.iconst 2, 1) := by decide +kernel
theorem dX0_isCaughtFrom_11 : decode cX0_isCaughtFrom 11 = .ok (.idiv, 1) := by decide +kernel
theorem dX0_isCaughtFrom_12 : decode cX0_isCaughtFrom 12 = .ok (.istore_n 3, 1) := by decide +kernel
theorem dX0_isCaughtFrom_13 : decode cX0_isCaughtFrom 13 = .ok (.iload_n 3, 1) := by decide +kernel
theorem dX0_isCaughtFrom_14 : decode cX0_isCaughtFrom 14 = .ok (.aload_n 0, 1) := by decide +kernel
theorem dX0_isCaughtFrom_15 : decode cX0_isCaughtFrom 15 = .ok (.getfield 34, 3) := by decide +kernel
theorem dX0_isCaughtFrom_18 : decode cX0_isCaughtFrom 18 = .ok (.aload_n 0, 1) := by decide +kernel
theorem dX0_isCaughtFrom_19 : decode cX0_isCaughtFrom 19 = .ok (.getfield 41, 3) := by decide +kernel
theorem dX0_isCaughtFrom_22 : decode cX0_isCaughtFrom 22 = .ok (.imul, 1) := by decide +kernel
theorem dX0_isCaughtFrom_23 : decode cX0_isCaughtFrom 23 = .ok (.if_icmp .le 7, 3) := by decide +kernel
theorem dX0_isCaughtFrom_26 : decode cX0_isCaughtFrom 26 = .ok (.iconst 1, 1) := by decide +kernel
theorem dX0_isCaughtFrom_27 : decode cX0_isCaughtFrom 27 = .ok (.goto 4, 3) := by decide +kernel
theorem dX0_isCaughtFrom_30 : decode cX0_isCaughtFrom 30 = .ok (.iconst 0, 1) := by decide +kernel
theorem dX0_isCaughtFrom_31 : decode cX0_isCaughtFrom 31 = .ok (.ireturn, 1) := by decide +kernel
def f_X0_isCaughtFrom (x0 : Nat) (x1 : Int32) (x2 : Int32) (M : Mm) : Option (Int32 × Mm) :=
  bd (f_X0_trait x0 x1 (nI 1) M) fun v4_2 M4_1 => lt ((((x2 * v4_2) + (nI 1)) / (nI 2))) fun t3 => if t3 ≤ ((M4_1 x0 6) * (M4_1 x0 8)) then (some ((nI 0), M4_1)) else (some ((nI 1), M4_1))
set_option maxHeartbeats 4000000 in
set_option maxRecDepth 100000 in
theorem s_X0_isCaughtFrom {l : Launch} {B : BT} (hA : bA B = false) {d : Nat} {r : Int32} {M' : Mm} {x0 : Nat} {x1 : Int32} {x2 : Int32} {M : Mm} (hx0 : LY x0 = .inl (0, fk0)) (h : f_X0_isCaughtFrom x0 x1 x2 M = some (r, M')) : Con l B LY (d + 1) yX0_isCaughtFrom cX0_isCaughtFrom 4 (some .boolean) 0 0 [.ref x0, .int x1, .int x2] 97 M (PI r M') := by
  refine con_of (by decide) (Nat.le_of_ble_eq_true rfl) ?_
  show GG l B LY (d + 1) yX0_isCaughtFrom cX0_isCaughtFrom 4 (some .boolean) 0 0 (PI r M') 97 0 0 0 [(0, .ref x0), (1, .int x1), (2, .int x2)] [] M
  rw [f_X0_isCaughtFrom] at h
  refine g_iload_n dX0_isCaughtFrom_0 rfl 2 rfl ?_
  refine g_aload_n dX0_isCaughtFrom_1 rfl 0 rfl ?_
  refine g_iload_n dX0_isCaughtFrom_2 rfl 1 rfl ?_
  refine g_iconst (v := (nI 1)) dX0_isCaughtFrom_3 (by decide) ?_
  obtain ⟨v4_2, M4_1, eM4_1, h⟩ := bd_e h
  refine m_callVi (As := [.int x1, .int (nI 1)]) (st := [.int x2]) (s_X0_trait (d := d + 0) hA hx0 eM4_1) hx0 okX0 ck_X0_trait w_737 rfl (Nat.le_of_ble_eq_true rfl) dX0_isCaughtFrom_4 ?_
  refine g_imul dX0_isCaughtFrom_7 ?_
  refine g_iconst (v := (nI 1)) dX0_isCaughtFrom_8 (by decide) ?_
  refine g_iadd dX0_isCaughtFrom_9 ?_
  refine g_iconst (v := (nI 2)) dX0_isCaughtFrom_10 (by decide) ?_
  refine g_idiv dX0_isCaughtFrom_11 (by decide) ?_
  obtain ⟨t3, et3, h⟩ := lt_e h
  refine g_cuti et3 ?_
  refine g_istore_n (lv' := [(3, .int t3), (0, .ref x0), (1, .int x1), (2, .int x2)]) dX0_isCaughtFrom_12 rfl (by decide) rfl ?_
  refine g_iload_n dX0_isCaughtFrom_13 rfl 0 rfl ?_
  refine g_aload_n dX0_isCaughtFrom_14 rfl 1 rfl ?_
  refine m_geti (k := 6) okX0 hx0 rfl (by decide) w_122 rfl dX0_isCaughtFrom_15 ?_
  refine g_aload_n dX0_isCaughtFrom_18 rfl 1 rfl ?_
  refine m_geti (k := 8) okX0 hx0 rfl (by decide) w_131 rfl dX0_isCaughtFrom_19 ?_
  refine g_imul dX0_isCaughtFrom_22 ?_
  refine g_icmp_le (tgt := 30) dX0_isCaughtFrom_23 (by decide) (fun c4 => ?_) (fun c4 => ?_)
  · replace h := ite_p c4 h
    refine g_iconst (v := (nI 0)) dX0_isCaughtFrom_30 (by decide) ?_
    exact g_zret rfl rfl (pi_of h) dX0_isCaughtFrom_31
  · replace h := ite_n c4 h
    refine g_iconst (v := (nI 1)) dX0_isCaughtFrom_26 (by decide) ?_
    refine g_goto (tgt := 31) dX0_isCaughtFrom_27 (by decide) ?_
    exact g_zret rfl rfl (pi_of h) dX0_isCaughtFrom_31
theorem ck_X0_isCaughtFrom : CKV yX0_isCaughtFrom cX0_isCaughtFrom 4 (some .boolean) 2 := ⟨⟨by decide, by decide, by decide +kernel⟩, w_866, w_73, ⟨w_864, w_865⟩, by decide⟩
theorem dX1_clear_0 : decode cX1_clear 0 = .ok (.aload_n 0, 1) := by decide +kernel
theorem dX1_clear_1 : decode cX1_clear 1 = .ok (.getfield 11, 3) := by decide +kernel
theorem dX1_clear_4 : decode cX1_clear 4 = .ok (.iconst 0, 1) := by decide +kernel
theorem dX1_clear_5 : decode cX1_clear 5 = .ok (.invokestatic 21, 3) := by decide +kernel
theorem dX1_clear_8 : decode cX1_clear 8 = .ok (.aload_n 0, 1) := by decide +kernel
theorem dX1_clear_9 : decode cX1_clear 9 = .ok (.getfield 15, 3) := by decide +kernel
theorem dX1_clear_12 : decode cX1_clear 12 = .ok (.iconst 0, 1) := by decide +kernel
theorem dX1_clear_13 : decode cX1_clear 13 = .ok (.invokestatic 21, 3) := by decide +kernel
theorem dX1_clear_16 : decode cX1_clear 16 = .ok (.aload_n 0, 1) := by decide +kernel
theorem dX1_clear_17 : decode cX1_clear 17 = .ok (.getfield 18, 3) := by decide +kernel
theorem dX1_clear_20 : decode cX1_clear 20 = .ok (.iconst 0, 1) := by decide +kernel
theorem dX1_clear_21 : decode cX1_clear 21 = .ok (.invokestatic 21, 3) := by decide +kernel
theorem dX1_clear_24 : decode cX1_clear 24 = .ok (.aload_n 0, 1) := by decide +kernel
theorem dX1_clear_25 : decode cX1_clear 25 = .ok (.iconst 0, 1) := by decide +kernel
theorem dX1_clear_26 : decode cX1_clear 26 = .ok (.putfield 25, 3) := by decide +kernel
theorem dX1_clear_29 : decode cX1_clear 29 = .ok (.return_, 1) := by decide +kernel
def f_X1_clear  (M : Mm) : Option (Mm) :=
  bv (f_X9_fill 74 (nI 0) M) fun M5_1 => bv (f_X9_fill 75 (nI 0) M5_1) fun M13_3 => bv (f_X9_fill 76 (nI 0) M13_3) fun M21_5 => some ((mset M21_5 73 3 (nI 0)))
set_option maxHeartbeats 4000000 in
set_option maxRecDepth 100000 in
theorem s_X1_clear {l : Launch} {B : BT} (hA : bA B = false) {d : Nat} {M' : Mm}  {M : Mm}  (h : f_X1_clear  M = some M') : Con l B LY (d + 1) yX1_clear cX1_clear 1 none 0 0 [.ref 73] 97 M (PV M') := by
  refine con_of (by decide) (Nat.le_of_ble_eq_true rfl) ?_
  show GG l B LY (d + 1) yX1_clear cX1_clear 1 none 0 0 (PV M') 97 0 0 0 [(0, .ref 73)] [] M
  rw [f_X1_clear] at h
  refine g_aload_n dX1_clear_0 rfl 0 rfl ?_
  refine m_getr (k := 0) okX1 rfl rfl (by decide) w_358 rfl dX1_clear_1 ?_
  refine g_iconst (v := (nI 0)) dX1_clear_4 (by decide) ?_
  obtain ⟨M5_1, eM5_1, h⟩ := bv_e h
  refine m_callNv (As := [.ref 74, .int (nI 0)]) (st := []) (s_X9_fill (d := d + 0) hA (al_of rfl) eM5_1) ck_X9_fill (host := "StillYard") (List.mem_of_getElem? (i := 15) rfl) rfl (Nat.le_of_ble_eq_true rfl) dX1_clear_5 ?_
  refine g_aload_n dX1_clear_8 rfl 0 rfl ?_
  refine m_getr (k := 1) okX1 rfl rfl (by decide) w_359 rfl dX1_clear_9 ?_
  refine g_iconst (v := (nI 0)) dX1_clear_12 (by decide) ?_
  obtain ⟨M13_3, eM13_3, h⟩ := bv_e h
  refine m_callNv (As := [.ref 75, .int (nI 0)]) (st := []) (s_X9_fill (d := d + 0) hA (al_of rfl) eM13_3) ck_X9_fill (host := "StillYard") (List.mem_of_getElem? (i := 15) rfl) rfl (Nat.le_of_ble_eq_true rfl) dX1_clear_13 ?_
  refine g_aload_n dX1_clear_16 rfl 0 rfl ?_
  refine m_getr (k := 2) okX1 rfl rfl (by decide) w_361 rfl dX1_clear_17 ?_
  refine g_iconst (v := (nI 0)) dX1_clear_20 (by decide) ?_
  obtain ⟨M21_5, eM21_5, h⟩ := bv_e h
  refine m_callNv (As := [.ref 76, .int (nI 0)]) (st := []) (s_X9_fill (d := d + 0) hA (al_of rfl) eM21_5) ck_X9_fill (host := "StillYard") (List.mem_of_getElem? (i := 15) rfl) rfl (Nat.le_of_ble_eq_true rfl) dX1_clear_21 ?_
  refine g_aload_n dX1_clear_24 rfl 0 rfl ?_
  refine g_iconst (v := (nI 0)) dX1_clear_25 (by decide) ?_
  refine m_puti (k := 3) okX1 rfl rfl (by decide) w_362 rfl rfl rfl dX1_clear_26 ?_
  exact g_vret rfl (pv_of h) dX1_clear_29
theorem ck_X1_clear : CKV yX1_clear cX1_clear 1 none 0 := ⟨⟨by decide, by decide, by decide +kernel⟩, w_675, w_78, ⟨w_673, w_674⟩, by decide⟩
theorem dX1_addFilm_0 : decode cX1_addFilm 0 = .ok (.aload_n 0, 1) := by decide +kernel
theorem dX1_addFilm_1 : decode cX1_addFilm 1 = .ok (.getfield 11, 3) := by decide +kernel
theorem dX1_addFilm_4 : decode cX1_addFilm 4 = .ok (.iload_n 1, 1) := by decide +kernel
theorem dX1_addFilm_5 : decode cX1_addFilm 5 = .ok (.iconst 4, 1) := by decide +kernel
theorem dX1_addFilm_6 : decode cX1_addFilm 6 = .ok (.imul, 1) := by decide +kernel
theorem dX1_addFilm_7 : decode cX1_addFilm 7 = .ok (.iload_n 2, 1) := by decide +kernel
theorem dX1_addFilm_8 : decode cX1_addFilm 8 = .ok (.ifCond .eq 7, 3) := by decide +kernel
theorem dX1_addFilm_11 : decode cX1_addFilm 11 = .ok (.iconst 2, 1) := by decide +kernel
theorem dX1_addFilm_12 : decode cX1_addFilm 12 = .ok (.goto 4, 3) := by decide +kernel
theorem dX1_addFilm_15 : decode cX1_addFilm 15 = .ok (.iconst 0, 1) := by decide +kernel
theorem dX1_addFilm_16 : decode cX1_addFilm 16 = .ok (.iadd, 1) := by decide +kernel
theorem dX1_addFilm_17 : decode cX1_addFilm 17 = .ok (.iload_n 3, 1) := by decide +kernel
theorem dX1_addFilm_18 : decode cX1_addFilm 18 = .ok (.ifCond .eq 7, 3) := by decide +kernel
theorem dX1_addFilm_21 : decode cX1_addFilm 21 = .ok (.iconst 1, 1) := by decide +kernel
theorem dX1_addFilm_22 : decode cX1_addFilm 22 = .ok (.goto 4, 3) := by decide +kernel
theorem dX1_addFilm_25 : decode cX1_addFilm 25 = .ok (.iconst 0, 1) := by decide +kernel
theorem dX1_addFilm_26 : decode cX1_addFilm 26 = .ok (.iadd, 1) := by decide +kernel
theorem dX1_addFilm_27 : decode cX1_addFilm 27 = .ok (.iconst 1, 1) := by decide +kernel
theorem dX1_addFilm_28 : decode cX1_addFilm 28 = .ok (.invokestatic 29, 3) := by decide +kernel
theorem dX1_addFilm_31 : decode cX1_addFilm 31 = .ok (.aload_n 0, 1) := by decide +kernel
theorem dX1_addFilm_32 : decode cX1_addFilm 32 = .ok (.dup, 1) := by decide +kernel
theorem dX1_addFilm_33 : decode cX1_addFilm 33 = .ok (.getfield 25, 3) := by decide +kernel
theorem dX1_addFilm_36 : decode cX1_addFilm 36 = .ok (.iconst 1, 1) := by decide +kernel
theorem dX1_addFilm_37 : decode cX1_addFilm 37 = .ok (.iadd, 1) := by decide +kernel
theorem dX1_addFilm_38 : decode cX1_addFilm 38 = .ok (.putfield 25, 3) := by decide +kernel
theorem dX1_addFilm_41 : decode cX1_addFilm 41 = .ok (.return_, 1) := by decide +kernel
def f_X1_addFilm (x1 : Int32) (x2 : Int32) (x3 : Int32) (M : Mm) : Option (Mm) :=
  jn (fun (s1 : Int32) (M2 : Mm) => jn (fun (s4 : Int32) (M5 : Mm) => bv (f_X9_add 74 (((x1 * (nI 4)) + s1) + s4) (nI 1) M5) fun M28_7 => some ((mset M28_7 73 3 ((M28_7 73 3) + (nI 1))))) fun j6 => if x3 = 0 then (j6 (nI 0) M2) else (j6 (nI 1) M2)) fun j3 => if x2 = 0 then (j3 (nI 0) M) else (j3 (nI 2) M)
set_option maxHeartbeats 4000000 in
set_option maxRecDepth 100000 in
theorem s_X1_addFilm {l : Launch} {B : BT} (hA : bA B = false) {d : Nat} {M' : Mm} {x1 : Int32} {x2 : Int32} {x3 : Int32} {M : Mm}  (h : f_X1_addFilm x1 x2 x3 M = some M') : Con l B LY (d + 2) yX1_addFilm cX1_addFilm 4 none 0 0 [.ref 73, .int x1, .int x2, .int x3] 97 M (PV M') := by
  refine con_of (by decide) (Nat.le_of_ble_eq_true rfl) ?_
  show GG l B LY (d + 2) yX1_addFilm cX1_addFilm 4 none 0 0 (PV M') 97 0 0 0 [(0, .ref 73), (1, .int x1), (2, .int x2), (3, .int x3)] [] M
  rw [f_X1_addFilm] at h
  refine g_aload_n dX1_addFilm_0 rfl 0 rfl ?_
  refine m_getr (k := 0) okX1 rfl rfl (by decide) w_358 rfl dX1_addFilm_1 ?_
  refine g_iload_n dX1_addFilm_4 rfl 1 rfl ?_
  refine g_iconst (v := (nI 4)) dX1_addFilm_5 (by decide) ?_
  refine g_imul dX1_addFilm_6 ?_
  refine g_iload_n dX1_addFilm_7 rfl 2 rfl ?_
  obtain ⟨j3, ej3, h⟩ := jn_e h
  have hj3 : ∀ (s1 : Int32) (M2 : Mm), j3 s1 M2 = some M' → GG l B LY (d + 2) yX1_addFilm cX1_addFilm 4 none 0 0 (PV M') 97 0 0 16 [(0, .ref 73), (3, .int x3)] [.int s1, .int (x1 * (nI 4)), .ref 74] M2 := by
    intro s1 M2 h
    rw [ej3] at h
    refine g_iadd dX1_addFilm_16 ?_
    refine g_iload_n dX1_addFilm_17 rfl 1 rfl ?_
    obtain ⟨j6, ej6, h⟩ := jn_e h
    have hj6 : ∀ (s4 : Int32) (M5 : Mm), j6 s4 M5 = some M' → GG l B LY (d + 2) yX1_addFilm cX1_addFilm 4 none 0 0 (PV M') 97 0 0 26 [(0, .ref 73)] [.int s4, .int ((x1 * (nI 4)) + s1), .ref 74] M5 := by
      intro s4 M5 h
      rw [ej6] at h
      refine g_iadd dX1_addFilm_26 ?_
      refine g_iconst (v := (nI 1)) dX1_addFilm_27 (by decide) ?_
      obtain ⟨M28_7, eM28_7, h⟩ := bv_e h
      refine m_callNv (As := [.ref 74, .int (((x1 * (nI 4)) + s1) + s4), .int (nI 1)]) (st := []) (s_X9_add (d := d + 0) hA (al_of rfl) eM28_7) ck_X9_add (host := "StillYard") (List.mem_of_getElem? (i := 28) rfl) rfl (Nat.le_of_ble_eq_true rfl) dX1_addFilm_28 ?_
      refine g_aload_n dX1_addFilm_31 rfl 0 rfl ?_
      refine g_dup dX1_addFilm_32 rfl ?_
      refine m_geti (k := 3) okX1 rfl rfl (by decide) w_362 rfl dX1_addFilm_33 ?_
      refine g_iconst (v := (nI 1)) dX1_addFilm_36 (by decide) ?_
      refine g_iadd dX1_addFilm_37 ?_
      refine m_puti (k := 3) okX1 rfl rfl (by decide) w_362 rfl rfl rfl dX1_addFilm_38 ?_
      exact g_vret rfl (pv_of h) dX1_addFilm_41
    refine g_if_eq (tgt := 25) dX1_addFilm_18 (by decide) (fun c9 => ?_) (fun c9 => ?_)
    · replace h := ite_p c9 h
      refine g_iconst (v := (nI 0)) dX1_addFilm_25 (by decide) ?_
      refine g_sub [0] (lv' := [(0, .ref 73)]) rfl ?_
      exact hj6 _ _ h
    · replace h := ite_n c9 h
      refine g_iconst (v := (nI 1)) dX1_addFilm_21 (by decide) ?_
      refine g_goto (tgt := 26) dX1_addFilm_22 (by decide) ?_
      refine g_sub [0] (lv' := [(0, .ref 73)]) rfl ?_
      exact hj6 _ _ h
  refine g_if_eq (tgt := 15) dX1_addFilm_8 (by decide) (fun c10 => ?_) (fun c10 => ?_)
  · replace h := ite_p c10 h
    refine g_iconst (v := (nI 0)) dX1_addFilm_15 (by decide) ?_
    refine g_sub [0, 3] (lv' := [(0, .ref 73), (3, .int x3)]) rfl ?_
    exact hj3 _ _ h
  · replace h := ite_n c10 h
    refine g_iconst (v := (nI 2)) dX1_addFilm_11 (by decide) ?_
    refine g_goto (tgt := 16) dX1_addFilm_12 (by decide) ?_
    refine g_sub [0, 3] (lv' := [(0, .ref 73), (3, .int x3)]) rfl ?_
    exact hj3 _ _ h
theorem ck_X1_addFilm : CKV yX1_addFilm cX1_addFilm 4 none 3 := ⟨⟨by decide, by decide, by decide +kernel⟩, w_1046, w_78, ⟨w_1044, w_1045⟩, by decide⟩
theorem dX1_counted_0 : decode cX1_counted 0 = .ok (.aload_n 0, 1) := by decide +kernel
theorem dX1_counted_1 : decode cX1_counted 1 = .ok (.getfield 11, 3) := by decide +kernel
theorem dX1_counted_4 : decode cX1_counted 4 = .ok (.iload_n 1, 1) := by decide +kernel
theorem dX1_counted_5 : decode cX1_counted 5 = .ok (.iconst 4, 1) := by decide +kernel
theorem dX1_counted_6 : decode cX1_counted 6 = .ok (.imul, 1) := by decide +kernel
theorem dX1_counted_7 : decode cX1_counted 7 = .ok (.iload_n 2, 1) := by decide +kernel
theorem dX1_counted_8 : decode cX1_counted 8 = .ok (.iadd, 1) := by decide +kernel
theorem dX1_counted_9 : decode cX1_counted 9 = .ok (.invokestatic 33, 3) := by decide +kernel
theorem dX1_counted_12 : decode cX1_counted 12 = .ok (.ireturn, 1) := by decide +kernel
def f_X1_counted (x1 : Int32) (x2 : Int32) (M : Mm) : Option (Int32 × Mm) :=
  bd (f_X9_at 74 ((x1 * (nI 4)) + x2) M) fun v9_2 M9_1 => some (v9_2, M9_1)
set_option maxHeartbeats 4000000 in
set_option maxRecDepth 100000 in
theorem s_X1_counted {l : Launch} {B : BT} (hA : bA B = false) {d : Nat} {r : Int32} {M' : Mm} {x1 : Int32} {x2 : Int32} {M : Mm}  (h : f_X1_counted x1 x2 M = some (r, M')) : Con l B LY (d + 1) yX1_counted cX1_counted 3 (some .int) 0 0 [.ref 73, .int x1, .int x2] 97 M (PI r M') := by
  refine con_of (by decide) (Nat.le_of_ble_eq_true rfl) ?_
  show GG l B LY (d + 1) yX1_counted cX1_counted 3 (some .int) 0 0 (PI r M') 97 0 0 0 [(0, .ref 73), (1, .int x1), (2, .int x2)] [] M
  rw [f_X1_counted] at h
  refine g_aload_n dX1_counted_0 rfl 0 rfl ?_
  refine m_getr (k := 0) okX1 rfl rfl (by decide) w_358 rfl dX1_counted_1 ?_
  refine g_iload_n dX1_counted_4 rfl 1 rfl ?_
  refine g_iconst (v := (nI 4)) dX1_counted_5 (by decide) ?_
  refine g_imul dX1_counted_6 ?_
  refine g_iload_n dX1_counted_7 rfl 2 rfl ?_
  refine g_iadd dX1_counted_8 ?_
  obtain ⟨v9_2, M9_1, eM9_1, h⟩ := bd_e h
  refine m_callNi (As := [.ref 74, .int ((x1 * (nI 4)) + x2)]) (st := []) (s_X9_at (d := d + 0) hA (al_of rfl) eM9_1) ck_X9_at (host := "StillYard") (List.mem_of_getElem? (i := 29) rfl) rfl (Nat.le_of_ble_eq_true rfl) dX1_counted_9 ?_
  exact g_zret rfl rfl (pi_of h) dX1_counted_12
theorem ck_X1_counted : CKV yX1_counted cX1_counted 3 (some .int) 2 := ⟨⟨by decide, by decide, by decide +kernel⟩, w_1059, w_78, ⟨w_1057, w_1058⟩, by decide⟩
theorem dX1_lawOf_0 : decode cX1_lawOf 0 = .ok (.aload_n 0, 1) := by decide +kernel
theorem dX1_lawOf_1 : decode cX1_lawOf 1 = .ok (.iload_n 1, 1) := by decide +kernel
theorem dX1_lawOf_2 : decode cX1_lawOf 2 = .ok (.iconst 1, 1) := by decide +kernel
theorem dX1_lawOf_3 : decode cX1_lawOf 3 = .ok (.invokevirtual 37, 3) := by decide +kernel
theorem dX1_lawOf_6 : decode cX1_lawOf 6 = .ok (.aload_n 0, 1) := by decide +kernel
theorem dX1_lawOf_7 : decode cX1_lawOf 7 = .ok (.iload_n 1, 1) := by decide +kernel
theorem dX1_lawOf_8 : decode cX1_lawOf 8 = .ok (.iconst 3, 1) := by decide +kernel
theorem dX1_lawOf_9 : decode cX1_lawOf 9 = .ok (.invokevirtual 37, 3) := by decide +kernel
theorem dX1_lawOf_12 : decode cX1_lawOf 12 = .ok (.iadd, 1) := by decide +kernel
theorem dX1_lawOf_13 : decode cX1_lawOf 13 = .ok (.istore_n 2, 1) := by decide +kernel
theorem dX1_lawOf_14 : decode cX1_lawOf 14 = .ok (.iload_n 2, 1) := by decide +kernel
theorem dX1_lawOf_15 : decode cX1_lawOf 15 = .ok (.aload_n 0, 1) := by decide +kernel
theorem dX1_lawOf_16 : decode cX1_lawOf 16 = .ok (.iload_n 1, 1) := by decide +kernel
theorem dX1_lawOf_17 : decode cX1_lawOf 17 = .ok (.iconst 0, 1) := by decide +kernel
theorem dX1_lawOf_18 : decode cX1_lawOf 18 = .ok (.invokevirtual 37, 3) := by decide +kernel
theorem dX1_lawOf_21 : decode cX1_lawOf 21 = .ok (.iadd, 1) := by decide +kernel
theorem dX1_lawOf_22 : decode cX1_lawOf 22 = .ok (.aload_n 0, 1) := by decide +kernel
theorem dX1_lawOf_23 : decode cX1_lawOf 23 = .ok (.iload_n 1, 1) := by decide +kernel
theorem dX1_lawOf_24 : decode cX1_lawOf 24 = .ok (.iconst 2, 1) := by decide +kernel
theorem dX1_lawOf_25 : decode cX1_lawOf 25 = .ok (.invokevirtual 37, 3) := by decide +kernel
theorem dX1_lawOf_28 : decode cX1_lawOf 28 = .ok (.iadd, 1) := by decide +kernel
theorem dX1_lawOf_29 : decode cX1_lawOf 29 = .ok (.istore_n 3, 1) := by decide +kernel
theorem dX1_lawOf_30 : decode cX1_lawOf 30 = .ok (.iload_n 3, 1) := by decide +kernel
theorem dX1_lawOf_31 : decode cX1_lawOf 31 = .ok (.ifCond .ne 7, 3) := by decide +kernel
theorem dX1_lawOf_34 : decode cX1_lawOf 34 = .ok (.iconst (-1), 1) := by decide +kernel
theorem dX1_lawOf_35 : decode cX1_lawOf 35 = .ok (.goto 11, 3) := by decide +kernel
theorem dX1_lawOf_38 : decode cX1_lawOf 38 = .ok (.iload_n 2, 1) := by decide +kernel
theorem dX1_lawOf_39 : decode cX1_lawOf 39 = .ok (.bipush 100, 2) := by decide +kernel
theorem dX1_lawOf_41 : decode cX1_lawOf 41 = .ok (.imul, 1) := by decide +kernel
theorem dX1_lawOf_42 : decode cX1_lawOf 42 = .ok (.iload_n 3, 1) := by decide +kernel
theorem dX1_lawOf_43 : decode cX1_lawOf 43 = .ok (.invokestatic 41, 3) := by decide +kernel
theorem dX1_lawOf_46 : decode cX1_lawOf 46 = .ok (.ireturn, 1) := by decide +kernel
def f_X1_lawOf (x1 : Int32) (M : Mm) : Option (Int32 × Mm) :=
  bd (f_X1_counted x1 (nI 1) M) fun v3_2 M3_1 => bd (f_X1_counted x1 (nI 3) M3_1) fun v9_4 M9_3 => bd (f_X1_counted x1 (nI 0) M9_3) fun v18_6 M18_5 => bd (f_X1_counted x1 (nI 2) M18_5) fun v25_8 M25_7 => lt ((((v3_2 + v9_4) + v18_6) + v25_8)) fun t9 => if t9 = 0 then (some ((-1 : Int32), M25_7)) else (bd (f_X9_by ((v3_2 + v9_4) * (nI 100)) t9 M25_7) fun v43_11 M43_10 => some (v43_11, M43_10))
set_option maxHeartbeats 4000000 in
set_option maxRecDepth 100000 in
theorem s_X1_lawOf {l : Launch} {B : BT} (hA : bA B = false) {d : Nat} {r : Int32} {M' : Mm} {x1 : Int32} {M : Mm}  (h : f_X1_lawOf x1 M = some (r, M')) : Con l B LY (d + 2) yX1_lawOf cX1_lawOf 4 (some .int) 0 0 [.ref 73, .int x1] 97 M (PI r M') := by
  refine con_of (by decide) (Nat.le_of_ble_eq_true rfl) ?_
  show GG l B LY (d + 2) yX1_lawOf cX1_lawOf 4 (some .int) 0 0 (PI r M') 97 0 0 0 [(0, .ref 73), (1, .int x1)] [] M
  rw [f_X1_lawOf] at h
  refine g_aload_n dX1_lawOf_0 rfl 0 rfl ?_
  refine g_iload_n dX1_lawOf_1 rfl 1 rfl ?_
  refine g_iconst (v := (nI 1)) dX1_lawOf_2 (by decide) ?_
  obtain ⟨v3_2, M3_1, eM3_1, h⟩ := bd_e h
  refine m_callVi (As := [.int x1, .int (nI 1)]) (st := []) (s_X1_counted (d := d + 0) hA  eM3_1) rfl okX1 ck_X1_counted w_1056 rfl (Nat.le_of_ble_eq_true rfl) dX1_lawOf_3 ?_
  refine g_aload_n dX1_lawOf_6 rfl 0 rfl ?_
  refine g_iload_n dX1_lawOf_7 rfl 1 rfl ?_
  refine g_iconst (v := (nI 3)) dX1_lawOf_8 (by decide) ?_
  obtain ⟨v9_4, M9_3, eM9_3, h⟩ := bd_e h
  refine m_callVi (As := [.int x1, .int (nI 3)]) (st := [.int v3_2]) (s_X1_counted (d := d + 0) hA  eM9_3) rfl okX1 ck_X1_counted w_1056 rfl (Nat.le_of_ble_eq_true rfl) dX1_lawOf_9 ?_
  refine g_iadd dX1_lawOf_12 ?_
  refine g_istore_n (lv' := [(2, .int (v3_2 + v9_4)), (0, .ref 73), (1, .int x1)]) dX1_lawOf_13 rfl (by decide) rfl ?_
  refine g_iload_n dX1_lawOf_14 rfl 0 rfl ?_
  refine g_aload_n dX1_lawOf_15 rfl 1 rfl ?_
  refine g_iload_n dX1_lawOf_16 rfl 2 rfl ?_
  refine g_iconst (v := (nI 0)) dX1_lawOf_17 (by decide) ?_
  obtain ⟨v18_6, M18_5, eM18_5, h⟩ := bd_e h
  refine m_callVi (As := [.int x1, .int (nI 0)]) (st := [.int (v3_2 + v9_4)]) (s_X1_counted (d := d + 0) hA  eM18_5) rfl okX1 ck_X1_counted w_1056 rfl (Nat.le_of_ble_eq_true rfl) dX1_lawOf_18 ?_
  refine g_iadd dX1_lawOf_21 ?_
  refine g_aload_n dX1_lawOf_22 rfl 1 rfl ?_
  refine g_iload_n dX1_lawOf_23 rfl 2 rfl ?_
  refine g_iconst (v := (nI 2)) dX1_lawOf_24 (by decide) ?_
  obtain ⟨v25_8, M25_7, eM25_7, h⟩ := bd_e h
  refine m_callVi (As := [.int x1, .int (nI 2)]) (st := [.int ((v3_2 + v9_4) + v18_6)]) (s_X1_counted (d := d + 0) hA  eM25_7) rfl okX1 ck_X1_counted w_1056 rfl (Nat.le_of_ble_eq_true rfl) dX1_lawOf_25 ?_
  refine g_iadd dX1_lawOf_28 ?_
  obtain ⟨t9, et9, h⟩ := lt_e h
  refine g_cuti et9 ?_
  refine g_istore_n (lv' := [(3, .int t9), (2, .int (v3_2 + v9_4)), (0, .ref 73), (1, .int x1)]) dX1_lawOf_29 rfl (by decide) rfl ?_
  refine g_iload_n dX1_lawOf_30 rfl 0 rfl ?_
  refine g_if_ne (tgt := 38) dX1_lawOf_31 (by decide) (fun c12 => ?_) (fun c12 => ?_)
  · replace h := ite_n c12 h
    refine g_iload_n dX1_lawOf_38 rfl 1 rfl ?_
    refine g_bipush (v := (nI 100)) dX1_lawOf_39 (by decide) ?_
    refine g_imul dX1_lawOf_41 ?_
    refine g_iload_n dX1_lawOf_42 rfl 0 rfl ?_
    obtain ⟨v43_11, M43_10, eM43_10, h⟩ := bd_e h
    refine m_callNi (As := [.int ((v3_2 + v9_4) * (nI 100)), .int t9]) (st := []) (s_X9_by (d := d + 1) hA  eM43_10) ck_X9_by (host := "StillYard") (List.mem_of_getElem? (i := 30) rfl) rfl (Nat.le_of_ble_eq_true rfl) dX1_lawOf_43 ?_
    exact g_zret rfl rfl (pi_of h) dX1_lawOf_46
  · replace h := ite_p c12 h
    refine g_iconst (v := (-1 : Int32)) dX1_lawOf_34 (by decide) ?_
    refine g_goto (tgt := 46) dX1_lawOf_35 (by decide) ?_
    exact g_zret rfl rfl (pi_of h) dX1_lawOf_46
theorem ck_X1_lawOf : CKV yX1_lawOf cX1_lawOf 4 (some .int) 1 := ⟨⟨by decide, by decide, by decide +kernel⟩, w_1055, w_78, ⟨w_1053, w_1054⟩, by decide⟩
theorem dX1_lawBy_0 : decode cX1_lawBy 0 = .ok (.iload_n 2, 1) := by decide +kernel
theorem dX1_lawBy_1 : decode cX1_lawBy 1 = .ok (.ifCond .eq 7, 3) := by decide +kernel
theorem dX1_lawBy_4 : decode cX1_lawBy 4 = .ok (.iconst 2, 1) := by decide +kernel
theorem dX1_lawBy_5 : decode cX1_lawBy 5 = .ok (.goto 4, 3) := by decide +kernel
theorem dX1_lawBy_8 : decode cX1_lawBy 8 = .ok (.iconst 0, 1) := by decide +kernel
theorem dX1_lawBy_9 : decode cX1_lawBy 9 = .ok (.istore_n 3, 1) := by decide +kernel
theorem dX1_lawBy_10 : decode cX1_lawBy 10 = .ok (.aload_n 0, 1) := by decide +kernel
theorem dX1_lawBy_11 : decode cX1_lawBy 11 = .ok (.iload_n 1, 1) := by decide +kernel
theorem dX1_lawBy_12 : decode cX1_lawBy 12 = .ok (.iload_n 3, 1) := by decide +kernel
theorem dX1_lawBy_13 : decode cX1_lawBy 13 = .ok (.iconst 1, 1) := by decide +kernel
theorem dX1_lawBy_14 : decode cX1_lawBy 14 = .ok (.iadd, 1) := by decide +kernel
theorem dX1_lawBy_15 : decode cX1_lawBy 15 = .ok (.invokevirtual 37, 3) := by decide +kernel
theorem dX1_lawBy_18 : decode cX1_lawBy 18 = .ok (.istore 4, 2) := by decide +kernel
theorem dX1_lawBy_20 : decode cX1_lawBy 20 = .ok (.iload 4, 2) := by decide +kernel
theorem dX1_lawBy_22 : decode cX1_lawBy 22 = .ok (.aload_n 0, 1) := by decide +kernel
theorem dX1_lawBy_23 : decode cX1_lawBy 23 = .ok (.iload_n 1, 1) := by decide +kernel
theorem dX1_lawBy_24 : decode cX1_lawBy 24 = .ok (.iload_n 3, 1) := by decide +kernel
theorem dX1_lawBy_25 : decode cX1_lawBy 25 = .ok (.invokevirtual 37, 3) := by decide +kernel
theorem dX1_lawBy_28 : decode cX1_lawBy 28 = .ok (.iadd, 1) := by decide +kernel
theorem dX1_lawBy_29 : decode cX1_lawBy 29 = .ok (.istore 5, 2) := by decide +kernel
theorem dX1_lawBy_31 : decode cX1_lawBy 31 = .ok (.iload 5, 2) := by decide +kernel
theorem dX1_lawBy_33 : decode cX1_lawBy 33 = .ok (.ifCond .ne 7, 3) := by decide +kernel
theorem dX1_lawBy_36 : decode cX1_lawBy 36 = .ok (.iconst (-1), 1) := by decide +kernel
theorem dX1_lawBy_37 : decode cX1_lawBy 37 = .ok (.goto 13, 3) := by decide +kernel
theorem dX1_lawBy_40 : decode cX1_lawBy 40 = .ok (.iload 4, 2) := by decide +kernel
theorem dX1_lawBy_42 : decode cX1_lawBy 42 = .ok (.bipush 100, 2) := by decide +kernel
theorem dX1_lawBy_44 : decode cX1_lawBy 44 = .ok (.imul, 1) := by decide +kernel
theorem dX1_lawBy_45 : decode cX1_lawBy 45 = .ok (.iload 5, 2) := by decide +kernel
theorem dX1_lawBy_47 : decode cX1_lawBy 47 = .ok (.invokestatic 41, 3) := by decide +kernel
theorem dX1_lawBy_50 : decode cX1_lawBy 50 = .ok (.ireturn, 1) := by decide +kernel
def f_X1_lawBy (x1 : Int32) (x2 : Int32) (M : Mm) : Option (Int32 × Mm) :=
  jn (fun (s1 : Int32) (M2 : Mm) => bd (f_X1_counted x1 (s1 + (nI 1)) M2) fun v15_5 M15_4 => bd (f_X1_counted x1 s1 M15_4) fun v25_7 M25_6 => if (v15_5 + v25_7) = 0 then (some ((-1 : Int32), M25_6)) else (bd (f_X9_by (v15_5 * (nI 100)) (v15_5 + v25_7) M25_6) fun v47_9 M47_8 => some (v47_9, M47_8))) fun j3 => if x2 = 0 then (j3 (nI 0) M) else (j3 (nI 2) M)
set_option maxHeartbeats 4000000 in
set_option maxRecDepth 100000 in
theorem s_X1_lawBy {l : Launch} {B : BT} (hA : bA B = false) {d : Nat} {r : Int32} {M' : Mm} {x1 : Int32} {x2 : Int32} {M : Mm}  (h : f_X1_lawBy x1 x2 M = some (r, M')) : Con l B LY (d + 2) yX1_lawBy cX1_lawBy 6 (some .int) 0 0 [.ref 73, .int x1, .int x2] 97 M (PI r M') := by
  refine con_of (by decide) (Nat.le_of_ble_eq_true rfl) ?_
  show GG l B LY (d + 2) yX1_lawBy cX1_lawBy 6 (some .int) 0 0 (PI r M') 97 0 0 0 [(0, .ref 73), (1, .int x1), (2, .int x2)] [] M
  rw [f_X1_lawBy] at h
  refine g_iload_n dX1_lawBy_0 rfl 2 rfl ?_
  obtain ⟨j3, ej3, h⟩ := jn_e h
  have hj3 : ∀ (s1 : Int32) (M2 : Mm), j3 s1 M2 = some (r, M') → GG l B LY (d + 2) yX1_lawBy cX1_lawBy 6 (some .int) 0 0 (PI r M') 97 0 0 9 [(0, .ref 73), (1, .int x1)] [.int s1] M2 := by
    intro s1 M2 h
    rw [ej3] at h
    refine g_istore_n (lv' := [(3, .int s1), (0, .ref 73), (1, .int x1)]) dX1_lawBy_9 rfl (by decide) rfl ?_
    refine g_aload_n dX1_lawBy_10 rfl 1 rfl ?_
    refine g_iload_n dX1_lawBy_11 rfl 2 rfl ?_
    refine g_iload_n dX1_lawBy_12 rfl 0 rfl ?_
    refine g_iconst (v := (nI 1)) dX1_lawBy_13 (by decide) ?_
    refine g_iadd dX1_lawBy_14 ?_
    obtain ⟨v15_5, M15_4, eM15_4, h⟩ := bd_e h
    refine m_callVi (As := [.int x1, .int (s1 + (nI 1))]) (st := []) (s_X1_counted (d := d + 0) hA  eM15_4) rfl okX1 ck_X1_counted w_1056 rfl (Nat.le_of_ble_eq_true rfl) dX1_lawBy_15 ?_
    refine g_istore (lv' := [(4, .int v15_5), (3, .int s1), (0, .ref 73), (1, .int x1)]) dX1_lawBy_18 (by decide) rfl ?_
    refine g_iload dX1_lawBy_20 0 rfl ?_
    refine g_aload_n dX1_lawBy_22 rfl 2 rfl ?_
    refine g_iload_n dX1_lawBy_23 rfl 3 rfl ?_
    refine g_iload_n dX1_lawBy_24 rfl 1 rfl ?_
    obtain ⟨v25_7, M25_6, eM25_6, h⟩ := bd_e h
    refine m_callVi (As := [.int x1, .int s1]) (st := [.int v15_5]) (s_X1_counted (d := d + 0) hA  eM25_6) rfl okX1 ck_X1_counted w_1056 rfl (Nat.le_of_ble_eq_true rfl) dX1_lawBy_25 ?_
    refine g_iadd dX1_lawBy_28 ?_
    refine g_istore (lv' := [(5, .int (v15_5 + v25_7)), (4, .int v15_5), (3, .int s1), (0, .ref 73), (1, .int x1)]) dX1_lawBy_29 (by decide) rfl ?_
    refine g_iload dX1_lawBy_31 0 rfl ?_
    refine g_if_ne (tgt := 40) dX1_lawBy_33 (by decide) (fun c10 => ?_) (fun c10 => ?_)
    · replace h := ite_n c10 h
      refine g_iload dX1_lawBy_40 1 rfl ?_
      refine g_bipush (v := (nI 100)) dX1_lawBy_42 (by decide) ?_
      refine g_imul dX1_lawBy_44 ?_
      refine g_iload dX1_lawBy_45 0 rfl ?_
      obtain ⟨v47_9, M47_8, eM47_8, h⟩ := bd_e h
      refine m_callNi (As := [.int (v15_5 * (nI 100)), .int (v15_5 + v25_7)]) (st := []) (s_X9_by (d := d + 1) hA  eM47_8) ck_X9_by (host := "StillYard") (List.mem_of_getElem? (i := 30) rfl) rfl (Nat.le_of_ble_eq_true rfl) dX1_lawBy_47 ?_
      exact g_zret rfl rfl (pi_of h) dX1_lawBy_50
    · replace h := ite_p c10 h
      refine g_iconst (v := (-1 : Int32)) dX1_lawBy_36 (by decide) ?_
      refine g_goto (tgt := 50) dX1_lawBy_37 (by decide) ?_
      exact g_zret rfl rfl (pi_of h) dX1_lawBy_50
  refine g_if_eq (tgt := 8) dX1_lawBy_1 (by decide) (fun c11 => ?_) (fun c11 => ?_)
  · replace h := ite_p c11 h
    refine g_iconst (v := (nI 0)) dX1_lawBy_8 (by decide) ?_
    refine g_sub [0, 1] (lv' := [(0, .ref 73), (1, .int x1)]) rfl ?_
    exact hj3 _ _ h
  · replace h := ite_n c11 h
    refine g_iconst (v := (nI 2)) dX1_lawBy_4 (by decide) ?_
    refine g_goto (tgt := 9) dX1_lawBy_5 (by decide) ?_
    refine g_sub [0, 1] (lv' := [(0, .ref 73), (1, .int x1)]) rfl ?_
    exact hj3 _ _ h
theorem ck_X1_lawBy : CKV yX1_lawBy cX1_lawBy 6 (some .int) 2 := ⟨⟨by decide, by decide, by decide +kernel⟩, w_1069, w_78, ⟨w_1067, w_1068⟩, by decide⟩
theorem dX1_addStop_0 : decode cX1_addStop 0 = .ok (.aload_n 0, 1) := by decide +kernel
theorem dX1_addStop_1 : decode cX1_addStop 1 = .ok (.getfield 15, 3) := by decide +kernel
theorem dX1_addStop_4 : decode cX1_addStop 4 = .ok (.iload_n 1, 1) := by decide +kernel
theorem dX1_addStop_5 : decode cX1_addStop 5 = .ok (.iconst 1, 1) := by decide +kernel
theorem dX1_addStop_6 : decode cX1_addStop 6 = .ok (.invokestatic 29, 3) := by decide +kernel
theorem dX1_addStop_9 : decode cX1_addStop 9 = .ok (.aload_n 0, 1) := by decide +kernel
theorem dX1_addStop_10 : decode cX1_addStop 10 = .ok (.getfield 18, 3) := by decide +kernel
theorem dX1_addStop_13 : decode cX1_addStop 13 = .ok (.iload_n 1, 1) := by decide +kernel
theorem dX1_addStop_14 : decode cX1_addStop 14 = .ok (.iload_n 2, 1) := by decide +kernel
theorem dX1_addStop_15 : decode cX1_addStop 15 = .ok (.ifCond .eq 7, 3) := by decide +kernel
theorem dX1_addStop_18 : decode cX1_addStop 18 = .ok (.iconst 1, 1) := by decide +kernel
theorem dX1_addStop_19 : decode cX1_addStop 19 = .ok (.goto 4, 3) := by decide +kernel
theorem dX1_addStop_22 : decode cX1_addStop 22 = .ok (.iconst 0, 1) := by decide +kernel
theorem dX1_addStop_23 : decode cX1_addStop 23 = .ok (.invokestatic 29, 3) := by decide +kernel
theorem dX1_addStop_26 : decode cX1_addStop 26 = .ok (.return_, 1) := by decide +kernel
def f_X1_addStop (x1 : Int32) (x2 : Int32) (M : Mm) : Option (Mm) :=
  bv (f_X9_add 75 x1 (nI 1) M) fun M6_1 => jn (fun (s3 : Int32) (M4 : Mm) => bv (f_X9_add 76 x1 s3 M4) fun M23_6 => some M23_6) fun j5 => if x2 = 0 then (j5 (nI 0) M6_1) else (j5 (nI 1) M6_1)
set_option maxHeartbeats 4000000 in
set_option maxRecDepth 100000 in
theorem s_X1_addStop {l : Launch} {B : BT} (hA : bA B = false) {d : Nat} {M' : Mm} {x1 : Int32} {x2 : Int32} {M : Mm}  (h : f_X1_addStop x1 x2 M = some M') : Con l B LY (d + 2) yX1_addStop cX1_addStop 3 none 0 0 [.ref 73, .int x1, .int x2] 97 M (PV M') := by
  refine con_of (by decide) (Nat.le_of_ble_eq_true rfl) ?_
  show GG l B LY (d + 2) yX1_addStop cX1_addStop 3 none 0 0 (PV M') 97 0 0 0 [(0, .ref 73), (1, .int x1), (2, .int x2)] [] M
  rw [f_X1_addStop] at h
  refine g_aload_n dX1_addStop_0 rfl 0 rfl ?_
  refine m_getr (k := 1) okX1 rfl rfl (by decide) w_359 rfl dX1_addStop_1 ?_
  refine g_iload_n dX1_addStop_4 rfl 1 rfl ?_
  refine g_iconst (v := (nI 1)) dX1_addStop_5 (by decide) ?_
  obtain ⟨M6_1, eM6_1, h⟩ := bv_e h
  refine m_callNv (As := [.ref 75, .int x1, .int (nI 1)]) (st := []) (s_X9_add (d := d + 0) hA (al_of rfl) eM6_1) ck_X9_add (host := "StillYard") (List.mem_of_getElem? (i := 28) rfl) rfl (Nat.le_of_ble_eq_true rfl) dX1_addStop_6 ?_
  refine g_aload_n dX1_addStop_9 rfl 0 rfl ?_
  refine m_getr (k := 2) okX1 rfl rfl (by decide) w_361 rfl dX1_addStop_10 ?_
  refine g_iload_n dX1_addStop_13 rfl 1 rfl ?_
  refine g_iload_n dX1_addStop_14 rfl 2 rfl ?_
  obtain ⟨j5, ej5, h⟩ := jn_e h
  have hj5 : ∀ (s3 : Int32) (M4 : Mm), j5 s3 M4 = some M' → GG l B LY (d + 2) yX1_addStop cX1_addStop 3 none 0 0 (PV M') 97 0 0 23 [] [.int s3, .int x1, .ref 76] M4 := by
    intro s3 M4 h
    rw [ej5] at h
    obtain ⟨M23_6, eM23_6, h⟩ := bv_e h
    refine m_callNv (As := [.ref 76, .int x1, .int s3]) (st := []) (s_X9_add (d := d + 0) hA (al_of rfl) eM23_6) ck_X9_add (host := "StillYard") (List.mem_of_getElem? (i := 28) rfl) rfl (Nat.le_of_ble_eq_true rfl) dX1_addStop_23 ?_
    exact g_vret rfl (pv_of h) dX1_addStop_26
  refine g_if_eq (tgt := 22) dX1_addStop_15 (by decide) (fun c8 => ?_) (fun c8 => ?_)
  · replace h := ite_p c8 h
    refine g_iconst (v := (nI 0)) dX1_addStop_22 (by decide) ?_
    refine g_sub [] (lv' := []) rfl ?_
    exact hj5 _ _ h
  · replace h := ite_n c8 h
    refine g_iconst (v := (nI 1)) dX1_addStop_18 (by decide) ?_
    refine g_goto (tgt := 23) dX1_addStop_19 (by decide) ?_
    refine g_sub [] (lv' := []) rfl ?_
    exact hj5 _ _ h
theorem ck_X1_addStop : CKV yX1_addStop cX1_addStop 3 none 2 := ⟨⟨by decide, by decide, by decide +kernel⟩, w_1084, w_78, ⟨w_1082, w_1083⟩, by decide⟩
theorem dX1_waysOf_0 : decode cX1_waysOf 0 = .ok (.lconst 1, 1) := by decide +kernel
theorem dX1_waysOf_1 : decode cX1_waysOf 1 = .ok (.lstore_n 3, 1) := by decide +kernel
theorem dX1_waysOf_2 : decode cX1_waysOf 2 = .ok (.iconst 0, 1) := by decide +kernel
theorem dX1_waysOf_3 : decode cX1_waysOf 3 = .ok (.istore 5, 2) := by decide +kernel
theorem dX1_waysOf_5 : decode cX1_waysOf 5 = .ok (.iload 5, 2) := by decide +kernel
theorem dX1_waysOf_7 : decode cX1_waysOf 7 = .ok (.iload_n 0, 1) := by decide +kernel
theorem dX1_waysOf_8 : decode cX1_waysOf 8 = .ok (.if_icmp .ge 28, 3) := by decide +kernel
theorem dX1_waysOf_11 : decode cX1_waysOf 11 = .ok (.lload_n 3, 1) := by decide +kernel
theorem dX1_waysOf_12 : decode cX1_waysOf 12 = .ok (.iload 5, 2) := by decide +kernel
theorem dX1_waysOf_14 : decode cX1_waysOf 14 = .ok (.iload_n 2, 1) := by decide +kernel
theorem dX1_waysOf_15 : decode cX1_waysOf 15 = .ok (.if_icmp .ge 8, 3) := by decide +kernel
theorem dX1_waysOf_18 : decode cX1_waysOf 18 = .ok (.iload_n 1, 1) := by decide +kernel
theorem dX1_waysOf_19 : decode cX1_waysOf 19 = .ok (.i2l, 1) := by decide +kernel
theorem dX1_waysOf_20 : decode cX1_waysOf 20 = .ok (.goto 8, 3) := by decide +kernel
theorem dX1_waysOf_23 : decode cX1_waysOf 23 = .ok (.bipush 100, 2) := by decide +kernel
theorem dX1_waysOf_25 : decode cX1_waysOf 25 = .ok (.iload_n 1, 1) := by decide +kernel
theorem dX1_waysOf_26 : decode cX1_waysOf 26 = .ok (.isub, 1) := by decide +kernel
theorem dX1_waysOf_27 : decode cX1_waysOf 27 = .ok (.i2l, 1) := by decide +kernel
theorem dX1_waysOf_28 : decode cX1_waysOf 28 = .ok (.lmul, 1) := by decide +kernel
theorem dX1_waysOf_29 : decode cX1_waysOf 29 = .ok (.lstore_n 3, 1) := by decide +kernel
theorem dX1_waysOf_30 : decode cX1_waysOf 30 = .ok (.iinc 5 1, 3) := by decide +kernel
theorem dX1_waysOf_33 : decode cX1_waysOf 33 = .ok (.goto (-28), 3) := by decide +kernel
theorem dX1_waysOf_36 : decode cX1_waysOf 36 = .ok (.iconst 1, 1) := by decide +kernel
theorem dX1_waysOf_37 : decode cX1_waysOf 37 = .ok (.istore 5, 2) := by decide +kernel
theorem dX1_waysOf_39 : decode cX1_waysOf 39 = .ok (.iconst 1, 1) := by decide +kernel
theorem dX1_waysOf_40 : decode cX1_waysOf 40 = .ok (.istore 6, 2) := by decide +kernel
theorem dX1_waysOf_42 : decode cX1_waysOf 42 = .ok (.iload 6, 2) := by decide +kernel
theorem dX1_waysOf_44 : decode cX1_waysOf 44 = .ok (.iload_n 2, 1) := by decide +kernel
theorem dX1_waysOf_45 : decode cX1_waysOf 45 = .ok (.if_icmp .gt 25, 3) := by decide +kernel
theorem dX1_waysOf_48 : decode cX1_waysOf 48 = .ok (.iload 5, 2) := by decide +kernel
theorem dX1_waysOf_50 : decode cX1_waysOf 50 = .ok (.iload_n 0, 1) := by decide +kernel
theorem dX1_waysOf_51 : decode cX1_waysOf 51 = .ok (.iload_n 2, 1) := by decide +kernel
theorem dX1_waysOf_52 : decode cX1_waysOf 52 = .ok (.isub, 1) := by decide +kernel
theorem dX1_waysOf_53 : decode cX1_waysOf 53 = .ok (.iload 6, 2) := by decide +kernel
theorem dX1_waysOf_55 : decode cX1_waysOf 55 = .ok (.iadd, 1) := by decide +kernel
theorem dX1_waysOf_56 : decode cX1_waysOf 56 = .ok (.imul, 1) := by decide +kernel
theorem dX1_waysOf_57 : decode cX1_waysOf 57 = .ok (.iload 6, 2) := by decide +kernel
theorem dX1_waysOf_59 : decode cX1_waysOf 59 = .ok (.invokestatic 41, 3) := by decide +kernel
theorem dX1_waysOf_62 : decode cX1_waysOf 62 = .ok (.istore 5, 2) := by decide +kernel
theorem dX1_waysOf_64 : decode cX1_waysOf 64 = .ok (.iinc 6 1, 3) := by decide +kernel
theorem dX1_waysOf_67 : decode cX1_waysOf 67 = .ok (.goto (-25), 3) := by decide +kernel
theorem dX1_waysOf_70 : decode cX1_waysOf 70 = .ok (.lload_n 3, 1) := by decide +kernel
theorem dX1_waysOf_71 : decode cX1_waysOf 71 = .ok (.iload 5, 2) := by decide +kernel
theorem dX1_waysOf_73 : decode cX1_waysOf 73 = .ok (.i2l, 1) := by decide +kernel
theorem dX1_waysOf_74 : decode cX1_waysOf 74 = .ok (.lmul, 1) := by decide +kernel
theorem dX1_waysOf_75 : decode cX1_waysOf 75 = .ok (.lreturn, 1) := by decide +kernel
def lp_X1_waysOf_5 (y0 : Int32) (y1 : Int32) (y2 : Int32) (k36 : Int64 → Mm → Option (Int64 × Mm)) : Nat → Int64 → Int32 → Mm → Option (Int64 × Mm)
  | 0, _, _, _ => none
  | n + 1, y3, y5, M =>
    if y0 ≤ y5 then (k36 y3 M) else (jn (fun (s1 : Int64) (M2 : Mm) => lp_X1_waysOf_5 y0 y1 y2 k36 n (y3 * s1) (y5 + (nI 1)) M2) fun j3 => if y2 ≤ y5 then (j3 ((nI 100) - y1).toInt64 M) else (j3 y1.toInt64 M))
def lp_X1_waysOf_42 (y0 : Int32) (y2 : Int32) (y3 : Int64) (k70 : Int32 → Mm → Option (Int64 × Mm)) : Nat → Int32 → Int32 → Mm → Option (Int64 × Mm)
  | 0, _, _, _ => none
  | n + 1, y5, y6, M =>
    if y2 < y6 then (k70 y5 M) else (bd (f_X9_by (y5 * ((y0 - y2) + y6)) y6 M) fun v59_9 M59_8 => lp_X1_waysOf_42 y0 y2 y3 k70 n v59_9 (y6 + (nI 1)) M59_8)
def f_X1_waysOf (x0 : Int32) (x1 : Int32) (x2 : Int32) (M : Mm) : Option (Int64 × Mm) :=
  lp_X1_waysOf_5 x0 x1 x2 (fun (u6 : Int64) (M7 : Mm) => lp_X1_waysOf_42 x0 x2 u6 (fun (u11 : Int32) (M12 : Mm) => some ((u6 * u11.toInt64), M12)) N0 (nI 1) (nI 1) M7) N0 (1 : Int64) (nI 0) M
set_option maxHeartbeats 4000000 in
set_option maxRecDepth 100000 in
theorem sl_X1_waysOf_5 {l : Launch} {B : BT} (hA : bA B = false) {d : Nat} {r : Int64} {M' : Mm} {y0 : Int32} {y1 : Int32} {y2 : Int32}  {k36 : Int64 → Mm → Option (Int64 × Mm)} (hk36 : ∀ (z3 : Int64) (M9 : Mm), k36 z3 M9 = some (r, M') → GG l B LY (d + 1) yX1_waysOf cX1_waysOf 7 (some .long) 0 0 (PL r M') 97 0 0 36 [(0, .int y0), (2, .int y2), (3, .long z3)] [] M9) :
    ∀ (n : Nat) (y3 : Int64) (y5 : Int32) (M : Mm), lp_X1_waysOf_5 y0 y1 y2 k36 n y3 y5 M = some (r, M') → GG l B LY (d + 1) yX1_waysOf cX1_waysOf 7 (some .long) 0 0 (PL r M') 97 0 0 5 [(0, .int y0), (1, .int y1), (2, .int y2), (3, .long y3), (5, .int y5)] [] M := by
  intro n
  induction n with
  | zero => intro y3 y5 M h; cases h
  | succ n ih =>
    intro y3 y5 M h
    rw [lp_X1_waysOf_5] at h
    refine g_iload dX1_waysOf_5 4 rfl ?_
    refine g_iload_n dX1_waysOf_7 rfl 0 rfl ?_
    refine g_icmp_ge (tgt := 36) dX1_waysOf_8 (by decide) (fun c5 => ?_) (fun c5 => ?_)
    · replace h := ite_p c5 h
      refine g_sub [0, 2, 3] (lv' := [(0, .int y0), (2, .int y2), (3, .long y3)]) rfl ?_
      exact hk36 _ _ h
    · replace h := ite_n c5 h
      refine g_lload_n dX1_waysOf_11 rfl 3 rfl ?_
      refine g_iload dX1_waysOf_12 4 rfl ?_
      refine g_iload_n dX1_waysOf_14 rfl 2 rfl ?_
      obtain ⟨j3, ej3, h⟩ := jn_e h
      have hj3 : ∀ (s1 : Int64) (M2 : Mm), j3 s1 M2 = some (r, M') → GG l B LY (d + 1) yX1_waysOf cX1_waysOf 7 (some .long) 0 0 (PL r M') 97 0 0 28 [(0, .int y0), (1, .int y1), (2, .int y2), (5, .int y5)] [.long s1, .long y3] M2 := by
        intro s1 M2 h
        rw [ej3] at h
        refine g_lmul dX1_waysOf_28 ?_
        refine g_lstore_n (lv' := [(3, .long (y3 * s1)), (0, .int y0), (1, .int y1), (2, .int y2), (5, .int y5)]) dX1_waysOf_29 rfl (by decide) rfl ?_
        refine g_iinc (v := (y5 + (nI 1))) (lv' := [(5, .int (y5 + (nI 1))), (3, .long (y3 * s1)), (0, .int y0), (1, .int y1), (2, .int y2)]) dX1_waysOf_30 4 rfl rfl (by decide) rfl ?_
        refine g_goto (tgt := 5) dX1_waysOf_33 (by decide) ?_
        refine g_sub [2, 3, 4, 1, 0] (lv' := [(0, .int y0), (1, .int y1), (2, .int y2), (3, .long (y3 * s1)), (5, .int (y5 + (nI 1)))]) rfl ?_
        exact ih _ _  _ h
      refine g_icmp_ge (tgt := 23) dX1_waysOf_15 (by decide) (fun c4 => ?_) (fun c4 => ?_)
      · replace h := ite_p c4 h
        refine g_bipush (v := (nI 100)) dX1_waysOf_23 (by decide) ?_
        refine g_iload_n dX1_waysOf_25 rfl 1 rfl ?_
        refine g_isub dX1_waysOf_26 ?_
        refine g_i2l dX1_waysOf_27 ?_
        refine g_sub [0, 1, 2, 4] (lv' := [(0, .int y0), (1, .int y1), (2, .int y2), (5, .int y5)]) rfl ?_
        exact hj3 _ _ h
      · replace h := ite_n c4 h
        refine g_iload_n dX1_waysOf_18 rfl 1 rfl ?_
        refine g_i2l dX1_waysOf_19 ?_
        refine g_goto (tgt := 28) dX1_waysOf_20 (by decide) ?_
        refine g_sub [0, 1, 2, 4] (lv' := [(0, .int y0), (1, .int y1), (2, .int y2), (5, .int y5)]) rfl ?_
        exact hj3 _ _ h
set_option maxHeartbeats 4000000 in
set_option maxRecDepth 100000 in
theorem sl_X1_waysOf_42 {l : Launch} {B : BT} (hA : bA B = false) {d : Nat} {r : Int64} {M' : Mm} {y0 : Int32} {y2 : Int32} {y3 : Int64}  {k70 : Int32 → Mm → Option (Int64 × Mm)} (hk70 : ∀ (z5 : Int32) (M9 : Mm), k70 z5 M9 = some (r, M') → GG l B LY (d + 1) yX1_waysOf cX1_waysOf 7 (some .long) 0 0 (PL r M') 97 0 0 70 [(3, .long y3), (5, .int z5)] [] M9) :
    ∀ (n : Nat) (y5 : Int32) (y6 : Int32) (M : Mm), lp_X1_waysOf_42 y0 y2 y3 k70 n y5 y6 M = some (r, M') → GG l B LY (d + 1) yX1_waysOf cX1_waysOf 7 (some .long) 0 0 (PL r M') 97 0 0 42 [(0, .int y0), (2, .int y2), (3, .long y3), (5, .int y5), (6, .int y6)] [] M := by
  intro n
  induction n with
  | zero => intro y5 y6 M h; cases h
  | succ n ih =>
    intro y5 y6 M h
    rw [lp_X1_waysOf_42] at h
    refine g_iload dX1_waysOf_42 4 rfl ?_
    refine g_iload_n dX1_waysOf_44 rfl 1 rfl ?_
    refine g_icmp_gt (tgt := 70) dX1_waysOf_45 (by decide) (fun c10 => ?_) (fun c10 => ?_)
    · replace h := ite_p c10 h
      refine g_sub [2, 3] (lv' := [(3, .long y3), (5, .int y5)]) rfl ?_
      exact hk70 _ _ h
    · replace h := ite_n c10 h
      refine g_iload dX1_waysOf_48 3 rfl ?_
      refine g_iload_n dX1_waysOf_50 rfl 0 rfl ?_
      refine g_iload_n dX1_waysOf_51 rfl 1 rfl ?_
      refine g_isub dX1_waysOf_52 ?_
      refine g_iload dX1_waysOf_53 4 rfl ?_
      refine g_iadd dX1_waysOf_55 ?_
      refine g_imul dX1_waysOf_56 ?_
      refine g_iload dX1_waysOf_57 4 rfl ?_
      obtain ⟨v59_9, M59_8, eM59_8, h⟩ := bd_e h
      refine m_callNi (As := [.int (y5 * ((y0 - y2) + y6)), .int y6]) (st := []) (s_X9_by (d := d + 0) hA  eM59_8) ck_X9_by (host := "StillYard") (List.mem_of_getElem? (i := 30) rfl) rfl (Nat.le_of_ble_eq_true rfl) dX1_waysOf_59 ?_
      refine g_istore (lv' := [(5, .int v59_9), (0, .int y0), (2, .int y2), (3, .long y3), (6, .int y6)]) dX1_waysOf_62 (by decide) rfl ?_
      refine g_iinc (v := (y6 + (nI 1))) (lv' := [(6, .int (y6 + (nI 1))), (5, .int v59_9), (0, .int y0), (2, .int y2), (3, .long y3)]) dX1_waysOf_64 4 rfl rfl (by decide) rfl ?_
      refine g_goto (tgt := 42) dX1_waysOf_67 (by decide) ?_
      refine g_sub [2, 3, 4, 1, 0] (lv' := [(0, .int y0), (2, .int y2), (3, .long y3), (5, .int v59_9), (6, .int (y6 + (nI 1)))]) rfl ?_
      exact ih _ _  _ h
set_option maxHeartbeats 4000000 in
set_option maxRecDepth 100000 in
theorem s_X1_waysOf {l : Launch} {B : BT} (hA : bA B = false) {d : Nat} {r : Int64} {M' : Mm} {x0 : Int32} {x1 : Int32} {x2 : Int32} {M : Mm}  (h : f_X1_waysOf x0 x1 x2 M = some (r, M')) : Con l B LY (d + 1) yX1_waysOf cX1_waysOf 7 (some .long) 0 0 [.int x0, .int x1, .int x2] 97 M (PL r M') := by
  refine con_of (by decide) (Nat.le_of_ble_eq_true rfl) ?_
  show GG l B LY (d + 1) yX1_waysOf cX1_waysOf 7 (some .long) 0 0 (PL r M') 97 0 0 0 [(0, .int x0), (1, .int x1), (2, .int x2)] [] M
  rw [f_X1_waysOf] at h
  refine g_lconst (v := 1) dX1_waysOf_0 (by decide) ?_
  refine g_lstore_n (lv' := [(3, .long (1 : Int64)), (0, .int x0), (1, .int x1), (2, .int x2)]) dX1_waysOf_1 rfl (by decide) rfl ?_
  refine g_iconst (v := (nI 0)) dX1_waysOf_2 (by decide) ?_
  refine g_istore (lv' := [(5, .int (nI 0)), (3, .long (1 : Int64)), (0, .int x0), (1, .int x1), (2, .int x2)]) dX1_waysOf_3 (by decide) rfl ?_
  refine g_sub [2, 3, 4, 1, 0] (lv' := [(0, .int x0), (1, .int x1), (2, .int x2), (3, .long (1 : Int64)), (5, .int (nI 0))]) rfl ?_
  refine sl_X1_waysOf_5 hA  ?_ _ _ _ _ h
  · intro u6 M7 h
    refine g_iconst (v := (nI 1)) dX1_waysOf_36 (by decide) ?_
    refine g_istore (lv' := [(5, .int (nI 1)), (0, .int x0), (2, .int x2), (3, .long u6)]) dX1_waysOf_37 (by decide) rfl ?_
    refine g_iconst (v := (nI 1)) dX1_waysOf_39 (by decide) ?_
    refine g_istore (lv' := [(6, .int (nI 1)), (5, .int (nI 1)), (0, .int x0), (2, .int x2), (3, .long u6)]) dX1_waysOf_40 (by decide) rfl ?_
    refine g_sub [2, 3, 4, 1, 0] (lv' := [(0, .int x0), (2, .int x2), (3, .long u6), (5, .int (nI 1)), (6, .int (nI 1))]) rfl ?_
    refine sl_X1_waysOf_42 hA  ?_ _ _ _ _ h
    · intro u11 M12 h
      refine g_lload_n dX1_waysOf_70 rfl 0 rfl ?_
      refine g_iload dX1_waysOf_71 1 rfl ?_
      refine g_i2l dX1_waysOf_73 ?_
      refine g_lmul dX1_waysOf_74 ?_
      exact g_lret rfl (pl_of h) dX1_waysOf_75
theorem ck_X1_waysOf : CKS yX1_waysOf cX1_waysOf 7 (some .long) 3 := ⟨⟨by decide, by decide, by decide +kernel⟩, w_1102, w_78, w_1101, by decide⟩
theorem dX1_waysBetween_0 : decode cX1_waysBetween 0 = .ok (.lconst 0, 1) := by decide +kernel
theorem dX1_waysBetween_1 : decode cX1_waysBetween 1 = .ok (.lstore 4, 2) := by decide +kernel
theorem dX1_waysBetween_3 : decode cX1_waysBetween 3 = .ok (.iload_n 2, 1) := by decide +kernel
theorem dX1_waysBetween_4 : decode cX1_waysBetween 4 = .ok (.istore 6, 2) := by decide +kernel
theorem dX1_waysBetween_6 : decode cX1_waysBetween 6 = .ok (.iload 6, 2) := by decide +kernel
theorem dX1_waysBetween_8 : decode cX1_waysBetween 8 = .ok (.iload_n 3, 1) := by decide +kernel
theorem dX1_waysBetween_9 : decode cX1_waysBetween 9 = .ok (.if_icmp .gt 21, 3) := by decide +kernel
theorem dX1_waysBetween_12 : decode cX1_waysBetween 12 = .ok (.lload 4, 2) := by decide +kernel
theorem dX1_waysBetween_14 : decode cX1_waysBetween 14 = .ok (.iload_n 0, 1) := by decide +kernel
theorem dX1_waysBetween_15 : decode cX1_waysBetween 15 = .ok (.iload_n 1, 1) := by decide +kernel
theorem dX1_waysBetween_16 : decode cX1_waysBetween 16 = .ok (.iload 6, 2) := by decide +kernel
theorem dX1_waysBetween_18 : decode cX1_waysBetween 18 = .ok (.invokestatic 56, 3) := by decide +kernel
theorem dX1_waysBetween_21 : decode cX1_waysBetween 21 = .ok (.ladd, 1) := by decide +kernel
theorem dX1_waysBetween_22 : decode cX1_waysBetween 22 = .ok (.lstore 4, 2) := by decide +kernel
theorem dX1_waysBetween_24 : decode cX1_waysBetween 24 = .ok (.iinc 6 1, 3) := by decide +kernel
theorem dX1_waysBetween_27 : decode cX1_waysBetween 27 = .ok (.goto (-21), 3) := by decide +kernel
theorem dX1_waysBetween_30 : decode cX1_waysBetween 30 = .ok (.lload 4, 2) := by decide +kernel
theorem dX1_waysBetween_32 : decode cX1_waysBetween 32 = .ok (.lreturn, 1) := by decide +kernel
def lp_X1_waysBetween_6 (y0 : Int32) (y1 : Int32) (y3 : Int32)  : Nat → Int64 → Int32 → Mm → Option (Int64 × Mm)
  | 0, _, _, _ => none
  | n + 1, y4, y6, M =>
    if y3 < y6 then (some (y4, M)) else (bd (f_X1_waysOf y0 y1 y6 M) fun v18_2 M18_1 => lp_X1_waysBetween_6 y0 y1 y3 n (y4 + v18_2) (y6 + (nI 1)) M18_1)
def f_X1_waysBetween (x0 : Int32) (x1 : Int32) (x2 : Int32) (x3 : Int32) (M : Mm) : Option (Int64 × Mm) :=
  lp_X1_waysBetween_6 x0 x1 x3  N0 (0 : Int64) x2 M
set_option maxHeartbeats 4000000 in
set_option maxRecDepth 100000 in
theorem sl_X1_waysBetween_6 {l : Launch} {B : BT} (hA : bA B = false) {d : Nat} {r : Int64} {M' : Mm} {y0 : Int32} {y1 : Int32} {y3 : Int32}    :
    ∀ (n : Nat) (y4 : Int64) (y6 : Int32) (M : Mm), lp_X1_waysBetween_6 y0 y1 y3 n y4 y6 M = some (r, M') → GG l B LY (d + 2) yX1_waysBetween cX1_waysBetween 7 (some .long) 0 0 (PL r M') 97 0 0 6 [(0, .int y0), (1, .int y1), (3, .int y3), (4, .long y4), (6, .int y6)] [] M := by
  intro n
  induction n with
  | zero => intro y4 y6 M h; cases h
  | succ n ih =>
    intro y4 y6 M h
    rw [lp_X1_waysBetween_6] at h
    refine g_iload dX1_waysBetween_6 4 rfl ?_
    refine g_iload_n dX1_waysBetween_8 rfl 2 rfl ?_
    refine g_icmp_gt (tgt := 30) dX1_waysBetween_9 (by decide) (fun c3 => ?_) (fun c3 => ?_)
    · replace h := ite_p c3 h
      refine g_lload dX1_waysBetween_30 3 rfl ?_
      exact g_lret rfl (pl_of h) dX1_waysBetween_32
    · replace h := ite_n c3 h
      refine g_lload dX1_waysBetween_12 3 rfl ?_
      refine g_iload_n dX1_waysBetween_14 rfl 0 rfl ?_
      refine g_iload_n dX1_waysBetween_15 rfl 1 rfl ?_
      refine g_iload dX1_waysBetween_16 4 rfl ?_
      obtain ⟨v18_2, M18_1, eM18_1, h⟩ := bd_e h
      refine m_callSl (As := [.int y0, .int y1, .int y6]) (st := [.long y4]) (s_X1_waysOf (d := d + 0) hA  eM18_1) ck_X1_waysOf w_1100 rfl (Nat.le_of_ble_eq_true rfl) dX1_waysBetween_18 ?_
      refine g_ladd dX1_waysBetween_21 ?_
      refine g_lstore (lv' := [(4, .long (y4 + v18_2)), (0, .int y0), (1, .int y1), (3, .int y3), (6, .int y6)]) dX1_waysBetween_22 (by decide) rfl ?_
      refine g_iinc (v := (y6 + (nI 1))) (lv' := [(6, .int (y6 + (nI 1))), (4, .long (y4 + v18_2)), (0, .int y0), (1, .int y1), (3, .int y3)]) dX1_waysBetween_24 4 rfl rfl (by decide) rfl ?_
      refine g_goto (tgt := 6) dX1_waysBetween_27 (by decide) ?_
      refine g_sub [2, 3, 4, 1, 0] (lv' := [(0, .int y0), (1, .int y1), (3, .int y3), (4, .long (y4 + v18_2)), (6, .int (y6 + (nI 1)))]) rfl ?_
      exact ih _ _  _ h
set_option maxHeartbeats 4000000 in
set_option maxRecDepth 100000 in
theorem s_X1_waysBetween {l : Launch} {B : BT} (hA : bA B = false) {d : Nat} {r : Int64} {M' : Mm} {x0 : Int32} {x1 : Int32} {x2 : Int32} {x3 : Int32} {M : Mm}  (h : f_X1_waysBetween x0 x1 x2 x3 M = some (r, M')) : Con l B LY (d + 2) yX1_waysBetween cX1_waysBetween 7 (some .long) 0 0 [.int x0, .int x1, .int x2, .int x3] 97 M (PL r M') := by
  refine con_of (by decide) (Nat.le_of_ble_eq_true rfl) ?_
  show GG l B LY (d + 2) yX1_waysBetween cX1_waysBetween 7 (some .long) 0 0 (PL r M') 97 0 0 0 [(0, .int x0), (1, .int x1), (2, .int x2), (3, .int x3)] [] M
  rw [f_X1_waysBetween] at h
  refine g_lconst (v := 0) dX1_waysBetween_0 (by decide) ?_
  refine g_lstore (lv' := [(4, .long (0 : Int64)), (0, .int x0), (1, .int x1), (2, .int x2), (3, .int x3)]) dX1_waysBetween_1 (by decide) rfl ?_
  refine g_iload_n dX1_waysBetween_3 rfl 3 rfl ?_
  refine g_istore (lv' := [(6, .int x2), (4, .long (0 : Int64)), (0, .int x0), (1, .int x1), (2, .int x2), (3, .int x3)]) dX1_waysBetween_4 (by decide) rfl ?_
  refine g_sub [2, 3, 5, 1, 0] (lv' := [(0, .int x0), (1, .int x1), (3, .int x3), (4, .long (0 : Int64)), (6, .int x2)]) rfl ?_
  refine sl_X1_waysBetween_6 hA   _ _ _ _ h
theorem ck_X1_waysBetween : CKS yX1_waysBetween cX1_waysBetween 7 (some .long) 4 := ⟨⟨by decide, by decide, by decide +kernel⟩, w_1099, w_78, w_1098, by decide⟩
theorem dX1_isUsual_0 : decode cX1_isUsual 0 = .ok (.ldc2_w 52, 3) := by decide +kernel
theorem dX1_isUsual_3 : decode cX1_isUsual 3 = .ok (.lstore_n 3, 1) := by decide +kernel
theorem dX1_isUsual_4 : decode cX1_isUsual 4 = .ok (.iconst 1, 1) := by decide +kernel
theorem dX1_isUsual_5 : decode cX1_isUsual 5 = .ok (.istore 5, 2) := by decide +kernel
theorem dX1_isUsual_7 : decode cX1_isUsual 7 = .ok (.iload 5, 2) := by decide +kernel
theorem dX1_isUsual_9 : decode cX1_isUsual 9 = .ok (.iload_n 2, 1) := by decide +kernel
theorem dX1_isUsual_10 : decode cX1_isUsual 10 = .ok (.if_icmp .ge 15, 3) := by decide +kernel
theorem dX1_isUsual_13 : decode cX1_isUsual 13 = .ok (.lload_n 3, 1) := by decide +kernel
theorem dX1_isUsual_14 : decode cX1_isUsual 14 = .ok (.ldc2_w 54, 3) := by decide +kernel
theorem dX1_isUsual_17 : decode cX1_isUsual 17 = .ok (.lmul, 1) := by decide +kernel
theorem dX1_isUsual_18 : decode cX1_isUsual 18 = .ok (.lstore_n 3, 1) := by decide +kernel
theorem dX1_isUsual_19 : decode cX1_isUsual 19 = .ok (.iinc 5 1, 3) := by decide +kernel
theorem dX1_isUsual_22 : decode cX1_isUsual 22 = .ok (.goto (-15), 3) := by decide +kernel
theorem dX1_isUsual_25 : decode cX1_isUsual 25 = .ok (.lload_n 0, 1) := by decide +kernel
theorem dX1_isUsual_26 : decode cX1_isUsual 26 = .ok (.lload_n 3, 1) := by decide +kernel
theorem dX1_isUsual_27 : decode cX1_isUsual 27 = .ok (.lcmp, 1) := by decide +kernel
theorem dX1_isUsual_28 : decode cX1_isUsual 28 = .ok (.ifCond .lt 7, 3) := by decide +kernel
theorem dX1_isUsual_31 : decode cX1_isUsual 31 = .ok (.iconst 1, 1) := by decide +kernel
theorem dX1_isUsual_32 : decode cX1_isUsual 32 = .ok (.goto 4, 3) := by decide +kernel
theorem dX1_isUsual_35 : decode cX1_isUsual 35 = .ok (.iconst 0, 1) := by decide +kernel
theorem dX1_isUsual_36 : decode cX1_isUsual 36 = .ok (.ireturn, 1) := by decide +kernel
def lp_X1_isUsual_7 (y0 : Int64) (y2 : Int32) (k25 : Int64 → Mm → Option (Int32 × Mm)) : Nat → Int64 → Int32 → Mm → Option (Int32 × Mm)
  | 0, _, _, _ => none
  | n + 1, y3, y5, M =>
    if y2 ≤ y5 then (k25 y3 M) else (lp_X1_isUsual_7 y0 y2 k25 n (y3 * (100 : Int64)) (y5 + (nI 1)) M)
def f_X1_isUsual (x0 : Int64) (x2 : Int32) (M : Mm) : Option (Int32 × Mm) :=
  lp_X1_isUsual_7 x0 x2 (fun (u2 : Int64) (M3 : Mm) => if (lg_cmp x0 u2) < 0 then (some ((nI 0), M3)) else (some ((nI 1), M3))) N0 (5 : Int64) (nI 1) M
set_option maxHeartbeats 4000000 in
set_option maxRecDepth 100000 in
theorem sl_X1_isUsual_7 {l : Launch} {B : BT} (hA : bA B = false) {d : Nat} {r : Int32} {M' : Mm} {y0 : Int64} {y2 : Int32}  {k25 : Int64 → Mm → Option (Int32 × Mm)} (hk25 : ∀ (z3 : Int64) (M9 : Mm), k25 z3 M9 = some (r, M') → GG l B LY (d + 0) yX1_isUsual cX1_isUsual 6 (some .boolean) 0 0 (PI r M') 97 0 0 25 [(0, .long y0), (3, .long z3)] [] M9) :
    ∀ (n : Nat) (y3 : Int64) (y5 : Int32) (M : Mm), lp_X1_isUsual_7 y0 y2 k25 n y3 y5 M = some (r, M') → GG l B LY (d + 0) yX1_isUsual cX1_isUsual 6 (some .boolean) 0 0 (PI r M') 97 0 0 7 [(0, .long y0), (2, .int y2), (3, .long y3), (5, .int y5)] [] M := by
  intro n
  induction n with
  | zero => intro y3 y5 M h; cases h
  | succ n ih =>
    intro y3 y5 M h
    rw [lp_X1_isUsual_7] at h
    refine g_iload dX1_isUsual_7 3 rfl ?_
    refine g_iload_n dX1_isUsual_9 rfl 1 rfl ?_
    refine g_icmp_ge (tgt := 25) dX1_isUsual_10 (by decide) (fun c1 => ?_) (fun c1 => ?_)
    · replace h := ite_p c1 h
      refine g_sub [0, 2] (lv' := [(0, .long y0), (3, .long y3)]) rfl ?_
      exact hk25 _ _ h
    · replace h := ite_n c1 h
      refine g_lload_n dX1_isUsual_13 rfl 2 rfl ?_
      refine g_ldc2 (v := 100) w_1107 dX1_isUsual_14 ?_
      refine g_lmul dX1_isUsual_17 ?_
      refine g_lstore_n (lv' := [(3, .long (y3 * (100 : Int64))), (0, .long y0), (2, .int y2), (5, .int y5)]) dX1_isUsual_18 rfl (by decide) rfl ?_
      refine g_iinc (v := (y5 + (nI 1))) (lv' := [(5, .int (y5 + (nI 1))), (3, .long (y3 * (100 : Int64))), (0, .long y0), (2, .int y2)]) dX1_isUsual_19 3 rfl rfl (by decide) rfl ?_
      refine g_goto (tgt := 7) dX1_isUsual_22 (by decide) ?_
      refine g_sub [2, 3, 1, 0] (lv' := [(0, .long y0), (2, .int y2), (3, .long (y3 * (100 : Int64))), (5, .int (y5 + (nI 1)))]) rfl ?_
      exact ih _ _  _ h
set_option maxHeartbeats 4000000 in
set_option maxRecDepth 100000 in
theorem s_X1_isUsual {l : Launch} {B : BT} (hA : bA B = false) {d : Nat} {r : Int32} {M' : Mm} {x0 : Int64} {x2 : Int32} {M : Mm}  (h : f_X1_isUsual x0 x2 M = some (r, M')) : Con l B LY (d + 0) yX1_isUsual cX1_isUsual 6 (some .boolean) 0 0 [.long x0, .int x2] 97 M (PI r M') := by
  refine con_of (by decide) (Nat.le_of_ble_eq_true rfl) ?_
  show GG l B LY (d + 0) yX1_isUsual cX1_isUsual 6 (some .boolean) 0 0 (PI r M') 97 0 0 0 [(0, .long x0), (2, .int x2)] [] M
  rw [f_X1_isUsual] at h
  refine g_ldc2 (v := 5) w_1106 dX1_isUsual_0 ?_
  refine g_lstore_n (lv' := [(3, .long (5 : Int64)), (0, .long x0), (2, .int x2)]) dX1_isUsual_3 rfl (by decide) rfl ?_
  refine g_iconst (v := (nI 1)) dX1_isUsual_4 (by decide) ?_
  refine g_istore (lv' := [(5, .int (nI 1)), (3, .long (5 : Int64)), (0, .long x0), (2, .int x2)]) dX1_isUsual_5 (by decide) rfl ?_
  refine g_sub [2, 3, 1, 0] (lv' := [(0, .long x0), (2, .int x2), (3, .long (5 : Int64)), (5, .int (nI 1))]) rfl ?_
  refine sl_X1_isUsual_7 hA  ?_ _ _ _ _ h
  · intro u2 M3 h
    refine g_lload_n dX1_isUsual_25 rfl 0 rfl ?_
    refine g_lload_n dX1_isUsual_26 rfl 1 rfl ?_
    refine g_lcmp dX1_isUsual_27 ?_
    refine g_if_lt (tgt := 35) dX1_isUsual_28 (by decide) (fun c4 => ?_) (fun c4 => ?_)
    · replace h := ite_p c4 h
      refine g_iconst (v := (nI 0)) dX1_isUsual_35 (by decide) ?_
      exact g_zret rfl rfl (pi_of h) dX1_isUsual_36
    · replace h := ite_n c4 h
      refine g_iconst (v := (nI 1)) dX1_isUsual_31 (by decide) ?_
      refine g_goto (tgt := 36) dX1_isUsual_32 (by decide) ?_
      exact g_zret rfl rfl (pi_of h) dX1_isUsual_36
theorem ck_X1_isUsual : CKS yX1_isUsual cX1_isUsual 6 (some .boolean) 2 := ⟨⟨by decide, by decide, by decide +kernel⟩, w_1105, w_78, w_1104, by decide⟩
