/-! walks: X3_putRight X3_partSaid X3_syllableSaid X3_tenthsOfSyllable X3_caughtBits X4_count X4_run X8_byteAt X8_kindOf X8_advance X8_open X8_isWord X5_fail X5_word X5_whole X5_told X5_yardLine. Written by wip/programs/parts.py. -/
theorem dX3_putRight_0 : decode cX3_putRight 0 = .ok (.aload_n 0, 1) := by decide +kernel
theorem dX3_putRight_1 : decode cX3_putRight 1 = .ok (.getfield 9, 3) := by decide +kernel
theorem dX3_putRight_4 : decode cX3_putRight 4 = .ok (.iload_n 1, 1) := by decide +kernel
theorem dX3_putRight_5 : decode cX3_putRight 5 = .ok (.aload_n 0, 1) := by decide +kernel
theorem dX3_putRight_6 : decode cX3_putRight 6 = .ok (.getfield 27, 3) := by decide +kernel
theorem dX3_putRight_9 : decode cX3_putRight 9 = .ok (.iload_n 1, 1) := by decide +kernel
theorem dX3_putRight_10 : decode cX3_putRight 10 = .ok (.invokestatic 112, 3) := by decide +kernel
theorem dX3_putRight_13 : decode cX3_putRight 13 = .ok (.invokestatic 102, 3) := by decide +kernel
theorem dX3_putRight_16 : decode cX3_putRight 16 = .ok (.aload_n 0, 1) := by decide +kernel
theorem dX3_putRight_17 : decode cX3_putRight 17 = .ok (.getfield 15, 3) := by decide +kernel
theorem dX3_putRight_20 : decode cX3_putRight 20 = .ok (.iload_n 1, 1) := by decide +kernel
theorem dX3_putRight_21 : decode cX3_putRight 21 = .ok (.iconst 0, 1) := by decide +kernel
theorem dX3_putRight_22 : decode cX3_putRight 22 = .ok (.invokestatic 102, 3) := by decide +kernel
theorem dX3_putRight_25 : decode cX3_putRight 25 = .ok (.aload_n 0, 1) := by decide +kernel
theorem dX3_putRight_26 : decode cX3_putRight 26 = .ok (.getfield 18, 3) := by decide +kernel
theorem dX3_putRight_29 : decode cX3_putRight 29 = .ok (.iload_n 1, 1) := by decide +kernel
theorem dX3_putRight_30 : decode cX3_putRight 30 = .ok (.iconst 0, 1) := by decide +kernel
theorem dX3_putRight_31 : decode cX3_putRight 31 = .ok (.invokestatic 102, 3) := by decide +kernel
theorem dX3_putRight_34 : decode cX3_putRight 34 = .ok (.aload_n 0, 1) := by decide +kernel
theorem dX3_putRight_35 : decode cX3_putRight 35 = .ok (.getfield 24, 3) := by decide +kernel
theorem dX3_putRight_38 : decode cX3_putRight 38 = .ok (.iload_n 1, 1) := by decide +kernel
theorem dX3_putRight_39 : decode cX3_putRight 39 = .ok (.iconst (-1), 1) := by decide +kernel
theorem dX3_putRight_40 : decode cX3_putRight 40 = .ok (.invokestatic 109, 3) := by decide +kernel
theorem dX3_putRight_43 : decode cX3_putRight 43 = .ok (.return_, 1) := by decide +kernel
def f_X3_putRight (x0 : Nat) (x1 : Int32) (M : Mm) : Option (Mm) :=
  bd (f_X9_at (x0 + 6) x1 M) fun v10_2 M10_1 => bv (f_X9_put (x0 + 1) x1 v10_2 M10_1) fun M13_3 => bv (f_X9_put (x0 + 2) x1 (nI 0) M13_3) fun M22_5 => bv (f_X9_put (x0 + 3) x1 (nI 0) M22_5) fun M31_7 => bv (f_X9_add (x0 + 5) x1 (-1 : Int32) M31_7) fun M40_9 => some M40_9
set_option maxHeartbeats 4000000 in
set_option maxRecDepth 100000 in
theorem s_X3_putRight {l : Launch} {B : BT} (hA : bA B = false) {d : Nat} {M' : Mm} {x0 : Nat} {x1 : Int32} {M : Mm} (hx0 : LY x0 = .inl (3, fk3)) (h : f_X3_putRight x0 x1 M = some M') : Con l B LY (d + 2) yX3_putRight cX3_putRight 2 none 0 0 [.ref x0, .int x1] 97 M (PV M') := by
  refine con_of (by decide) (Nat.le_of_ble_eq_true rfl) ?_
  show GG l B LY (d + 2) yX3_putRight cX3_putRight 2 none 0 0 (PV M') 97 0 0 0 [(0, .ref x0), (1, .int x1)] [] M
  rw [f_X3_putRight] at h
  refine g_aload_n dX3_putRight_0 rfl 0 rfl ?_
  refine m_getr (k := 0) okX3 hx0 rfl (by decide) w_259 rfl dX3_putRight_1 ?_
  refine g_iload_n dX3_putRight_4 rfl 1 rfl ?_
  refine g_aload_n dX3_putRight_5 rfl 0 rfl ?_
  refine m_getr (k := 5) okX3 hx0 rfl (by decide) w_273 rfl dX3_putRight_6 ?_
  refine g_iload_n dX3_putRight_9 rfl 1 rfl ?_
  obtain ⟨v10_2, M10_1, eM10_1, h⟩ := bd_e h
  refine m_callNi (As := [.ref (x0 + 6), .int x1]) (st := [.int x1, .ref (x0 + 1)]) (s_X9_at (d := d + 1) hA (al_of (aX3_6 hx0)) eM10_1) ck_X9_at (host := "StillYard") (List.mem_of_getElem? (i := 19) rfl) rfl (Nat.le_of_ble_eq_true rfl) dX3_putRight_10 ?_
  obtain ⟨M13_3, eM13_3, h⟩ := bv_e h
  refine m_callNv (As := [.ref (x0 + 1), .int x1, .int v10_2]) (st := []) (s_X9_put (d := d + 1) hA (al_of (aX3_1 hx0)) eM13_3) ck_X9_put (host := "StillYard") (List.mem_of_getElem? (i := 17) rfl) rfl (Nat.le_of_ble_eq_true rfl) dX3_putRight_13 ?_
  refine g_aload_n dX3_putRight_16 rfl 0 rfl ?_
  refine m_getr (k := 1) okX3 hx0 rfl (by decide) w_263 rfl dX3_putRight_17 ?_
  refine g_iload_n dX3_putRight_20 rfl 1 rfl ?_
  refine g_iconst (v := (nI 0)) dX3_putRight_21 (by decide) ?_
  obtain ⟨M22_5, eM22_5, h⟩ := bv_e h
  refine m_callNv (As := [.ref (x0 + 2), .int x1, .int (nI 0)]) (st := []) (s_X9_put (d := d + 1) hA (al_of (aX3_2 hx0)) eM22_5) ck_X9_put (host := "StillYard") (List.mem_of_getElem? (i := 17) rfl) rfl (Nat.le_of_ble_eq_true rfl) dX3_putRight_22 ?_
  refine g_aload_n dX3_putRight_25 rfl 0 rfl ?_
  refine m_getr (k := 2) okX3 hx0 rfl (by decide) w_265 rfl dX3_putRight_26 ?_
  refine g_iload_n dX3_putRight_29 rfl 1 rfl ?_
  refine g_iconst (v := (nI 0)) dX3_putRight_30 (by decide) ?_
  obtain ⟨M31_7, eM31_7, h⟩ := bv_e h
  refine m_callNv (As := [.ref (x0 + 3), .int x1, .int (nI 0)]) (st := []) (s_X9_put (d := d + 1) hA (al_of (aX3_3 hx0)) eM31_7) ck_X9_put (host := "StillYard") (List.mem_of_getElem? (i := 17) rfl) rfl (Nat.le_of_ble_eq_true rfl) dX3_putRight_31 ?_
  refine g_aload_n dX3_putRight_34 rfl 0 rfl ?_
  refine m_getr (k := 4) okX3 hx0 rfl (by decide) w_270 rfl dX3_putRight_35 ?_
  refine g_iload_n dX3_putRight_38 rfl 1 rfl ?_
  refine g_iconst (v := (-1 : Int32)) dX3_putRight_39 (by decide) ?_
  obtain ⟨M40_9, eM40_9, h⟩ := bv_e h
  refine m_callNv (As := [.ref (x0 + 5), .int x1, .int (-1 : Int32)]) (st := []) (s_X9_add (d := d + 0) hA (al_of (aX3_5 hx0)) eM40_9) ck_X9_add (host := "StillYard") (List.mem_of_getElem? (i := 18) rfl) rfl (Nat.le_of_ble_eq_true rfl) dX3_putRight_40 ?_
  exact g_vret rfl (pv_of h) dX3_putRight_43
theorem ck_X3_putRight : CKV yX3_putRight cX3_putRight 2 none 1 := ⟨⟨by decide, by decide, by decide +kernel⟩, w_831, w_76, ⟨w_829, w_830⟩, by decide⟩
theorem dX3_partSaid_0 : decode cX3_partSaid 0 = .ok (.aload_n 1, 1) := by decide +kernel
theorem dX3_partSaid_1 : decode cX3_partSaid 1 = .ok (.aload_n 0, 1) := by decide +kernel
theorem dX3_partSaid_2 : decode cX3_partSaid 2 = .ok (.invokevirtual 75, 3) := by decide +kernel
theorem dX3_partSaid_5 : decode cX3_partSaid 5 = .ok (.ifCond .eq 12, 3) := by decide +kernel
theorem dX3_partSaid_8 : decode cX3_partSaid 8 = .ok (.aload_n 0, 1) := by decide +kernel
theorem dX3_partSaid_9 : decode cX3_partSaid 9 = .ok (.getfield 50, 3) := by decide +kernel
theorem dX3_partSaid_12 : decode cX3_partSaid 12 = .ok (.iconst 1, 1) := by decide +kernel
theorem dX3_partSaid_13 : decode cX3_partSaid 13 = .ok (.isub, 1) := by decide +kernel
theorem dX3_partSaid_14 : decode cX3_partSaid 14 = .ok (.goto 7, 3) := by decide +kernel
theorem dX3_partSaid_17 : decode cX3_partSaid 17 = .ok (.aload_n 0, 1) := by decide +kernel
theorem dX3_partSaid_18 : decode cX3_partSaid 18 = .ok (.getfield 50, 3) := by decide +kernel
theorem dX3_partSaid_21 : decode cX3_partSaid 21 = .ok (.invokevirtual 126, 3) := by decide +kernel
theorem dX3_partSaid_24 : decode cX3_partSaid 24 = .ok (.ireturn, 1) := by decide +kernel
def f_X3_partSaid (x0 : Nat) (x1 : Nat) (M : Mm) : Option (Int32 × Mm) :=
  bd (f_X3_isOver x0 M) fun v2_2 M2_1 => jn (fun (s3 : Int32) (M4 : Mm) => bd (f_X0_partOf x1 s3 M4) fun v21_7 M21_6 => some (v21_7, M21_6)) fun j5 => if v2_2 = 0 then (j5 (M2_1 x0 10) M2_1) else (j5 ((M2_1 x0 10) - (nI 1)) M2_1)
set_option maxHeartbeats 4000000 in
set_option maxRecDepth 100000 in
theorem s_X3_partSaid {l : Launch} {B : BT} (hA : bA B = false) {d : Nat} {r : Int32} {M' : Mm} {x0 : Nat} {x1 : Nat} {M : Mm} (hx0 : LY x0 = .inl (3, fk3)) (hx1 : LY x1 = .inl (0, fk0)) (h : f_X3_partSaid x0 x1 M = some (r, M')) : Con l B LY (d + 2) yX3_partSaid cX3_partSaid 2 (some .int) 0 0 [.ref x0, .ref x1] 97 M (PI r M') := by
  refine con_of (by decide) (Nat.le_of_ble_eq_true rfl) ?_
  show GG l B LY (d + 2) yX3_partSaid cX3_partSaid 2 (some .int) 0 0 (PI r M') 97 0 0 0 [(0, .ref x0), (1, .ref x1)] [] M
  rw [f_X3_partSaid] at h
  refine g_aload_n dX3_partSaid_0 rfl 1 rfl ?_
  refine g_aload_n dX3_partSaid_1 rfl 0 rfl ?_
  obtain ⟨v2_2, M2_1, eM2_1, h⟩ := bd_e h
  refine m_callVi (As := []) (st := [.ref x1]) (s_X3_isOver (d := d + 1) hA hx0 eM2_1) hx0 okX3 ck_X3_isOver w_760 rfl (Nat.le_of_ble_eq_true rfl) dX3_partSaid_2 ?_
  obtain ⟨j5, ej5, h⟩ := jn_e h
  have hj5 : ∀ (s3 : Int32) (M4 : Mm), j5 s3 M4 = some (r, M') → GG l B LY (d + 2) yX3_partSaid cX3_partSaid 2 (some .int) 0 0 (PI r M') 97 0 0 21 [] [.int s3, .ref x1] M4 := by
    intro s3 M4 h
    rw [ej5] at h
    obtain ⟨v21_7, M21_6, eM21_6, h⟩ := bd_e h
    refine m_callVi (As := [.int s3]) (st := []) (s_X0_partOf (d := d + 0) hA hx1 eM21_6) hx1 okX0 ck_X0_partOf w_765 rfl (Nat.le_of_ble_eq_true rfl) dX3_partSaid_21 ?_
    exact g_zret rfl rfl (pi_of h) dX3_partSaid_24
  refine g_if_eq (tgt := 17) dX3_partSaid_5 (by decide) (fun c8 => ?_) (fun c8 => ?_)
  · replace h := ite_p c8 h
    refine g_aload_n dX3_partSaid_17 rfl 0 rfl ?_
    refine m_geti (k := 10) okX3 hx0 rfl (by decide) w_280 rfl dX3_partSaid_18 ?_
    refine g_sub [] (lv' := []) rfl ?_
    exact hj5 _ _ h
  · replace h := ite_n c8 h
    refine g_aload_n dX3_partSaid_8 rfl 0 rfl ?_
    refine m_geti (k := 10) okX3 hx0 rfl (by decide) w_280 rfl dX3_partSaid_9 ?_
    refine g_iconst (v := (nI 1)) dX3_partSaid_12 (by decide) ?_
    refine g_isub dX3_partSaid_13 ?_
    refine g_goto (tgt := 21) dX3_partSaid_14 (by decide) ?_
    refine g_sub [] (lv' := []) rfl ?_
    exact hj5 _ _ h
theorem ck_X3_partSaid : CKV yX3_partSaid cX3_partSaid 2 (some .int) 1 := ⟨⟨by decide, by decide, by decide +kernel⟩, w_844, w_76, ⟨w_842, w_843⟩, by decide⟩
theorem dX3_syllableSaid_0 : decode cX3_syllableSaid 0 = .ok (.aload_n 0, 1) := by decide +kernel
theorem dX3_syllableSaid_1 : decode cX3_syllableSaid 1 = .ok (.aload_n 1, 1) := by decide +kernel
theorem dX3_syllableSaid_2 : decode cX3_syllableSaid 2 = .ok (.invokevirtual 163, 3) := by decide +kernel
theorem dX3_syllableSaid_5 : decode cX3_syllableSaid 5 = .ok (.istore_n 2, 1) := by decide +kernel
theorem dX3_syllableSaid_6 : decode cX3_syllableSaid 6 = .ok (.aload_n 1, 1) := by decide +kernel
theorem dX3_syllableSaid_7 : decode cX3_syllableSaid 7 = .ok (.getfield 166, 3) := by decide +kernel
theorem dX3_syllableSaid_10 : decode cX3_syllableSaid 10 = .ok (.iload_n 2, 1) := by decide +kernel
theorem dX3_syllableSaid_11 : decode cX3_syllableSaid 11 = .ok (.invokestatic 112, 3) := by decide +kernel
theorem dX3_syllableSaid_14 : decode cX3_syllableSaid 14 = .ok (.iconst 1, 1) := by decide +kernel
theorem dX3_syllableSaid_15 : decode cX3_syllableSaid 15 = .ok (.isub, 1) := by decide +kernel
theorem dX3_syllableSaid_16 : decode cX3_syllableSaid 16 = .ok (.istore_n 3, 1) := by decide +kernel
theorem dX3_syllableSaid_17 : decode cX3_syllableSaid 17 = .ok (.aload_n 0, 1) := by decide +kernel
theorem dX3_syllableSaid_18 : decode cX3_syllableSaid 18 = .ok (.getfield 50, 3) := by decide +kernel
theorem dX3_syllableSaid_21 : decode cX3_syllableSaid 21 = .ok (.aload_n 1, 1) := by decide +kernel
theorem dX3_syllableSaid_22 : decode cX3_syllableSaid 22 = .ok (.iload_n 2, 1) := by decide +kernel
theorem dX3_syllableSaid_23 : decode cX3_syllableSaid 23 = .ok (.iconst 1, 1) := by decide +kernel
theorem dX3_syllableSaid_24 : decode cX3_syllableSaid 24 = .ok (.isub, 1) := by decide +kernel
theorem dX3_syllableSaid_25 : decode cX3_syllableSaid 25 = .ok (.invokevirtual 130, 3) := by decide +kernel
theorem dX3_syllableSaid_28 : decode cX3_syllableSaid 28 = .ok (.isub, 1) := by decide +kernel
theorem dX3_syllableSaid_29 : decode cX3_syllableSaid 29 = .ok (.istore 4, 2) := by decide +kernel
theorem dX3_syllableSaid_31 : decode cX3_syllableSaid 31 = .ok (.iconst 0, 1) := by decide +kernel
theorem dX3_syllableSaid_32 : decode cX3_syllableSaid 32 = .ok (.istore 5, 2) := by decide +kernel
theorem dX3_syllableSaid_34 : decode cX3_syllableSaid 34 = .ok (.iload 5, 2) := by decide +kernel
theorem dX3_syllableSaid_36 : decode cX3_syllableSaid 36 = .ok (.iload_n 3, 1) := by decide +kernel
theorem dX3_syllableSaid_37 : decode cX3_syllableSaid 37 = .ok (.if_icmp .ge 33, 3) := by decide +kernel
theorem dX3_syllableSaid_40 : decode cX3_syllableSaid 40 = .ok (.iload 4, 2) := by decide +kernel
theorem dX3_syllableSaid_42 : decode cX3_syllableSaid 42 = .ok (.aload_n 1, 1) := by decide +kernel
theorem dX3_syllableSaid_43 : decode cX3_syllableSaid 43 = .ok (.iload_n 2, 1) := by decide +kernel
theorem dX3_syllableSaid_44 : decode cX3_syllableSaid 44 = .ok (.iload 5, 2) := by decide +kernel
theorem dX3_syllableSaid_46 : decode cX3_syllableSaid 46 = .ok (.invokevirtual 169, 3) := by decide +kernel
theorem dX3_syllableSaid_49 : decode cX3_syllableSaid 49 = .ok (.if_icmp .lt 21, 3) := by decide +kernel
theorem dX3_syllableSaid_52 : decode cX3_syllableSaid 52 = .ok (.iload 4, 2) := by decide +kernel
theorem dX3_syllableSaid_54 : decode cX3_syllableSaid 54 = .ok (.aload_n 1, 1) := by decide +kernel
theorem dX3_syllableSaid_55 : decode cX3_syllableSaid 55 = .ok (.iload_n 2, 1) := by decide +kernel
theorem dX3_syllableSaid_56 : decode cX3_syllableSaid 56 = .ok (.iload 5, 2) := by decide +kernel
theorem dX3_syllableSaid_58 : decode cX3_syllableSaid 58 = .ok (.invokevirtual 169, 3) := by decide +kernel
theorem dX3_syllableSaid_61 : decode cX3_syllableSaid 61 = .ok (.isub, 1) := by decide +kernel
theorem dX3_syllableSaid_62 : decode cX3_syllableSaid 62 = .ok (.istore 4, 2) := by decide +kernel
theorem dX3_syllableSaid_64 : decode cX3_syllableSaid 64 = .ok (.iinc 5 1, 3) := by decide +kernel
theorem dX3_syllableSaid_67 : decode cX3_syllableSaid 67 = .ok (.goto (-33), 3) := by decide +kernel
theorem dX3_syllableSaid_70 : decode cX3_syllableSaid 70 = .ok (.iload 5, 2) := by decide +kernel
theorem dX3_syllableSaid_72 : decode cX3_syllableSaid 72 = .ok (.ireturn, 1) := by decide +kernel
def lp_X3_syllableSaid_34 (y1 : Nat) (y2 : Int32) (y3 : Int32)  : Nat → Int32 → Int32 → Mm → Option (Int32 × Mm)
  | 0, _, _, _ => none
  | n + 1, y4, y5, M =>
    if y3 ≤ y5 then (some (y5, M)) else (bd (f_X0_syllable y1 y2 y5 M) fun v46_9 M46_8 => if y4 < v46_9 then (some (y5, M46_8)) else (bd (f_X0_syllable y1 y2 y5 M46_8) fun v58_11 M58_10 => lp_X3_syllableSaid_34 y1 y2 y3 n (y4 - v58_11) (y5 + (nI 1)) M58_10))
def f_X3_syllableSaid (x0 : Nat) (x1 : Nat) (M : Mm) : Option (Int32 × Mm) :=
  bd (f_X3_partSaid x0 x1 M) fun v2_2 M2_1 => bd (f_X9_at (x1 + 2) v2_2 M2_1) fun v11_4 M11_3 => bd (f_X0_endOf x1 (v2_2 - (nI 1)) M11_3) fun v25_6 M25_5 => lt (((M11_3 x0 10) - v25_6)) fun t7 => lp_X3_syllableSaid_34 x1 v2_2 (v11_4 - (nI 1))  N0 t7 (nI 0) M25_5
set_option maxHeartbeats 4000000 in
set_option maxRecDepth 100000 in
theorem sl_X3_syllableSaid_34 {l : Launch} {B : BT} (hA : bA B = false) {d : Nat} {r : Int32} {M' : Mm} {y1 : Nat} {y2 : Int32} {y3 : Int32} (hy1 : LY y1 = .inl (0, fk0))   :
    ∀ (n : Nat) (y4 : Int32) (y5 : Int32) (M : Mm), lp_X3_syllableSaid_34 y1 y2 y3 n y4 y5 M = some (r, M') → GG l B LY (d + 3) yX3_syllableSaid cX3_syllableSaid 6 (some .int) 0 0 (PI r M') 97 0 0 34 [(1, .ref y1), (2, .int y2), (3, .int y3), (4, .int y4), (5, .int y5)] [] M := by
  intro n
  induction n with
  | zero => intro y4 y5 M h; cases h
  | succ n ih =>
    intro y4 y5 M h
    rw [lp_X3_syllableSaid_34] at h
    refine g_iload dX3_syllableSaid_34 4 rfl ?_
    refine g_iload_n dX3_syllableSaid_36 rfl 2 rfl ?_
    refine g_icmp_ge (tgt := 70) dX3_syllableSaid_37 (by decide) (fun c13 => ?_) (fun c13 => ?_)
    · replace h := ite_p c13 h
      refine g_iload dX3_syllableSaid_70 4 rfl ?_
      exact g_zret rfl rfl (pi_of h) dX3_syllableSaid_72
    · replace h := ite_n c13 h
      refine g_iload dX3_syllableSaid_40 3 rfl ?_
      refine g_aload_n dX3_syllableSaid_42 rfl 0 rfl ?_
      refine g_iload_n dX3_syllableSaid_43 rfl 1 rfl ?_
      refine g_iload dX3_syllableSaid_44 4 rfl ?_
      obtain ⟨v46_9, M46_8, eM46_8, h⟩ := bd_e h
      refine m_callVi (As := [.int y2, .int y5]) (st := [.int y4]) (s_X0_syllable (d := d + 1) hA hy1 eM46_8) hy1 okX0 ck_X0_syllable w_850 rfl (Nat.le_of_ble_eq_true rfl) dX3_syllableSaid_46 ?_
      refine g_icmp_lt (tgt := 70) dX3_syllableSaid_49 (by decide) (fun c12 => ?_) (fun c12 => ?_)
      · replace h := ite_p c12 h
        refine g_iload dX3_syllableSaid_70 4 rfl ?_
        exact g_zret rfl rfl (pi_of h) dX3_syllableSaid_72
      · replace h := ite_n c12 h
        refine g_iload dX3_syllableSaid_52 3 rfl ?_
        refine g_aload_n dX3_syllableSaid_54 rfl 0 rfl ?_
        refine g_iload_n dX3_syllableSaid_55 rfl 1 rfl ?_
        refine g_iload dX3_syllableSaid_56 4 rfl ?_
        obtain ⟨v58_11, M58_10, eM58_10, h⟩ := bd_e h
        refine m_callVi (As := [.int y2, .int y5]) (st := [.int y4]) (s_X0_syllable (d := d + 1) hA hy1 eM58_10) hy1 okX0 ck_X0_syllable w_850 rfl (Nat.le_of_ble_eq_true rfl) dX3_syllableSaid_58 ?_
        refine g_isub dX3_syllableSaid_61 ?_
        refine g_istore (lv' := [(4, .int (y4 - v58_11)), (1, .ref y1), (2, .int y2), (3, .int y3), (5, .int y5)]) dX3_syllableSaid_62 (by decide) rfl ?_
        refine g_iinc (v := (y5 + (nI 1))) (lv' := [(5, .int (y5 + (nI 1))), (4, .int (y4 - v58_11)), (1, .ref y1), (2, .int y2), (3, .int y3)]) dX3_syllableSaid_64 4 rfl rfl (by decide) rfl ?_
        refine g_goto (tgt := 34) dX3_syllableSaid_67 (by decide) ?_
        refine g_sub [2, 3, 4, 1, 0] (lv' := [(1, .ref y1), (2, .int y2), (3, .int y3), (4, .int (y4 - v58_11)), (5, .int (y5 + (nI 1)))]) rfl ?_
        exact ih _ _  _ h
set_option maxHeartbeats 4000000 in
set_option maxRecDepth 100000 in
theorem s_X3_syllableSaid {l : Launch} {B : BT} (hA : bA B = false) {d : Nat} {r : Int32} {M' : Mm} {x0 : Nat} {x1 : Nat} {M : Mm} (hx0 : LY x0 = .inl (3, fk3)) (hx1 : LY x1 = .inl (0, fk0)) (h : f_X3_syllableSaid x0 x1 M = some (r, M')) : Con l B LY (d + 3) yX3_syllableSaid cX3_syllableSaid 6 (some .int) 0 0 [.ref x0, .ref x1] 97 M (PI r M') := by
  refine con_of (by decide) (Nat.le_of_ble_eq_true rfl) ?_
  show GG l B LY (d + 3) yX3_syllableSaid cX3_syllableSaid 6 (some .int) 0 0 (PI r M') 97 0 0 0 [(0, .ref x0), (1, .ref x1)] [] M
  rw [f_X3_syllableSaid] at h
  refine g_aload_n dX3_syllableSaid_0 rfl 0 rfl ?_
  refine g_aload_n dX3_syllableSaid_1 rfl 1 rfl ?_
  obtain ⟨v2_2, M2_1, eM2_1, h⟩ := bd_e h
  refine m_callVi (As := [.ref x1]) (st := []) (s_X3_partSaid (d := d + 0) hA hx0 hx1 eM2_1) hx0 okX3 ck_X3_partSaid w_849 rfl (Nat.le_of_ble_eq_true rfl) dX3_syllableSaid_2 ?_
  refine g_istore_n (lv' := [(2, .int v2_2), (0, .ref x0), (1, .ref x1)]) dX3_syllableSaid_5 rfl (by decide) rfl ?_
  refine g_aload_n dX3_syllableSaid_6 rfl 2 rfl ?_
  refine m_getr (k := 1) okX0 hx1 rfl (by decide) w_109 rfl dX3_syllableSaid_7 ?_
  refine g_iload_n dX3_syllableSaid_10 rfl 0 rfl ?_
  obtain ⟨v11_4, M11_3, eM11_3, h⟩ := bd_e h
  refine m_callNi (As := [.ref (x1 + 2), .int v2_2]) (st := []) (s_X9_at (d := d + 2) hA (al_of (aX0_2 hx1)) eM11_3) ck_X9_at (host := "StillYard") (List.mem_of_getElem? (i := 19) rfl) rfl (Nat.le_of_ble_eq_true rfl) dX3_syllableSaid_11 ?_
  refine g_iconst (v := (nI 1)) dX3_syllableSaid_14 (by decide) ?_
  refine g_isub dX3_syllableSaid_15 ?_
  refine g_istore_n (lv' := [(3, .int (v11_4 - (nI 1))), (2, .int v2_2), (0, .ref x0), (1, .ref x1)]) dX3_syllableSaid_16 rfl (by decide) rfl ?_
  refine g_aload_n dX3_syllableSaid_17 rfl 2 rfl ?_
  refine m_geti (k := 10) okX3 hx0 rfl (by decide) w_280 rfl dX3_syllableSaid_18 ?_
  refine g_aload_n dX3_syllableSaid_21 rfl 3 rfl ?_
  refine g_iload_n dX3_syllableSaid_22 rfl 1 rfl ?_
  refine g_iconst (v := (nI 1)) dX3_syllableSaid_23 (by decide) ?_
  refine g_isub dX3_syllableSaid_24 ?_
  obtain ⟨v25_6, M25_5, eM25_5, h⟩ := bd_e h
  refine m_callVi (As := [.int (v2_2 - (nI 1))]) (st := [.int (M11_3 x0 10)]) (s_X0_endOf (d := d + 2) hA hx1 eM25_5) hx1 okX0 ck_X0_endOf w_766 rfl (Nat.le_of_ble_eq_true rfl) dX3_syllableSaid_25 ?_
  refine g_isub dX3_syllableSaid_28 ?_
  obtain ⟨t7, et7, h⟩ := lt_e h
  refine g_cuti et7 ?_
  refine g_istore (lv' := [(4, .int t7), (3, .int (v11_4 - (nI 1))), (2, .int v2_2), (0, .ref x0), (1, .ref x1)]) dX3_syllableSaid_29 (by decide) rfl ?_
  refine g_iconst (v := (nI 0)) dX3_syllableSaid_31 (by decide) ?_
  refine g_istore (lv' := [(5, .int (nI 0)), (4, .int t7), (3, .int (v11_4 - (nI 1))), (2, .int v2_2), (0, .ref x0), (1, .ref x1)]) dX3_syllableSaid_32 (by decide) rfl ?_
  refine g_sub [5, 3, 2, 1, 0] (lv' := [(1, .ref x1), (2, .int v2_2), (3, .int (v11_4 - (nI 1))), (4, .int t7), (5, .int (nI 0))]) rfl ?_
  refine sl_X3_syllableSaid_34 hA hx1  _ _ _ _ h
theorem ck_X3_syllableSaid : CKV yX3_syllableSaid cX3_syllableSaid 6 (some .int) 1 := ⟨⟨by decide, by decide, by decide +kernel⟩, w_848, w_76, ⟨w_846, w_847⟩, by decide⟩
theorem dX3_tenthsOfSyllable_0 : decode cX3_tenthsOfSyllable 0 = .ok (.aload_n 0, 1) := by decide +kernel
theorem dX3_tenthsOfSyllable_1 : decode cX3_tenthsOfSyllable 1 = .ok (.aload_n 1, 1) := by decide +kernel
theorem dX3_tenthsOfSyllable_2 : decode cX3_tenthsOfSyllable 2 = .ok (.invokevirtual 163, 3) := by decide +kernel
theorem dX3_tenthsOfSyllable_5 : decode cX3_tenthsOfSyllable 5 = .ok (.istore_n 2, 1) := by decide +kernel
theorem dX3_tenthsOfSyllable_6 : decode cX3_tenthsOfSyllable 6 = .ok (.aload_n 0, 1) := by decide +kernel
theorem dX3_tenthsOfSyllable_7 : decode cX3_tenthsOfSyllable 7 = .ok (.getfield 50, 3) := by decide +kernel
theorem dX3_tenthsOfSyllable_10 : decode cX3_tenthsOfSyllable 10 = .ok (.aload_n 1, 1) := by decide +kernel
theorem dX3_tenthsOfSyllable_11 : decode cX3_tenthsOfSyllable 11 = .ok (.iload_n 2, 1) := by decide +kernel
theorem dX3_tenthsOfSyllable_12 : decode cX3_tenthsOfSyllable 12 = .ok (.iconst 1, 1) := by decide +kernel
theorem dX3_tenthsOfSyllable_13 : decode cX3_tenthsOfSyllable 13 = .ok (.isub, 1) := by decide +kernel
theorem dX3_tenthsOfSyllable_14 : decode cX3_tenthsOfSyllable 14 = .ok (.invokevirtual 130, 3) := by decide +kernel
theorem dX3_tenthsOfSyllable_17 : decode cX3_tenthsOfSyllable 17 = .ok (.isub, 1) := by decide +kernel
theorem dX3_tenthsOfSyllable_18 : decode cX3_tenthsOfSyllable 18 = .ok (.istore_n 3, 1) := by decide +kernel
theorem dX3_tenthsOfSyllable_19 : decode cX3_tenthsOfSyllable 19 = .ok (.aload_n 0, 1) := by decide +kernel
theorem dX3_tenthsOfSyllable_20 : decode cX3_tenthsOfSyllable 20 = .ok (.aload_n 1, 1) := by decide +kernel
theorem dX3_tenthsOfSyllable_21 : decode cX3_tenthsOfSyllable 21 = .ok (.invokevirtual 172, 3) := by decide +kernel
theorem dX3_tenthsOfSyllable_24 : decode cX3_tenthsOfSyllable 24 = .ok (.istore 4, 2) := by decide +kernel
theorem dX3_tenthsOfSyllable_26 : decode cX3_tenthsOfSyllable 26 = .ok (.iconst 0, 1) := by decide +kernel
theorem dX3_tenthsOfSyllable_27 : decode cX3_tenthsOfSyllable 27 = .ok (.istore 5, 2) := by decide +kernel
theorem dX3_tenthsOfSyllable_29 : decode cX3_tenthsOfSyllable 29 = .ok (.iload 5, 2) := by decide +kernel
theorem dX3_tenthsOfSyllable_31 : decode cX3_tenthsOfSyllable 31 = .ok (.iload 4, 2) := by decide +kernel
theorem dX3_tenthsOfSyllable_33 : decode cX3_tenthsOfSyllable 33 = .ok (.if_icmp .ge 19, 3) := by decide +kernel
theorem dX3_tenthsOfSyllable_36 : decode cX3_tenthsOfSyllable 36 = .ok (.iload_n 3, 1) := by decide +kernel
theorem dX3_tenthsOfSyllable_37 : decode cX3_tenthsOfSyllable 37 = .ok (.aload_n 1, 1) := by decide +kernel
theorem dX3_tenthsOfSyllable_38 : decode cX3_tenthsOfSyllable 38 = .ok (.iload_n 2, 1) := by decide +kernel
theorem dX3_tenthsOfSyllable_39 : decode cX3_tenthsOfSyllable 39 = .ok (.iload 5, 2) := by decide +kernel
theorem dX3_tenthsOfSyllable_41 : decode cX3_tenthsOfSyllable 41 = .ok (.invokevirtual 169, 3) := by decide +kernel
theorem dX3_tenthsOfSyllable_44 : decode cX3_tenthsOfSyllable 44 = .ok (.isub, 1) := by decide +kernel
theorem dX3_tenthsOfSyllable_45 : decode cX3_tenthsOfSyllable 45 = .ok (.istore_n 3, 1) := by decide +kernel
theorem dX3_tenthsOfSyllable_46 : decode cX3_tenthsOfSyllable 46 = .ok (.iinc 5 1, 3) := by decide +kernel
theorem dX3_tenthsOfSyllable_49 : decode cX3_tenthsOfSyllable 49 = .ok (.goto (-20), 3) := by decide +kernel
theorem dX3_tenthsOfSyllable_52 : decode cX3_tenthsOfSyllable 52 = .ok (.iload_n 3, 1) := by decide +kernel
theorem dX3_tenthsOfSyllable_53 : decode cX3_tenthsOfSyllable 53 = .ok (.ireturn, 1) := by decide +kernel
def lp_X3_tenthsOfSyllable_29 (y1 : Nat) (y2 : Int32) (y4 : Int32)  : Nat → Int32 → Int32 → Mm → Option (Int32 × Mm)
  | 0, _, _, _ => none
  | n + 1, y3, y5, M =>
    if y4 ≤ y5 then (some (y3, M)) else (bd (f_X0_syllable y1 y2 y5 M) fun v41_8 M41_7 => lp_X3_tenthsOfSyllable_29 y1 y2 y4 n (y3 - v41_8) (y5 + (nI 1)) M41_7)
def f_X3_tenthsOfSyllable (x0 : Nat) (x1 : Nat) (M : Mm) : Option (Int32 × Mm) :=
  bd (f_X3_partSaid x0 x1 M) fun v2_2 M2_1 => bd (f_X0_endOf x1 (v2_2 - (nI 1)) M2_1) fun v14_4 M14_3 => bd (f_X3_syllableSaid x0 x1 M14_3) fun v21_6 M21_5 => lp_X3_tenthsOfSyllable_29 x1 v2_2 v21_6  N0 ((M2_1 x0 10) - v14_4) (nI 0) M21_5
set_option maxHeartbeats 4000000 in
set_option maxRecDepth 100000 in
theorem sl_X3_tenthsOfSyllable_29 {l : Launch} {B : BT} (hA : bA B = false) {d : Nat} {r : Int32} {M' : Mm} {y1 : Nat} {y2 : Int32} {y4 : Int32} (hy1 : LY y1 = .inl (0, fk0))   :
    ∀ (n : Nat) (y3 : Int32) (y5 : Int32) (M : Mm), lp_X3_tenthsOfSyllable_29 y1 y2 y4 n y3 y5 M = some (r, M') → GG l B LY (d + 4) yX3_tenthsOfSyllable cX3_tenthsOfSyllable 6 (some .int) 0 0 (PI r M') 97 0 0 29 [(1, .ref y1), (2, .int y2), (3, .int y3), (4, .int y4), (5, .int y5)] [] M := by
  intro n
  induction n with
  | zero => intro y3 y5 M h; cases h
  | succ n ih =>
    intro y3 y5 M h
    rw [lp_X3_tenthsOfSyllable_29] at h
    refine g_iload dX3_tenthsOfSyllable_29 4 rfl ?_
    refine g_iload dX3_tenthsOfSyllable_31 3 rfl ?_
    refine g_icmp_ge (tgt := 52) dX3_tenthsOfSyllable_33 (by decide) (fun c9 => ?_) (fun c9 => ?_)
    · replace h := ite_p c9 h
      refine g_iload_n dX3_tenthsOfSyllable_52 rfl 2 rfl ?_
      exact g_zret rfl rfl (pi_of h) dX3_tenthsOfSyllable_53
    · replace h := ite_n c9 h
      refine g_iload_n dX3_tenthsOfSyllable_36 rfl 2 rfl ?_
      refine g_aload_n dX3_tenthsOfSyllable_37 rfl 0 rfl ?_
      refine g_iload_n dX3_tenthsOfSyllable_38 rfl 1 rfl ?_
      refine g_iload dX3_tenthsOfSyllable_39 4 rfl ?_
      obtain ⟨v41_8, M41_7, eM41_7, h⟩ := bd_e h
      refine m_callVi (As := [.int y2, .int y5]) (st := [.int y3]) (s_X0_syllable (d := d + 2) hA hy1 eM41_7) hy1 okX0 ck_X0_syllable w_850 rfl (Nat.le_of_ble_eq_true rfl) dX3_tenthsOfSyllable_41 ?_
      refine g_isub dX3_tenthsOfSyllable_44 ?_
      refine g_istore_n (lv' := [(3, .int (y3 - v41_8)), (1, .ref y1), (2, .int y2), (4, .int y4), (5, .int y5)]) dX3_tenthsOfSyllable_45 rfl (by decide) rfl ?_
      refine g_iinc (v := (y5 + (nI 1))) (lv' := [(5, .int (y5 + (nI 1))), (3, .int (y3 - v41_8)), (1, .ref y1), (2, .int y2), (4, .int y4)]) dX3_tenthsOfSyllable_46 4 rfl rfl (by decide) rfl ?_
      refine g_goto (tgt := 29) dX3_tenthsOfSyllable_49 (by decide) ?_
      refine g_sub [2, 3, 1, 4, 0] (lv' := [(1, .ref y1), (2, .int y2), (3, .int (y3 - v41_8)), (4, .int y4), (5, .int (y5 + (nI 1)))]) rfl ?_
      exact ih _ _  _ h
set_option maxHeartbeats 4000000 in
set_option maxRecDepth 100000 in
theorem s_X3_tenthsOfSyllable {l : Launch} {B : BT} (hA : bA B = false) {d : Nat} {r : Int32} {M' : Mm} {x0 : Nat} {x1 : Nat} {M : Mm} (hx0 : LY x0 = .inl (3, fk3)) (hx1 : LY x1 = .inl (0, fk0)) (h : f_X3_tenthsOfSyllable x0 x1 M = some (r, M')) : Con l B LY (d + 4) yX3_tenthsOfSyllable cX3_tenthsOfSyllable 6 (some .int) 0 0 [.ref x0, .ref x1] 97 M (PI r M') := by
  refine con_of (by decide) (Nat.le_of_ble_eq_true rfl) ?_
  show GG l B LY (d + 4) yX3_tenthsOfSyllable cX3_tenthsOfSyllable 6 (some .int) 0 0 (PI r M') 97 0 0 0 [(0, .ref x0), (1, .ref x1)] [] M
  rw [f_X3_tenthsOfSyllable] at h
  refine g_aload_n dX3_tenthsOfSyllable_0 rfl 0 rfl ?_
  refine g_aload_n dX3_tenthsOfSyllable_1 rfl 1 rfl ?_
  obtain ⟨v2_2, M2_1, eM2_1, h⟩ := bd_e h
  refine m_callVi (As := [.ref x1]) (st := []) (s_X3_partSaid (d := d + 1) hA hx0 hx1 eM2_1) hx0 okX3 ck_X3_partSaid w_849 rfl (Nat.le_of_ble_eq_true rfl) dX3_tenthsOfSyllable_2 ?_
  refine g_istore_n (lv' := [(2, .int v2_2), (0, .ref x0), (1, .ref x1)]) dX3_tenthsOfSyllable_5 rfl (by decide) rfl ?_
  refine g_aload_n dX3_tenthsOfSyllable_6 rfl 1 rfl ?_
  refine m_geti (k := 10) okX3 hx0 rfl (by decide) w_280 rfl dX3_tenthsOfSyllable_7 ?_
  refine g_aload_n dX3_tenthsOfSyllable_10 rfl 2 rfl ?_
  refine g_iload_n dX3_tenthsOfSyllable_11 rfl 0 rfl ?_
  refine g_iconst (v := (nI 1)) dX3_tenthsOfSyllable_12 (by decide) ?_
  refine g_isub dX3_tenthsOfSyllable_13 ?_
  obtain ⟨v14_4, M14_3, eM14_3, h⟩ := bd_e h
  refine m_callVi (As := [.int (v2_2 - (nI 1))]) (st := [.int (M2_1 x0 10)]) (s_X0_endOf (d := d + 3) hA hx1 eM14_3) hx1 okX0 ck_X0_endOf w_766 rfl (Nat.le_of_ble_eq_true rfl) dX3_tenthsOfSyllable_14 ?_
  refine g_isub dX3_tenthsOfSyllable_17 ?_
  refine g_istore_n (lv' := [(3, .int ((M2_1 x0 10) - v14_4)), (2, .int v2_2), (0, .ref x0), (1, .ref x1)]) dX3_tenthsOfSyllable_18 rfl (by decide) rfl ?_
  refine g_aload_n dX3_tenthsOfSyllable_19 rfl 2 rfl ?_
  refine g_aload_n dX3_tenthsOfSyllable_20 rfl 3 rfl ?_
  obtain ⟨v21_6, M21_5, eM21_5, h⟩ := bd_e h
  refine m_callVi (As := [.ref x1]) (st := []) (s_X3_syllableSaid (d := d + 0) hA hx0 hx1 eM21_5) hx0 okX3 ck_X3_syllableSaid w_858 rfl (Nat.le_of_ble_eq_true rfl) dX3_tenthsOfSyllable_21 ?_
  refine g_istore (lv' := [(4, .int v21_6), (3, .int ((M2_1 x0 10) - v14_4)), (2, .int v2_2), (0, .ref x0), (1, .ref x1)]) dX3_tenthsOfSyllable_24 (by decide) rfl ?_
  refine g_iconst (v := (nI 0)) dX3_tenthsOfSyllable_26 (by decide) ?_
  refine g_istore (lv' := [(5, .int (nI 0)), (4, .int v21_6), (3, .int ((M2_1 x0 10) - v14_4)), (2, .int v2_2), (0, .ref x0), (1, .ref x1)]) dX3_tenthsOfSyllable_27 (by decide) rfl ?_
  refine g_sub [5, 3, 2, 1, 0] (lv' := [(1, .ref x1), (2, .int v2_2), (3, .int ((M2_1 x0 10) - v14_4)), (4, .int v21_6), (5, .int (nI 0))]) rfl ?_
  refine sl_X3_tenthsOfSyllable_29 hA hx1  _ _ _ _ h
theorem ck_X3_tenthsOfSyllable : CKV yX3_tenthsOfSyllable cX3_tenthsOfSyllable 6 (some .int) 1 := ⟨⟨by decide, by decide, by decide +kernel⟩, w_857, w_76, ⟨w_855, w_856⟩, by decide⟩
theorem dX3_caughtBits_0 : decode cX3_caughtBits 0 = .ok (.iconst 0, 1) := by decide +kernel
theorem dX3_caughtBits_1 : decode cX3_caughtBits 1 = .ok (.istore_n 2, 1) := by decide +kernel
theorem dX3_caughtBits_2 : decode cX3_caughtBits 2 = .ok (.iconst 0, 1) := by decide +kernel
theorem dX3_caughtBits_3 : decode cX3_caughtBits 3 = .ok (.istore_n 3, 1) := by decide +kernel
theorem dX3_caughtBits_4 : decode cX3_caughtBits 4 = .ok (.iload_n 3, 1) := by decide +kernel
theorem dX3_caughtBits_5 : decode cX3_caughtBits 5 = .ok (.aload_n 1, 1) := by decide +kernel
theorem dX3_caughtBits_6 : decode cX3_caughtBits 6 = .ok (.getfield 93, 3) := by decide +kernel
theorem dX3_caughtBits_9 : decode cX3_caughtBits 9 = .ok (.if_icmp .ge 46, 3) := by decide +kernel
theorem dX3_caughtBits_12 : decode cX3_caughtBits 12 = .ok (.aload_n 0, 1) := by decide +kernel
theorem dX3_caughtBits_13 : decode cX3_caughtBits 13 = .ok (.invokevirtual 75, 3) := by decide +kernel
theorem dX3_caughtBits_16 : decode cX3_caughtBits 16 = .ok (.ifCond .eq 33, 3) := by decide +kernel
theorem dX3_caughtBits_19 : decode cX3_caughtBits 19 = .ok (.iload_n 3, 1) := by decide +kernel
theorem dX3_caughtBits_20 : decode cX3_caughtBits 20 = .ok (.aload_n 0, 1) := by decide +kernel
theorem dX3_caughtBits_21 : decode cX3_caughtBits 21 = .ok (.getfield 39, 3) := by decide +kernel
theorem dX3_caughtBits_24 : decode cX3_caughtBits 24 = .ok (.if_icmp .eq 25, 3) := by decide +kernel
theorem dX3_caughtBits_27 : decode cX3_caughtBits 27 = .ok (.aload_n 1, 1) := by decide +kernel
theorem dX3_caughtBits_28 : decode cX3_caughtBits 28 = .ok (.iload_n 3, 1) := by decide +kernel
theorem dX3_caughtBits_29 : decode cX3_caughtBits 29 = .ok (.aload_n 0, 1) := by decide +kernel
theorem dX3_caughtBits_30 : decode cX3_caughtBits 30 = .ok (.getfield 9, 3) := by decide +kernel
theorem dX3_caughtBits_33 : decode cX3_caughtBits 33 = .ok (.iload_n 3, 1) := by decide +kernel
theorem dX3_caughtBits_34 : decode cX3_caughtBits 34 = .ok (.invokestatic 112, 3) := by decide +kernel
theorem dX3_caughtBits_37 : decode cX3_caughtBits 37 = .ok (.invokevirtual 175, 3) := by decide +kernel
theorem dX3_caughtBits_40 : decode cX3_caughtBits 40 = .ok (.ifCond .eq 9, 3) := by decide +kernel
theorem dX3_caughtBits_43 : decode cX3_caughtBits 43 = .ok (.iload_n 2, 1) := by decide +kernel
theorem dX3_caughtBits_44 : decode cX3_caughtBits 44 = .ok (.iconst 1, 1) := by decide +kernel
theorem dX3_caughtBits_45 : decode cX3_caughtBits 45 = .ok (.iload_n 3, 1) := by decide +kernel
theorem dX3_caughtBits_46 : decode cX3_caughtBits 46 = .ok (.ishl, 1) := by decide +kernel
theorem dX3_caughtBits_47 : decode cX3_caughtBits 47 = .ok (.ior, 1) := by decide +kernel
theorem dX3_caughtBits_48 : decode cX3_caughtBits 48 = .ok (.istore_n 2, 1) := by decide +kernel
theorem dX3_caughtBits_49 : decode cX3_caughtBits 49 = .ok (.iinc 3 1, 3) := by decide +kernel
theorem dX3_caughtBits_52 : decode cX3_caughtBits 52 = .ok (.goto (-48), 3) := by decide +kernel
theorem dX3_caughtBits_55 : decode cX3_caughtBits 55 = .ok (.iload_n 2, 1) := by decide +kernel
theorem dX3_caughtBits_56 : decode cX3_caughtBits 56 = .ok (.ireturn, 1) := by decide +kernel
def lp_X3_caughtBits_4 (y0 : Nat) (y1 : Nat)  : Nat → Int32 → Int32 → Mm → Option (Int32 × Mm)
  | 0, _, _, _ => none
  | n + 1, y2, y3, M =>
    if (M y1 14) ≤ y3 then (some (y2, M)) else (bd (f_X3_isOver y0 M) fun v13_2 M13_1 => jn (fun (u3 : Int32) (M4 : Mm) => lp_X3_caughtBits_4 y0 y1 n u3 (y3 + (nI 1)) M4) fun j5 => if v13_2 = 0 then (j5 y2 M13_1) else (if y3 = (M13_1 y0 14) then (j5 y2 M13_1) else (bd (f_X9_at (y0 + 1) y3 M13_1) fun v34_7 M34_6 => bd (f_X0_isCaughtFrom y1 y3 v34_7 M34_6) fun v37_9 M37_8 => if v37_9 = 0 then (j5 y2 M37_8) else (lt ((y2 ||| ((nI 1) <<< (y3 &&& 31)))) fun t10 => j5 t10 M37_8))))
def f_X3_caughtBits (x0 : Nat) (x1 : Nat) (M : Mm) : Option (Int32 × Mm) :=
  lp_X3_caughtBits_4 x0 x1  N0 (nI 0) (nI 0) M
set_option maxHeartbeats 4000000 in
set_option maxRecDepth 100000 in
theorem sl_X3_caughtBits_4 {l : Launch} {B : BT} (hA : bA B = false) {d : Nat} {r : Int32} {M' : Mm} {y0 : Nat} {y1 : Nat} (hy0 : LY y0 = .inl (3, fk3)) (hy1 : LY y1 = .inl (0, fk0))   :
    ∀ (n : Nat) (y2 : Int32) (y3 : Int32) (M : Mm), lp_X3_caughtBits_4 y0 y1 n y2 y3 M = some (r, M') → GG l B LY (d + 2) yX3_caughtBits cX3_caughtBits 4 (some .int) 0 0 (PI r M') 97 0 0 4 [(0, .ref y0), (1, .ref y1), (2, .int y2), (3, .int y3)] [] M := by
  intro n
  induction n with
  | zero => intro y2 y3 M h; cases h
  | succ n ih =>
    intro y2 y3 M h
    rw [lp_X3_caughtBits_4] at h
    refine g_iload_n dX3_caughtBits_4 rfl 3 rfl ?_
    refine g_aload_n dX3_caughtBits_5 rfl 1 rfl ?_
    refine m_geti (k := 14) okX0 hy1 rfl (by decide) w_154 rfl dX3_caughtBits_6 ?_
    refine g_icmp_ge (tgt := 55) dX3_caughtBits_9 (by decide) (fun c14 => ?_) (fun c14 => ?_)
    · replace h := ite_p c14 h
      refine g_iload_n dX3_caughtBits_55 rfl 2 rfl ?_
      exact g_zret rfl rfl (pi_of h) dX3_caughtBits_56
    · replace h := ite_n c14 h
      refine g_aload_n dX3_caughtBits_12 rfl 0 rfl ?_
      obtain ⟨v13_2, M13_1, eM13_1, h⟩ := bd_e h
      refine m_callVi (As := []) (st := []) (s_X3_isOver (d := d + 1) hA hy0 eM13_1) hy0 okX3 ck_X3_isOver w_760 rfl (Nat.le_of_ble_eq_true rfl) dX3_caughtBits_13 ?_
      obtain ⟨j5, ej5, h⟩ := jn_e h
      have hj5 : ∀ (u3 : Int32) (M4 : Mm), j5 u3 M4 = some (r, M') → GG l B LY (d + 2) yX3_caughtBits cX3_caughtBits 4 (some .int) 0 0 (PI r M') 97 0 0 49 [(0, .ref y0), (1, .ref y1), (2, .int u3), (3, .int y3)] [] M4 := by
        intro u3 M4 h
        rw [ej5] at h
        refine g_iinc (v := (y3 + (nI 1))) (lv' := [(3, .int (y3 + (nI 1))), (0, .ref y0), (1, .ref y1), (2, .int u3)]) dX3_caughtBits_49 3 rfl rfl (by decide) rfl ?_
        refine g_goto (tgt := 4) dX3_caughtBits_52 (by decide) ?_
        refine g_sub [1, 2, 3, 0] (lv' := [(0, .ref y0), (1, .ref y1), (2, .int u3), (3, .int (y3 + (nI 1)))]) rfl ?_
        exact ih _ _  _ h
      refine g_if_eq (tgt := 49) dX3_caughtBits_16 (by decide) (fun c13 => ?_) (fun c13 => ?_)
      · replace h := ite_p c13 h
        refine g_sub [0, 1, 2, 3] (lv' := [(0, .ref y0), (1, .ref y1), (2, .int y2), (3, .int y3)]) rfl ?_
        exact hj5 _ _ h
      · replace h := ite_n c13 h
        refine g_iload_n dX3_caughtBits_19 rfl 3 rfl ?_
        refine g_aload_n dX3_caughtBits_20 rfl 0 rfl ?_
        refine m_geti (k := 14) okX3 hy0 rfl (by decide) w_289 rfl dX3_caughtBits_21 ?_
        refine g_icmp_eq (tgt := 49) dX3_caughtBits_24 (by decide) (fun c12 => ?_) (fun c12 => ?_)
        · replace h := ite_p c12 h
          refine g_sub [0, 1, 2, 3] (lv' := [(0, .ref y0), (1, .ref y1), (2, .int y2), (3, .int y3)]) rfl ?_
          exact hj5 _ _ h
        · replace h := ite_n c12 h
          refine g_aload_n dX3_caughtBits_27 rfl 1 rfl ?_
          refine g_iload_n dX3_caughtBits_28 rfl 3 rfl ?_
          refine g_aload_n dX3_caughtBits_29 rfl 0 rfl ?_
          refine m_getr (k := 0) okX3 hy0 rfl (by decide) w_259 rfl dX3_caughtBits_30 ?_
          refine g_iload_n dX3_caughtBits_33 rfl 3 rfl ?_
          obtain ⟨v34_7, M34_6, eM34_6, h⟩ := bd_e h
          refine m_callNi (As := [.ref (y0 + 1), .int y3]) (st := [.int y3, .ref y1]) (s_X9_at (d := d + 1) hA (al_of (aX3_1 hy0)) eM34_6) ck_X9_at (host := "StillYard") (List.mem_of_getElem? (i := 19) rfl) rfl (Nat.le_of_ble_eq_true rfl) dX3_caughtBits_34 ?_
          obtain ⟨v37_9, M37_8, eM37_8, h⟩ := bd_e h
          refine m_callVi (As := [.int y3, .int v34_7]) (st := []) (s_X0_isCaughtFrom (d := d + 0) hA hy1 eM37_8) hy1 okX0 ck_X0_isCaughtFrom w_863 rfl (Nat.le_of_ble_eq_true rfl) dX3_caughtBits_37 ?_
          refine g_if_eq (tgt := 49) dX3_caughtBits_40 (by decide) (fun c11 => ?_) (fun c11 => ?_)
          · replace h := ite_p c11 h
            refine g_sub [0, 1, 2, 3] (lv' := [(0, .ref y0), (1, .ref y1), (2, .int y2), (3, .int y3)]) rfl ?_
            exact hj5 _ _ h
          · replace h := ite_n c11 h
            refine g_iload_n dX3_caughtBits_43 rfl 2 rfl ?_
            refine g_iconst (v := (nI 1)) dX3_caughtBits_44 (by decide) ?_
            refine g_iload_n dX3_caughtBits_45 rfl 3 rfl ?_
            refine g_ishl dX3_caughtBits_46 ?_
            refine g_ior dX3_caughtBits_47 ?_
            obtain ⟨t10, et10, h⟩ := lt_e h
            refine g_cuti et10 ?_
            refine g_istore_n (lv' := [(2, .int t10), (0, .ref y0), (1, .ref y1), (3, .int y3)]) dX3_caughtBits_48 rfl (by decide) rfl ?_
            refine g_sub [1, 2, 0, 3] (lv' := [(0, .ref y0), (1, .ref y1), (2, .int t10), (3, .int y3)]) rfl ?_
            exact hj5 _ _ h
set_option maxHeartbeats 4000000 in
set_option maxRecDepth 100000 in
theorem s_X3_caughtBits {l : Launch} {B : BT} (hA : bA B = false) {d : Nat} {r : Int32} {M' : Mm} {x0 : Nat} {x1 : Nat} {M : Mm} (hx0 : LY x0 = .inl (3, fk3)) (hx1 : LY x1 = .inl (0, fk0)) (h : f_X3_caughtBits x0 x1 M = some (r, M')) : Con l B LY (d + 2) yX3_caughtBits cX3_caughtBits 4 (some .int) 0 0 [.ref x0, .ref x1] 97 M (PI r M') := by
  refine con_of (by decide) (Nat.le_of_ble_eq_true rfl) ?_
  show GG l B LY (d + 2) yX3_caughtBits cX3_caughtBits 4 (some .int) 0 0 (PI r M') 97 0 0 0 [(0, .ref x0), (1, .ref x1)] [] M
  rw [f_X3_caughtBits] at h
  refine g_iconst (v := (nI 0)) dX3_caughtBits_0 (by decide) ?_
  refine g_istore_n (lv' := [(2, .int (nI 0)), (0, .ref x0), (1, .ref x1)]) dX3_caughtBits_1 rfl (by decide) rfl ?_
  refine g_iconst (v := (nI 0)) dX3_caughtBits_2 (by decide) ?_
  refine g_istore_n (lv' := [(3, .int (nI 0)), (2, .int (nI 0)), (0, .ref x0), (1, .ref x1)]) dX3_caughtBits_3 rfl (by decide) rfl ?_
  refine g_sub [2, 3, 1, 0] (lv' := [(0, .ref x0), (1, .ref x1), (2, .int (nI 0)), (3, .int (nI 0))]) rfl ?_
  refine sl_X3_caughtBits_4 hA hx0 hx1  _ _ _ _ h
theorem ck_X3_caughtBits : CKV yX3_caughtBits cX3_caughtBits 4 (some .int) 1 := ⟨⟨by decide, by decide, by decide +kernel⟩, w_862, w_76, ⟨w_860, w_861⟩, by decide⟩
theorem dX4_count_0 : decode cX4_count 0 = .ok (.aload_n 0, 1) := by decide +kernel
theorem dX4_count_1 : decode cX4_count 1 = .ok (.dup, 1) := by decide +kernel
theorem dX4_count_2 : decode cX4_count 2 = .ok (.getfield 30, 3) := by decide +kernel
theorem dX4_count_5 : decode cX4_count 5 = .ok (.aload_n 0, 1) := by decide +kernel
theorem dX4_count_6 : decode cX4_count 6 = .ok (.getfield 12, 3) := by decide +kernel
theorem dX4_count_9 : decode cX4_count 9 = .ok (.getfield 53, 3) := by decide +kernel
theorem dX4_count_12 : decode cX4_count 12 = .ok (.iadd, 1) := by decide +kernel
theorem dX4_count_13 : decode cX4_count 13 = .ok (.putfield 30, 3) := by decide +kernel
theorem dX4_count_16 : decode cX4_count 16 = .ok (.aload_n 0, 1) := by decide +kernel
theorem dX4_count_17 : decode cX4_count 17 = .ok (.getfield 12, 3) := by decide +kernel
theorem dX4_count_20 : decode cX4_count 20 = .ok (.invokevirtual 41, 3) := by decide +kernel
theorem dX4_count_23 : decode cX4_count 23 = .ok (.ifCond .eq 28, 3) := by decide +kernel
theorem dX4_count_26 : decode cX4_count 26 = .ok (.aload_n 0, 1) := by decide +kernel
theorem dX4_count_27 : decode cX4_count 27 = .ok (.dup, 1) := by decide +kernel
theorem dX4_count_28 : decode cX4_count 28 = .ok (.getfield 26, 3) := by decide +kernel
theorem dX4_count_31 : decode cX4_count 31 = .ok (.iconst 1, 1) := by decide +kernel
theorem dX4_count_32 : decode cX4_count 32 = .ok (.iadd, 1) := by decide +kernel
theorem dX4_count_33 : decode cX4_count 33 = .ok (.putfield 26, 3) := by decide +kernel
theorem dX4_count_36 : decode cX4_count 36 = .ok (.aload_n 0, 1) := by decide +kernel
theorem dX4_count_37 : decode cX4_count 37 = .ok (.getfield 18, 3) := by decide +kernel
theorem dX4_count_40 : decode cX4_count 40 = .ok (.aload_n 0, 1) := by decide +kernel
theorem dX4_count_41 : decode cX4_count 41 = .ok (.getfield 12, 3) := by decide +kernel
theorem dX4_count_44 : decode cX4_count 44 = .ok (.getfield 54, 3) := by decide +kernel
theorem dX4_count_47 : decode cX4_count 47 = .ok (.iconst 1, 1) := by decide +kernel
theorem dX4_count_48 : decode cX4_count 48 = .ok (.invokestatic 57, 3) := by decide +kernel
theorem dX4_count_51 : decode cX4_count 51 = .ok (.iconst 0, 1) := by decide +kernel
theorem dX4_count_52 : decode cX4_count 52 = .ok (.istore_n 2, 1) := by decide +kernel
theorem dX4_count_53 : decode cX4_count 53 = .ok (.iload_n 2, 1) := by decide +kernel
theorem dX4_count_54 : decode cX4_count 54 = .ok (.aload_n 1, 1) := by decide +kernel
theorem dX4_count_55 : decode cX4_count 55 = .ok (.getfield 61, 3) := by decide +kernel
theorem dX4_count_58 : decode cX4_count 58 = .ok (.if_icmp .ge 41, 3) := by decide +kernel
theorem dX4_count_61 : decode cX4_count 61 = .ok (.aload_n 0, 1) := by decide +kernel
theorem dX4_count_62 : decode cX4_count 62 = .ok (.dup, 1) := by decide +kernel
theorem dX4_count_63 : decode cX4_count 63 = .ok (.getfield 33, 3) := by decide +kernel
theorem dX4_count_66 : decode cX4_count 66 = .ok (.aload_n 0, 1) := by decide +kernel
theorem dX4_count_67 : decode cX4_count 67 = .ok (.getfield 12, 3) := by decide +kernel
theorem dX4_count_70 : decode cX4_count 70 = .ok (.getfield 66, 3) := by decide +kernel
theorem dX4_count_73 : decode cX4_count 73 = .ok (.iload_n 2, 1) := by decide +kernel
theorem dX4_count_74 : decode cX4_count 74 = .ok (.invokestatic 69, 3) := by decide +kernel
theorem dX4_count_77 : decode cX4_count 77 = .ok (.aload_n 0, 1) := by decide +kernel
theorem dX4_count_78 : decode cX4_count 78 = .ok (.getfield 12, 3) := by decide +kernel
theorem dX4_count_81 : decode cX4_count 81 = .ok (.getfield 73, 3) := by decide +kernel
theorem dX4_count_84 : decode cX4_count 84 = .ok (.iload_n 2, 1) := by decide +kernel
theorem dX4_count_85 : decode cX4_count 85 = .ok (.invokestatic 69, 3) := by decide +kernel
theorem dX4_count_88 : decode cX4_count 88 = .ok (.iadd, 1) := by decide +kernel
theorem dX4_count_89 : decode cX4_count 89 = .ok (.iadd, 1) := by decide +kernel
theorem dX4_count_90 : decode cX4_count 90 = .ok (.putfield 33, 3) := by decide +kernel
theorem dX4_count_93 : decode cX4_count 93 = .ok (.iinc 2 1, 3) := by decide +kernel
theorem dX4_count_96 : decode cX4_count 96 = .ok (.goto (-43), 3) := by decide +kernel
theorem dX4_count_99 : decode cX4_count 99 = .ok (.return_, 1) := by decide +kernel
def lp_X4_count_53 (y1 : Nat)  : Nat → Int32 → Mm → Option (Mm)
  | 0, _, _ => none
  | n + 1, y2, M =>
    if (M y1 14) ≤ y2 then (some M) else (bd (f_X9_at 66 y2 M) fun v74_6 M74_5 => bd (f_X9_at 67 y2 M74_5) fun v85_8 M85_7 => lp_X4_count_53 y1 n (y2 + (nI 1)) (mset M85_7 61 4 ((M 61 4) + (v74_6 + v85_8))))
def f_X4_count (x1 : Nat) (M : Mm) : Option (Mm) :=
  bd (f_X3_isOver 62 (mset M 61 3 ((M 61 3) + (M 62 13)))) fun v20_2 M20_1 => jn (fun (M3 : Mm) => lp_X4_count_53 x1  N0 (nI 0) M3) fun j4 => if v20_2 = 0 then (j4  M20_1) else (bv (f_X9_add 72 ((mset M20_1 61 2 ((M20_1 61 2) + (nI 1))) 62 14) (nI 1) (mset M20_1 61 2 ((M20_1 61 2) + (nI 1)))) fun M48_10 => j4  M48_10)
set_option maxHeartbeats 4000000 in
set_option maxRecDepth 100000 in
theorem sl_X4_count_53 {l : Launch} {B : BT} (hA : bA B = false) {d : Nat} {M' : Mm} {y1 : Nat} (hy1 : LY y1 = .inl (0, fk0))   :
    ∀ (n : Nat) (y2 : Int32) (M : Mm), lp_X4_count_53 y1 n y2 M = some M' → GG l B LY (d + 2) yX4_count cX4_count 3 none 0 0 (PV M') 97 0 0 53 [(0, .ref 61), (1, .ref y1), (2, .int y2)] [] M := by
  intro n
  induction n with
  | zero => intro y2 M h; cases h
  | succ n ih =>
    intro y2 M h
    rw [lp_X4_count_53] at h
    refine g_iload_n dX4_count_53 rfl 2 rfl ?_
    refine g_aload_n dX4_count_54 rfl 1 rfl ?_
    refine m_geti (k := 14) okX0 hy1 rfl (by decide) w_151 rfl dX4_count_55 ?_
    refine g_icmp_ge (tgt := 99) dX4_count_58 (by decide) (fun c9 => ?_) (fun c9 => ?_)
    · replace h := ite_p c9 h
      exact g_vret rfl (pv_of h) dX4_count_99
    · replace h := ite_n c9 h
      refine g_aload_n dX4_count_61 rfl 0 rfl ?_
      refine g_dup dX4_count_62 rfl ?_
      refine m_geti (k := 4) okX4 rfl rfl (by decide) w_339 rfl dX4_count_63 ?_
      refine g_aload_n dX4_count_66 rfl 0 rfl ?_
      refine m_geta (k := 0) okX4 rfl rfl (by decide) w_332 rfl dX4_count_67 ?_
      refine m_getr (k := 3) okX3 rfl rfl (by decide) w_268 rfl dX4_count_70 ?_
      refine g_iload_n dX4_count_73 rfl 2 rfl ?_
      obtain ⟨v74_6, M74_5, eM74_5, h⟩ := bd_e h
      refine m_callNi (As := [.ref 66, .int y2]) (st := [.int (M 61 4), .ref 61]) (s_X9_at (d := d + 1) hA (al_of rfl) eM74_5) ck_X9_at (host := "StillYard") (List.mem_of_getElem? (i := 27) rfl) rfl (Nat.le_of_ble_eq_true rfl) dX4_count_74 ?_
      refine g_aload_n dX4_count_77 rfl 0 rfl ?_
      refine m_geta (k := 0) okX4 rfl rfl (by decide) w_332 rfl dX4_count_78 ?_
      refine m_getr (k := 4) okX3 rfl rfl (by decide) w_271 rfl dX4_count_81 ?_
      refine g_iload_n dX4_count_84 rfl 2 rfl ?_
      obtain ⟨v85_8, M85_7, eM85_7, h⟩ := bd_e h
      refine m_callNi (As := [.ref 67, .int y2]) (st := [.int v74_6, .int (M 61 4), .ref 61]) (s_X9_at (d := d + 1) hA (al_of rfl) eM85_7) ck_X9_at (host := "StillYard") (List.mem_of_getElem? (i := 27) rfl) rfl (Nat.le_of_ble_eq_true rfl) dX4_count_85 ?_
      refine g_iadd dX4_count_88 ?_
      refine g_iadd dX4_count_89 ?_
      refine m_puti (k := 4) okX4 rfl rfl (by decide) w_339 rfl rfl rfl dX4_count_90 ?_
      refine g_iinc (v := (y2 + (nI 1))) (lv' := [(2, .int (y2 + (nI 1))), (0, .ref 61), (1, .ref y1)]) dX4_count_93 2 rfl rfl (by decide) rfl ?_
      refine g_goto (tgt := 53) dX4_count_96 (by decide) ?_
      refine g_sub [1, 2, 0] (lv' := [(0, .ref 61), (1, .ref y1), (2, .int (y2 + (nI 1)))]) rfl ?_
      exact ih _  _ h
set_option maxHeartbeats 4000000 in
set_option maxRecDepth 100000 in
theorem s_X4_count {l : Launch} {B : BT} (hA : bA B = false) {d : Nat} {M' : Mm} {x1 : Nat} {M : Mm} (hx1 : LY x1 = .inl (0, fk0)) (h : f_X4_count x1 M = some M') : Con l B LY (d + 2) yX4_count cX4_count 3 none 0 0 [.ref 61, .ref x1] 97 M (PV M') := by
  refine con_of (by decide) (Nat.le_of_ble_eq_true rfl) ?_
  show GG l B LY (d + 2) yX4_count cX4_count 3 none 0 0 (PV M') 97 0 0 0 [(0, .ref 61), (1, .ref x1)] [] M
  rw [f_X4_count] at h
  refine g_aload_n dX4_count_0 rfl 0 rfl ?_
  refine g_dup dX4_count_1 rfl ?_
  refine m_geti (k := 3) okX4 rfl rfl (by decide) w_337 rfl dX4_count_2 ?_
  refine g_aload_n dX4_count_5 rfl 0 rfl ?_
  refine m_geta (k := 0) okX4 rfl rfl (by decide) w_332 rfl dX4_count_6 ?_
  refine m_geti (k := 13) okX3 rfl rfl (by decide) w_287 rfl dX4_count_9 ?_
  refine g_iadd dX4_count_12 ?_
  refine m_puti (k := 3) okX4 rfl rfl (by decide) w_337 rfl rfl rfl dX4_count_13 ?_
  refine g_aload_n dX4_count_16 rfl 0 rfl ?_
  refine m_geta (k := 0) okX4 rfl rfl (by decide) w_332 rfl dX4_count_17 ?_
  obtain ⟨v20_2, M20_1, eM20_1, h⟩ := bd_e h
  refine m_callVi (As := []) (st := []) (s_X3_isOver (d := d + 1) hA rfl eM20_1) rfl okX3 ck_X3_isOver w_1015 rfl (Nat.le_of_ble_eq_true rfl) dX4_count_20 ?_
  obtain ⟨j4, ej4, h⟩ := jn_e h
  have hj4 : ∀ (M3 : Mm), j4 M3 = some M' → GG l B LY (d + 2) yX4_count cX4_count 3 none 0 0 (PV M') 97 0 0 51 [(0, .ref 61), (1, .ref x1)] [] M3 := by
    intro M3 h
    rw [ej4] at h
    refine g_iconst (v := (nI 0)) dX4_count_51 (by decide) ?_
    refine g_istore_n (lv' := [(2, .int (nI 0)), (0, .ref 61), (1, .ref x1)]) dX4_count_52 rfl (by decide) rfl ?_
    refine g_sub [1, 2, 0] (lv' := [(0, .ref 61), (1, .ref x1), (2, .int (nI 0))]) rfl ?_
    refine sl_X4_count_53 hA hx1  _ _ _ h
  refine g_if_eq (tgt := 51) dX4_count_23 (by decide) (fun c12 => ?_) (fun c12 => ?_)
  · replace h := ite_p c12 h
    refine g_sub [0, 1] (lv' := [(0, .ref 61), (1, .ref x1)]) rfl ?_
    exact hj4  _ h
  · replace h := ite_n c12 h
    refine g_aload_n dX4_count_26 rfl 0 rfl ?_
    refine g_dup dX4_count_27 rfl ?_
    refine m_geti (k := 2) okX4 rfl rfl (by decide) w_335 rfl dX4_count_28 ?_
    refine g_iconst (v := (nI 1)) dX4_count_31 (by decide) ?_
    refine g_iadd dX4_count_32 ?_
    refine m_puti (k := 2) okX4 rfl rfl (by decide) w_335 rfl rfl rfl dX4_count_33 ?_
    refine g_aload_n dX4_count_36 rfl 0 rfl ?_
    refine m_getr (k := 1) okX4 rfl rfl (by decide) w_333 rfl dX4_count_37 ?_
    refine g_aload_n dX4_count_40 rfl 0 rfl ?_
    refine m_geta (k := 0) okX4 rfl rfl (by decide) w_332 rfl dX4_count_41 ?_
    refine m_geti (k := 14) okX3 rfl rfl (by decide) w_290 rfl dX4_count_44 ?_
    refine g_iconst (v := (nI 1)) dX4_count_47 (by decide) ?_
    obtain ⟨M48_10, eM48_10, h⟩ := bv_e h
    refine m_callNv (As := [.ref 72, .int ((mset M20_1 61 2 ((M20_1 61 2) + (nI 1))) 62 14), .int (nI 1)]) (st := []) (s_X9_add (d := d + 0) hA (al_of rfl) eM48_10) ck_X9_add (host := "StillYard") (List.mem_of_getElem? (i := 26) rfl) rfl (Nat.le_of_ble_eq_true rfl) dX4_count_48 ?_
    refine g_sub [0, 1] (lv' := [(0, .ref 61), (1, .ref x1)]) rfl ?_
    exact hj4  _ h
theorem ck_X4_count : CKV yX4_count cX4_count 3 none 1 := ⟨⟨by decide, by decide, by decide +kernel⟩, w_1020, w_77, ⟨w_1018, w_1019⟩, by decide⟩
theorem dX4_run_0 : decode cX4_run 0 = .ok (.aload_n 0, 1) := by decide +kernel
theorem dX4_run_1 : decode cX4_run 1 = .ok (.getfield 18, 3) := by decide +kernel
theorem dX4_run_4 : decode cX4_run 4 = .ok (.iconst 0, 1) := by decide +kernel
theorem dX4_run_5 : decode cX4_run 5 = .ok (.invokestatic 22, 3) := by decide +kernel
theorem dX4_run_8 : decode cX4_run 8 = .ok (.aload_n 0, 1) := by decide +kernel
theorem dX4_run_9 : decode cX4_run 9 = .ok (.iconst 0, 1) := by decide +kernel
theorem dX4_run_10 : decode cX4_run 10 = .ok (.putfield 26, 3) := by decide +kernel
theorem dX4_run_13 : decode cX4_run 13 = .ok (.aload_n 0, 1) := by decide +kernel
theorem dX4_run_14 : decode cX4_run 14 = .ok (.iconst 0, 1) := by decide +kernel
theorem dX4_run_15 : decode cX4_run 15 = .ok (.putfield 30, 3) := by decide +kernel
theorem dX4_run_18 : decode cX4_run 18 = .ok (.aload_n 0, 1) := by decide +kernel
theorem dX4_run_19 : decode cX4_run 19 = .ok (.iconst 0, 1) := by decide +kernel
theorem dX4_run_20 : decode cX4_run 20 = .ok (.putfield 33, 3) := by decide +kernel
theorem dX4_run_23 : decode cX4_run 23 = .ok (.iconst 0, 1) := by decide +kernel
theorem dX4_run_24 : decode cX4_run 24 = .ok (.istore 6, 2) := by decide +kernel
theorem dX4_run_26 : decode cX4_run 26 = .ok (.iload 6, 2) := by decide +kernel
theorem dX4_run_28 : decode cX4_run 28 = .ok (.iload_n 3, 1) := by decide +kernel
theorem dX4_run_29 : decode cX4_run 29 = .ok (.if_icmp .ge 65, 3) := by decide +kernel
theorem dX4_run_32 : decode cX4_run 32 = .ok (.aload_n 0, 1) := by decide +kernel
theorem dX4_run_33 : decode cX4_run 33 = .ok (.getfield 12, 3) := by decide +kernel
theorem dX4_run_36 : decode cX4_run 36 = .ok (.iload_n 2, 1) := by decide +kernel
theorem dX4_run_37 : decode cX4_run 37 = .ok (.iload 6, 2) := by decide +kernel
theorem dX4_run_39 : decode cX4_run 39 = .ok (.iadd, 1) := by decide +kernel
theorem dX4_run_40 : decode cX4_run 40 = .ok (.ldc 36, 2) := by decide +kernel
theorem dX4_run_42 : decode cX4_run 42 = .ok (.irem, 1) := by decide +kernel
theorem dX4_run_43 : decode cX4_run 43 = .ok (.invokevirtual 37, 3) := by decide +kernel
theorem dX4_run_46 : decode cX4_run 46 = .ok (.iconst 0, 1) := by decide +kernel
theorem dX4_run_47 : decode cX4_run 47 = .ok (.istore 7, 2) := by decide +kernel
theorem dX4_run_49 : decode cX4_run 49 = .ok (.iload 7, 2) := by decide +kernel
theorem dX4_run_51 : decode cX4_run 51 = .ok (.iload 4, 2) := by decide +kernel
theorem dX4_run_53 : decode cX4_run 53 = .ok (.if_icmp .ge 30, 3) := by decide +kernel
theorem dX4_run_56 : decode cX4_run 56 = .ok (.aload_n 0, 1) := by decide +kernel
theorem dX4_run_57 : decode cX4_run 57 = .ok (.getfield 12, 3) := by decide +kernel
theorem dX4_run_60 : decode cX4_run 60 = .ok (.invokevirtual 41, 3) := by decide +kernel
theorem dX4_run_63 : decode cX4_run 63 = .ok (.ifCond .ne 20, 3) := by decide +kernel
theorem dX4_run_66 : decode cX4_run 66 = .ok (.aload_n 0, 1) := by decide +kernel
theorem dX4_run_67 : decode cX4_run 67 = .ok (.getfield 12, 3) := by decide +kernel
theorem dX4_run_70 : decode cX4_run 70 = .ok (.aload_n 1, 1) := by decide +kernel
theorem dX4_run_71 : decode cX4_run 71 = .ok (.iload 5, 2) := by decide +kernel
theorem dX4_run_73 : decode cX4_run 73 = .ok (.invokevirtual 45, 3) := by decide +kernel
theorem dX4_run_76 : decode cX4_run 76 = .ok (.pop, 1) := by decide +kernel
theorem dX4_run_77 : decode cX4_run 77 = .ok (.iinc 7 1, 3) := by decide +kernel
theorem dX4_run_80 : decode cX4_run 80 = .ok (.goto (-31), 3) := by decide +kernel
theorem dX4_run_83 : decode cX4_run 83 = .ok (.aload_n 0, 1) := by decide +kernel
theorem dX4_run_84 : decode cX4_run 84 = .ok (.aload_n 1, 1) := by decide +kernel
theorem dX4_run_85 : decode cX4_run 85 = .ok (.invokevirtual 49, 3) := by decide +kernel
theorem dX4_run_88 : decode cX4_run 88 = .ok (.iinc 6 1, 3) := by decide +kernel
theorem dX4_run_91 : decode cX4_run 91 = .ok (.goto (-65), 3) := by decide +kernel
theorem dX4_run_94 : decode cX4_run 94 = .ok (.return_, 1) := by decide +kernel
def lp_X4_run_49 (y1 : Nat) (y2 : Int32) (y3 : Int32) (y4 : Int32) (y5 : Int32) (y6 : Int32) (k83 : Mm → Option (Mm)) : Nat → Int32 → Mm → Option (Mm)
  | 0, _, _ => none
  | n + 1, y7, M =>
    if y4 ≤ y7 then (k83  M) else (bd (f_X3_isOver 62 M) fun v60_6 M60_5 => if v60_6 = 0 then (bd (f_X3_goOn 62 y1 y5 M60_5) fun v73_8 M73_7 => lp_X4_run_49 y1 y2 y3 y4 y5 y6 k83 n (y7 + (nI 1)) M73_7) else (k83  M60_5))
def lp_X4_run_26 (y1 : Nat) (y2 : Int32) (y3 : Int32) (y4 : Int32) (y5 : Int32)  : Nat → Int32 → Mm → Option (Mm)
  | 0, _, _ => none
  | n + 1, y6, M =>
    if y3 ≤ y6 then (some M) else (bv (f_X3_begin 62 ((y2 + y6) - (y2 + y6) / (nI 65537) * (nI 65537)) M) fun M43_3 => lp_X4_run_49 y1 y2 y3 y4 y5 y6 (fun  (M11 : Mm) => bv (f_X4_count y1 M11) fun M85_12 => lp_X4_run_26 y1 y2 y3 y4 y5 n (y6 + (nI 1)) M85_12) N0 (nI 0) M43_3)
def f_X4_run (x1 : Nat) (x2 : Int32) (x3 : Int32) (x4 : Int32) (x5 : Int32) (M : Mm) : Option (Mm) :=
  bv (f_X9_fill 72 (nI 0) M) fun M5_1 => lp_X4_run_26 x1 x2 x3 x4 x5  N0 (nI 0) (mset (mset (mset M5_1 61 2 (nI 0)) 61 3 (nI 0)) 61 4 (nI 0))
set_option maxHeartbeats 4000000 in
set_option maxRecDepth 100000 in
theorem sl_X4_run_49 {l : Launch} {B : BT} (hA : bA B = false) {d : Nat} {M' : Mm} {y1 : Nat} {y2 : Int32} {y3 : Int32} {y4 : Int32} {y5 : Int32} {y6 : Int32} (hy1 : LY y1 = .inl (0, fk0)) {k83 : Mm → Option (Mm)} (hk83 : ∀  (M9 : Mm), k83  M9 = some M' → GG l B LY (d + 5) yX4_run cX4_run 8 none 0 0 (PV M') 97 0 0 83 [(0, .ref 61), (1, .ref y1), (2, .int y2), (3, .int y3), (4, .int y4), (5, .int y5), (6, .int y6)] [] M9) :
    ∀ (n : Nat) (y7 : Int32) (M : Mm), lp_X4_run_49 y1 y2 y3 y4 y5 y6 k83 n y7 M = some M' → GG l B LY (d + 5) yX4_run cX4_run 8 none 0 0 (PV M') 97 0 0 49 [(0, .ref 61), (1, .ref y1), (2, .int y2), (3, .int y3), (4, .int y4), (5, .int y5), (6, .int y6), (7, .int y7)] [] M := by
  intro n
  induction n with
  | zero => intro y7 M h; cases h
  | succ n ih =>
    intro y7 M h
    rw [lp_X4_run_49] at h
    refine g_iload dX4_run_49 7 rfl ?_
    refine g_iload dX4_run_51 4 rfl ?_
    refine g_icmp_ge (tgt := 83) dX4_run_53 (by decide) (fun c10 => ?_) (fun c10 => ?_)
    · replace h := ite_p c10 h
      refine g_sub [0, 1, 2, 3, 4, 5, 6] (lv' := [(0, .ref 61), (1, .ref y1), (2, .int y2), (3, .int y3), (4, .int y4), (5, .int y5), (6, .int y6)]) rfl ?_
      exact hk83  _ h
    · replace h := ite_n c10 h
      refine g_aload_n dX4_run_56 rfl 0 rfl ?_
      refine m_geta (k := 0) okX4 rfl rfl (by decide) w_332 rfl dX4_run_57 ?_
      obtain ⟨v60_6, M60_5, eM60_5, h⟩ := bd_e h
      refine m_callVi (As := []) (st := []) (s_X3_isOver (d := d + 4) hA rfl eM60_5) rfl okX3 ck_X3_isOver w_1015 rfl (Nat.le_of_ble_eq_true rfl) dX4_run_60 ?_
      refine g_if_ne (tgt := 83) dX4_run_63 (by decide) (fun c9 => ?_) (fun c9 => ?_)
      · replace h := ite_n c9 h
        refine g_sub [0, 1, 2, 3, 4, 5, 6] (lv' := [(0, .ref 61), (1, .ref y1), (2, .int y2), (3, .int y3), (4, .int y4), (5, .int y5), (6, .int y6)]) rfl ?_
        exact hk83  _ h
      · replace h := ite_p c9 h
        refine g_aload_n dX4_run_66 rfl 0 rfl ?_
        refine m_geta (k := 0) okX4 rfl rfl (by decide) w_332 rfl dX4_run_67 ?_
        refine g_aload_n dX4_run_70 rfl 1 rfl ?_
        refine g_iload dX4_run_71 5 rfl ?_
        obtain ⟨v73_8, M73_7, eM73_7, h⟩ := bd_e h
        refine m_callVi (As := [.ref y1, .int y5]) (st := []) (s_X3_goOn (d := d + 0) hA rfl hy1 eM73_7) rfl okX3 ck_X3_goOn w_1016 rfl (Nat.le_of_ble_eq_true rfl) dX4_run_73 ?_
        refine g_pop dX4_run_76 rfl ?_
        refine g_iinc (v := (y7 + (nI 1))) (lv' := [(7, .int (y7 + (nI 1))), (0, .ref 61), (1, .ref y1), (2, .int y2), (3, .int y3), (4, .int y4), (5, .int y5), (6, .int y6)]) dX4_run_77 7 rfl rfl (by decide) rfl ?_
        refine g_goto (tgt := 49) dX4_run_80 (by decide) ?_
        refine g_sub [1, 2, 3, 4, 5, 6, 7, 0] (lv' := [(0, .ref 61), (1, .ref y1), (2, .int y2), (3, .int y3), (4, .int y4), (5, .int y5), (6, .int y6), (7, .int (y7 + (nI 1)))]) rfl ?_
        exact ih _  _ h
set_option maxHeartbeats 4000000 in
set_option maxRecDepth 100000 in
theorem sl_X4_run_26 {l : Launch} {B : BT} (hA : bA B = false) {d : Nat} {M' : Mm} {y1 : Nat} {y2 : Int32} {y3 : Int32} {y4 : Int32} {y5 : Int32} (hy1 : LY y1 = .inl (0, fk0))   :
    ∀ (n : Nat) (y6 : Int32) (M : Mm), lp_X4_run_26 y1 y2 y3 y4 y5 n y6 M = some M' → GG l B LY (d + 5) yX4_run cX4_run 8 none 0 0 (PV M') 97 0 0 26 [(0, .ref 61), (1, .ref y1), (2, .int y2), (3, .int y3), (4, .int y4), (5, .int y5), (6, .int y6)] [] M := by
  intro n
  induction n with
  | zero => intro y6 M h; cases h
  | succ n ih =>
    intro y6 M h
    rw [lp_X4_run_26] at h
    refine g_iload dX4_run_26 6 rfl ?_
    refine g_iload_n dX4_run_28 rfl 3 rfl ?_
    refine g_icmp_ge (tgt := 94) dX4_run_29 (by decide) (fun c14 => ?_) (fun c14 => ?_)
    · replace h := ite_p c14 h
      exact g_vret rfl (pv_of h) dX4_run_94
    · replace h := ite_n c14 h
      refine g_aload_n dX4_run_32 rfl 0 rfl ?_
      refine m_geta (k := 0) okX4 rfl rfl (by decide) w_332 rfl dX4_run_33 ?_
      refine g_iload_n dX4_run_36 rfl 2 rfl ?_
      refine g_iload dX4_run_37 6 rfl ?_
      refine g_iadd dX4_run_39 ?_
      refine g_ldc (v := (nI 65537)) w_1013 dX4_run_40 ?_
      refine g_irem dX4_run_42 (by decide) ?_
      obtain ⟨M43_3, eM43_3, h⟩ := bv_e h
      refine m_callVv (As := [.int ((y2 + y6) - (y2 + y6) / (nI 65537) * (nI 65537))]) (st := []) (s_X3_begin (d := d + 3) hA rfl eM43_3) rfl okX3 ck_X3_begin w_1014 rfl (Nat.le_of_ble_eq_true rfl) dX4_run_43 ?_
      refine g_iconst (v := (nI 0)) dX4_run_46 (by decide) ?_
      refine g_istore (lv' := [(7, .int (nI 0)), (0, .ref 61), (1, .ref y1), (2, .int y2), (3, .int y3), (4, .int y4), (5, .int y5), (6, .int y6)]) dX4_run_47 (by decide) rfl ?_
      refine g_sub [1, 2, 3, 4, 5, 6, 7, 0] (lv' := [(0, .ref 61), (1, .ref y1), (2, .int y2), (3, .int y3), (4, .int y4), (5, .int y5), (6, .int y6), (7, .int (nI 0))]) rfl ?_
      refine sl_X4_run_49 hA hy1 ?_ _ _ _ h
      · intro  M11 h
        refine g_aload_n dX4_run_83 rfl 0 rfl ?_
        refine g_aload_n dX4_run_84 rfl 1 rfl ?_
        obtain ⟨M85_12, eM85_12, h⟩ := bv_e h
        refine m_callVv (As := [.ref y1]) (st := []) (s_X4_count (d := d + 2) hA hy1 eM85_12) rfl okX4 ck_X4_count w_1017 rfl (Nat.le_of_ble_eq_true rfl) dX4_run_85 ?_
        refine g_iinc (v := (y6 + (nI 1))) (lv' := [(6, .int (y6 + (nI 1))), (0, .ref 61), (1, .ref y1), (2, .int y2), (3, .int y3), (4, .int y4), (5, .int y5)]) dX4_run_88 6 rfl rfl (by decide) rfl ?_
        refine g_goto (tgt := 26) dX4_run_91 (by decide) ?_
        refine g_sub [1, 2, 3, 4, 5, 6, 0] (lv' := [(0, .ref 61), (1, .ref y1), (2, .int y2), (3, .int y3), (4, .int y4), (5, .int y5), (6, .int (y6 + (nI 1)))]) rfl ?_
        exact ih _  _ h
set_option maxHeartbeats 4000000 in
set_option maxRecDepth 100000 in
theorem s_X4_run {l : Launch} {B : BT} (hA : bA B = false) {d : Nat} {M' : Mm} {x1 : Nat} {x2 : Int32} {x3 : Int32} {x4 : Int32} {x5 : Int32} {M : Mm} (hx1 : LY x1 = .inl (0, fk0)) (h : f_X4_run x1 x2 x3 x4 x5 M = some M') : Con l B LY (d + 5) yX4_run cX4_run 8 none 0 0 [.ref 61, .ref x1, .int x2, .int x3, .int x4, .int x5] 97 M (PV M') := by
  refine con_of (by decide) (Nat.le_of_ble_eq_true rfl) ?_
  show GG l B LY (d + 5) yX4_run cX4_run 8 none 0 0 (PV M') 97 0 0 0 [(0, .ref 61), (1, .ref x1), (2, .int x2), (3, .int x3), (4, .int x4), (5, .int x5)] [] M
  rw [f_X4_run] at h
  refine g_aload_n dX4_run_0 rfl 0 rfl ?_
  refine m_getr (k := 1) okX4 rfl rfl (by decide) w_333 rfl dX4_run_1 ?_
  refine g_iconst (v := (nI 0)) dX4_run_4 (by decide) ?_
  obtain ⟨M5_1, eM5_1, h⟩ := bv_e h
  refine m_callNv (As := [.ref 72, .int (nI 0)]) (st := []) (s_X9_fill (d := d + 4) hA (al_of rfl) eM5_1) ck_X9_fill (host := "StillYard") (List.mem_of_getElem? (i := 25) rfl) rfl (Nat.le_of_ble_eq_true rfl) dX4_run_5 ?_
  refine g_aload_n dX4_run_8 rfl 0 rfl ?_
  refine g_iconst (v := (nI 0)) dX4_run_9 (by decide) ?_
  refine m_puti (k := 2) okX4 rfl rfl (by decide) w_335 rfl rfl rfl dX4_run_10 ?_
  refine g_aload_n dX4_run_13 rfl 0 rfl ?_
  refine g_iconst (v := (nI 0)) dX4_run_14 (by decide) ?_
  refine m_puti (k := 3) okX4 rfl rfl (by decide) w_337 rfl rfl rfl dX4_run_15 ?_
  refine g_aload_n dX4_run_18 rfl 0 rfl ?_
  refine g_iconst (v := (nI 0)) dX4_run_19 (by decide) ?_
  refine m_puti (k := 4) okX4 rfl rfl (by decide) w_339 rfl rfl rfl dX4_run_20 ?_
  refine g_iconst (v := (nI 0)) dX4_run_23 (by decide) ?_
  refine g_istore (lv' := [(6, .int (nI 0)), (0, .ref 61), (1, .ref x1), (2, .int x2), (3, .int x3), (4, .int x4), (5, .int x5)]) dX4_run_24 (by decide) rfl ?_
  refine g_sub [1, 2, 3, 4, 5, 6, 0] (lv' := [(0, .ref 61), (1, .ref x1), (2, .int x2), (3, .int x3), (4, .int x4), (5, .int x5), (6, .int (nI 0))]) rfl ?_
  refine sl_X4_run_26 hA hx1  _ _ _ h
theorem ck_X4_run : CKV yX4_run cX4_run 8 none 5 := ⟨⟨by decide, by decide, by decide +kernel⟩, w_1011, w_77, ⟨w_1009, w_1010⟩, by decide⟩
theorem dX8_byteAt_0 : decode cX8_byteAt 0 = .ok (.iload_n 1, 1) := by decide +kernel
theorem dX8_byteAt_1 : decode cX8_byteAt 1 = .ok (.ifCond .lt 33, 3) := by decide +kernel
theorem dX8_byteAt_4 : decode cX8_byteAt 4 = .ok (.iload_n 1, 1) := by decide +kernel
theorem dX8_byteAt_5 : decode cX8_byteAt 5 = .ok (.aload_n 0, 1) := by decide +kernel
theorem dX8_byteAt_6 : decode cX8_byteAt 6 = .ok (.getfield 19, 3) := by decide +kernel
theorem dX8_byteAt_9 : decode cX8_byteAt 9 = .ok (.if_icmp .ge 25, 3) := by decide +kernel
theorem dX8_byteAt_12 : decode cX8_byteAt 12 = .ok (.iload_n 1, 1) := by decide +kernel
theorem dX8_byteAt_13 : decode cX8_byteAt 13 = .ok (.aload_n 0, 1) := by decide +kernel
theorem dX8_byteAt_14 : decode cX8_byteAt 14 = .ok (.getfield 9, 3) := by decide +kernel
theorem dX8_byteAt_17 : decode cX8_byteAt 17 = .ok (.arraylength, 1) := by decide +kernel
theorem dX8_byteAt_18 : decode cX8_byteAt 18 = .ok (.if_icmp .ge 16, 3) := by decide +kernel
theorem dX8_byteAt_21 : decode cX8_byteAt 21 = .ok (.aload_n 0, 1) := by decide +kernel
theorem dX8_byteAt_22 : decode cX8_byteAt 22 = .ok (.getfield 9, 3) := by decide +kernel
theorem dX8_byteAt_25 : decode cX8_byteAt 25 = .ok (.iload_n 1, 1) := by decide +kernel
theorem dX8_byteAt_26 : decode cX8_byteAt 26 = .ok (.baload, 1) := by decide +kernel
theorem dX8_byteAt_27 : decode cX8_byteAt 27 = .ok (.sipush 255, 3) := by decide +kernel
theorem dX8_byteAt_30 : decode cX8_byteAt 30 = .ok (.iand, 1) := by decide +kernel
theorem dX8_byteAt_31 : decode cX8_byteAt 31 = .ok (.goto 4, 3) := by decide +kernel
theorem dX8_byteAt_34 : decode cX8_byteAt 34 = .ok (.iconst (-1), 1) := by decide +kernel
theorem dX8_byteAt_35 : decode cX8_byteAt 35 = .ok (.ireturn, 1) := by decide +kernel
def f_X8_byteAt (x1 : Int32) (M : Mm) : Option (Int32 × Mm) :=
  jn (fun (M1 : Mm) => some ((-1 : Int32), M1)) fun j2 => if x1 < 0 then (j2  M) else (if (M 15 2) ≤ x1 then (j2  M) else (if (nI 900) ≤ x1 then (j2  M) else (gd (inb x1 900) <| some (((M 16 x1.toNatClampNeg) &&& (nI 255)), M))))
set_option maxHeartbeats 4000000 in
set_option maxRecDepth 100000 in
theorem s_X8_byteAt {l : Launch} {B : BT} (hA : bA B = false) {d : Nat} {r : Int32} {M' : Mm} {x1 : Int32} {M : Mm}  (h : f_X8_byteAt x1 M = some (r, M')) : Con l B LY (d + 0) yX8_byteAt cX8_byteAt 2 (some .int) 0 0 [.ref 15, .int x1] 97 M (PI r M') := by
  refine con_of (by decide) (Nat.le_of_ble_eq_true rfl) ?_
  show GG l B LY (d + 0) yX8_byteAt cX8_byteAt 2 (some .int) 0 0 (PI r M') 97 0 0 0 [(0, .ref 15), (1, .int x1)] [] M
  rw [f_X8_byteAt] at h
  refine g_iload_n dX8_byteAt_0 rfl 1 rfl ?_
  obtain ⟨j2, ej2, h⟩ := jn_e h
  have hj2 : ∀ (M1 : Mm), j2 M1 = some (r, M') → GG l B LY (d + 0) yX8_byteAt cX8_byteAt 2 (some .int) 0 0 (PI r M') 97 0 0 34 [] [] M1 := by
    intro M1 h
    rw [ej2] at h
    refine g_iconst (v := (-1 : Int32)) dX8_byteAt_34 (by decide) ?_
    exact g_zret rfl rfl (pi_of h) dX8_byteAt_35
  refine g_if_lt (tgt := 34) dX8_byteAt_1 (by decide) (fun c5 => ?_) (fun c5 => ?_)
  · replace h := ite_p c5 h
    refine g_sub [] (lv' := []) rfl ?_
    exact hj2  _ h
  · replace h := ite_n c5 h
    refine g_iload_n dX8_byteAt_4 rfl 1 rfl ?_
    refine g_aload_n dX8_byteAt_5 rfl 0 rfl ?_
    refine m_geti (k := 2) okX8 rfl rfl (by decide) w_198 rfl dX8_byteAt_6 ?_
    refine g_icmp_ge (tgt := 34) dX8_byteAt_9 (by decide) (fun c4 => ?_) (fun c4 => ?_)
    · replace h := ite_p c4 h
      refine g_sub [] (lv' := []) rfl ?_
      exact hj2  _ h
    · replace h := ite_n c4 h
      refine g_iload_n dX8_byteAt_12 rfl 1 rfl ?_
      refine g_aload_n dX8_byteAt_13 rfl 0 rfl ?_
      refine m_getr (k := 0) okX8 rfl rfl (by decide) w_195 rfl dX8_byteAt_14 ?_
      refine m_alen (v := (nI 900)) rfl (by decide) rfl dX8_byteAt_17 ?_
      refine g_icmp_ge (tgt := 34) dX8_byteAt_18 (by decide) (fun c3 => ?_) (fun c3 => ?_)
      · replace h := ite_p c3 h
        refine g_sub [] (lv' := []) rfl ?_
        exact hj2  _ h
      · replace h := ite_n c3 h
        refine g_aload_n dX8_byteAt_21 rfl 0 rfl ?_
        refine m_getr (k := 0) okX8 rfl rfl (by decide) w_195 rfl dX8_byteAt_22 ?_
        refine g_iload_n dX8_byteAt_25 rfl 1 rfl ?_
        obtain ⟨hz, h⟩ := gd_s h
        refine m_bald rfl hz dX8_byteAt_26 ?_
        refine g_sipush (v := (nI 255)) dX8_byteAt_27 (by decide) ?_
        refine g_iand dX8_byteAt_30 ?_
        refine g_goto (tgt := 35) dX8_byteAt_31 (by decide) ?_
        exact g_zret rfl rfl (pi_of h) dX8_byteAt_35
theorem ck_X8_byteAt : CKV yX8_byteAt cX8_byteAt 2 (some .int) 1 := ⟨⟨by decide, by decide, by decide +kernel⟩, w_494, w_74, ⟨w_492, w_493⟩, by decide⟩
theorem dX8_kindOf_0 : decode cX8_kindOf 0 = .ok (.iload_n 0, 1) := by decide +kernel
theorem dX8_kindOf_1 : decode cX8_kindOf 1 = .ok (.bipush 97, 2) := by decide +kernel
theorem dX8_kindOf_3 : decode cX8_kindOf 3 = .ok (.if_icmp .lt 11, 3) := by decide +kernel
theorem dX8_kindOf_6 : decode cX8_kindOf 6 = .ok (.iload_n 0, 1) := by decide +kernel
theorem dX8_kindOf_7 : decode cX8_kindOf 7 = .ok (.bipush 122, 2) := by decide +kernel
theorem dX8_kindOf_9 : decode cX8_kindOf 9 = .ok (.if_icmp .gt 5, 3) := by decide +kernel
theorem dX8_kindOf_12 : decode cX8_kindOf 12 = .ok (.iconst 1, 1) := by decide +kernel
theorem dX8_kindOf_13 : decode cX8_kindOf 13 = .ok (.ireturn, 1) := by decide +kernel
theorem dX8_kindOf_14 : decode cX8_kindOf 14 = .ok (.iload_n 0, 1) := by decide +kernel
theorem dX8_kindOf_15 : decode cX8_kindOf 15 = .ok (.bipush 48, 2) := by decide +kernel
theorem dX8_kindOf_17 : decode cX8_kindOf 17 = .ok (.if_icmp .lt 11, 3) := by decide +kernel
theorem dX8_kindOf_20 : decode cX8_kindOf 20 = .ok (.iload_n 0, 1) := by decide +kernel
theorem dX8_kindOf_21 : decode cX8_kindOf 21 = .ok (.bipush 57, 2) := by decide +kernel
theorem dX8_kindOf_23 : decode cX8_kindOf 23 = .ok (.if_icmp .gt 5, 3) := by decide +kernel
theorem dX8_kindOf_26 : decode cX8_kindOf 26 = .ok (.iconst 2, 1) := by decide +kernel
theorem dX8_kindOf_27 : decode cX8_kindOf 27 = .ok (.ireturn, 1) := by decide +kernel
theorem dX8_kindOf_28 : decode cX8_kindOf 28 = .ok (.iload_n 0, 1) := by decide +kernel
theorem dX8_kindOf_29 : decode cX8_kindOf 29 = .ok (.lookupswitch 51 #[(-1, 43), (32, 49), (44, 47), (59, 45)], 43) := by decide +kernel
theorem dX8_kindOf_72 : decode cX8_kindOf 72 = .ok (.iconst 0, 1) := by decide +kernel
theorem dX8_kindOf_73 : decode cX8_kindOf 73 = .ok (.ireturn, 1) := by decide +kernel
theorem dX8_kindOf_74 : decode cX8_kindOf 74 = .ok (.iconst 3, 1) := by decide +kernel
theorem dX8_kindOf_75 : decode cX8_kindOf 75 = .ok (.ireturn, 1) := by decide +kernel
theorem dX8_kindOf_76 : decode cX8_kindOf 76 = .ok (.iconst 4, 1) := by decide +kernel
theorem dX8_kindOf_77 : decode cX8_kindOf 77 = .ok (.ireturn, 1) := by decide +kernel
theorem dX8_kindOf_78 : decode cX8_kindOf 78 = .ok (.iconst 5, 1) := by decide +kernel
theorem dX8_kindOf_79 : decode cX8_kindOf 79 = .ok (.ireturn, 1) := by decide +kernel
theorem dX8_kindOf_80 : decode cX8_kindOf 80 = .ok (.bipush 6, 2) := by decide +kernel
theorem dX8_kindOf_82 : decode cX8_kindOf 82 = .ok (.ireturn, 1) := by decide +kernel
def f_X8_kindOf (x0 : Int32) (M : Mm) : Option (Int32 × Mm) :=
  jn (fun (M1 : Mm) => jn (fun (M3 : Mm) => if x0 = (-1 : Int32) then (some ((nI 0), M3)) else (if x0 = (nI 32) then (some ((nI 5), M3)) else (if x0 = (nI 44) then (some ((nI 4), M3)) else (if x0 = (nI 59) then (some ((nI 3), M3)) else (some ((nI 6), M3)))))) fun j4 => if x0 < (nI 48) then (j4  M1) else (if (nI 57) < x0 then (j4  M1) else (some ((nI 2), M1)))) fun j2 => if x0 < (nI 97) then (j2  M) else (if (nI 122) < x0 then (j2  M) else (some ((nI 1), M)))
set_option maxHeartbeats 4000000 in
set_option maxRecDepth 100000 in
theorem s_X8_kindOf {l : Launch} {B : BT} (hA : bA B = false) {d : Nat} {r : Int32} {M' : Mm} {x0 : Int32} {M : Mm}  (h : f_X8_kindOf x0 M = some (r, M')) : Con l B LY (d + 0) yX8_kindOf cX8_kindOf 1 (some .int) 0 0 [.int x0] 97 M (PI r M') := by
  refine con_of (by decide) (Nat.le_of_ble_eq_true rfl) ?_
  show GG l B LY (d + 0) yX8_kindOf cX8_kindOf 1 (some .int) 0 0 (PI r M') 97 0 0 0 [(0, .int x0)] [] M
  rw [f_X8_kindOf] at h
  refine g_iload_n dX8_kindOf_0 rfl 0 rfl ?_
  refine g_bipush (v := (nI 97)) dX8_kindOf_1 (by decide) ?_
  obtain ⟨j2, ej2, h⟩ := jn_e h
  have hj2 : ∀ (M1 : Mm), j2 M1 = some (r, M') → GG l B LY (d + 0) yX8_kindOf cX8_kindOf 1 (some .int) 0 0 (PI r M') 97 0 0 14 [(0, .int x0)] [] M1 := by
    intro M1 h
    rw [ej2] at h
    refine g_iload_n dX8_kindOf_14 rfl 0 rfl ?_
    refine g_bipush (v := (nI 48)) dX8_kindOf_15 (by decide) ?_
    obtain ⟨j4, ej4, h⟩ := jn_e h
    have hj4 : ∀ (M3 : Mm), j4 M3 = some (r, M') → GG l B LY (d + 0) yX8_kindOf cX8_kindOf 1 (some .int) 0 0 (PI r M') 97 0 0 28 [(0, .int x0)] [] M3 := by
      intro M3 h
      rw [ej4] at h
      refine g_iload_n dX8_kindOf_28 rfl 0 rfl ?_
      by_cases c5 : x0 = (-1 : Int32)
      · replace h := ite_p c5 h
        refine g_lookup (tgt := 72) dX8_kindOf_29 rfl (off := 43) (by rw [c5]; rfl) (by decide) ?_
        refine g_iconst (v := (nI 0)) dX8_kindOf_72 (by decide) ?_
        exact g_zret rfl rfl (pi_of h) dX8_kindOf_73
      replace h := ite_n c5 h
      by_cases c6 : x0 = (nI 32)
      · replace h := ite_p c6 h
        refine g_lookup (tgt := 78) dX8_kindOf_29 rfl (off := 49) (by rw [c6]; rfl) (by decide) ?_
        refine g_iconst (v := (nI 5)) dX8_kindOf_78 (by decide) ?_
        exact g_zret rfl rfl (pi_of h) dX8_kindOf_79
      replace h := ite_n c6 h
      by_cases c7 : x0 = (nI 44)
      · replace h := ite_p c7 h
        refine g_lookup (tgt := 76) dX8_kindOf_29 rfl (off := 47) (by rw [c7]; rfl) (by decide) ?_
        refine g_iconst (v := (nI 4)) dX8_kindOf_76 (by decide) ?_
        exact g_zret rfl rfl (pi_of h) dX8_kindOf_77
      replace h := ite_n c7 h
      by_cases c8 : x0 = (nI 59)
      · replace h := ite_p c8 h
        refine g_lookup (tgt := 74) dX8_kindOf_29 rfl (off := 45) (by rw [c8]; rfl) (by decide) ?_
        refine g_iconst (v := (nI 3)) dX8_kindOf_74 (by decide) ?_
        exact g_zret rfl rfl (pi_of h) dX8_kindOf_75
      replace h := ite_n c8 h
      refine g_lookup (tgt := 80) dX8_kindOf_29 rfl (off := 51) ((lv_osw c5 (by decide)).trans ((lv_osw c6 (by decide)).trans ((lv_osw c7 (by decide)).trans ((lv_osw c8 (by decide)).trans rfl)))) (by decide) ?_
      refine g_bipush (v := (nI 6)) dX8_kindOf_80 (by decide) ?_
      exact g_zret rfl rfl (pi_of h) dX8_kindOf_82
    refine g_icmp_lt (tgt := 28) dX8_kindOf_17 (by decide) (fun c10 => ?_) (fun c10 => ?_)
    · replace h := ite_p c10 h
      refine g_sub [0] (lv' := [(0, .int x0)]) rfl ?_
      exact hj4  _ h
    · replace h := ite_n c10 h
      refine g_iload_n dX8_kindOf_20 rfl 0 rfl ?_
      refine g_bipush (v := (nI 57)) dX8_kindOf_21 (by decide) ?_
      refine g_icmp_gt (tgt := 28) dX8_kindOf_23 (by decide) (fun c9 => ?_) (fun c9 => ?_)
      · replace h := ite_p c9 h
        refine g_sub [0] (lv' := [(0, .int x0)]) rfl ?_
        exact hj4  _ h
      · replace h := ite_n c9 h
        refine g_iconst (v := (nI 2)) dX8_kindOf_26 (by decide) ?_
        exact g_zret rfl rfl (pi_of h) dX8_kindOf_27
  refine g_icmp_lt (tgt := 14) dX8_kindOf_3 (by decide) (fun c12 => ?_) (fun c12 => ?_)
  · replace h := ite_p c12 h
    refine g_sub [0] (lv' := [(0, .int x0)]) rfl ?_
    exact hj2  _ h
  · replace h := ite_n c12 h
    refine g_iload_n dX8_kindOf_6 rfl 0 rfl ?_
    refine g_bipush (v := (nI 122)) dX8_kindOf_7 (by decide) ?_
    refine g_icmp_gt (tgt := 14) dX8_kindOf_9 (by decide) (fun c11 => ?_) (fun c11 => ?_)
    · replace h := ite_p c11 h
      refine g_sub [0] (lv' := [(0, .int x0)]) rfl ?_
      exact hj2  _ h
    · replace h := ite_n c11 h
      refine g_iconst (v := (nI 1)) dX8_kindOf_12 (by decide) ?_
      exact g_zret rfl rfl (pi_of h) dX8_kindOf_13
theorem ck_X8_kindOf : CKS yX8_kindOf cX8_kindOf 1 (some .int) 1 := ⟨⟨by decide, by decide, by decide +kernel⟩, w_497, w_74, w_496, by decide⟩
theorem dX8_advance_0 : decode cX8_advance 0 = .ok (.aload_n 0, 1) := by decide +kernel
theorem dX8_advance_1 : decode cX8_advance 1 = .ok (.getfield 22, 3) := by decide +kernel
theorem dX8_advance_4 : decode cX8_advance 4 = .ok (.aload_n 0, 1) := by decide +kernel
theorem dX8_advance_5 : decode cX8_advance 5 = .ok (.getfield 25, 3) := by decide +kernel
theorem dX8_advance_8 : decode cX8_advance 8 = .ok (.iadd, 1) := by decide +kernel
theorem dX8_advance_9 : decode cX8_advance 9 = .ok (.istore_n 1, 1) := by decide +kernel
theorem dX8_advance_10 : decode cX8_advance 10 = .ok (.iload_n 1, 1) := by decide +kernel
theorem dX8_advance_11 : decode cX8_advance 11 = .ok (.aload_n 0, 1) := by decide +kernel
theorem dX8_advance_12 : decode cX8_advance 12 = .ok (.getfield 19, 3) := by decide +kernel
theorem dX8_advance_15 : decode cX8_advance 15 = .ok (.if_icmp .ge 21, 3) := by decide +kernel
theorem dX8_advance_18 : decode cX8_advance 18 = .ok (.aload_n 0, 1) := by decide +kernel
theorem dX8_advance_19 : decode cX8_advance 19 = .ok (.iload_n 1, 1) := by decide +kernel
theorem dX8_advance_20 : decode cX8_advance 20 = .ok (.invokevirtual 31, 3) := by decide +kernel
theorem dX8_advance_23 : decode cX8_advance 23 = .ok (.invokestatic 35, 3) := by decide +kernel
theorem dX8_advance_26 : decode cX8_advance 26 = .ok (.iconst 5, 1) := by decide +kernel
theorem dX8_advance_27 : decode cX8_advance 27 = .ok (.if_icmp .ne 9, 3) := by decide +kernel
theorem dX8_advance_30 : decode cX8_advance 30 = .ok (.iinc 1 1, 3) := by decide +kernel
theorem dX8_advance_33 : decode cX8_advance 33 = .ok (.goto (-23), 3) := by decide +kernel
theorem dX8_advance_36 : decode cX8_advance 36 = .ok (.aload_n 0, 1) := by decide +kernel
theorem dX8_advance_37 : decode cX8_advance 37 = .ok (.iload_n 1, 1) := by decide +kernel
theorem dX8_advance_38 : decode cX8_advance 38 = .ok (.putfield 22, 3) := by decide +kernel
theorem dX8_advance_41 : decode cX8_advance 41 = .ok (.aload_n 0, 1) := by decide +kernel
theorem dX8_advance_42 : decode cX8_advance 42 = .ok (.aload_n 0, 1) := by decide +kernel
theorem dX8_advance_43 : decode cX8_advance 43 = .ok (.iload_n 1, 1) := by decide +kernel
theorem dX8_advance_44 : decode cX8_advance 44 = .ok (.invokevirtual 31, 3) := by decide +kernel
theorem dX8_advance_47 : decode cX8_advance 47 = .ok (.invokestatic 35, 3) := by decide +kernel
theorem dX8_advance_50 : decode cX8_advance 50 = .ok (.putfield 38, 3) := by decide +kernel
theorem dX8_advance_53 : decode cX8_advance 53 = .ok (.aload_n 0, 1) := by decide +kernel
theorem dX8_advance_54 : decode cX8_advance 54 = .ok (.iconst 0, 1) := by decide +kernel
theorem dX8_advance_55 : decode cX8_advance 55 = .ok (.putfield 41, 3) := by decide +kernel
theorem dX8_advance_58 : decode cX8_advance 58 = .ok (.aload_n 0, 1) := by decide +kernel
theorem dX8_advance_59 : decode cX8_advance 59 = .ok (.getfield 38, 3) := by decide +kernel
theorem dX8_advance_62 : decode cX8_advance 62 = .ok (.iconst 1, 1) := by decide +kernel
theorem dX8_advance_63 : decode cX8_advance 63 = .ok (.if_icmp .eq 11, 3) := by decide +kernel
theorem dX8_advance_66 : decode cX8_advance 66 = .ok (.aload_n 0, 1) := by decide +kernel
theorem dX8_advance_67 : decode cX8_advance 67 = .ok (.getfield 38, 3) := by decide +kernel
theorem dX8_advance_70 : decode cX8_advance 70 = .ok (.iconst 2, 1) := by decide +kernel
theorem dX8_advance_71 : decode cX8_advance 71 = .ok (.if_icmp .ne 7, 3) := by decide +kernel
theorem dX8_advance_74 : decode cX8_advance 74 = .ok (.iconst 1, 1) := by decide +kernel
theorem dX8_advance_75 : decode cX8_advance 75 = .ok (.goto 4, 3) := by decide +kernel
theorem dX8_advance_78 : decode cX8_advance 78 = .ok (.iconst 0, 1) := by decide +kernel
theorem dX8_advance_79 : decode cX8_advance 79 = .ok (.istore_n 2, 1) := by decide +kernel
theorem dX8_advance_80 : decode cX8_advance 80 = .ok (.iload_n 1, 1) := by decide +kernel
theorem dX8_advance_81 : decode cX8_advance 81 = .ok (.aload_n 0, 1) := by decide +kernel
theorem dX8_advance_82 : decode cX8_advance 82 = .ok (.getfield 19, 3) := by decide +kernel
theorem dX8_advance_85 : decode cX8_advance 85 = .ok (.if_icmp .ge 7, 3) := by decide +kernel
theorem dX8_advance_88 : decode cX8_advance 88 = .ok (.iconst 1, 1) := by decide +kernel
theorem dX8_advance_89 : decode cX8_advance 89 = .ok (.goto 4, 3) := by decide +kernel
theorem dX8_advance_92 : decode cX8_advance 92 = .ok (.iconst 0, 1) := by decide +kernel
theorem dX8_advance_93 : decode cX8_advance 93 = .ok (.istore_n 3, 1) := by decide +kernel
theorem dX8_advance_94 : decode cX8_advance 94 = .ok (.iload_n 2, 1) := by decide +kernel
theorem dX8_advance_95 : decode cX8_advance 95 = .ok (.ifCond .eq 10, 3) := by decide +kernel
theorem dX8_advance_98 : decode cX8_advance 98 = .ok (.aload_n 0, 1) := by decide +kernel
theorem dX8_advance_99 : decode cX8_advance 99 = .ok (.getfield 19, 3) := by decide +kernel
theorem dX8_advance_102 : decode cX8_advance 102 = .ok (.iload_n 1, 1) := by decide +kernel
theorem dX8_advance_103 : decode cX8_advance 103 = .ok (.isub, 1) := by decide +kernel
theorem dX8_advance_104 : decode cX8_advance 104 = .ok (.istore_n 3, 1) := by decide +kernel
theorem dX8_advance_105 : decode cX8_advance 105 = .ok (.aload_n 0, 1) := by decide +kernel
theorem dX8_advance_106 : decode cX8_advance 106 = .ok (.iconst 0, 1) := by decide +kernel
theorem dX8_advance_107 : decode cX8_advance 107 = .ok (.putfield 25, 3) := by decide +kernel
theorem dX8_advance_110 : decode cX8_advance 110 = .ok (.aload_n 0, 1) := by decide +kernel
theorem dX8_advance_111 : decode cX8_advance 111 = .ok (.getfield 25, 3) := by decide +kernel
theorem dX8_advance_114 : decode cX8_advance 114 = .ok (.iload_n 3, 1) := by decide +kernel
theorem dX8_advance_115 : decode cX8_advance 115 = .ok (.if_icmp .ge 67, 3) := by decide +kernel
theorem dX8_advance_118 : decode cX8_advance 118 = .ok (.aload_n 0, 1) := by decide +kernel
theorem dX8_advance_119 : decode cX8_advance 119 = .ok (.aload_n 0, 1) := by decide +kernel
theorem dX8_advance_120 : decode cX8_advance 120 = .ok (.getfield 22, 3) := by decide +kernel
theorem dX8_advance_123 : decode cX8_advance 123 = .ok (.aload_n 0, 1) := by decide +kernel
theorem dX8_advance_124 : decode cX8_advance 124 = .ok (.getfield 25, 3) := by decide +kernel
theorem dX8_advance_127 : decode cX8_advance 127 = .ok (.iadd, 1) := by decide +kernel
theorem dX8_advance_128 : decode cX8_advance 128 = .ok (.invokevirtual 31, 3) := by decide +kernel
theorem dX8_advance_131 : decode cX8_advance 131 = .ok (.invokestatic 35, 3) := by decide +kernel
theorem dX8_advance_134 : decode cX8_advance 134 = .ok (.aload_n 0, 1) := by decide +kernel
theorem dX8_advance_135 : decode cX8_advance 135 = .ok (.getfield 38, 3) := by decide +kernel
theorem dX8_advance_138 : decode cX8_advance 138 = .ok (.if_icmp .ne 44, 3) := by decide +kernel
theorem dX8_advance_141 : decode cX8_advance 141 = .ok (.aload_n 0, 1) := by decide +kernel
theorem dX8_advance_142 : decode cX8_advance 142 = .ok (.aload_n 0, 1) := by decide +kernel
theorem dX8_advance_143 : decode cX8_advance 143 = .ok (.getfield 41, 3) := by decide +kernel
theorem dX8_advance_146 : decode cX8_advance 146 = .ok (.bipush 10, 2) := by decide +kernel
theorem dX8_advance_148 : decode cX8_advance 148 = .ok (.imul, 1) := by decide +kernel
theorem dX8_advance_149 : decode cX8_advance 149 = .ok (.aload_n 0, 1) := by decide +kernel
theorem dX8_advance_150 : decode cX8_advance 150 = .ok (.aload_n 0, 1) := by decide +kernel
theorem dX8_advance_151 : decode cX8_advance 151 = .ok (.getfield 22, 3) := by decide +kernel
theorem dX8_advance_154 : decode cX8_advance 154 = .ok (.aload_n 0, 1) := by decide +kernel
theorem dX8_advance_155 : decode cX8_advance 155 = .ok (.getfield 25, 3) := by decide +kernel
theorem dX8_advance_158 : decode cX8_advance 158 = .ok (.iadd, 1) := by decide +kernel
theorem dX8_advance_159 : decode cX8_advance 159 = .ok (.invokevirtual 31, 3) := by decide +kernel
theorem dX8_advance_162 : decode cX8_advance 162 = .ok (.iadd, 1) := by decide +kernel
theorem dX8_advance_163 : decode cX8_advance 163 = .ok (.bipush 48, 2) := by decide +kernel
theorem dX8_advance_165 : decode cX8_advance 165 = .ok (.isub, 1) := by decide +kernel
theorem dX8_advance_166 : decode cX8_advance 166 = .ok (.putfield 41, 3) := by decide +kernel
theorem dX8_advance_169 : decode cX8_advance 169 = .ok (.aload_n 0, 1) := by decide +kernel
theorem dX8_advance_170 : decode cX8_advance 170 = .ok (.dup, 1) := by decide +kernel
theorem dX8_advance_171 : decode cX8_advance 171 = .ok (.getfield 25, 3) := by decide +kernel
theorem dX8_advance_174 : decode cX8_advance 174 = .ok (.iconst 1, 1) := by decide +kernel
theorem dX8_advance_175 : decode cX8_advance 175 = .ok (.iadd, 1) := by decide +kernel
theorem dX8_advance_176 : decode cX8_advance 176 = .ok (.putfield 25, 3) := by decide +kernel
theorem dX8_advance_179 : decode cX8_advance 179 = .ok (.goto (-69), 3) := by decide +kernel
theorem dX8_advance_182 : decode cX8_advance 182 = .ok (.aload_n 0, 1) := by decide +kernel
theorem dX8_advance_183 : decode cX8_advance 183 = .ok (.getfield 38, 3) := by decide +kernel
theorem dX8_advance_186 : decode cX8_advance 186 = .ok (.iconst 1, 1) := by decide +kernel
theorem dX8_advance_187 : decode cX8_advance 187 = .ok (.if_icmp .ne 12, 3) := by decide +kernel
theorem dX8_advance_190 : decode cX8_advance 190 = .ok (.aload_n 0, 1) := by decide +kernel
theorem dX8_advance_191 : decode cX8_advance 191 = .ok (.getfield 25, 3) := by decide +kernel
theorem dX8_advance_194 : decode cX8_advance 194 = .ok (.bipush 8, 2) := by decide +kernel
theorem dX8_advance_196 : decode cX8_advance 196 = .ok (.if_icmp .gt 19, 3) := by decide +kernel
theorem dX8_advance_199 : decode cX8_advance 199 = .ok (.aload_n 0, 1) := by decide +kernel
theorem dX8_advance_200 : decode cX8_advance 200 = .ok (.getfield 38, 3) := by decide +kernel
theorem dX8_advance_203 : decode cX8_advance 203 = .ok (.iconst 2, 1) := by decide +kernel
theorem dX8_advance_204 : decode cX8_advance 204 = .ok (.if_icmp .ne 17, 3) := by decide +kernel
theorem dX8_advance_207 : decode cX8_advance 207 = .ok (.aload_n 0, 1) := by decide +kernel
theorem dX8_advance_208 : decode cX8_advance 208 = .ok (.getfield 25, 3) := by decide +kernel
theorem dX8_advance_211 : decode cX8_advance 211 = .ok (.iconst 3, 1) := by decide +kernel
theorem dX8_advance_212 : decode cX8_advance 212 = .ok (.if_icmp .le 9, 3) := by decide +kernel
theorem dX8_advance_215 : decode cX8_advance 215 = .ok (.aload_n 0, 1) := by decide +kernel
theorem dX8_advance_216 : decode cX8_advance 216 = .ok (.bipush 6, 2) := by decide +kernel
theorem dX8_advance_218 : decode cX8_advance 218 = .ok (.putfield 38, 3) := by decide +kernel
theorem dX8_advance_221 : decode cX8_advance 221 = .ok (.return_, 1) := by decide +kernel
def lp_X8_advance_10  (k36 : Int32 → Mm → Option (Mm)) : Nat → Int32 → Mm → Option (Mm)
  | 0, _, _ => none
  | n + 1, y1, M =>
    if (M 15 2) ≤ y1 then (k36 y1 M) else (bd (f_X8_byteAt y1 M) fun v20_2 M20_1 => bd (f_X8_kindOf v20_2 M20_1) fun v23_4 M23_3 => if v23_4 = (nI 5) then (lp_X8_advance_10 k36 n (y1 + (nI 1)) M23_3) else (k36 y1 M23_3))
def lp_X8_advance_110 (y3 : Int32) (k182 : Mm → Option (Mm)) : Nat → Mm → Option (Mm)
  | 0, _ => none
  | n + 1, M =>
    if y3 ≤ (M 15 5) then (k182  M) else (bd (f_X8_byteAt ((M 15 4) + (M 15 5)) M) fun v128_23 M128_22 => bd (f_X8_kindOf v128_23 M128_22) fun v131_25 M131_24 => if v131_25 = (M131_24 15 3) then (bd (f_X8_byteAt ((M131_24 15 4) + (M131_24 15 5)) M131_24) fun v159_27 M159_26 => lp_X8_advance_110 y3 k182 n  (mset (mset M159_26 15 6 ((((M131_24 15 6) * (nI 10)) + v159_27) - (nI 48))) 15 5 (((mset M159_26 15 6 ((((M131_24 15 6) * (nI 10)) + v159_27) - (nI 48))) 15 5) + (nI 1)))) else (k182  M131_24))
def f_X8_advance  (M : Mm) : Option (Mm) :=
  lp_X8_advance_10  (fun (u7 : Int32) (M8 : Mm) => bd (f_X8_byteAt u7 (mset M8 15 4 u7)) fun v44_10 M44_9 => bd (f_X8_kindOf v44_10 M44_9) fun v47_12 M47_11 => jn (fun (s13 : Int32) (M14 : Mm) => jn (fun (s16 : Int32) (M17 : Mm) => jn (fun (u19 : Int32) (M20 : Mm) => lp_X8_advance_110 u19 (fun  (M30 : Mm) => jn (fun (M31 : Mm) => some ((mset M31 15 3 (nI 6)))) fun j32 => jn (fun (M33 : Mm) => if (M33 15 3) = (nI 2) then (if (M33 15 5) ≤ (nI 3) then (some M33) else (j32  M33)) else (some M33)) fun j34 => if (M30 15 3) = (nI 1) then (if (nI 8) < (M30 15 5) then (j32  M30) else (j34  M30)) else (j34  M30)) N0  (mset M20 15 5 (nI 0))) fun j21 => if s13 = 0 then (j21 s16 M17) else (j21 ((M17 15 2) - u7) M17)) fun j18 => if (M14 15 2) ≤ u7 then (j18 (nI 0) M14) else (j18 (nI 1) M14)) fun j15 => jn (fun (M41 : Mm) => j15 (nI 1) M41) fun j42 => if ((mset (mset M47_11 15 3 v47_12) 15 6 (nI 0)) 15 3) = (nI 1) then (j42  (mset (mset M47_11 15 3 v47_12) 15 6 (nI 0))) else (if ((mset (mset M47_11 15 3 v47_12) 15 6 (nI 0)) 15 3) = (nI 2) then (j42  (mset (mset M47_11 15 3 v47_12) 15 6 (nI 0))) else (j15 (nI 0) (mset (mset M47_11 15 3 v47_12) 15 6 (nI 0))))) N0 ((M 15 4) + (M 15 5)) M
set_option maxHeartbeats 4000000 in
set_option maxRecDepth 100000 in
theorem sl_X8_advance_10 {l : Launch} {B : BT} (hA : bA B = false) {d : Nat} {M' : Mm}   {k36 : Int32 → Mm → Option (Mm)} (hk36 : ∀ (z1 : Int32) (M9 : Mm), k36 z1 M9 = some M' → GG l B LY (d + 1) yX8_advance cX8_advance 4 none 0 0 (PV M') 97 0 0 36 [(0, .ref 15), (1, .int z1)] [] M9) :
    ∀ (n : Nat) (y1 : Int32) (M : Mm), lp_X8_advance_10 k36 n y1 M = some M' → GG l B LY (d + 1) yX8_advance cX8_advance 4 none 0 0 (PV M') 97 0 0 10 [(0, .ref 15), (1, .int y1)] [] M := by
  intro n
  induction n with
  | zero => intro y1 M h; cases h
  | succ n ih =>
    intro y1 M h
    rw [lp_X8_advance_10] at h
    refine g_iload_n dX8_advance_10 rfl 1 rfl ?_
    refine g_aload_n dX8_advance_11 rfl 0 rfl ?_
    refine m_geti (k := 2) okX8 rfl rfl (by decide) w_198 rfl dX8_advance_12 ?_
    refine g_icmp_ge (tgt := 36) dX8_advance_15 (by decide) (fun c6 => ?_) (fun c6 => ?_)
    · replace h := ite_p c6 h
      refine g_sub [0, 1] (lv' := [(0, .ref 15), (1, .int y1)]) rfl ?_
      exact hk36 _ _ h
    · replace h := ite_n c6 h
      refine g_aload_n dX8_advance_18 rfl 0 rfl ?_
      refine g_iload_n dX8_advance_19 rfl 1 rfl ?_
      obtain ⟨v20_2, M20_1, eM20_1, h⟩ := bd_e h
      refine m_callVi (As := [.int y1]) (st := []) (s_X8_byteAt (d := d + 0) hA  eM20_1) rfl okX8 ck_X8_byteAt w_491 rfl (Nat.le_of_ble_eq_true rfl) dX8_advance_20 ?_
      obtain ⟨v23_4, M23_3, eM23_3, h⟩ := bd_e h
      refine m_callSi (As := [.int v20_2]) (st := []) (s_X8_kindOf (d := d + 0) hA  eM23_3) ck_X8_kindOf w_495 rfl (Nat.le_of_ble_eq_true rfl) dX8_advance_23 ?_
      refine g_iconst (v := (nI 5)) dX8_advance_26 (by decide) ?_
      refine g_icmp_ne (tgt := 36) dX8_advance_27 (by decide) (fun c5 => ?_) (fun c5 => ?_)
      · replace h := ite_n c5 h
        refine g_sub [0, 1] (lv' := [(0, .ref 15), (1, .int y1)]) rfl ?_
        exact hk36 _ _ h
      · replace h := ite_p c5 h
        refine g_iinc (v := (y1 + (nI 1))) (lv' := [(1, .int (y1 + (nI 1))), (0, .ref 15)]) dX8_advance_30 1 rfl rfl (by decide) rfl ?_
        refine g_goto (tgt := 10) dX8_advance_33 (by decide) ?_
        refine g_sub [1, 0] (lv' := [(0, .ref 15), (1, .int (y1 + (nI 1)))]) rfl ?_
        exact ih _  _ h
set_option maxHeartbeats 4000000 in
set_option maxRecDepth 100000 in
theorem sl_X8_advance_110 {l : Launch} {B : BT} (hA : bA B = false) {d : Nat} {M' : Mm} {y3 : Int32}  {k182 : Mm → Option (Mm)} (hk182 : ∀  (M9 : Mm), k182  M9 = some M' → GG l B LY (d + 1) yX8_advance cX8_advance 4 none 0 0 (PV M') 97 0 0 182 [(0, .ref 15)] [] M9) :
    ∀ (n : Nat)  (M : Mm), lp_X8_advance_110 y3 k182 n  M = some M' → GG l B LY (d + 1) yX8_advance cX8_advance 4 none 0 0 (PV M') 97 0 0 110 [(0, .ref 15), (3, .int y3)] [] M := by
  intro n
  induction n with
  | zero => intro  M h; cases h
  | succ n ih =>
    intro  M h
    rw [lp_X8_advance_110] at h
    refine g_aload_n dX8_advance_110 rfl 0 rfl ?_
    refine m_geti (k := 5) okX8 rfl rfl (by decide) w_203 rfl dX8_advance_111 ?_
    refine g_iload_n dX8_advance_114 rfl 1 rfl ?_
    refine g_icmp_ge (tgt := 182) dX8_advance_115 (by decide) (fun c29 => ?_) (fun c29 => ?_)
    · replace h := ite_p c29 h
      refine g_sub [0] (lv' := [(0, .ref 15)]) rfl ?_
      exact hk182  _ h
    · replace h := ite_n c29 h
      refine g_aload_n dX8_advance_118 rfl 0 rfl ?_
      refine g_aload_n dX8_advance_119 rfl 0 rfl ?_
      refine m_geti (k := 4) okX8 rfl rfl (by decide) w_201 rfl dX8_advance_120 ?_
      refine g_aload_n dX8_advance_123 rfl 0 rfl ?_
      refine m_geti (k := 5) okX8 rfl rfl (by decide) w_203 rfl dX8_advance_124 ?_
      refine g_iadd dX8_advance_127 ?_
      obtain ⟨v128_23, M128_22, eM128_22, h⟩ := bd_e h
      refine m_callVi (As := [.int ((M 15 4) + (M 15 5))]) (st := []) (s_X8_byteAt (d := d + 0) hA  eM128_22) rfl okX8 ck_X8_byteAt w_491 rfl (Nat.le_of_ble_eq_true rfl) dX8_advance_128 ?_
      obtain ⟨v131_25, M131_24, eM131_24, h⟩ := bd_e h
      refine m_callSi (As := [.int v128_23]) (st := []) (s_X8_kindOf (d := d + 0) hA  eM131_24) ck_X8_kindOf w_495 rfl (Nat.le_of_ble_eq_true rfl) dX8_advance_131 ?_
      refine g_aload_n dX8_advance_134 rfl 0 rfl ?_
      refine m_geti (k := 3) okX8 rfl rfl (by decide) w_200 rfl dX8_advance_135 ?_
      refine g_icmp_ne (tgt := 182) dX8_advance_138 (by decide) (fun c28 => ?_) (fun c28 => ?_)
      · replace h := ite_n c28 h
        refine g_sub [0] (lv' := [(0, .ref 15)]) rfl ?_
        exact hk182  _ h
      · replace h := ite_p c28 h
        refine g_aload_n dX8_advance_141 rfl 0 rfl ?_
        refine g_aload_n dX8_advance_142 rfl 0 rfl ?_
        refine m_geti (k := 6) okX8 rfl rfl (by decide) w_205 rfl dX8_advance_143 ?_
        refine g_bipush (v := (nI 10)) dX8_advance_146 (by decide) ?_
        refine g_imul dX8_advance_148 ?_
        refine g_aload_n dX8_advance_149 rfl 0 rfl ?_
        refine g_aload_n dX8_advance_150 rfl 0 rfl ?_
        refine m_geti (k := 4) okX8 rfl rfl (by decide) w_201 rfl dX8_advance_151 ?_
        refine g_aload_n dX8_advance_154 rfl 0 rfl ?_
        refine m_geti (k := 5) okX8 rfl rfl (by decide) w_203 rfl dX8_advance_155 ?_
        refine g_iadd dX8_advance_158 ?_
        obtain ⟨v159_27, M159_26, eM159_26, h⟩ := bd_e h
        refine m_callVi (As := [.int ((M131_24 15 4) + (M131_24 15 5))]) (st := [.int ((M131_24 15 6) * (nI 10)), .ref 15]) (s_X8_byteAt (d := d + 0) hA  eM159_26) rfl okX8 ck_X8_byteAt w_491 rfl (Nat.le_of_ble_eq_true rfl) dX8_advance_159 ?_
        refine g_iadd dX8_advance_162 ?_
        refine g_bipush (v := (nI 48)) dX8_advance_163 (by decide) ?_
        refine g_isub dX8_advance_165 ?_
        refine m_puti (k := 6) okX8 rfl rfl (by decide) w_205 rfl rfl rfl dX8_advance_166 ?_
        refine g_aload_n dX8_advance_169 rfl 0 rfl ?_
        refine g_dup dX8_advance_170 rfl ?_
        refine m_geti (k := 5) okX8 rfl rfl (by decide) w_203 rfl dX8_advance_171 ?_
        refine g_iconst (v := (nI 1)) dX8_advance_174 (by decide) ?_
        refine g_iadd dX8_advance_175 ?_
        refine m_puti (k := 5) okX8 rfl rfl (by decide) w_203 rfl rfl rfl dX8_advance_176 ?_
        refine g_goto (tgt := 110) dX8_advance_179 (by decide) ?_
        refine g_sub [0, 1] (lv' := [(0, .ref 15), (3, .int y3)]) rfl ?_
        exact ih   _ h
set_option maxHeartbeats 4000000 in
set_option maxRecDepth 100000 in
theorem s_X8_advance {l : Launch} {B : BT} (hA : bA B = false) {d : Nat} {M' : Mm}  {M : Mm}  (h : f_X8_advance  M = some M') : Con l B LY (d + 1) yX8_advance cX8_advance 4 none 0 0 [.ref 15] 97 M (PV M') := by
  refine con_of (by decide) (Nat.le_of_ble_eq_true rfl) ?_
  show GG l B LY (d + 1) yX8_advance cX8_advance 4 none 0 0 (PV M') 97 0 0 0 [(0, .ref 15)] [] M
  rw [f_X8_advance] at h
  refine g_aload_n dX8_advance_0 rfl 0 rfl ?_
  refine m_geti (k := 4) okX8 rfl rfl (by decide) w_201 rfl dX8_advance_1 ?_
  refine g_aload_n dX8_advance_4 rfl 0 rfl ?_
  refine m_geti (k := 5) okX8 rfl rfl (by decide) w_203 rfl dX8_advance_5 ?_
  refine g_iadd dX8_advance_8 ?_
  refine g_istore_n (lv' := [(1, .int ((M 15 4) + (M 15 5))), (0, .ref 15)]) dX8_advance_9 rfl (by decide) rfl ?_
  refine g_sub [1, 0] (lv' := [(0, .ref 15), (1, .int ((M 15 4) + (M 15 5)))]) rfl ?_
  refine sl_X8_advance_10 hA  ?_ _ _ _ h
  · intro u7 M8 h
    refine g_aload_n dX8_advance_36 rfl 0 rfl ?_
    refine g_iload_n dX8_advance_37 rfl 1 rfl ?_
    refine m_puti (k := 4) okX8 rfl rfl (by decide) w_201 rfl rfl rfl dX8_advance_38 ?_
    refine g_aload_n dX8_advance_41 rfl 0 rfl ?_
    refine g_aload_n dX8_advance_42 rfl 0 rfl ?_
    refine g_iload_n dX8_advance_43 rfl 1 rfl ?_
    obtain ⟨v44_10, M44_9, eM44_9, h⟩ := bd_e h
    refine m_callVi (As := [.int u7]) (st := [.ref 15]) (s_X8_byteAt (d := d + 0) hA  eM44_9) rfl okX8 ck_X8_byteAt w_491 rfl (Nat.le_of_ble_eq_true rfl) dX8_advance_44 ?_
    obtain ⟨v47_12, M47_11, eM47_11, h⟩ := bd_e h
    refine m_callSi (As := [.int v44_10]) (st := [.ref 15]) (s_X8_kindOf (d := d + 0) hA  eM47_11) ck_X8_kindOf w_495 rfl (Nat.le_of_ble_eq_true rfl) dX8_advance_47 ?_
    refine m_puti (k := 3) okX8 rfl rfl (by decide) w_200 rfl rfl rfl dX8_advance_50 ?_
    refine g_aload_n dX8_advance_53 rfl 0 rfl ?_
    refine g_iconst (v := (nI 0)) dX8_advance_54 (by decide) ?_
    refine m_puti (k := 6) okX8 rfl rfl (by decide) w_205 rfl rfl rfl dX8_advance_55 ?_
    refine g_aload_n dX8_advance_58 rfl 0 rfl ?_
    refine m_geti (k := 3) okX8 rfl rfl (by decide) w_200 rfl dX8_advance_59 ?_
    refine g_iconst (v := (nI 1)) dX8_advance_62 (by decide) ?_
    obtain ⟨j15, ej15, h⟩ := jn_e h
    have hj15 : ∀ (s13 : Int32) (M14 : Mm), j15 s13 M14 = some M' → GG l B LY (d + 1) yX8_advance cX8_advance 4 none 0 0 (PV M') 97 0 0 79 [(0, .ref 15), (1, .int u7)] [.int s13] M14 := by
      intro s13 M14 h
      rw [ej15] at h
      refine g_istore_n (lv' := [(2, .int s13), (0, .ref 15), (1, .int u7)]) dX8_advance_79 rfl (by decide) rfl ?_
      refine g_iload_n dX8_advance_80 rfl 2 rfl ?_
      refine g_aload_n dX8_advance_81 rfl 1 rfl ?_
      refine m_geti (k := 2) okX8 rfl rfl (by decide) w_198 rfl dX8_advance_82 ?_
      obtain ⟨j18, ej18, h⟩ := jn_e h
      have hj18 : ∀ (s16 : Int32) (M17 : Mm), j18 s16 M17 = some M' → GG l B LY (d + 1) yX8_advance cX8_advance 4 none 0 0 (PV M') 97 0 0 93 [(0, .ref 15), (1, .int u7), (2, .int s13)] [.int s16] M17 := by
        intro s16 M17 h
        rw [ej18] at h
        refine g_istore_n (lv' := [(3, .int s16), (0, .ref 15), (1, .int u7), (2, .int s13)]) dX8_advance_93 rfl (by decide) rfl ?_
        refine g_iload_n dX8_advance_94 rfl 3 rfl ?_
        obtain ⟨j21, ej21, h⟩ := jn_e h
        have hj21 : ∀ (u19 : Int32) (M20 : Mm), j21 u19 M20 = some M' → GG l B LY (d + 1) yX8_advance cX8_advance 4 none 0 0 (PV M') 97 0 0 105 [(0, .ref 15), (3, .int u19)] [] M20 := by
          intro u19 M20 h
          rw [ej21] at h
          refine g_aload_n dX8_advance_105 rfl 0 rfl ?_
          refine g_iconst (v := (nI 0)) dX8_advance_106 (by decide) ?_
          refine m_puti (k := 5) okX8 rfl rfl (by decide) w_203 rfl rfl rfl dX8_advance_107 ?_
          refine g_sub [0, 1] (lv' := [(0, .ref 15), (3, .int u19)]) rfl ?_
          refine sl_X8_advance_110 hA  ?_ _  _ h
          · intro  M30 h
            refine g_aload_n dX8_advance_182 rfl 0 rfl ?_
            refine m_geti (k := 3) okX8 rfl rfl (by decide) w_200 rfl dX8_advance_183 ?_
            refine g_iconst (v := (nI 1)) dX8_advance_186 (by decide) ?_
            obtain ⟨j32, ej32, h⟩ := jn_e h
            have hj32 : ∀ (M31 : Mm), j32 M31 = some M' → GG l B LY (d + 1) yX8_advance cX8_advance 4 none 0 0 (PV M') 97 0 0 215 [(0, .ref 15)] [] M31 := by
              intro M31 h
              rw [ej32] at h
              refine g_aload_n dX8_advance_215 rfl 0 rfl ?_
              refine g_bipush (v := (nI 6)) dX8_advance_216 (by decide) ?_
              refine m_puti (k := 3) okX8 rfl rfl (by decide) w_200 rfl rfl rfl dX8_advance_218 ?_
              exact g_vret rfl (pv_of h) dX8_advance_221
            obtain ⟨j34, ej34, h⟩ := jn_e h
            have hj34 : ∀ (M33 : Mm), j34 M33 = some M' → GG l B LY (d + 1) yX8_advance cX8_advance 4 none 0 0 (PV M') 97 0 0 199 [(0, .ref 15)] [] M33 := by
              intro M33 h
              rw [ej34] at h
              refine g_aload_n dX8_advance_199 rfl 0 rfl ?_
              refine m_geti (k := 3) okX8 rfl rfl (by decide) w_200 rfl dX8_advance_200 ?_
              refine g_iconst (v := (nI 2)) dX8_advance_203 (by decide) ?_
              refine g_icmp_ne (tgt := 221) dX8_advance_204 (by decide) (fun c36 => ?_) (fun c36 => ?_)
              · replace h := ite_n c36 h
                exact g_vret rfl (pv_of h) dX8_advance_221
              · replace h := ite_p c36 h
                refine g_aload_n dX8_advance_207 rfl 0 rfl ?_
                refine m_geti (k := 5) okX8 rfl rfl (by decide) w_203 rfl dX8_advance_208 ?_
                refine g_iconst (v := (nI 3)) dX8_advance_211 (by decide) ?_
                refine g_icmp_le (tgt := 221) dX8_advance_212 (by decide) (fun c35 => ?_) (fun c35 => ?_)
                · replace h := ite_p c35 h
                  exact g_vret rfl (pv_of h) dX8_advance_221
                · replace h := ite_n c35 h
                  refine g_sub [0] (lv' := [(0, .ref 15)]) rfl ?_
                  exact hj32  _ h
            refine g_icmp_ne (tgt := 199) dX8_advance_187 (by decide) (fun c38 => ?_) (fun c38 => ?_)
            · replace h := ite_n c38 h
              refine g_sub [0] (lv' := [(0, .ref 15)]) rfl ?_
              exact hj34  _ h
            · replace h := ite_p c38 h
              refine g_aload_n dX8_advance_190 rfl 0 rfl ?_
              refine m_geti (k := 5) okX8 rfl rfl (by decide) w_203 rfl dX8_advance_191 ?_
              refine g_bipush (v := (nI 8)) dX8_advance_194 (by decide) ?_
              refine g_icmp_gt (tgt := 215) dX8_advance_196 (by decide) (fun c37 => ?_) (fun c37 => ?_)
              · replace h := ite_p c37 h
                refine g_sub [0] (lv' := [(0, .ref 15)]) rfl ?_
                exact hj32  _ h
              · replace h := ite_n c37 h
                refine g_sub [0] (lv' := [(0, .ref 15)]) rfl ?_
                exact hj34  _ h
        refine g_if_eq (tgt := 105) dX8_advance_95 (by decide) (fun c39 => ?_) (fun c39 => ?_)
        · replace h := ite_p c39 h
          refine g_sub [1, 0] (lv' := [(0, .ref 15), (3, .int s16)]) rfl ?_
          exact hj21 _ _ h
        · replace h := ite_n c39 h
          refine g_aload_n dX8_advance_98 rfl 1 rfl ?_
          refine m_geti (k := 2) okX8 rfl rfl (by decide) w_198 rfl dX8_advance_99 ?_
          refine g_iload_n dX8_advance_102 rfl 2 rfl ?_
          refine g_isub dX8_advance_103 ?_
          refine g_istore_n (lv' := [(3, .int ((M17 15 2) - u7)), (0, .ref 15), (1, .int u7), (2, .int s13)]) dX8_advance_104 rfl (by decide) rfl ?_
          refine g_sub [1, 0] (lv' := [(0, .ref 15), (3, .int ((M17 15 2) - u7))]) rfl ?_
          exact hj21 _ _ h
      refine g_icmp_ge (tgt := 92) dX8_advance_85 (by decide) (fun c40 => ?_) (fun c40 => ?_)
      · replace h := ite_p c40 h
        refine g_iconst (v := (nI 0)) dX8_advance_92 (by decide) ?_
        refine g_sub [1, 2, 0] (lv' := [(0, .ref 15), (1, .int u7), (2, .int s13)]) rfl ?_
        exact hj18 _ _ h
      · replace h := ite_n c40 h
        refine g_iconst (v := (nI 1)) dX8_advance_88 (by decide) ?_
        refine g_goto (tgt := 93) dX8_advance_89 (by decide) ?_
        refine g_sub [1, 2, 0] (lv' := [(0, .ref 15), (1, .int u7), (2, .int s13)]) rfl ?_
        exact hj18 _ _ h
    obtain ⟨j42, ej42, h⟩ := jn_e h
    have hj42 : ∀ (M41 : Mm), j42 M41 = some M' → GG l B LY (d + 1) yX8_advance cX8_advance 4 none 0 0 (PV M') 97 0 0 74 [(0, .ref 15), (1, .int u7)] [] M41 := by
      intro M41 h
      rw [ej42] at h
      refine g_iconst (v := (nI 1)) dX8_advance_74 (by decide) ?_
      refine g_goto (tgt := 79) dX8_advance_75 (by decide) ?_
      refine g_sub [0, 1] (lv' := [(0, .ref 15), (1, .int u7)]) rfl ?_
      exact hj15 _ _ h
    refine g_icmp_eq (tgt := 74) dX8_advance_63 (by decide) (fun c44 => ?_) (fun c44 => ?_)
    · replace h := ite_p c44 h
      refine g_sub [0, 1] (lv' := [(0, .ref 15), (1, .int u7)]) rfl ?_
      exact hj42  _ h
    · replace h := ite_n c44 h
      refine g_aload_n dX8_advance_66 rfl 0 rfl ?_
      refine m_geti (k := 3) okX8 rfl rfl (by decide) w_200 rfl dX8_advance_67 ?_
      refine g_iconst (v := (nI 2)) dX8_advance_70 (by decide) ?_
      refine g_icmp_ne (tgt := 78) dX8_advance_71 (by decide) (fun c43 => ?_) (fun c43 => ?_)
      · replace h := ite_n c43 h
        refine g_iconst (v := (nI 0)) dX8_advance_78 (by decide) ?_
        refine g_sub [0, 1] (lv' := [(0, .ref 15), (1, .int u7)]) rfl ?_
        exact hj15 _ _ h
      · replace h := ite_p c43 h
        refine g_sub [0, 1] (lv' := [(0, .ref 15), (1, .int u7)]) rfl ?_
        exact hj42  _ h
theorem ck_X8_advance : CKV yX8_advance cX8_advance 4 none 0 := ⟨⟨by decide, by decide, by decide +kernel⟩, w_490, w_74, ⟨w_488, w_489⟩, by decide⟩
theorem dX8_open_0 : decode cX8_open 0 = .ok (.aload_n 0, 1) := by decide +kernel
theorem dX8_open_1 : decode cX8_open 1 = .ok (.iload_n 1, 1) := by decide +kernel
theorem dX8_open_2 : decode cX8_open 2 = .ok (.putfield 19, 3) := by decide +kernel
theorem dX8_open_5 : decode cX8_open 5 = .ok (.aload_n 0, 1) := by decide +kernel
theorem dX8_open_6 : decode cX8_open 6 = .ok (.iconst 0, 1) := by decide +kernel
theorem dX8_open_7 : decode cX8_open 7 = .ok (.putfield 22, 3) := by decide +kernel
theorem dX8_open_10 : decode cX8_open 10 = .ok (.aload_n 0, 1) := by decide +kernel
theorem dX8_open_11 : decode cX8_open 11 = .ok (.iconst 0, 1) := by decide +kernel
theorem dX8_open_12 : decode cX8_open 12 = .ok (.putfield 25, 3) := by decide +kernel
theorem dX8_open_15 : decode cX8_open 15 = .ok (.aload_n 0, 1) := by decide +kernel
theorem dX8_open_16 : decode cX8_open 16 = .ok (.invokevirtual 28, 3) := by decide +kernel
theorem dX8_open_19 : decode cX8_open 19 = .ok (.return_, 1) := by decide +kernel
def f_X8_open (x1 : Int32) (M : Mm) : Option (Mm) :=
  bv (f_X8_advance  (mset (mset (mset M 15 2 x1) 15 4 (nI 0)) 15 5 (nI 0))) fun M16_1 => some M16_1
set_option maxHeartbeats 4000000 in
set_option maxRecDepth 100000 in
theorem s_X8_open {l : Launch} {B : BT} (hA : bA B = false) {d : Nat} {M' : Mm} {x1 : Int32} {M : Mm}  (h : f_X8_open x1 M = some M') : Con l B LY (d + 2) yX8_open cX8_open 2 none 0 0 [.ref 15, .int x1] 97 M (PV M') := by
  refine con_of (by decide) (Nat.le_of_ble_eq_true rfl) ?_
  show GG l B LY (d + 2) yX8_open cX8_open 2 none 0 0 (PV M') 97 0 0 0 [(0, .ref 15), (1, .int x1)] [] M
  rw [f_X8_open] at h
  refine g_aload_n dX8_open_0 rfl 0 rfl ?_
  refine g_iload_n dX8_open_1 rfl 1 rfl ?_
  refine m_puti (k := 2) okX8 rfl rfl (by decide) w_198 rfl rfl rfl dX8_open_2 ?_
  refine g_aload_n dX8_open_5 rfl 0 rfl ?_
  refine g_iconst (v := (nI 0)) dX8_open_6 (by decide) ?_
  refine m_puti (k := 4) okX8 rfl rfl (by decide) w_201 rfl rfl rfl dX8_open_7 ?_
  refine g_aload_n dX8_open_10 rfl 0 rfl ?_
  refine g_iconst (v := (nI 0)) dX8_open_11 (by decide) ?_
  refine m_puti (k := 5) okX8 rfl rfl (by decide) w_203 rfl rfl rfl dX8_open_12 ?_
  refine g_aload_n dX8_open_15 rfl 0 rfl ?_
  obtain ⟨M16_1, eM16_1, h⟩ := bv_e h
  refine m_callVv (As := []) (st := []) (s_X8_advance (d := d + 0) hA  eM16_1) rfl okX8 ck_X8_advance w_487 rfl (Nat.le_of_ble_eq_true rfl) dX8_open_16 ?_
  exact g_vret rfl (pv_of h) dX8_open_19
theorem ck_X8_open : CKV yX8_open cX8_open 2 none 1 := ⟨⟨by decide, by decide, by decide +kernel⟩, w_486, w_74, ⟨w_484, w_485⟩, by decide⟩
theorem dX8_isWord_0 : decode cX8_isWord 0 = .ok (.aload_n 0, 1) := by decide +kernel
theorem dX8_isWord_1 : decode cX8_isWord 1 = .ok (.getfield 38, 3) := by decide +kernel
theorem dX8_isWord_4 : decode cX8_isWord 4 = .ok (.iconst 1, 1) := by decide +kernel
theorem dX8_isWord_5 : decode cX8_isWord 5 = .ok (.if_icmp .ne 14, 3) := by decide +kernel
theorem dX8_isWord_8 : decode cX8_isWord 8 = .ok (.aload_n 0, 1) := by decide +kernel
theorem dX8_isWord_9 : decode cX8_isWord 9 = .ok (.getfield 25, 3) := by decide +kernel
theorem dX8_isWord_12 : decode cX8_isWord 12 = .ok (.aload_n 1, 1) := by decide +kernel
theorem dX8_isWord_13 : decode cX8_isWord 13 = .ok (.invokevirtual 44, 3) := by decide +kernel
theorem dX8_isWord_16 : decode cX8_isWord 16 = .ok (.if_icmp .eq 5, 3) := by decide +kernel
theorem dX8_isWord_19 : decode cX8_isWord 19 = .ok (.iconst 0, 1) := by decide +kernel
theorem dX8_isWord_20 : decode cX8_isWord 20 = .ok (.ireturn, 1) := by decide +kernel
theorem dX8_isWord_21 : decode cX8_isWord 21 = .ok (.iconst 0, 1) := by decide +kernel
theorem dX8_isWord_22 : decode cX8_isWord 22 = .ok (.istore_n 2, 1) := by decide +kernel
theorem dX8_isWord_23 : decode cX8_isWord 23 = .ok (.iload_n 2, 1) := by decide +kernel
theorem dX8_isWord_24 : decode cX8_isWord 24 = .ok (.aload_n 1, 1) := by decide +kernel
theorem dX8_isWord_25 : decode cX8_isWord 25 = .ok (.invokevirtual 44, 3) := by decide +kernel
theorem dX8_isWord_28 : decode cX8_isWord 28 = .ok (.if_icmp .ge 29, 3) := by decide +kernel
theorem dX8_isWord_31 : decode cX8_isWord 31 = .ok (.aload_n 0, 1) := by decide +kernel
theorem dX8_isWord_32 : decode cX8_isWord 32 = .ok (.aload_n 0, 1) := by decide +kernel
theorem dX8_isWord_33 : decode cX8_isWord 33 = .ok (.getfield 22, 3) := by decide +kernel
theorem dX8_isWord_36 : decode cX8_isWord 36 = .ok (.iload_n 2, 1) := by decide +kernel
theorem dX8_isWord_37 : decode cX8_isWord 37 = .ok (.iadd, 1) := by decide +kernel
theorem dX8_isWord_38 : decode cX8_isWord 38 = .ok (.invokevirtual 31, 3) := by decide +kernel
theorem dX8_isWord_41 : decode cX8_isWord 41 = .ok (.aload_n 1, 1) := by decide +kernel
theorem dX8_isWord_42 : decode cX8_isWord 42 = .ok (.iload_n 2, 1) := by decide +kernel
theorem dX8_isWord_43 : decode cX8_isWord 43 = .ok (.invokevirtual 49, 3) := by decide +kernel
theorem dX8_isWord_46 : decode cX8_isWord 46 = .ok (.if_icmp .eq 5, 3) := by decide +kernel
theorem dX8_isWord_49 : decode cX8_isWord 49 = .ok (.iconst 0, 1) := by decide +kernel
theorem dX8_isWord_50 : decode cX8_isWord 50 = .ok (.ireturn, 1) := by decide +kernel
theorem dX8_isWord_51 : decode cX8_isWord 51 = .ok (.iinc 2 1, 3) := by decide +kernel
theorem dX8_isWord_54 : decode cX8_isWord 54 = .ok (.goto (-31), 3) := by decide +kernel
theorem dX8_isWord_57 : decode cX8_isWord 57 = .ok (.iconst 1, 1) := by decide +kernel
theorem dX8_isWord_58 : decode cX8_isWord 58 = .ok (.ireturn, 1) := by decide +kernel
def lp_X8_isWord_23 (y1 : Nat)  : Nat → Int32 → Mm → Option (Int32 × Mm)
  | 0, _, _ => none
  | n + 1, y2, M =>
    if (slen y1) ≤ y2 then (some ((nI 1), M)) else (bd (f_X8_byteAt ((M 15 4) + y2) M) fun v38_2 M38_1 => gd (inb y2 (stB y1).length) <| if v38_2 = (schar y1 y2.toNatClampNeg) then (lp_X8_isWord_23 y1 n (y2 + (nI 1)) M38_1) else (some ((nI 0), M38_1)))
def f_X8_isWord (x1 : Nat) (M : Mm) : Option (Int32 × Mm) :=
  if (M 15 3) = (nI 1) then (if (M 15 5) = (slen x1) then (lp_X8_isWord_23 x1  N0 (nI 0) M) else (some ((nI 0), M))) else (some ((nI 0), M))
set_option maxHeartbeats 4000000 in
set_option maxRecDepth 100000 in
theorem sl_X8_isWord_23 {l : Launch} {B : BT} (hA : bA B = false) {d : Nat} {r : Int32} {M' : Mm} {y1 : Nat} (hy1 : y1 < 46)   :
    ∀ (n : Nat) (y2 : Int32) (M : Mm), lp_X8_isWord_23 y1 n y2 M = some (r, M') → GG l B LY (d + 4) yX8_isWord cX8_isWord 3 (some .boolean) 0 0 (PI r M') 97 0 0 23 [(0, .ref 15), (1, .ref (1000 + y1)), (2, .int y2)] [] M := by
  intro n
  induction n with
  | zero => intro y2 M h; cases h
  | succ n ih =>
    intro y2 M h
    rw [lp_X8_isWord_23] at h
    refine g_iload_n dX8_isWord_23 rfl 2 rfl ?_
    refine g_aload_n dX8_isWord_24 rfl 1 rfl ?_
    refine m_slen (d := d + 1) (st := [.int y2]) hy1 w_503 dX8_isWord_25 ?_
    refine g_icmp_ge (tgt := 57) dX8_isWord_28 (by decide) (fun c4 => ?_) (fun c4 => ?_)
    · replace h := ite_p c4 h
      refine g_iconst (v := (nI 1)) dX8_isWord_57 (by decide) ?_
      exact g_zret rfl rfl (pi_of h) dX8_isWord_58
    · replace h := ite_n c4 h
      refine g_aload_n dX8_isWord_31 rfl 0 rfl ?_
      refine g_aload_n dX8_isWord_32 rfl 0 rfl ?_
      refine m_geti (k := 4) okX8 rfl rfl (by decide) w_201 rfl dX8_isWord_33 ?_
      refine g_iload_n dX8_isWord_36 rfl 2 rfl ?_
      refine g_iadd dX8_isWord_37 ?_
      obtain ⟨v38_2, M38_1, eM38_1, h⟩ := bd_e h
      refine m_callVi (As := [.int ((M 15 4) + y2)]) (st := []) (s_X8_byteAt (d := d + 3) hA  eM38_1) rfl okX8 ck_X8_byteAt w_491 rfl (Nat.le_of_ble_eq_true rfl) dX8_isWord_38 ?_
      refine g_aload_n dX8_isWord_41 rfl 1 rfl ?_
      refine g_iload_n dX8_isWord_42 rfl 2 rfl ?_
      obtain ⟨hz, h⟩ := gd_s h
      refine m_schar (d := d + 0) (st := [.int v38_2]) hy1 hz w_513 dX8_isWord_43 ?_
      refine g_icmp_eq (tgt := 51) dX8_isWord_46 (by decide) (fun c3 => ?_) (fun c3 => ?_)
      · replace h := ite_p c3 h
        refine g_iinc (v := (y2 + (nI 1))) (lv' := [(2, .int (y2 + (nI 1))), (0, .ref 15), (1, .ref (1000 + y1))]) dX8_isWord_51 2 rfl rfl (by decide) rfl ?_
        refine g_goto (tgt := 23) dX8_isWord_54 (by decide) ?_
        refine g_sub [1, 2, 0] (lv' := [(0, .ref 15), (1, .ref (1000 + y1)), (2, .int (y2 + (nI 1)))]) rfl ?_
        exact ih _  _ h
      · replace h := ite_n c3 h
        refine g_iconst (v := (nI 0)) dX8_isWord_49 (by decide) ?_
        exact g_zret rfl rfl (pi_of h) dX8_isWord_50
set_option maxHeartbeats 4000000 in
set_option maxRecDepth 100000 in
theorem s_X8_isWord {l : Launch} {B : BT} (hA : bA B = false) {d : Nat} {r : Int32} {M' : Mm} {x1 : Nat} {M : Mm} (hx1 : x1 < 46) (h : f_X8_isWord x1 M = some (r, M')) : Con l B LY (d + 4) yX8_isWord cX8_isWord 3 (some .boolean) 0 0 [.ref 15, .ref (1000 + x1)] 97 M (PI r M') := by
  refine con_of (by decide) (Nat.le_of_ble_eq_true rfl) ?_
  show GG l B LY (d + 4) yX8_isWord cX8_isWord 3 (some .boolean) 0 0 (PI r M') 97 0 0 0 [(0, .ref 15), (1, .ref (1000 + x1))] [] M
  rw [f_X8_isWord] at h
  refine g_aload_n dX8_isWord_0 rfl 0 rfl ?_
  refine m_geti (k := 3) okX8 rfl rfl (by decide) w_200 rfl dX8_isWord_1 ?_
  refine g_iconst (v := (nI 1)) dX8_isWord_4 (by decide) ?_
  refine g_icmp_ne (tgt := 19) dX8_isWord_5 (by decide) (fun c6 => ?_) (fun c6 => ?_)
  · replace h := ite_n c6 h
    refine g_iconst (v := (nI 0)) dX8_isWord_19 (by decide) ?_
    exact g_zret rfl rfl (pi_of h) dX8_isWord_20
  · replace h := ite_p c6 h
    refine g_aload_n dX8_isWord_8 rfl 0 rfl ?_
    refine m_geti (k := 5) okX8 rfl rfl (by decide) w_203 rfl dX8_isWord_9 ?_
    refine g_aload_n dX8_isWord_12 rfl 1 rfl ?_
    refine m_slen (d := d + 1) (st := [.int (M 15 5)]) hx1 w_503 dX8_isWord_13 ?_
    refine g_icmp_eq (tgt := 21) dX8_isWord_16 (by decide) (fun c5 => ?_) (fun c5 => ?_)
    · replace h := ite_p c5 h
      refine g_iconst (v := (nI 0)) dX8_isWord_21 (by decide) ?_
      refine g_istore_n (lv' := [(2, .int (nI 0)), (0, .ref 15), (1, .ref (1000 + x1))]) dX8_isWord_22 rfl (by decide) rfl ?_
      refine g_sub [1, 2, 0] (lv' := [(0, .ref 15), (1, .ref (1000 + x1)), (2, .int (nI 0))]) rfl ?_
      refine sl_X8_isWord_23 hA hx1  _ _ _ h
    · replace h := ite_n c5 h
      refine g_iconst (v := (nI 0)) dX8_isWord_19 (by decide) ?_
      exact g_zret rfl rfl (pi_of h) dX8_isWord_20
theorem ck_X8_isWord : CKV yX8_isWord cX8_isWord 3 (some .boolean) 1 := ⟨⟨by decide, by decide, by decide +kernel⟩, w_502, w_74, ⟨w_500, w_501⟩, by decide⟩
theorem dX5_fail_0 : decode cX5_fail 0 = .ok (.aload_n 0, 1) := by decide +kernel
theorem dX5_fail_1 : decode cX5_fail 1 = .ok (.iload_n 1, 1) := by decide +kernel
theorem dX5_fail_2 : decode cX5_fail 2 = .ok (.putfield 31, 3) := by decide +kernel
theorem dX5_fail_5 : decode cX5_fail 5 = .ok (.aload_n 0, 1) := by decide +kernel
theorem dX5_fail_6 : decode cX5_fail 6 = .ok (.aload_n 0, 1) := by decide +kernel
theorem dX5_fail_7 : decode cX5_fail 7 = .ok (.getfield 18, 3) := by decide +kernel
theorem dX5_fail_10 : decode cX5_fail 10 = .ok (.getfield 87, 3) := by decide +kernel
theorem dX5_fail_13 : decode cX5_fail 13 = .ok (.putfield 35, 3) := by decide +kernel
theorem dX5_fail_16 : decode cX5_fail 16 = .ok (.iconst 0, 1) := by decide +kernel
theorem dX5_fail_17 : decode cX5_fail 17 = .ok (.ireturn, 1) := by decide +kernel
def f_X5_fail (x1 : Int32) (M : Mm) : Option (Int32 × Mm) :=
  some ((nI 0), (mset (mset M 17 4 x1) 17 5 ((mset M 17 4 x1) 15 4)))
set_option maxHeartbeats 4000000 in
set_option maxRecDepth 100000 in
theorem s_X5_fail {l : Launch} {B : BT} (hA : bA B = false) {d : Nat} {r : Int32} {M' : Mm} {x1 : Int32} {M : Mm}  (h : f_X5_fail x1 M = some (r, M')) : Con l B LY (d + 0) yX5_fail cX5_fail 2 (some .boolean) 0 0 [.ref 17, .int x1] 97 M (PI r M') := by
  refine con_of (by decide) (Nat.le_of_ble_eq_true rfl) ?_
  show GG l B LY (d + 0) yX5_fail cX5_fail 2 (some .boolean) 0 0 (PI r M') 97 0 0 0 [(0, .ref 17), (1, .int x1)] [] M
  rw [f_X5_fail] at h
  refine g_aload_n dX5_fail_0 rfl 0 rfl ?_
  refine g_iload_n dX5_fail_1 rfl 1 rfl ?_
  refine m_puti (k := 4) okX5 rfl rfl (by decide) w_233 rfl rfl rfl dX5_fail_2 ?_
  refine g_aload_n dX5_fail_5 rfl 0 rfl ?_
  refine g_aload_n dX5_fail_6 rfl 0 rfl ?_
  refine m_geta (k := 0) okX5 rfl rfl (by decide) w_229 rfl dX5_fail_7 ?_
  refine m_geti (k := 4) okX8 rfl rfl (by decide) w_202 rfl dX5_fail_10 ?_
  refine m_puti (k := 5) okX5 rfl rfl (by decide) w_235 rfl rfl rfl dX5_fail_13 ?_
  refine g_iconst (v := (nI 0)) dX5_fail_16 (by decide) ?_
  exact g_zret rfl rfl (pi_of h) dX5_fail_17
theorem ck_X5_fail : CKV yX5_fail cX5_fail 2 (some .boolean) 1 := ⟨⟨by decide, by decide, by decide +kernel⟩, w_558, w_75, ⟨w_556, w_557⟩, by decide⟩
theorem dX5_word_0 : decode cX5_word 0 = .ok (.aload_n 0, 1) := by decide +kernel
theorem dX5_word_1 : decode cX5_word 1 = .ok (.getfield 18, 3) := by decide +kernel
theorem dX5_word_4 : decode cX5_word 4 = .ok (.aload_n 1, 1) := by decide +kernel
theorem dX5_word_5 : decode cX5_word 5 = .ok (.invokevirtual 46, 3) := by decide +kernel
theorem dX5_word_8 : decode cX5_word 8 = .ok (.ifCond .ne 9, 3) := by decide +kernel
theorem dX5_word_11 : decode cX5_word 11 = .ok (.aload_n 0, 1) := by decide +kernel
theorem dX5_word_12 : decode cX5_word 12 = .ok (.iconst 1, 1) := by decide +kernel
theorem dX5_word_13 : decode cX5_word 13 = .ok (.invokevirtual 74, 3) := by decide +kernel
theorem dX5_word_16 : decode cX5_word 16 = .ok (.ireturn, 1) := by decide +kernel
theorem dX5_word_17 : decode cX5_word 17 = .ok (.aload_n 0, 1) := by decide +kernel
theorem dX5_word_18 : decode cX5_word 18 = .ok (.getfield 18, 3) := by decide +kernel
theorem dX5_word_21 : decode cX5_word 21 = .ok (.invokevirtual 84, 3) := by decide +kernel
theorem dX5_word_24 : decode cX5_word 24 = .ok (.iconst 1, 1) := by decide +kernel
theorem dX5_word_25 : decode cX5_word 25 = .ok (.ireturn, 1) := by decide +kernel
def f_X5_word (x1 : Nat) (M : Mm) : Option (Int32 × Mm) :=
  bd (f_X8_isWord x1 M) fun v5_2 M5_1 => if v5_2 = 0 then (bd (f_X5_fail (nI 1) M5_1) fun v13_6 M13_5 => gd (zo v13_6) <| some (v13_6, M13_5)) else (bv (f_X8_advance  M5_1) fun M21_3 => some ((nI 1), M21_3))
set_option maxHeartbeats 4000000 in
set_option maxRecDepth 100000 in
theorem s_X5_word {l : Launch} {B : BT} (hA : bA B = false) {d : Nat} {r : Int32} {M' : Mm} {x1 : Nat} {M : Mm} (hx1 : x1 < 46) (h : f_X5_word x1 M = some (r, M')) : Con l B LY (d + 5) yX5_word cX5_word 2 (some .boolean) 0 0 [.ref 17, .ref (1000 + x1)] 97 M (PI r M') := by
  refine con_of (by decide) (Nat.le_of_ble_eq_true rfl) ?_
  show GG l B LY (d + 5) yX5_word cX5_word 2 (some .boolean) 0 0 (PI r M') 97 0 0 0 [(0, .ref 17), (1, .ref (1000 + x1))] [] M
  rw [f_X5_word] at h
  refine g_aload_n dX5_word_0 rfl 0 rfl ?_
  refine m_geta (k := 0) okX5 rfl rfl (by decide) w_229 rfl dX5_word_1 ?_
  refine g_aload_n dX5_word_4 rfl 1 rfl ?_
  obtain ⟨v5_2, M5_1, eM5_1, h⟩ := bd_e h
  refine m_callVi (As := [.ref (1000 + x1)]) (st := []) (s_X8_isWord (d := d + 0) hA hx1 eM5_1) rfl okX8 ck_X8_isWord w_499 rfl (Nat.le_of_ble_eq_true rfl) dX5_word_5 ?_
  refine g_if_ne (tgt := 17) dX5_word_8 (by decide) (fun c7 => ?_) (fun c7 => ?_)
  · replace h := ite_n c7 h
    refine g_aload_n dX5_word_17 rfl 0 rfl ?_
    refine m_geta (k := 0) okX5 rfl rfl (by decide) w_229 rfl dX5_word_18 ?_
    obtain ⟨M21_3, eM21_3, h⟩ := bv_e h
    refine m_callVv (As := []) (st := []) (s_X8_advance (d := d + 3) hA  eM21_3) rfl okX8 ck_X8_advance w_559 rfl (Nat.le_of_ble_eq_true rfl) dX5_word_21 ?_
    refine g_iconst (v := (nI 1)) dX5_word_24 (by decide) ?_
    exact g_zret rfl rfl (pi_of h) dX5_word_25
  · replace h := ite_p c7 h
    refine g_aload_n dX5_word_11 rfl 0 rfl ?_
    refine g_iconst (v := (nI 1)) dX5_word_12 (by decide) ?_
    obtain ⟨v13_6, M13_5, eM13_5, h⟩ := bd_e h
    refine m_callVi (As := [.int (nI 1)]) (st := []) (s_X5_fail (d := d + 4) hA  eM13_5) rfl okX5 ck_X5_fail w_555 rfl (Nat.le_of_ble_eq_true rfl) dX5_word_13 ?_
    obtain ⟨hz, h⟩ := gd_s h
    exact g_zret rfl (nar_zo hz) (pi_of h) dX5_word_16
theorem ck_X5_word : CKV yX5_word cX5_word 2 (some .boolean) 1 := ⟨⟨by decide, by decide, by decide +kernel⟩, w_568, w_75, ⟨w_566, w_567⟩, by decide⟩
theorem dX5_whole_0 : decode cX5_whole 0 = .ok (.aload_n 0, 1) := by decide +kernel
theorem dX5_whole_1 : decode cX5_whole 1 = .ok (.getfield 18, 3) := by decide +kernel
theorem dX5_whole_4 : decode cX5_whole 4 = .ok (.getfield 78, 3) := by decide +kernel
theorem dX5_whole_7 : decode cX5_whole 7 = .ok (.iconst 2, 1) := by decide +kernel
theorem dX5_whole_8 : decode cX5_whole 8 = .ok (.if_icmp .eq 9, 3) := by decide +kernel
theorem dX5_whole_11 : decode cX5_whole 11 = .ok (.aload_n 0, 1) := by decide +kernel
theorem dX5_whole_12 : decode cX5_whole 12 = .ok (.iconst 1, 1) := by decide +kernel
theorem dX5_whole_13 : decode cX5_whole 13 = .ok (.invokevirtual 74, 3) := by decide +kernel
theorem dX5_whole_16 : decode cX5_whole 16 = .ok (.ireturn, 1) := by decide +kernel
theorem dX5_whole_17 : decode cX5_whole 17 = .ok (.aload_n 0, 1) := by decide +kernel
theorem dX5_whole_18 : decode cX5_whole 18 = .ok (.getfield 18, 3) := by decide +kernel
theorem dX5_whole_21 : decode cX5_whole 21 = .ok (.getfield 90, 3) := by decide +kernel
theorem dX5_whole_24 : decode cX5_whole 24 = .ok (.iload_n 1, 1) := by decide +kernel
theorem dX5_whole_25 : decode cX5_whole 25 = .ok (.if_icmp .lt 14, 3) := by decide +kernel
theorem dX5_whole_28 : decode cX5_whole 28 = .ok (.aload_n 0, 1) := by decide +kernel
theorem dX5_whole_29 : decode cX5_whole 29 = .ok (.getfield 18, 3) := by decide +kernel
theorem dX5_whole_32 : decode cX5_whole 32 = .ok (.getfield 90, 3) := by decide +kernel
theorem dX5_whole_35 : decode cX5_whole 35 = .ok (.iload_n 2, 1) := by decide +kernel
theorem dX5_whole_36 : decode cX5_whole 36 = .ok (.if_icmp .le 9, 3) := by decide +kernel
theorem dX5_whole_39 : decode cX5_whole 39 = .ok (.aload_n 0, 1) := by decide +kernel
theorem dX5_whole_40 : decode cX5_whole 40 = .ok (.iconst 4, 1) := by decide +kernel
theorem dX5_whole_41 : decode cX5_whole 41 = .ok (.invokevirtual 74, 3) := by decide +kernel
theorem dX5_whole_44 : decode cX5_whole 44 = .ok (.ireturn, 1) := by decide +kernel
theorem dX5_whole_45 : decode cX5_whole 45 = .ok (.iload_n 3, 1) := by decide +kernel
theorem dX5_whole_46 : decode cX5_whole 46 = .ok (.ifCond .ne 9, 3) := by decide +kernel
theorem dX5_whole_49 : decode cX5_whole 49 = .ok (.aload_n 0, 1) := by decide +kernel
theorem dX5_whole_50 : decode cX5_whole 50 = .ok (.iconst 5, 1) := by decide +kernel
theorem dX5_whole_51 : decode cX5_whole 51 = .ok (.invokevirtual 74, 3) := by decide +kernel
theorem dX5_whole_54 : decode cX5_whole 54 = .ok (.ireturn, 1) := by decide +kernel
theorem dX5_whole_55 : decode cX5_whole 55 = .ok (.aload_n 0, 1) := by decide +kernel
theorem dX5_whole_56 : decode cX5_whole 56 = .ok (.aload_n 0, 1) := by decide +kernel
theorem dX5_whole_57 : decode cX5_whole 57 = .ok (.getfield 18, 3) := by decide +kernel
theorem dX5_whole_60 : decode cX5_whole 60 = .ok (.getfield 90, 3) := by decide +kernel
theorem dX5_whole_63 : decode cX5_whole 63 = .ok (.putfield 93, 3) := by decide +kernel
theorem dX5_whole_66 : decode cX5_whole 66 = .ok (.aload_n 0, 1) := by decide +kernel
theorem dX5_whole_67 : decode cX5_whole 67 = .ok (.getfield 18, 3) := by decide +kernel
theorem dX5_whole_70 : decode cX5_whole 70 = .ok (.invokevirtual 84, 3) := by decide +kernel
theorem dX5_whole_73 : decode cX5_whole 73 = .ok (.iconst 1, 1) := by decide +kernel
theorem dX5_whole_74 : decode cX5_whole 74 = .ok (.ireturn, 1) := by decide +kernel
def f_X5_whole (x1 : Int32) (x2 : Int32) (x3 : Int32) (M : Mm) : Option (Int32 × Mm) :=
  if (M 15 3) = (nI 2) then (jn (fun (M1 : Mm) => bd (f_X5_fail (nI 4) M1) fun v41_4 M41_3 => gd (zo v41_4) <| some (v41_4, M41_3)) fun j2 => if (M 15 6) < x1 then (j2  M) else (if (M 15 6) ≤ x2 then (if x3 = 0 then (bd (f_X5_fail (nI 5) M) fun v51_8 M51_7 => gd (zo v51_8) <| some (v51_8, M51_7)) else (bv (f_X8_advance  (mset M 17 6 (M 15 6))) fun M70_5 => some ((nI 1), M70_5))) else (j2  M))) else (bd (f_X5_fail (nI 1) M) fun v13_13 M13_12 => gd (zo v13_13) <| some (v13_13, M13_12))
set_option maxHeartbeats 4000000 in
set_option maxRecDepth 100000 in
theorem s_X5_whole {l : Launch} {B : BT} (hA : bA B = false) {d : Nat} {r : Int32} {M' : Mm} {x1 : Int32} {x2 : Int32} {x3 : Int32} {M : Mm}  (h : f_X5_whole x1 x2 x3 M = some (r, M')) : Con l B LY (d + 2) yX5_whole cX5_whole 4 (some .boolean) 0 0 [.ref 17, .int x1, .int x2, .int x3] 97 M (PI r M') := by
  refine con_of (by decide) (Nat.le_of_ble_eq_true rfl) ?_
  show GG l B LY (d + 2) yX5_whole cX5_whole 4 (some .boolean) 0 0 (PI r M') 97 0 0 0 [(0, .ref 17), (1, .int x1), (2, .int x2), (3, .int x3)] [] M
  rw [f_X5_whole] at h
  refine g_aload_n dX5_whole_0 rfl 0 rfl ?_
  refine m_geta (k := 0) okX5 rfl rfl (by decide) w_229 rfl dX5_whole_1 ?_
  refine m_geti (k := 3) okX8 rfl rfl (by decide) w_199 rfl dX5_whole_4 ?_
  refine g_iconst (v := (nI 2)) dX5_whole_7 (by decide) ?_
  refine g_icmp_eq (tgt := 17) dX5_whole_8 (by decide) (fun c14 => ?_) (fun c14 => ?_)
  · replace h := ite_p c14 h
    refine g_aload_n dX5_whole_17 rfl 0 rfl ?_
    refine m_geta (k := 0) okX5 rfl rfl (by decide) w_229 rfl dX5_whole_18 ?_
    refine m_geti (k := 6) okX8 rfl rfl (by decide) w_206 rfl dX5_whole_21 ?_
    refine g_iload_n dX5_whole_24 rfl 1 rfl ?_
    obtain ⟨j2, ej2, h⟩ := jn_e h
    have hj2 : ∀ (M1 : Mm), j2 M1 = some (r, M') → GG l B LY (d + 2) yX5_whole cX5_whole 4 (some .boolean) 0 0 (PI r M') 97 0 0 39 [(0, .ref 17)] [] M1 := by
      intro M1 h
      rw [ej2] at h
      refine g_aload_n dX5_whole_39 rfl 0 rfl ?_
      refine g_iconst (v := (nI 4)) dX5_whole_40 (by decide) ?_
      obtain ⟨v41_4, M41_3, eM41_3, h⟩ := bd_e h
      refine m_callVi (As := [.int (nI 4)]) (st := []) (s_X5_fail (d := d + 1) hA  eM41_3) rfl okX5 ck_X5_fail w_555 rfl (Nat.le_of_ble_eq_true rfl) dX5_whole_41 ?_
      obtain ⟨hz, h⟩ := gd_s h
      exact g_zret rfl (nar_zo hz) (pi_of h) dX5_whole_44
    refine g_icmp_lt (tgt := 39) dX5_whole_25 (by decide) (fun c11 => ?_) (fun c11 => ?_)
    · replace h := ite_p c11 h
      refine g_sub [0] (lv' := [(0, .ref 17)]) rfl ?_
      exact hj2  _ h
    · replace h := ite_n c11 h
      refine g_aload_n dX5_whole_28 rfl 0 rfl ?_
      refine m_geta (k := 0) okX5 rfl rfl (by decide) w_229 rfl dX5_whole_29 ?_
      refine m_geti (k := 6) okX8 rfl rfl (by decide) w_206 rfl dX5_whole_32 ?_
      refine g_iload_n dX5_whole_35 rfl 2 rfl ?_
      refine g_icmp_le (tgt := 45) dX5_whole_36 (by decide) (fun c10 => ?_) (fun c10 => ?_)
      · replace h := ite_p c10 h
        refine g_iload_n dX5_whole_45 rfl 3 rfl ?_
        refine g_if_ne (tgt := 55) dX5_whole_46 (by decide) (fun c9 => ?_) (fun c9 => ?_)
        · replace h := ite_n c9 h
          refine g_aload_n dX5_whole_55 rfl 0 rfl ?_
          refine g_aload_n dX5_whole_56 rfl 0 rfl ?_
          refine m_geta (k := 0) okX5 rfl rfl (by decide) w_229 rfl dX5_whole_57 ?_
          refine m_geti (k := 6) okX8 rfl rfl (by decide) w_206 rfl dX5_whole_60 ?_
          refine m_puti (k := 6) okX5 rfl rfl (by decide) w_237 rfl rfl rfl dX5_whole_63 ?_
          refine g_aload_n dX5_whole_66 rfl 0 rfl ?_
          refine m_geta (k := 0) okX5 rfl rfl (by decide) w_229 rfl dX5_whole_67 ?_
          obtain ⟨M70_5, eM70_5, h⟩ := bv_e h
          refine m_callVv (As := []) (st := []) (s_X8_advance (d := d + 0) hA  eM70_5) rfl okX8 ck_X8_advance w_559 rfl (Nat.le_of_ble_eq_true rfl) dX5_whole_70 ?_
          refine g_iconst (v := (nI 1)) dX5_whole_73 (by decide) ?_
          exact g_zret rfl rfl (pi_of h) dX5_whole_74
        · replace h := ite_p c9 h
          refine g_aload_n dX5_whole_49 rfl 0 rfl ?_
          refine g_iconst (v := (nI 5)) dX5_whole_50 (by decide) ?_
          obtain ⟨v51_8, M51_7, eM51_7, h⟩ := bd_e h
          refine m_callVi (As := [.int (nI 5)]) (st := []) (s_X5_fail (d := d + 1) hA  eM51_7) rfl okX5 ck_X5_fail w_555 rfl (Nat.le_of_ble_eq_true rfl) dX5_whole_51 ?_
          obtain ⟨hz, h⟩ := gd_s h
          exact g_zret rfl (nar_zo hz) (pi_of h) dX5_whole_54
      · replace h := ite_n c10 h
        refine g_sub [0] (lv' := [(0, .ref 17)]) rfl ?_
        exact hj2  _ h
  · replace h := ite_n c14 h
    refine g_aload_n dX5_whole_11 rfl 0 rfl ?_
    refine g_iconst (v := (nI 1)) dX5_whole_12 (by decide) ?_
    obtain ⟨v13_13, M13_12, eM13_12, h⟩ := bd_e h
    refine m_callVi (As := [.int (nI 1)]) (st := []) (s_X5_fail (d := d + 1) hA  eM13_12) rfl okX5 ck_X5_fail w_555 rfl (Nat.le_of_ble_eq_true rfl) dX5_whole_13 ?_
    obtain ⟨hz, h⟩ := gd_s h
    exact g_zret rfl (nar_zo hz) (pi_of h) dX5_whole_16
theorem ck_X5_whole : CKV yX5_whole cX5_whole 4 (some .boolean) 3 := ⟨⟨by decide, by decide, by decide +kernel⟩, w_572, w_75, ⟨w_570, w_571⟩, by decide⟩
theorem dX5_told_0 : decode cX5_told 0 = .ok (.aload_n 0, 1) := by decide +kernel
theorem dX5_told_1 : decode cX5_told 1 = .ok (.aload_n 1, 1) := by decide +kernel
theorem dX5_told_2 : decode cX5_told 2 = .ok (.invokevirtual 96, 3) := by decide +kernel
theorem dX5_told_5 : decode cX5_told 5 = .ok (.ifCond .eq 17, 3) := by decide +kernel
theorem dX5_told_8 : decode cX5_told 8 = .ok (.aload_n 0, 1) := by decide +kernel
theorem dX5_told_9 : decode cX5_told 9 = .ok (.iload_n 2, 1) := by decide +kernel
theorem dX5_told_10 : decode cX5_told 10 = .ok (.iload_n 3, 1) := by decide +kernel
theorem dX5_told_11 : decode cX5_told 11 = .ok (.iconst 1, 1) := by decide +kernel
theorem dX5_told_12 : decode cX5_told 12 = .ok (.invokevirtual 99, 3) := by decide +kernel
theorem dX5_told_15 : decode cX5_told 15 = .ok (.ifCond .eq 7, 3) := by decide +kernel
theorem dX5_told_18 : decode cX5_told 18 = .ok (.iconst 1, 1) := by decide +kernel
theorem dX5_told_19 : decode cX5_told 19 = .ok (.goto 4, 3) := by decide +kernel
theorem dX5_told_22 : decode cX5_told 22 = .ok (.iconst 0, 1) := by decide +kernel
theorem dX5_told_23 : decode cX5_told 23 = .ok (.ireturn, 1) := by decide +kernel
def f_X5_told (x1 : Nat) (x2 : Int32) (x3 : Int32) (M : Mm) : Option (Int32 × Mm) :=
  bd (f_X5_word x1 M) fun v2_2 M2_1 => jn (fun (M3 : Mm) => some ((nI 0), M3)) fun j4 => if v2_2 = 0 then (j4  M2_1) else (bd (f_X5_whole x2 x3 (nI 1) M2_1) fun v12_6 M12_5 => if v12_6 = 0 then (j4  M12_5) else (some ((nI 1), M12_5)))
set_option maxHeartbeats 4000000 in
set_option maxRecDepth 100000 in
theorem s_X5_told {l : Launch} {B : BT} (hA : bA B = false) {d : Nat} {r : Int32} {M' : Mm} {x1 : Nat} {x2 : Int32} {x3 : Int32} {M : Mm} (hx1 : x1 < 46) (h : f_X5_told x1 x2 x3 M = some (r, M')) : Con l B LY (d + 6) yX5_told cX5_told 4 (some .boolean) 0 0 [.ref 17, .ref (1000 + x1), .int x2, .int x3] 97 M (PI r M') := by
  refine con_of (by decide) (Nat.le_of_ble_eq_true rfl) ?_
  show GG l B LY (d + 6) yX5_told cX5_told 4 (some .boolean) 0 0 (PI r M') 97 0 0 0 [(0, .ref 17), (1, .ref (1000 + x1)), (2, .int x2), (3, .int x3)] [] M
  rw [f_X5_told] at h
  refine g_aload_n dX5_told_0 rfl 0 rfl ?_
  refine g_aload_n dX5_told_1 rfl 1 rfl ?_
  obtain ⟨v2_2, M2_1, eM2_1, h⟩ := bd_e h
  refine m_callVi (As := [.ref (1000 + x1)]) (st := []) (s_X5_word (d := d + 0) hA hx1 eM2_1) rfl okX5 ck_X5_word w_565 rfl (Nat.le_of_ble_eq_true rfl) dX5_told_2 ?_
  obtain ⟨j4, ej4, h⟩ := jn_e h
  have hj4 : ∀ (M3 : Mm), j4 M3 = some (r, M') → GG l B LY (d + 6) yX5_told cX5_told 4 (some .boolean) 0 0 (PI r M') 97 0 0 22 [] [] M3 := by
    intro M3 h
    rw [ej4] at h
    refine g_iconst (v := (nI 0)) dX5_told_22 (by decide) ?_
    exact g_zret rfl rfl (pi_of h) dX5_told_23
  refine g_if_eq (tgt := 22) dX5_told_5 (by decide) (fun c8 => ?_) (fun c8 => ?_)
  · replace h := ite_p c8 h
    refine g_sub [] (lv' := []) rfl ?_
    exact hj4  _ h
  · replace h := ite_n c8 h
    refine g_aload_n dX5_told_8 rfl 0 rfl ?_
    refine g_iload_n dX5_told_9 rfl 2 rfl ?_
    refine g_iload_n dX5_told_10 rfl 3 rfl ?_
    refine g_iconst (v := (nI 1)) dX5_told_11 (by decide) ?_
    obtain ⟨v12_6, M12_5, eM12_5, h⟩ := bd_e h
    refine m_callVi (As := [.int x2, .int x3, .int (nI 1)]) (st := []) (s_X5_whole (d := d + 3) hA  eM12_5) rfl okX5 ck_X5_whole w_569 rfl (Nat.le_of_ble_eq_true rfl) dX5_told_12 ?_
    refine g_if_eq (tgt := 22) dX5_told_15 (by decide) (fun c7 => ?_) (fun c7 => ?_)
    · replace h := ite_p c7 h
      refine g_sub [] (lv' := []) rfl ?_
      exact hj4  _ h
    · replace h := ite_n c7 h
      refine g_iconst (v := (nI 1)) dX5_told_18 (by decide) ?_
      refine g_goto (tgt := 23) dX5_told_19 (by decide) ?_
      exact g_zret rfl rfl (pi_of h) dX5_told_23
theorem ck_X5_told : CKV yX5_told cX5_told 4 (some .boolean) 3 := ⟨⟨by decide, by decide, by decide +kernel⟩, w_564, w_75, ⟨w_562, w_563⟩, by decide⟩
theorem dX5_yardLine_0 : decode cX5_yardLine 0 = .ok (.aload_n 0, 1) := by decide +kernel
theorem dX5_yardLine_1 : decode cX5_yardLine 1 = .ok (.getfield 22, 3) := by decide +kernel
theorem dX5_yardLine_4 : decode cX5_yardLine 4 = .ok (.getfield 103, 3) := by decide +kernel
theorem dX5_yardLine_7 : decode cX5_yardLine 7 = .ok (.ifCond .le 9, 3) := by decide +kernel
theorem dX5_yardLine_10 : decode cX5_yardLine 10 = .ok (.aload_n 0, 1) := by decide +kernel
theorem dX5_yardLine_11 : decode cX5_yardLine 11 = .ok (.iconst 3, 1) := by decide +kernel
theorem dX5_yardLine_12 : decode cX5_yardLine 12 = .ok (.invokevirtual 74, 3) := by decide +kernel
theorem dX5_yardLine_15 : decode cX5_yardLine 15 = .ok (.ireturn, 1) := by decide +kernel
theorem dX5_yardLine_16 : decode cX5_yardLine 16 = .ok (.aload_n 0, 1) := by decide +kernel
theorem dX5_yardLine_17 : decode cX5_yardLine 17 = .ok (.getfield 18, 3) := by decide +kernel
theorem dX5_yardLine_20 : decode cX5_yardLine 20 = .ok (.invokevirtual 84, 3) := by decide +kernel
theorem dX5_yardLine_23 : decode cX5_yardLine 23 = .ok (.aload_n 0, 1) := by decide +kernel
theorem dX5_yardLine_24 : decode cX5_yardLine 24 = .ok (.ldc 106, 2) := by decide +kernel
theorem dX5_yardLine_26 : decode cX5_yardLine 26 = .ok (.iconst 4, 1) := by decide +kernel
theorem dX5_yardLine_27 : decode cX5_yardLine 27 = .ok (.bipush 40, 2) := by decide +kernel
theorem dX5_yardLine_29 : decode cX5_yardLine 29 = .ok (.invokevirtual 108, 3) := by decide +kernel
theorem dX5_yardLine_32 : decode cX5_yardLine 32 = .ok (.ifCond .ne 5, 3) := by decide +kernel
theorem dX5_yardLine_35 : decode cX5_yardLine 35 = .ok (.iconst 0, 1) := by decide +kernel
theorem dX5_yardLine_36 : decode cX5_yardLine 36 = .ok (.ireturn, 1) := by decide +kernel
theorem dX5_yardLine_37 : decode cX5_yardLine 37 = .ok (.aload_n 0, 1) := by decide +kernel
theorem dX5_yardLine_38 : decode cX5_yardLine 38 = .ok (.getfield 22, 3) := by decide +kernel
theorem dX5_yardLine_41 : decode cX5_yardLine 41 = .ok (.aload_n 0, 1) := by decide +kernel
theorem dX5_yardLine_42 : decode cX5_yardLine 42 = .ok (.getfield 93, 3) := by decide +kernel
theorem dX5_yardLine_45 : decode cX5_yardLine 45 = .ok (.putfield 103, 3) := by decide +kernel
theorem dX5_yardLine_48 : decode cX5_yardLine 48 = .ok (.aload_n 0, 1) := by decide +kernel
theorem dX5_yardLine_49 : decode cX5_yardLine 49 = .ok (.ldc 112, 2) := by decide +kernel
theorem dX5_yardLine_51 : decode cX5_yardLine 51 = .ok (.iconst 1, 1) := by decide +kernel
theorem dX5_yardLine_52 : decode cX5_yardLine 52 = .ok (.bipush 6, 2) := by decide +kernel
theorem dX5_yardLine_54 : decode cX5_yardLine 54 = .ok (.invokevirtual 108, 3) := by decide +kernel
theorem dX5_yardLine_57 : decode cX5_yardLine 57 = .ok (.ifCond .ne 5, 3) := by decide +kernel
theorem dX5_yardLine_60 : decode cX5_yardLine 60 = .ok (.iconst 0, 1) := by decide +kernel
theorem dX5_yardLine_61 : decode cX5_yardLine 61 = .ok (.ireturn, 1) := by decide +kernel
theorem dX5_yardLine_62 : decode cX5_yardLine 62 = .ok (.aload_n 0, 1) := by decide +kernel
theorem dX5_yardLine_63 : decode cX5_yardLine 63 = .ok (.getfield 22, 3) := by decide +kernel
theorem dX5_yardLine_66 : decode cX5_yardLine 66 = .ok (.aload_n 0, 1) := by decide +kernel
theorem dX5_yardLine_67 : decode cX5_yardLine 67 = .ok (.getfield 93, 3) := by decide +kernel
theorem dX5_yardLine_70 : decode cX5_yardLine 70 = .ok (.putfield 114, 3) := by decide +kernel
theorem dX5_yardLine_73 : decode cX5_yardLine 73 = .ok (.aload_n 0, 1) := by decide +kernel
theorem dX5_yardLine_74 : decode cX5_yardLine 74 = .ok (.ldc 116, 2) := by decide +kernel
theorem dX5_yardLine_76 : decode cX5_yardLine 76 = .ok (.iconst 1, 1) := by decide +kernel
theorem dX5_yardLine_77 : decode cX5_yardLine 77 = .ok (.bipush 9, 2) := by decide +kernel
theorem dX5_yardLine_79 : decode cX5_yardLine 79 = .ok (.invokevirtual 108, 3) := by decide +kernel
theorem dX5_yardLine_82 : decode cX5_yardLine 82 = .ok (.ifCond .ne 5, 3) := by decide +kernel
theorem dX5_yardLine_85 : decode cX5_yardLine 85 = .ok (.iconst 0, 1) := by decide +kernel
theorem dX5_yardLine_86 : decode cX5_yardLine 86 = .ok (.ireturn, 1) := by decide +kernel
theorem dX5_yardLine_87 : decode cX5_yardLine 87 = .ok (.aload_n 0, 1) := by decide +kernel
theorem dX5_yardLine_88 : decode cX5_yardLine 88 = .ok (.getfield 22, 3) := by decide +kernel
theorem dX5_yardLine_91 : decode cX5_yardLine 91 = .ok (.aload_n 0, 1) := by decide +kernel
theorem dX5_yardLine_92 : decode cX5_yardLine 92 = .ok (.getfield 93, 3) := by decide +kernel
theorem dX5_yardLine_95 : decode cX5_yardLine 95 = .ok (.putfield 118, 3) := by decide +kernel
theorem dX5_yardLine_98 : decode cX5_yardLine 98 = .ok (.iconst 1, 1) := by decide +kernel
theorem dX5_yardLine_99 : decode cX5_yardLine 99 = .ok (.ireturn, 1) := by decide +kernel
def f_X5_yardLine  (M : Mm) : Option (Int32 × Mm) :=
  bg (M 17 3) fun g1 => if (M g1 6) ≤ 0 then (bv (f_X8_advance  M) fun M20_2 => bd (f_X5_told 1 (nI 4) (nI 40) M20_2) fun v29_5 M29_4 => if v29_5 = 0 then (some ((nI 0), M29_4)) else (bg (M29_4 17 3) fun g6 => bd (f_X5_told 2 (nI 1) (nI 6) (mset M29_4 g6 6 (M29_4 17 6))) fun v54_8 M54_7 => if v54_8 = 0 then (some ((nI 0), M54_7)) else (bg (M54_7 17 3) fun g9 => bd (f_X5_told 3 (nI 1) (nI 9) (mset M54_7 g9 7 (M54_7 17 6))) fun v79_11 M79_10 => if v79_11 = 0 then (some ((nI 0), M79_10)) else (bg (M79_10 17 3) fun g12 => some ((nI 1), (mset M79_10 g12 8 (M79_10 17 6))))))) else (bd (f_X5_fail (nI 3) M) fun v12_17 M12_16 => gd (zo v12_17) <| some (v12_17, M12_16))
set_option maxHeartbeats 4000000 in
set_option maxRecDepth 100000 in
theorem s_X5_yardLine {l : Launch} {B : BT} (hA : bA B = false) {d : Nat} {r : Int32} {M' : Mm}  {M : Mm}  (h : f_X5_yardLine  M = some (r, M')) : Con l B LY (d + 7) yX5_yardLine cX5_yardLine 1 (some .boolean) 0 0 [.ref 17] 97 M (PI r M') := by
  refine con_of (by decide) (Nat.le_of_ble_eq_true rfl) ?_
  show GG l B LY (d + 7) yX5_yardLine cX5_yardLine 1 (some .boolean) 0 0 (PI r M') 97 0 0 0 [(0, .ref 17)] [] M
  rw [f_X5_yardLine] at h
  refine g_aload_n dX5_yardLine_0 rfl 0 rfl ?_
  obtain ⟨g1, eg1, hg1, h⟩ := bg_e h
  refine m_getm (k := 3) okX5 rfl rfl (by decide) w_232 rfl dX5_yardLine_1 eg1 hg1 ?_
  refine m_geti (k := 6) okX0 hg1 rfl (by decide) w_124 rfl dX5_yardLine_4 ?_
  refine g_if_le (tgt := 16) dX5_yardLine_7 (by decide) (fun c18 => ?_) (fun c18 => ?_)
  · replace h := ite_p c18 h
    refine g_aload_n dX5_yardLine_16 rfl 0 rfl ?_
    refine m_geta (k := 0) okX5 rfl rfl (by decide) w_229 rfl dX5_yardLine_17 ?_
    obtain ⟨M20_2, eM20_2, h⟩ := bv_e h
    refine m_callVv (As := []) (st := []) (s_X8_advance (d := d + 5) hA  eM20_2) rfl okX8 ck_X8_advance w_559 rfl (Nat.le_of_ble_eq_true rfl) dX5_yardLine_20 ?_
    refine g_aload_n dX5_yardLine_23 rfl 0 rfl ?_
    refine g_ldcS (j := 1) rfl dX5_yardLine_24 ?_
    refine g_iconst (v := (nI 4)) dX5_yardLine_26 (by decide) ?_
    refine g_bipush (v := (nI 40)) dX5_yardLine_27 (by decide) ?_
    obtain ⟨v29_5, M29_4, eM29_4, h⟩ := bd_e h
    refine m_callVi (As := [.ref (1000 + 1), .int (nI 4), .int (nI 40)]) (st := []) (s_X5_told (d := d + 0) hA (by decide) eM29_4) rfl okX5 ck_X5_told w_561 rfl (Nat.le_of_ble_eq_true rfl) dX5_yardLine_29 ?_
    refine g_if_ne (tgt := 37) dX5_yardLine_32 (by decide) (fun c15 => ?_) (fun c15 => ?_)
    · replace h := ite_n c15 h
      refine g_aload_n dX5_yardLine_37 rfl 0 rfl ?_
      obtain ⟨g6, eg6, hg6, h⟩ := bg_e h
      refine m_getm (k := 3) okX5 rfl rfl (by decide) w_232 rfl dX5_yardLine_38 eg6 hg6 ?_
      refine g_aload_n dX5_yardLine_41 rfl 0 rfl ?_
      refine m_geti (k := 6) okX5 rfl rfl (by decide) w_237 rfl dX5_yardLine_42 ?_
      refine m_puti (k := 6) okX0 hg6 rfl (by decide) w_124 rfl rfl rfl dX5_yardLine_45 ?_
      refine g_aload_n dX5_yardLine_48 rfl 0 rfl ?_
      refine g_ldcS (j := 2) rfl dX5_yardLine_49 ?_
      refine g_iconst (v := (nI 1)) dX5_yardLine_51 (by decide) ?_
      refine g_bipush (v := (nI 6)) dX5_yardLine_52 (by decide) ?_
      obtain ⟨v54_8, M54_7, eM54_7, h⟩ := bd_e h
      refine m_callVi (As := [.ref (1000 + 2), .int (nI 1), .int (nI 6)]) (st := []) (s_X5_told (d := d + 0) hA (by decide) eM54_7) rfl okX5 ck_X5_told w_561 rfl (Nat.le_of_ble_eq_true rfl) dX5_yardLine_54 ?_
      refine g_if_ne (tgt := 62) dX5_yardLine_57 (by decide) (fun c14 => ?_) (fun c14 => ?_)
      · replace h := ite_n c14 h
        refine g_aload_n dX5_yardLine_62 rfl 0 rfl ?_
        obtain ⟨g9, eg9, hg9, h⟩ := bg_e h
        refine m_getm (k := 3) okX5 rfl rfl (by decide) w_232 rfl dX5_yardLine_63 eg9 hg9 ?_
        refine g_aload_n dX5_yardLine_66 rfl 0 rfl ?_
        refine m_geti (k := 6) okX5 rfl rfl (by decide) w_237 rfl dX5_yardLine_67 ?_
        refine m_puti (k := 7) okX0 hg9 rfl (by decide) w_129 rfl rfl rfl dX5_yardLine_70 ?_
        refine g_aload_n dX5_yardLine_73 rfl 0 rfl ?_
        refine g_ldcS (j := 3) rfl dX5_yardLine_74 ?_
        refine g_iconst (v := (nI 1)) dX5_yardLine_76 (by decide) ?_
        refine g_bipush (v := (nI 9)) dX5_yardLine_77 (by decide) ?_
        obtain ⟨v79_11, M79_10, eM79_10, h⟩ := bd_e h
        refine m_callVi (As := [.ref (1000 + 3), .int (nI 1), .int (nI 9)]) (st := []) (s_X5_told (d := d + 0) hA (by decide) eM79_10) rfl okX5 ck_X5_told w_561 rfl (Nat.le_of_ble_eq_true rfl) dX5_yardLine_79 ?_
        refine g_if_ne (tgt := 87) dX5_yardLine_82 (by decide) (fun c13 => ?_) (fun c13 => ?_)
        · replace h := ite_n c13 h
          refine g_aload_n dX5_yardLine_87 rfl 0 rfl ?_
          obtain ⟨g12, eg12, hg12, h⟩ := bg_e h
          refine m_getm (k := 3) okX5 rfl rfl (by decide) w_232 rfl dX5_yardLine_88 eg12 hg12 ?_
          refine g_aload_n dX5_yardLine_91 rfl 0 rfl ?_
          refine m_geti (k := 6) okX5 rfl rfl (by decide) w_237 rfl dX5_yardLine_92 ?_
          refine m_puti (k := 8) okX0 hg12 rfl (by decide) w_132 rfl rfl rfl dX5_yardLine_95 ?_
          refine g_iconst (v := (nI 1)) dX5_yardLine_98 (by decide) ?_
          exact g_zret rfl rfl (pi_of h) dX5_yardLine_99
        · replace h := ite_p c13 h
          refine g_iconst (v := (nI 0)) dX5_yardLine_85 (by decide) ?_
          exact g_zret rfl rfl (pi_of h) dX5_yardLine_86
      · replace h := ite_p c14 h
        refine g_iconst (v := (nI 0)) dX5_yardLine_60 (by decide) ?_
        exact g_zret rfl rfl (pi_of h) dX5_yardLine_61
    · replace h := ite_p c15 h
      refine g_iconst (v := (nI 0)) dX5_yardLine_35 (by decide) ?_
      exact g_zret rfl rfl (pi_of h) dX5_yardLine_36
  · replace h := ite_n c18 h
    refine g_aload_n dX5_yardLine_10 rfl 0 rfl ?_
    refine g_iconst (v := (nI 3)) dX5_yardLine_11 (by decide) ?_
    obtain ⟨v12_17, M12_16, eM12_16, h⟩ := bd_e h
    refine m_callVi (As := [.int (nI 3)]) (st := []) (s_X5_fail (d := d + 6) hA  eM12_16) rfl okX5 ck_X5_fail w_555 rfl (Nat.le_of_ble_eq_true rfl) dX5_yardLine_12 ?_
    obtain ⟨hz, h⟩ := gd_s h
    exact g_zret rfl (nar_zo hz) (pi_of h) dX5_yardLine_15
theorem ck_X5_yardLine : CKV yX5_yardLine cX5_yardLine 1 (some .boolean) 0 := ⟨⟨by decide, by decide, by decide +kernel⟩, w_554, w_75, ⟨w_552, w_553⟩, by decide⟩
