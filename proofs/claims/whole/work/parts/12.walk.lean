/-! walks: X3_begin X9_copy X3_become X3_isOver X3_draw X3_creep X3_creepAll X3_firstAtWall X3_turnsNow X3_stopFootUp X3_wobbleAll X3_orderAll X3_isHidden X3_howStands X3_lookAround X3_sendBack X3_goOn. Written by wip/programs/parts.py. -/
theorem dX3_begin_0 : decode cX3_begin 0 = .ok (.aload_n 0, 1) := by decide +kernel
theorem dX3_begin_1 : decode cX3_begin 1 = .ok (.getfield 9, 3) := by decide +kernel
theorem dX3_begin_4 : decode cX3_begin 4 = .ok (.iconst 0, 1) := by decide +kernel
theorem dX3_begin_5 : decode cX3_begin 5 = .ok (.invokestatic 43, 3) := by decide +kernel
theorem dX3_begin_8 : decode cX3_begin 8 = .ok (.aload_n 0, 1) := by decide +kernel
theorem dX3_begin_9 : decode cX3_begin 9 = .ok (.getfield 15, 3) := by decide +kernel
theorem dX3_begin_12 : decode cX3_begin 12 = .ok (.iconst 0, 1) := by decide +kernel
theorem dX3_begin_13 : decode cX3_begin 13 = .ok (.invokestatic 43, 3) := by decide +kernel
theorem dX3_begin_16 : decode cX3_begin 16 = .ok (.aload_n 0, 1) := by decide +kernel
theorem dX3_begin_17 : decode cX3_begin 17 = .ok (.getfield 18, 3) := by decide +kernel
theorem dX3_begin_20 : decode cX3_begin 20 = .ok (.bipush (-2), 2) := by decide +kernel
theorem dX3_begin_22 : decode cX3_begin 22 = .ok (.invokestatic 43, 3) := by decide +kernel
theorem dX3_begin_25 : decode cX3_begin 25 = .ok (.aload_n 0, 1) := by decide +kernel
theorem dX3_begin_26 : decode cX3_begin 26 = .ok (.getfield 21, 3) := by decide +kernel
theorem dX3_begin_29 : decode cX3_begin 29 = .ok (.iconst 0, 1) := by decide +kernel
theorem dX3_begin_30 : decode cX3_begin 30 = .ok (.invokestatic 43, 3) := by decide +kernel
theorem dX3_begin_33 : decode cX3_begin 33 = .ok (.aload_n 0, 1) := by decide +kernel
theorem dX3_begin_34 : decode cX3_begin 34 = .ok (.getfield 24, 3) := by decide +kernel
theorem dX3_begin_37 : decode cX3_begin 37 = .ok (.iconst 0, 1) := by decide +kernel
theorem dX3_begin_38 : decode cX3_begin 38 = .ok (.invokestatic 43, 3) := by decide +kernel
theorem dX3_begin_41 : decode cX3_begin 41 = .ok (.aload_n 0, 1) := by decide +kernel
theorem dX3_begin_42 : decode cX3_begin 42 = .ok (.getfield 27, 3) := by decide +kernel
theorem dX3_begin_45 : decode cX3_begin 45 = .ok (.iconst 0, 1) := by decide +kernel
theorem dX3_begin_46 : decode cX3_begin 46 = .ok (.invokestatic 43, 3) := by decide +kernel
theorem dX3_begin_49 : decode cX3_begin 49 = .ok (.aload_n 0, 1) := by decide +kernel
theorem dX3_begin_50 : decode cX3_begin 50 = .ok (.iload_n 1, 1) := by decide +kernel
theorem dX3_begin_51 : decode cX3_begin 51 = .ok (.putfield 47, 3) := by decide +kernel
theorem dX3_begin_54 : decode cX3_begin 54 = .ok (.aload_n 0, 1) := by decide +kernel
theorem dX3_begin_55 : decode cX3_begin 55 = .ok (.iconst 0, 1) := by decide +kernel
theorem dX3_begin_56 : decode cX3_begin 56 = .ok (.putfield 50, 3) := by decide +kernel
theorem dX3_begin_59 : decode cX3_begin 59 = .ok (.aload_n 0, 1) := by decide +kernel
theorem dX3_begin_60 : decode cX3_begin 60 = .ok (.iconst 0, 1) := by decide +kernel
theorem dX3_begin_61 : decode cX3_begin 61 = .ok (.putfield 53, 3) := by decide +kernel
theorem dX3_begin_64 : decode cX3_begin 64 = .ok (.aload_n 0, 1) := by decide +kernel
theorem dX3_begin_65 : decode cX3_begin 65 = .ok (.iconst 0, 1) := by decide +kernel
theorem dX3_begin_66 : decode cX3_begin 66 = .ok (.putfield 56, 3) := by decide +kernel
theorem dX3_begin_69 : decode cX3_begin 69 = .ok (.aload_n 0, 1) := by decide +kernel
theorem dX3_begin_70 : decode cX3_begin 70 = .ok (.iconst 0, 1) := by decide +kernel
theorem dX3_begin_71 : decode cX3_begin 71 = .ok (.putfield 59, 3) := by decide +kernel
theorem dX3_begin_74 : decode cX3_begin 74 = .ok (.aload_n 0, 1) := by decide +kernel
theorem dX3_begin_75 : decode cX3_begin 75 = .ok (.bipush (-2), 2) := by decide +kernel
theorem dX3_begin_77 : decode cX3_begin 77 = .ok (.putfield 39, 3) := by decide +kernel
theorem dX3_begin_80 : decode cX3_begin 80 = .ok (.return_, 1) := by decide +kernel
def f_X3_begin (x0 : Nat) (x1 : Int32) (M : Mm) : Option (Mm) :=
  bv (f_X9_fill (x0 + 1) (nI 0) M) fun M5_1 => bv (f_X9_fill (x0 + 2) (nI 0) M5_1) fun M13_3 => bv (f_X9_fill (x0 + 3) (-2 : Int32) M13_3) fun M22_5 => bv (f_X9_fill (x0 + 4) (nI 0) M22_5) fun M30_7 => bv (f_X9_fill (x0 + 5) (nI 0) M30_7) fun M38_9 => bv (f_X9_fill (x0 + 6) (nI 0) M38_9) fun M46_11 => some ((mset (mset (mset (mset (mset (mset M46_11 x0 9 x1) x0 10 (nI 0)) x0 11 (nI 0)) x0 12 (nI 0)) x0 13 (nI 0)) x0 14 (-2 : Int32)))
set_option maxHeartbeats 4000000 in
set_option maxRecDepth 100000 in
theorem s_X3_begin {l : Launch} {B : BT} (hA : bA B = false) {d : Nat} {M' : Mm} {x0 : Nat} {x1 : Int32} {M : Mm} (hx0 : LY x0 = .inl (3, fk3)) (h : f_X3_begin x0 x1 M = some M') : Con l B LY (d + 1) yX3_begin cX3_begin 2 none 0 0 [.ref x0, .int x1] 97 M (PV M') := by
  refine con_of (by decide) (Nat.le_of_ble_eq_true rfl) ?_
  show GG l B LY (d + 1) yX3_begin cX3_begin 2 none 0 0 (PV M') 97 0 0 0 [(0, .ref x0), (1, .int x1)] [] M
  rw [f_X3_begin] at h
  refine g_aload_n dX3_begin_0 rfl 0 rfl ?_
  refine m_getr (k := 0) okX3 hx0 rfl (by decide) w_259 rfl dX3_begin_1 ?_
  refine g_iconst (v := (nI 0)) dX3_begin_4 (by decide) ?_
  obtain ⟨M5_1, eM5_1, h⟩ := bv_e h
  refine m_callNv (As := [.ref (x0 + 1), .int (nI 0)]) (st := []) (s_X9_fill (d := d + 0) hA (al_of (aX3_1 hx0)) eM5_1) ck_X9_fill (host := "StillYard") (List.mem_of_getElem? (i := 14) rfl) rfl (Nat.le_of_ble_eq_true rfl) dX3_begin_5 ?_
  refine g_aload_n dX3_begin_8 rfl 0 rfl ?_
  refine m_getr (k := 1) okX3 hx0 rfl (by decide) w_263 rfl dX3_begin_9 ?_
  refine g_iconst (v := (nI 0)) dX3_begin_12 (by decide) ?_
  obtain ⟨M13_3, eM13_3, h⟩ := bv_e h
  refine m_callNv (As := [.ref (x0 + 2), .int (nI 0)]) (st := []) (s_X9_fill (d := d + 0) hA (al_of (aX3_2 hx0)) eM13_3) ck_X9_fill (host := "StillYard") (List.mem_of_getElem? (i := 14) rfl) rfl (Nat.le_of_ble_eq_true rfl) dX3_begin_13 ?_
  refine g_aload_n dX3_begin_16 rfl 0 rfl ?_
  refine m_getr (k := 2) okX3 hx0 rfl (by decide) w_265 rfl dX3_begin_17 ?_
  refine g_bipush (v := (-2 : Int32)) dX3_begin_20 (by decide) ?_
  obtain ⟨M22_5, eM22_5, h⟩ := bv_e h
  refine m_callNv (As := [.ref (x0 + 3), .int (-2 : Int32)]) (st := []) (s_X9_fill (d := d + 0) hA (al_of (aX3_3 hx0)) eM22_5) ck_X9_fill (host := "StillYard") (List.mem_of_getElem? (i := 14) rfl) rfl (Nat.le_of_ble_eq_true rfl) dX3_begin_22 ?_
  refine g_aload_n dX3_begin_25 rfl 0 rfl ?_
  refine m_getr (k := 3) okX3 hx0 rfl (by decide) w_267 rfl dX3_begin_26 ?_
  refine g_iconst (v := (nI 0)) dX3_begin_29 (by decide) ?_
  obtain ⟨M30_7, eM30_7, h⟩ := bv_e h
  refine m_callNv (As := [.ref (x0 + 4), .int (nI 0)]) (st := []) (s_X9_fill (d := d + 0) hA (al_of (aX3_4 hx0)) eM30_7) ck_X9_fill (host := "StillYard") (List.mem_of_getElem? (i := 14) rfl) rfl (Nat.le_of_ble_eq_true rfl) dX3_begin_30 ?_
  refine g_aload_n dX3_begin_33 rfl 0 rfl ?_
  refine m_getr (k := 4) okX3 hx0 rfl (by decide) w_270 rfl dX3_begin_34 ?_
  refine g_iconst (v := (nI 0)) dX3_begin_37 (by decide) ?_
  obtain ⟨M38_9, eM38_9, h⟩ := bv_e h
  refine m_callNv (As := [.ref (x0 + 5), .int (nI 0)]) (st := []) (s_X9_fill (d := d + 0) hA (al_of (aX3_5 hx0)) eM38_9) ck_X9_fill (host := "StillYard") (List.mem_of_getElem? (i := 14) rfl) rfl (Nat.le_of_ble_eq_true rfl) dX3_begin_38 ?_
  refine g_aload_n dX3_begin_41 rfl 0 rfl ?_
  refine m_getr (k := 5) okX3 hx0 rfl (by decide) w_273 rfl dX3_begin_42 ?_
  refine g_iconst (v := (nI 0)) dX3_begin_45 (by decide) ?_
  obtain ⟨M46_11, eM46_11, h⟩ := bv_e h
  refine m_callNv (As := [.ref (x0 + 6), .int (nI 0)]) (st := []) (s_X9_fill (d := d + 0) hA (al_of (aX3_6 hx0)) eM46_11) ck_X9_fill (host := "StillYard") (List.mem_of_getElem? (i := 14) rfl) rfl (Nat.le_of_ble_eq_true rfl) dX3_begin_46 ?_
  refine g_aload_n dX3_begin_49 rfl 0 rfl ?_
  refine g_iload_n dX3_begin_50 rfl 1 rfl ?_
  refine m_puti (k := 9) okX3 hx0 rfl (by decide) w_278 rfl rfl rfl dX3_begin_51 ?_
  refine g_aload_n dX3_begin_54 rfl 0 rfl ?_
  refine g_iconst (v := (nI 0)) dX3_begin_55 (by decide) ?_
  refine m_puti (k := 10) okX3 hx0 rfl (by decide) w_280 rfl rfl rfl dX3_begin_56 ?_
  refine g_aload_n dX3_begin_59 rfl 0 rfl ?_
  refine g_iconst (v := (nI 0)) dX3_begin_60 (by decide) ?_
  refine m_puti (k := 11) okX3 hx0 rfl (by decide) w_282 rfl rfl rfl dX3_begin_61 ?_
  refine g_aload_n dX3_begin_64 rfl 0 rfl ?_
  refine g_iconst (v := (nI 0)) dX3_begin_65 (by decide) ?_
  refine m_puti (k := 12) okX3 hx0 rfl (by decide) w_284 rfl rfl rfl dX3_begin_66 ?_
  refine g_aload_n dX3_begin_69 rfl 0 rfl ?_
  refine g_iconst (v := (nI 0)) dX3_begin_70 (by decide) ?_
  refine m_puti (k := 13) okX3 hx0 rfl (by decide) w_286 rfl rfl rfl dX3_begin_71 ?_
  refine g_aload_n dX3_begin_74 rfl 0 rfl ?_
  refine g_bipush (v := (-2 : Int32)) dX3_begin_75 (by decide) ?_
  refine m_puti (k := 14) okX3 hx0 rfl (by decide) w_289 rfl rfl rfl dX3_begin_77 ?_
  exact g_vret rfl (pv_of h) dX3_begin_80
theorem ck_X3_begin : CKV yX3_begin cX3_begin 2 none 1 := ⟨⟨by decide, by decide, by decide +kernel⟩, w_670, w_76, ⟨w_668, w_669⟩, by decide⟩
theorem dX9_copy_0 : decode cX9_copy 0 = .ok (.iconst 0, 1) := by decide +kernel
theorem dX9_copy_1 : decode cX9_copy 1 = .ok (.istore_n 2, 1) := by decide +kernel
theorem dX9_copy_2 : decode cX9_copy 2 = .ok (.iload_n 2, 1) := by decide +kernel
theorem dX9_copy_3 : decode cX9_copy 3 = .ok (.aload_n 1, 1) := by decide +kernel
theorem dX9_copy_4 : decode cX9_copy 4 = .ok (.arraylength, 1) := by decide +kernel
theorem dX9_copy_5 : decode cX9_copy 5 = .ok (.if_icmp .ge 17, 3) := by decide +kernel
theorem dX9_copy_8 : decode cX9_copy 8 = .ok (.aload_n 1, 1) := by decide +kernel
theorem dX9_copy_9 : decode cX9_copy 9 = .ok (.iload_n 2, 1) := by decide +kernel
theorem dX9_copy_10 : decode cX9_copy 10 = .ok (.aload_n 0, 1) := by decide +kernel
theorem dX9_copy_11 : decode cX9_copy 11 = .ok (.iload_n 2, 1) := by decide +kernel
theorem dX9_copy_12 : decode cX9_copy 12 = .ok (.invokestatic 166, 3) := by decide +kernel
theorem dX9_copy_15 : decode cX9_copy 15 = .ok (.iastore, 1) := by decide +kernel
theorem dX9_copy_16 : decode cX9_copy 16 = .ok (.iinc 2 1, 3) := by decide +kernel
theorem dX9_copy_19 : decode cX9_copy 19 = .ok (.goto (-17), 3) := by decide +kernel
theorem dX9_copy_22 : decode cX9_copy 22 = .ok (.return_, 1) := by decide +kernel
def lp_X9_copy_2 (y0 : Nat) (y1 : Nat)  : Nat → Int32 → Mm → Option (Mm)
  | 0, _, _ => none
  | n + 1, y2, M =>
    if (nI (alen y1)) ≤ y2 then (some M) else (bd (f_X9_at y0 y2 M) fun v12_2 M12_1 => gd (inb y2 (alen y1)) <| lp_X9_copy_2 y0 y1 n (y2 + (nI 1)) (mset M12_1 y1 y2.toNatClampNeg v12_2))
def f_X9_copy (x0 : Nat) (x1 : Nat) (M : Mm) : Option (Mm) :=
  lp_X9_copy_2 x0 x1  N0 (nI 0) M
set_option maxHeartbeats 4000000 in
set_option maxRecDepth 100000 in
theorem sl_X9_copy_2 {l : Launch} {B : BT} (hA : bA B = false) {d : Nat} {M' : Mm} {y0 : Nat} {y1 : Nat} (hy0 : LY y0 = .inr (0, (alen y0))) (hy1 : LY y1 = .inr (0, (alen y1)))   :
    ∀ (n : Nat) (y2 : Int32) (M : Mm), lp_X9_copy_2 y0 y1 n y2 M = some M' → GG l B LY (d + 1) yX9_copy cX9_copy 3 none 0 0 (PV M') 97 0 0 2 [(0, .ref y0), (1, .ref y1), (2, .int y2)] [] M := by
  intro n
  induction n with
  | zero => intro y2 M h; cases h
  | succ n ih =>
    intro y2 M h
    rw [lp_X9_copy_2] at h
    refine g_iload_n dX9_copy_2 rfl 2 rfl ?_
    refine g_aload_n dX9_copy_3 rfl 1 rfl ?_
    refine m_alen (v := (nI (alen y1))) hy1 (by decide) rfl dX9_copy_4 ?_
    refine g_icmp_ge (tgt := 22) dX9_copy_5 (by decide) (fun c3 => ?_) (fun c3 => ?_)
    · replace h := ite_p c3 h
      exact g_vret rfl (pv_of h) dX9_copy_22
    · replace h := ite_n c3 h
      refine g_aload_n dX9_copy_8 rfl 1 rfl ?_
      refine g_iload_n dX9_copy_9 rfl 2 rfl ?_
      refine g_aload_n dX9_copy_10 rfl 0 rfl ?_
      refine g_iload_n dX9_copy_11 rfl 2 rfl ?_
      obtain ⟨v12_2, M12_1, eM12_1, h⟩ := bd_e h
      refine m_callSi (As := [.ref y0, .int y2]) (st := [.int y2, .ref y1]) (s_X9_at (d := d + 0) hA hy0 eM12_1) ck_X9_at w_605 rfl (Nat.le_of_ble_eq_true rfl) dX9_copy_12 ?_
      obtain ⟨hz, h⟩ := gd_s h
      refine m_iast hA hy1 hz dX9_copy_15 ?_
      refine g_iinc (v := (y2 + (nI 1))) (lv' := [(2, .int (y2 + (nI 1))), (0, .ref y0), (1, .ref y1)]) dX9_copy_16 2 rfl rfl (by decide) rfl ?_
      refine g_goto (tgt := 2) dX9_copy_19 (by decide) ?_
      refine g_sub [1, 2, 0] (lv' := [(0, .ref y0), (1, .ref y1), (2, .int (y2 + (nI 1)))]) rfl ?_
      exact ih _  _ h
set_option maxHeartbeats 4000000 in
set_option maxRecDepth 100000 in
theorem s_X9_copy {l : Launch} {B : BT} (hA : bA B = false) {d : Nat} {M' : Mm} {x0 : Nat} {x1 : Nat} {M : Mm} (hx0 : LY x0 = .inr (0, (alen x0))) (hx1 : LY x1 = .inr (0, (alen x1))) (h : f_X9_copy x0 x1 M = some M') : Con l B LY (d + 1) yX9_copy cX9_copy 3 none 0 0 [.ref x0, .ref x1] 97 M (PV M') := by
  refine con_of (by decide) (Nat.le_of_ble_eq_true rfl) ?_
  show GG l B LY (d + 1) yX9_copy cX9_copy 3 none 0 0 (PV M') 97 0 0 0 [(0, .ref x0), (1, .ref x1)] [] M
  rw [f_X9_copy] at h
  refine g_iconst (v := (nI 0)) dX9_copy_0 (by decide) ?_
  refine g_istore_n (lv' := [(2, .int (nI 0)), (0, .ref x0), (1, .ref x1)]) dX9_copy_1 rfl (by decide) rfl ?_
  refine g_sub [1, 2, 0] (lv' := [(0, .ref x0), (1, .ref x1), (2, .int (nI 0))]) rfl ?_
  refine sl_X9_copy_2 hA hx0 hx1  _ _ _ h
theorem ck_X9_copy : CKS yX9_copy cX9_copy 3 none 2 := ⟨⟨by decide, by decide, by decide +kernel⟩, w_787, w_72, w_786, by decide⟩
theorem dX3_become_0 : decode cX3_become 0 = .ok (.aload_n 1, 1) := by decide +kernel
theorem dX3_become_1 : decode cX3_become 1 = .ok (.getfield 9, 3) := by decide +kernel
theorem dX3_become_4 : decode cX3_become 4 = .ok (.aload_n 0, 1) := by decide +kernel
theorem dX3_become_5 : decode cX3_become 5 = .ok (.getfield 9, 3) := by decide +kernel
theorem dX3_become_8 : decode cX3_become 8 = .ok (.invokestatic 62, 3) := by decide +kernel
theorem dX3_become_11 : decode cX3_become 11 = .ok (.aload_n 1, 1) := by decide +kernel
theorem dX3_become_12 : decode cX3_become 12 = .ok (.getfield 15, 3) := by decide +kernel
theorem dX3_become_15 : decode cX3_become 15 = .ok (.aload_n 0, 1) := by decide +kernel
theorem dX3_become_16 : decode cX3_become 16 = .ok (.getfield 15, 3) := by decide +kernel
theorem dX3_become_19 : decode cX3_become 19 = .ok (.invokestatic 62, 3) := by decide +kernel
theorem dX3_become_22 : decode cX3_become 22 = .ok (.aload_n 1, 1) := by decide +kernel
theorem dX3_become_23 : decode cX3_become 23 = .ok (.getfield 18, 3) := by decide +kernel
theorem dX3_become_26 : decode cX3_become 26 = .ok (.aload_n 0, 1) := by decide +kernel
theorem dX3_become_27 : decode cX3_become 27 = .ok (.getfield 18, 3) := by decide +kernel
theorem dX3_become_30 : decode cX3_become 30 = .ok (.invokestatic 62, 3) := by decide +kernel
theorem dX3_become_33 : decode cX3_become 33 = .ok (.aload_n 1, 1) := by decide +kernel
theorem dX3_become_34 : decode cX3_become 34 = .ok (.getfield 21, 3) := by decide +kernel
theorem dX3_become_37 : decode cX3_become 37 = .ok (.aload_n 0, 1) := by decide +kernel
theorem dX3_become_38 : decode cX3_become 38 = .ok (.getfield 21, 3) := by decide +kernel
theorem dX3_become_41 : decode cX3_become 41 = .ok (.invokestatic 62, 3) := by decide +kernel
theorem dX3_become_44 : decode cX3_become 44 = .ok (.aload_n 1, 1) := by decide +kernel
theorem dX3_become_45 : decode cX3_become 45 = .ok (.getfield 24, 3) := by decide +kernel
theorem dX3_become_48 : decode cX3_become 48 = .ok (.aload_n 0, 1) := by decide +kernel
theorem dX3_become_49 : decode cX3_become 49 = .ok (.getfield 24, 3) := by decide +kernel
theorem dX3_become_52 : decode cX3_become 52 = .ok (.invokestatic 62, 3) := by decide +kernel
theorem dX3_become_55 : decode cX3_become 55 = .ok (.aload_n 1, 1) := by decide +kernel
theorem dX3_become_56 : decode cX3_become 56 = .ok (.getfield 27, 3) := by decide +kernel
theorem dX3_become_59 : decode cX3_become 59 = .ok (.aload_n 0, 1) := by decide +kernel
theorem dX3_become_60 : decode cX3_become 60 = .ok (.getfield 27, 3) := by decide +kernel
theorem dX3_become_63 : decode cX3_become 63 = .ok (.invokestatic 62, 3) := by decide +kernel
theorem dX3_become_66 : decode cX3_become 66 = .ok (.aload_n 0, 1) := by decide +kernel
theorem dX3_become_67 : decode cX3_become 67 = .ok (.aload_n 1, 1) := by decide +kernel
theorem dX3_become_68 : decode cX3_become 68 = .ok (.getfield 47, 3) := by decide +kernel
theorem dX3_become_71 : decode cX3_become 71 = .ok (.putfield 47, 3) := by decide +kernel
theorem dX3_become_74 : decode cX3_become 74 = .ok (.aload_n 0, 1) := by decide +kernel
theorem dX3_become_75 : decode cX3_become 75 = .ok (.aload_n 1, 1) := by decide +kernel
theorem dX3_become_76 : decode cX3_become 76 = .ok (.getfield 50, 3) := by decide +kernel
theorem dX3_become_79 : decode cX3_become 79 = .ok (.putfield 50, 3) := by decide +kernel
theorem dX3_become_82 : decode cX3_become 82 = .ok (.aload_n 0, 1) := by decide +kernel
theorem dX3_become_83 : decode cX3_become 83 = .ok (.aload_n 1, 1) := by decide +kernel
theorem dX3_become_84 : decode cX3_become 84 = .ok (.getfield 53, 3) := by decide +kernel
theorem dX3_become_87 : decode cX3_become 87 = .ok (.putfield 53, 3) := by decide +kernel
theorem dX3_become_90 : decode cX3_become 90 = .ok (.aload_n 0, 1) := by decide +kernel
theorem dX3_become_91 : decode cX3_become 91 = .ok (.aload_n 1, 1) := by decide +kernel
theorem dX3_become_92 : decode cX3_become 92 = .ok (.getfield 56, 3) := by decide +kernel
theorem dX3_become_95 : decode cX3_become 95 = .ok (.putfield 56, 3) := by decide +kernel
theorem dX3_become_98 : decode cX3_become 98 = .ok (.aload_n 0, 1) := by decide +kernel
theorem dX3_become_99 : decode cX3_become 99 = .ok (.aload_n 1, 1) := by decide +kernel
theorem dX3_become_100 : decode cX3_become 100 = .ok (.getfield 59, 3) := by decide +kernel
theorem dX3_become_103 : decode cX3_become 103 = .ok (.putfield 59, 3) := by decide +kernel
theorem dX3_become_106 : decode cX3_become 106 = .ok (.aload_n 0, 1) := by decide +kernel
theorem dX3_become_107 : decode cX3_become 107 = .ok (.aload_n 1, 1) := by decide +kernel
theorem dX3_become_108 : decode cX3_become 108 = .ok (.getfield 39, 3) := by decide +kernel
theorem dX3_become_111 : decode cX3_become 111 = .ok (.putfield 39, 3) := by decide +kernel
theorem dX3_become_114 : decode cX3_become 114 = .ok (.return_, 1) := by decide +kernel
def f_X3_become (x0 : Nat) (x1 : Nat) (M : Mm) : Option (Mm) :=
  bv (f_X9_copy (x1 + 1) (x0 + 1) M) fun M8_1 => bv (f_X9_copy (x1 + 2) (x0 + 2) M8_1) fun M19_3 => bv (f_X9_copy (x1 + 3) (x0 + 3) M19_3) fun M30_5 => bv (f_X9_copy (x1 + 4) (x0 + 4) M30_5) fun M41_7 => bv (f_X9_copy (x1 + 5) (x0 + 5) M41_7) fun M52_9 => bv (f_X9_copy (x1 + 6) (x0 + 6) M52_9) fun M63_11 => some ((mset (mset (mset (mset (mset (mset M63_11 x0 9 (M63_11 x1 9)) x0 10 ((mset M63_11 x0 9 (M63_11 x1 9)) x1 10)) x0 11 ((mset (mset M63_11 x0 9 (M63_11 x1 9)) x0 10 ((mset M63_11 x0 9 (M63_11 x1 9)) x1 10)) x1 11)) x0 12 ((mset (mset (mset M63_11 x0 9 (M63_11 x1 9)) x0 10 ((mset M63_11 x0 9 (M63_11 x1 9)) x1 10)) x0 11 ((mset (mset M63_11 x0 9 (M63_11 x1 9)) x0 10 ((mset M63_11 x0 9 (M63_11 x1 9)) x1 10)) x1 11)) x1 12)) x0 13 ((mset (mset (mset (mset M63_11 x0 9 (M63_11 x1 9)) x0 10 ((mset M63_11 x0 9 (M63_11 x1 9)) x1 10)) x0 11 ((mset (mset M63_11 x0 9 (M63_11 x1 9)) x0 10 ((mset M63_11 x0 9 (M63_11 x1 9)) x1 10)) x1 11)) x0 12 ((mset (mset (mset M63_11 x0 9 (M63_11 x1 9)) x0 10 ((mset M63_11 x0 9 (M63_11 x1 9)) x1 10)) x0 11 ((mset (mset M63_11 x0 9 (M63_11 x1 9)) x0 10 ((mset M63_11 x0 9 (M63_11 x1 9)) x1 10)) x1 11)) x1 12)) x1 13)) x0 14 ((mset (mset (mset (mset (mset M63_11 x0 9 (M63_11 x1 9)) x0 10 ((mset M63_11 x0 9 (M63_11 x1 9)) x1 10)) x0 11 ((mset (mset M63_11 x0 9 (M63_11 x1 9)) x0 10 ((mset M63_11 x0 9 (M63_11 x1 9)) x1 10)) x1 11)) x0 12 ((mset (mset (mset M63_11 x0 9 (M63_11 x1 9)) x0 10 ((mset M63_11 x0 9 (M63_11 x1 9)) x1 10)) x0 11 ((mset (mset M63_11 x0 9 (M63_11 x1 9)) x0 10 ((mset M63_11 x0 9 (M63_11 x1 9)) x1 10)) x1 11)) x1 12)) x0 13 ((mset (mset (mset (mset M63_11 x0 9 (M63_11 x1 9)) x0 10 ((mset M63_11 x0 9 (M63_11 x1 9)) x1 10)) x0 11 ((mset (mset M63_11 x0 9 (M63_11 x1 9)) x0 10 ((mset M63_11 x0 9 (M63_11 x1 9)) x1 10)) x1 11)) x0 12 ((mset (mset (mset M63_11 x0 9 (M63_11 x1 9)) x0 10 ((mset M63_11 x0 9 (M63_11 x1 9)) x1 10)) x0 11 ((mset (mset M63_11 x0 9 (M63_11 x1 9)) x0 10 ((mset M63_11 x0 9 (M63_11 x1 9)) x1 10)) x1 11)) x1 12)) x1 13)) x1 14)))
set_option maxHeartbeats 4000000 in
set_option maxRecDepth 100000 in
theorem s_X3_become {l : Launch} {B : BT} (hA : bA B = false) {d : Nat} {M' : Mm} {x0 : Nat} {x1 : Nat} {M : Mm} (hx0 : LY x0 = .inl (3, fk3)) (hx1 : LY x1 = .inl (3, fk3)) (h : f_X3_become x0 x1 M = some M') : Con l B LY (d + 2) yX3_become cX3_become 2 none 0 0 [.ref x0, .ref x1] 97 M (PV M') := by
  refine con_of (by decide) (Nat.le_of_ble_eq_true rfl) ?_
  show GG l B LY (d + 2) yX3_become cX3_become 2 none 0 0 (PV M') 97 0 0 0 [(0, .ref x0), (1, .ref x1)] [] M
  rw [f_X3_become] at h
  refine g_aload_n dX3_become_0 rfl 1 rfl ?_
  refine m_getr (k := 0) okX3 hx1 rfl (by decide) w_259 rfl dX3_become_1 ?_
  refine g_aload_n dX3_become_4 rfl 0 rfl ?_
  refine m_getr (k := 0) okX3 hx0 rfl (by decide) w_259 rfl dX3_become_5 ?_
  obtain ⟨M8_1, eM8_1, h⟩ := bv_e h
  refine m_callNv (As := [.ref (x1 + 1), .ref (x0 + 1)]) (st := []) (s_X9_copy (d := d + 0) hA (al_of (aX3_1 hx1)) (al_of (aX3_1 hx0)) eM8_1) ck_X9_copy (host := "StillYard") (List.mem_of_getElem? (i := 21) rfl) rfl (Nat.le_of_ble_eq_true rfl) dX3_become_8 ?_
  refine g_aload_n dX3_become_11 rfl 1 rfl ?_
  refine m_getr (k := 1) okX3 hx1 rfl (by decide) w_263 rfl dX3_become_12 ?_
  refine g_aload_n dX3_become_15 rfl 0 rfl ?_
  refine m_getr (k := 1) okX3 hx0 rfl (by decide) w_263 rfl dX3_become_16 ?_
  obtain ⟨M19_3, eM19_3, h⟩ := bv_e h
  refine m_callNv (As := [.ref (x1 + 2), .ref (x0 + 2)]) (st := []) (s_X9_copy (d := d + 0) hA (al_of (aX3_2 hx1)) (al_of (aX3_2 hx0)) eM19_3) ck_X9_copy (host := "StillYard") (List.mem_of_getElem? (i := 21) rfl) rfl (Nat.le_of_ble_eq_true rfl) dX3_become_19 ?_
  refine g_aload_n dX3_become_22 rfl 1 rfl ?_
  refine m_getr (k := 2) okX3 hx1 rfl (by decide) w_265 rfl dX3_become_23 ?_
  refine g_aload_n dX3_become_26 rfl 0 rfl ?_
  refine m_getr (k := 2) okX3 hx0 rfl (by decide) w_265 rfl dX3_become_27 ?_
  obtain ⟨M30_5, eM30_5, h⟩ := bv_e h
  refine m_callNv (As := [.ref (x1 + 3), .ref (x0 + 3)]) (st := []) (s_X9_copy (d := d + 0) hA (al_of (aX3_3 hx1)) (al_of (aX3_3 hx0)) eM30_5) ck_X9_copy (host := "StillYard") (List.mem_of_getElem? (i := 21) rfl) rfl (Nat.le_of_ble_eq_true rfl) dX3_become_30 ?_
  refine g_aload_n dX3_become_33 rfl 1 rfl ?_
  refine m_getr (k := 3) okX3 hx1 rfl (by decide) w_267 rfl dX3_become_34 ?_
  refine g_aload_n dX3_become_37 rfl 0 rfl ?_
  refine m_getr (k := 3) okX3 hx0 rfl (by decide) w_267 rfl dX3_become_38 ?_
  obtain ⟨M41_7, eM41_7, h⟩ := bv_e h
  refine m_callNv (As := [.ref (x1 + 4), .ref (x0 + 4)]) (st := []) (s_X9_copy (d := d + 0) hA (al_of (aX3_4 hx1)) (al_of (aX3_4 hx0)) eM41_7) ck_X9_copy (host := "StillYard") (List.mem_of_getElem? (i := 21) rfl) rfl (Nat.le_of_ble_eq_true rfl) dX3_become_41 ?_
  refine g_aload_n dX3_become_44 rfl 1 rfl ?_
  refine m_getr (k := 4) okX3 hx1 rfl (by decide) w_270 rfl dX3_become_45 ?_
  refine g_aload_n dX3_become_48 rfl 0 rfl ?_
  refine m_getr (k := 4) okX3 hx0 rfl (by decide) w_270 rfl dX3_become_49 ?_
  obtain ⟨M52_9, eM52_9, h⟩ := bv_e h
  refine m_callNv (As := [.ref (x1 + 5), .ref (x0 + 5)]) (st := []) (s_X9_copy (d := d + 0) hA (al_of (aX3_5 hx1)) (al_of (aX3_5 hx0)) eM52_9) ck_X9_copy (host := "StillYard") (List.mem_of_getElem? (i := 21) rfl) rfl (Nat.le_of_ble_eq_true rfl) dX3_become_52 ?_
  refine g_aload_n dX3_become_55 rfl 1 rfl ?_
  refine m_getr (k := 5) okX3 hx1 rfl (by decide) w_273 rfl dX3_become_56 ?_
  refine g_aload_n dX3_become_59 rfl 0 rfl ?_
  refine m_getr (k := 5) okX3 hx0 rfl (by decide) w_273 rfl dX3_become_60 ?_
  obtain ⟨M63_11, eM63_11, h⟩ := bv_e h
  refine m_callNv (As := [.ref (x1 + 6), .ref (x0 + 6)]) (st := []) (s_X9_copy (d := d + 0) hA (al_of (aX3_6 hx1)) (al_of (aX3_6 hx0)) eM63_11) ck_X9_copy (host := "StillYard") (List.mem_of_getElem? (i := 21) rfl) rfl (Nat.le_of_ble_eq_true rfl) dX3_become_63 ?_
  refine g_aload_n dX3_become_66 rfl 0 rfl ?_
  refine g_aload_n dX3_become_67 rfl 1 rfl ?_
  refine m_geti (k := 9) okX3 hx1 rfl (by decide) w_278 rfl dX3_become_68 ?_
  refine m_puti (k := 9) okX3 hx0 rfl (by decide) w_278 rfl rfl rfl dX3_become_71 ?_
  refine g_aload_n dX3_become_74 rfl 0 rfl ?_
  refine g_aload_n dX3_become_75 rfl 1 rfl ?_
  refine m_geti (k := 10) okX3 hx1 rfl (by decide) w_280 rfl dX3_become_76 ?_
  refine m_puti (k := 10) okX3 hx0 rfl (by decide) w_280 rfl rfl rfl dX3_become_79 ?_
  refine g_aload_n dX3_become_82 rfl 0 rfl ?_
  refine g_aload_n dX3_become_83 rfl 1 rfl ?_
  refine m_geti (k := 11) okX3 hx1 rfl (by decide) w_282 rfl dX3_become_84 ?_
  refine m_puti (k := 11) okX3 hx0 rfl (by decide) w_282 rfl rfl rfl dX3_become_87 ?_
  refine g_aload_n dX3_become_90 rfl 0 rfl ?_
  refine g_aload_n dX3_become_91 rfl 1 rfl ?_
  refine m_geti (k := 12) okX3 hx1 rfl (by decide) w_284 rfl dX3_become_92 ?_
  refine m_puti (k := 12) okX3 hx0 rfl (by decide) w_284 rfl rfl rfl dX3_become_95 ?_
  refine g_aload_n dX3_become_98 rfl 0 rfl ?_
  refine g_aload_n dX3_become_99 rfl 1 rfl ?_
  refine m_geti (k := 13) okX3 hx1 rfl (by decide) w_286 rfl dX3_become_100 ?_
  refine m_puti (k := 13) okX3 hx0 rfl (by decide) w_286 rfl rfl rfl dX3_become_103 ?_
  refine g_aload_n dX3_become_106 rfl 0 rfl ?_
  refine g_aload_n dX3_become_107 rfl 1 rfl ?_
  refine m_geti (k := 14) okX3 hx1 rfl (by decide) w_289 rfl dX3_become_108 ?_
  refine m_puti (k := 14) okX3 hx0 rfl (by decide) w_289 rfl rfl rfl dX3_become_111 ?_
  exact g_vret rfl (pv_of h) dX3_become_114
theorem ck_X3_become : CKV yX3_become cX3_become 2 none 1 := ⟨⟨by decide, by decide, by decide +kernel⟩, w_879, w_76, ⟨w_877, w_878⟩, by decide⟩
theorem dX3_isOver_0 : decode cX3_isOver 0 = .ok (.aload_n 0, 1) := by decide +kernel
theorem dX3_isOver_1 : decode cX3_isOver 1 = .ok (.getfield 39, 3) := by decide +kernel
theorem dX3_isOver_4 : decode cX3_isOver 4 = .ok (.ifCond .lt 7, 3) := by decide +kernel
theorem dX3_isOver_7 : decode cX3_isOver 7 = .ok (.iconst 1, 1) := by decide +kernel
theorem dX3_isOver_8 : decode cX3_isOver 8 = .ok (.goto 4, 3) := by decide +kernel
theorem dX3_isOver_11 : decode cX3_isOver 11 = .ok (.iconst 0, 1) := by decide +kernel
theorem dX3_isOver_12 : decode cX3_isOver 12 = .ok (.ireturn, 1) := by decide +kernel
def f_X3_isOver (x0 : Nat) (M : Mm) : Option (Int32 × Mm) :=
  if (M x0 14) < 0 then (some ((nI 0), M)) else (some ((nI 1), M))
set_option maxHeartbeats 4000000 in
set_option maxRecDepth 100000 in
theorem s_X3_isOver {l : Launch} {B : BT} (hA : bA B = false) {d : Nat} {r : Int32} {M' : Mm} {x0 : Nat} {M : Mm} (hx0 : LY x0 = .inl (3, fk3)) (h : f_X3_isOver x0 M = some (r, M')) : Con l B LY (d + 0) yX3_isOver cX3_isOver 1 (some .boolean) 0 0 [.ref x0] 97 M (PI r M') := by
  refine con_of (by decide) (Nat.le_of_ble_eq_true rfl) ?_
  show GG l B LY (d + 0) yX3_isOver cX3_isOver 1 (some .boolean) 0 0 (PI r M') 97 0 0 0 [(0, .ref x0)] [] M
  rw [f_X3_isOver] at h
  refine g_aload_n dX3_isOver_0 rfl 0 rfl ?_
  refine m_geti (k := 14) okX3 hx0 rfl (by decide) w_289 rfl dX3_isOver_1 ?_
  refine g_if_lt (tgt := 11) dX3_isOver_4 (by decide) (fun c1 => ?_) (fun c1 => ?_)
  · replace h := ite_p c1 h
    refine g_iconst (v := (nI 0)) dX3_isOver_11 (by decide) ?_
    exact g_zret rfl rfl (pi_of h) dX3_isOver_12
  · replace h := ite_n c1 h
    refine g_iconst (v := (nI 1)) dX3_isOver_7 (by decide) ?_
    refine g_goto (tgt := 12) dX3_isOver_8 (by decide) ?_
    exact g_zret rfl rfl (pi_of h) dX3_isOver_12
theorem ck_X3_isOver : CKV yX3_isOver cX3_isOver 1 (some .boolean) 0 := ⟨⟨by decide, by decide, by decide +kernel⟩, w_713, w_76, ⟨w_711, w_712⟩, by decide⟩
theorem dX3_draw_0 : decode cX3_draw 0 = .ok (.aload_n 0, 1) := by decide +kernel
theorem dX3_draw_1 : decode cX3_draw 1 = .ok (.bipush 75, 2) := by decide +kernel
theorem dX3_draw_3 : decode cX3_draw 3 = .ok (.aload_n 0, 1) := by decide +kernel
theorem dX3_draw_4 : decode cX3_draw 4 = .ok (.getfield 47, 3) := by decide +kernel
theorem dX3_draw_7 : decode cX3_draw 7 = .ok (.imul, 1) := by decide +kernel
theorem dX3_draw_8 : decode cX3_draw 8 = .ok (.bipush 74, 2) := by decide +kernel
theorem dX3_draw_10 : decode cX3_draw 10 = .ok (.iadd, 1) := by decide +kernel
theorem dX3_draw_11 : decode cX3_draw 11 = .ok (.ldc 66, 2) := by decide +kernel
theorem dX3_draw_13 : decode cX3_draw 13 = .ok (.irem, 1) := by decide +kernel
theorem dX3_draw_14 : decode cX3_draw 14 = .ok (.putfield 47, 3) := by decide +kernel
theorem dX3_draw_17 : decode cX3_draw 17 = .ok (.aload_n 0, 1) := by decide +kernel
theorem dX3_draw_18 : decode cX3_draw 18 = .ok (.getfield 47, 3) := by decide +kernel
theorem dX3_draw_21 : decode cX3_draw 21 = .ok (.bipush 100, 2) := by decide +kernel
theorem dX3_draw_23 : decode cX3_draw 23 = .ok (.irem, 1) := by decide +kernel
theorem dX3_draw_24 : decode cX3_draw 24 = .ok (.ireturn, 1) := by decide +kernel
def f_X3_draw (x0 : Nat) (M : Mm) : Option (Int32 × Mm) :=
  some ((((mset M x0 9 ((((nI 75) * (M x0 9)) + (nI 74)) - (((nI 75) * (M x0 9)) + (nI 74)) / (nI 65537) * (nI 65537))) x0 9) - ((mset M x0 9 ((((nI 75) * (M x0 9)) + (nI 74)) - (((nI 75) * (M x0 9)) + (nI 74)) / (nI 65537) * (nI 65537))) x0 9) / (nI 100) * (nI 100)), (mset M x0 9 ((((nI 75) * (M x0 9)) + (nI 74)) - (((nI 75) * (M x0 9)) + (nI 74)) / (nI 65537) * (nI 65537))))
set_option maxHeartbeats 4000000 in
set_option maxRecDepth 100000 in
theorem s_X3_draw {l : Launch} {B : BT} (hA : bA B = false) {d : Nat} {r : Int32} {M' : Mm} {x0 : Nat} {M : Mm} (hx0 : LY x0 = .inl (3, fk3)) (h : f_X3_draw x0 M = some (r, M')) : Con l B LY (d + 0) yX3_draw cX3_draw 1 (some .int) 0 0 [.ref x0] 97 M (PI r M') := by
  refine con_of (by decide) (Nat.le_of_ble_eq_true rfl) ?_
  show GG l B LY (d + 0) yX3_draw cX3_draw 1 (some .int) 0 0 (PI r M') 97 0 0 0 [(0, .ref x0)] [] M
  rw [f_X3_draw] at h
  refine g_aload_n dX3_draw_0 rfl 0 rfl ?_
  refine g_bipush (v := (nI 75)) dX3_draw_1 (by decide) ?_
  refine g_aload_n dX3_draw_3 rfl 0 rfl ?_
  refine m_geti (k := 9) okX3 hx0 rfl (by decide) w_278 rfl dX3_draw_4 ?_
  refine g_imul dX3_draw_7 ?_
  refine g_bipush (v := (nI 74)) dX3_draw_8 (by decide) ?_
  refine g_iadd dX3_draw_10 ?_
  refine g_ldc (v := (nI 65537)) w_771 dX3_draw_11 ?_
  refine g_irem dX3_draw_13 (by decide) ?_
  refine m_puti (k := 9) okX3 hx0 rfl (by decide) w_278 rfl rfl rfl dX3_draw_14 ?_
  refine g_aload_n dX3_draw_17 rfl 0 rfl ?_
  refine m_geti (k := 9) okX3 hx0 rfl (by decide) w_278 rfl dX3_draw_18 ?_
  refine g_bipush (v := (nI 100)) dX3_draw_21 (by decide) ?_
  refine g_irem dX3_draw_23 (by decide) ?_
  exact g_zret rfl rfl (pi_of h) dX3_draw_24
theorem ck_X3_draw : CKV yX3_draw cX3_draw 1 (some .int) 0 := ⟨⟨by decide, by decide, by decide +kernel⟩, w_770, w_76, ⟨w_768, w_769⟩, by decide⟩
theorem dX3_creep_0 : decode cX3_creep 0 = .ok (.aload_n 0, 1) := by decide +kernel
theorem dX3_creep_1 : decode cX3_creep 1 = .ok (.getfield 15, 3) := by decide +kernel
theorem dX3_creep_4 : decode cX3_creep 4 = .ok (.iload_n 2, 1) := by decide +kernel
theorem dX3_creep_5 : decode cX3_creep 5 = .ok (.iconst 1, 1) := by decide +kernel
theorem dX3_creep_6 : decode cX3_creep 6 = .ok (.invokestatic 109, 3) := by decide +kernel
theorem dX3_creep_9 : decode cX3_creep 9 = .ok (.aload_n 0, 1) := by decide +kernel
theorem dX3_creep_10 : decode cX3_creep 10 = .ok (.getfield 15, 3) := by decide +kernel
theorem dX3_creep_13 : decode cX3_creep 13 = .ok (.iload_n 2, 1) := by decide +kernel
theorem dX3_creep_14 : decode cX3_creep 14 = .ok (.invokestatic 112, 3) := by decide +kernel
theorem dX3_creep_17 : decode cX3_creep 17 = .ok (.aload_n 1, 1) := by decide +kernel
theorem dX3_creep_18 : decode cX3_creep 18 = .ok (.iload_n 2, 1) := by decide +kernel
theorem dX3_creep_19 : decode cX3_creep 19 = .ok (.iconst 1, 1) := by decide +kernel
theorem dX3_creep_20 : decode cX3_creep 20 = .ok (.invokevirtual 116, 3) := by decide +kernel
theorem dX3_creep_23 : decode cX3_creep 23 = .ok (.if_icmp .lt 48, 3) := by decide +kernel
theorem dX3_creep_26 : decode cX3_creep 26 = .ok (.aload_n 0, 1) := by decide +kernel
theorem dX3_creep_27 : decode cX3_creep 27 = .ok (.getfield 15, 3) := by decide +kernel
theorem dX3_creep_30 : decode cX3_creep 30 = .ok (.iload_n 2, 1) := by decide +kernel
theorem dX3_creep_31 : decode cX3_creep 31 = .ok (.iconst 0, 1) := by decide +kernel
theorem dX3_creep_32 : decode cX3_creep 32 = .ok (.invokestatic 102, 3) := by decide +kernel
theorem dX3_creep_35 : decode cX3_creep 35 = .ok (.aload_n 0, 1) := by decide +kernel
theorem dX3_creep_36 : decode cX3_creep 36 = .ok (.getfield 9, 3) := by decide +kernel
theorem dX3_creep_39 : decode cX3_creep 39 = .ok (.iload_n 2, 1) := by decide +kernel
theorem dX3_creep_40 : decode cX3_creep 40 = .ok (.iconst 1, 1) := by decide +kernel
theorem dX3_creep_41 : decode cX3_creep 41 = .ok (.invokestatic 109, 3) := by decide +kernel
theorem dX3_creep_44 : decode cX3_creep 44 = .ok (.aload_n 0, 1) := by decide +kernel
theorem dX3_creep_45 : decode cX3_creep 45 = .ok (.dup, 1) := by decide +kernel
theorem dX3_creep_46 : decode cX3_creep 46 = .ok (.getfield 53, 3) := by decide +kernel
theorem dX3_creep_49 : decode cX3_creep 49 = .ok (.aload_n 1, 1) := by decide +kernel
theorem dX3_creep_50 : decode cX3_creep 50 = .ok (.aload_n 1, 1) := by decide +kernel
theorem dX3_creep_51 : decode cX3_creep 51 = .ok (.iload_n 2, 1) := by decide +kernel
theorem dX3_creep_52 : decode cX3_creep 52 = .ok (.iconst 0, 1) := by decide +kernel
theorem dX3_creep_53 : decode cX3_creep 53 = .ok (.invokevirtual 116, 3) := by decide +kernel
theorem dX3_creep_56 : decode cX3_creep 56 = .ok (.aload_n 0, 1) := by decide +kernel
theorem dX3_creep_57 : decode cX3_creep 57 = .ok (.getfield 9, 3) := by decide +kernel
theorem dX3_creep_60 : decode cX3_creep 60 = .ok (.iload_n 2, 1) := by decide +kernel
theorem dX3_creep_61 : decode cX3_creep 61 = .ok (.invokestatic 112, 3) := by decide +kernel
theorem dX3_creep_64 : decode cX3_creep 64 = .ok (.invokevirtual 120, 3) := by decide +kernel
theorem dX3_creep_67 : decode cX3_creep 67 = .ok (.iadd, 1) := by decide +kernel
theorem dX3_creep_68 : decode cX3_creep 68 = .ok (.putfield 53, 3) := by decide +kernel
theorem dX3_creep_71 : decode cX3_creep 71 = .ok (.return_, 1) := by decide +kernel
def f_X3_creep (x0 : Nat) (x1 : Nat) (x2 : Int32) (M : Mm) : Option (Mm) :=
  bv (f_X9_add (x0 + 2) x2 (nI 1) M) fun M6_1 => bd (f_X9_at (x0 + 2) x2 M6_1) fun v14_4 M14_3 => bd (f_X0_trait x1 x2 (nI 1) M14_3) fun v20_6 M20_5 => if v14_4 < v20_6 then (some M20_5) else (bv (f_X9_put (x0 + 2) x2 (nI 0) M20_5) fun M32_7 => bv (f_X9_add (x0 + 1) x2 (nI 1) M32_7) fun M41_9 => bd (f_X0_trait x1 x2 (nI 0) M41_9) fun v53_12 M53_11 => bd (f_X9_at (x0 + 1) x2 M53_11) fun v61_14 M61_13 => bd (f_X0_loudnessOf x1 v53_12 v61_14 M61_13) fun v64_16 M64_15 => some ((mset M64_15 x0 11 ((M41_9 x0 11) + v64_16))))
set_option maxHeartbeats 4000000 in
set_option maxRecDepth 100000 in
theorem s_X3_creep {l : Launch} {B : BT} (hA : bA B = false) {d : Nat} {M' : Mm} {x0 : Nat} {x1 : Nat} {x2 : Int32} {M : Mm} (hx0 : LY x0 = .inl (3, fk3)) (hx1 : LY x1 = .inl (0, fk0)) (h : f_X3_creep x0 x1 x2 M = some M') : Con l B LY (d + 2) yX3_creep cX3_creep 3 none 0 0 [.ref x0, .ref x1, .int x2] 97 M (PV M') := by
  refine con_of (by decide) (Nat.le_of_ble_eq_true rfl) ?_
  show GG l B LY (d + 2) yX3_creep cX3_creep 3 none 0 0 (PV M') 97 0 0 0 [(0, .ref x0), (1, .ref x1), (2, .int x2)] [] M
  rw [f_X3_creep] at h
  refine g_aload_n dX3_creep_0 rfl 0 rfl ?_
  refine m_getr (k := 1) okX3 hx0 rfl (by decide) w_263 rfl dX3_creep_1 ?_
  refine g_iload_n dX3_creep_4 rfl 2 rfl ?_
  refine g_iconst (v := (nI 1)) dX3_creep_5 (by decide) ?_
  obtain ⟨M6_1, eM6_1, h⟩ := bv_e h
  refine m_callNv (As := [.ref (x0 + 2), .int x2, .int (nI 1)]) (st := []) (s_X9_add (d := d + 0) hA (al_of (aX3_2 hx0)) eM6_1) ck_X9_add (host := "StillYard") (List.mem_of_getElem? (i := 18) rfl) rfl (Nat.le_of_ble_eq_true rfl) dX3_creep_6 ?_
  refine g_aload_n dX3_creep_9 rfl 0 rfl ?_
  refine m_getr (k := 1) okX3 hx0 rfl (by decide) w_263 rfl dX3_creep_10 ?_
  refine g_iload_n dX3_creep_13 rfl 2 rfl ?_
  obtain ⟨v14_4, M14_3, eM14_3, h⟩ := bd_e h
  refine m_callNi (As := [.ref (x0 + 2), .int x2]) (st := []) (s_X9_at (d := d + 1) hA (al_of (aX3_2 hx0)) eM14_3) ck_X9_at (host := "StillYard") (List.mem_of_getElem? (i := 19) rfl) rfl (Nat.le_of_ble_eq_true rfl) dX3_creep_14 ?_
  refine g_aload_n dX3_creep_17 rfl 1 rfl ?_
  refine g_iload_n dX3_creep_18 rfl 2 rfl ?_
  refine g_iconst (v := (nI 1)) dX3_creep_19 (by decide) ?_
  obtain ⟨v20_6, M20_5, eM20_5, h⟩ := bd_e h
  refine m_callVi (As := [.int x2, .int (nI 1)]) (st := [.int v14_4]) (s_X0_trait (d := d + 1) hA hx1 eM20_5) hx1 okX0 ck_X0_trait w_748 rfl (Nat.le_of_ble_eq_true rfl) dX3_creep_20 ?_
  refine g_icmp_lt (tgt := 71) dX3_creep_23 (by decide) (fun c17 => ?_) (fun c17 => ?_)
  · replace h := ite_p c17 h
    exact g_vret rfl (pv_of h) dX3_creep_71
  · replace h := ite_n c17 h
    refine g_aload_n dX3_creep_26 rfl 0 rfl ?_
    refine m_getr (k := 1) okX3 hx0 rfl (by decide) w_263 rfl dX3_creep_27 ?_
    refine g_iload_n dX3_creep_30 rfl 2 rfl ?_
    refine g_iconst (v := (nI 0)) dX3_creep_31 (by decide) ?_
    obtain ⟨M32_7, eM32_7, h⟩ := bv_e h
    refine m_callNv (As := [.ref (x0 + 2), .int x2, .int (nI 0)]) (st := []) (s_X9_put (d := d + 1) hA (al_of (aX3_2 hx0)) eM32_7) ck_X9_put (host := "StillYard") (List.mem_of_getElem? (i := 17) rfl) rfl (Nat.le_of_ble_eq_true rfl) dX3_creep_32 ?_
    refine g_aload_n dX3_creep_35 rfl 0 rfl ?_
    refine m_getr (k := 0) okX3 hx0 rfl (by decide) w_259 rfl dX3_creep_36 ?_
    refine g_iload_n dX3_creep_39 rfl 2 rfl ?_
    refine g_iconst (v := (nI 1)) dX3_creep_40 (by decide) ?_
    obtain ⟨M41_9, eM41_9, h⟩ := bv_e h
    refine m_callNv (As := [.ref (x0 + 1), .int x2, .int (nI 1)]) (st := []) (s_X9_add (d := d + 0) hA (al_of (aX3_1 hx0)) eM41_9) ck_X9_add (host := "StillYard") (List.mem_of_getElem? (i := 18) rfl) rfl (Nat.le_of_ble_eq_true rfl) dX3_creep_41 ?_
    refine g_aload_n dX3_creep_44 rfl 0 rfl ?_
    refine g_dup dX3_creep_45 rfl ?_
    refine m_geti (k := 11) okX3 hx0 rfl (by decide) w_282 rfl dX3_creep_46 ?_
    refine g_aload_n dX3_creep_49 rfl 1 rfl ?_
    refine g_aload_n dX3_creep_50 rfl 1 rfl ?_
    refine g_iload_n dX3_creep_51 rfl 2 rfl ?_
    refine g_iconst (v := (nI 0)) dX3_creep_52 (by decide) ?_
    obtain ⟨v53_12, M53_11, eM53_11, h⟩ := bd_e h
    refine m_callVi (As := [.int x2, .int (nI 0)]) (st := [.ref x1, .int (M41_9 x0 11), .ref x0]) (s_X0_trait (d := d + 1) hA hx1 eM53_11) hx1 okX0 ck_X0_trait w_748 rfl (Nat.le_of_ble_eq_true rfl) dX3_creep_53 ?_
    refine g_aload_n dX3_creep_56 rfl 0 rfl ?_
    refine m_getr (k := 0) okX3 hx0 rfl (by decide) w_259 rfl dX3_creep_57 ?_
    refine g_iload_n dX3_creep_60 rfl 2 rfl ?_
    obtain ⟨v61_14, M61_13, eM61_13, h⟩ := bd_e h
    refine m_callNi (As := [.ref (x0 + 1), .int x2]) (st := [.int v53_12, .ref x1, .int (M41_9 x0 11), .ref x0]) (s_X9_at (d := d + 1) hA (al_of (aX3_1 hx0)) eM61_13) ck_X9_at (host := "StillYard") (List.mem_of_getElem? (i := 19) rfl) rfl (Nat.le_of_ble_eq_true rfl) dX3_creep_61 ?_
    obtain ⟨v64_16, M64_15, eM64_15, h⟩ := bd_e h
    refine m_callVi (As := [.int v53_12, .int v61_14]) (st := [.int (M41_9 x0 11), .ref x0]) (s_X0_loudnessOf (d := d + 0) hA hx1 eM64_15) hx1 okX0 ck_X0_loudnessOf w_749 rfl (Nat.le_of_ble_eq_true rfl) dX3_creep_64 ?_
    refine g_iadd dX3_creep_67 ?_
    refine m_puti (k := 11) okX3 hx0 rfl (by decide) w_282 rfl rfl rfl dX3_creep_68 ?_
    exact g_vret rfl (pv_of h) dX3_creep_71
theorem ck_X3_creep : CKV yX3_creep cX3_creep 3 none 2 := ⟨⟨by decide, by decide, by decide +kernel⟩, w_745, w_76, ⟨w_743, w_744⟩, by decide⟩
theorem dX3_creepAll_0 : decode cX3_creepAll 0 = .ok (.iconst 0, 1) := by decide +kernel
theorem dX3_creepAll_1 : decode cX3_creepAll 1 = .ok (.istore_n 2, 1) := by decide +kernel
theorem dX3_creepAll_2 : decode cX3_creepAll 2 = .ok (.iload_n 2, 1) := by decide +kernel
theorem dX3_creepAll_3 : decode cX3_creepAll 3 = .ok (.aload_n 1, 1) := by decide +kernel
theorem dX3_creepAll_4 : decode cX3_creepAll 4 = .ok (.getfield 93, 3) := by decide +kernel
theorem dX3_creepAll_7 : decode cX3_creepAll 7 = .ok (.if_icmp .ge 46, 3) := by decide +kernel
theorem dX3_creepAll_10 : decode cX3_creepAll 10 = .ok (.aload_n 1, 1) := by decide +kernel
theorem dX3_creepAll_11 : decode cX3_creepAll 11 = .ok (.iload_n 2, 1) := by decide +kernel
theorem dX3_creepAll_12 : decode cX3_creepAll 12 = .ok (.aload_n 0, 1) := by decide +kernel
theorem dX3_creepAll_13 : decode cX3_creepAll 13 = .ok (.getfield 50, 3) := by decide +kernel
theorem dX3_creepAll_16 : decode cX3_creepAll 16 = .ok (.invokevirtual 98, 3) := by decide +kernel
theorem dX3_creepAll_19 : decode cX3_creepAll 19 = .ok (.istore_n 3, 1) := by decide +kernel
theorem dX3_creepAll_20 : decode cX3_creepAll 20 = .ok (.aload_n 0, 1) := by decide +kernel
theorem dX3_creepAll_21 : decode cX3_creepAll 21 = .ok (.getfield 30, 3) := by decide +kernel
theorem dX3_creepAll_24 : decode cX3_creepAll 24 = .ok (.iload_n 2, 1) := by decide +kernel
theorem dX3_creepAll_25 : decode cX3_creepAll 25 = .ok (.iload_n 3, 1) := by decide +kernel
theorem dX3_creepAll_26 : decode cX3_creepAll 26 = .ok (.ifCond .eq 7, 3) := by decide +kernel
theorem dX3_creepAll_29 : decode cX3_creepAll 29 = .ok (.iconst 1, 1) := by decide +kernel
theorem dX3_creepAll_30 : decode cX3_creepAll 30 = .ok (.goto 4, 3) := by decide +kernel
theorem dX3_creepAll_33 : decode cX3_creepAll 33 = .ok (.iconst 0, 1) := by decide +kernel
theorem dX3_creepAll_34 : decode cX3_creepAll 34 = .ok (.invokestatic 102, 3) := by decide +kernel
theorem dX3_creepAll_37 : decode cX3_creepAll 37 = .ok (.iload_n 3, 1) := by decide +kernel
theorem dX3_creepAll_38 : decode cX3_creepAll 38 = .ok (.ifCond .eq 9, 3) := by decide +kernel
theorem dX3_creepAll_41 : decode cX3_creepAll 41 = .ok (.aload_n 0, 1) := by decide +kernel
theorem dX3_creepAll_42 : decode cX3_creepAll 42 = .ok (.aload_n 1, 1) := by decide +kernel
theorem dX3_creepAll_43 : decode cX3_creepAll 43 = .ok (.iload_n 2, 1) := by decide +kernel
theorem dX3_creepAll_44 : decode cX3_creepAll 44 = .ok (.invokevirtual 106, 3) := by decide +kernel
theorem dX3_creepAll_47 : decode cX3_creepAll 47 = .ok (.iinc 2 1, 3) := by decide +kernel
theorem dX3_creepAll_50 : decode cX3_creepAll 50 = .ok (.goto (-48), 3) := by decide +kernel
theorem dX3_creepAll_53 : decode cX3_creepAll 53 = .ok (.return_, 1) := by decide +kernel
def lp_X3_creepAll_2 (y0 : Nat) (y1 : Nat)  : Nat → Int32 → Mm → Option (Mm)
  | 0, _, _ => none
  | n + 1, y2, M =>
    if (M y1 14) ≤ y2 then (some M) else (bd (f_X0_goes y1 y2 (M y0 10) M) fun v16_2 M16_1 => jn (fun (s3 : Int32) (M4 : Mm) => bv (f_X9_put (y0 + 7) y2 s3 M4) fun M34_6 => jn (fun (M8 : Mm) => lp_X3_creepAll_2 y0 y1 n (y2 + (nI 1)) M8) fun j9 => if v16_2 = 0 then (j9  M34_6) else (bv (f_X3_creep y0 y1 y2 M34_6) fun M44_10 => j9  M44_10)) fun j5 => if v16_2 = 0 then (j5 (nI 0) M16_1) else (j5 (nI 1) M16_1))
def f_X3_creepAll (x0 : Nat) (x1 : Nat) (M : Mm) : Option (Mm) :=
  lp_X3_creepAll_2 x0 x1  N0 (nI 0) M
set_option maxHeartbeats 4000000 in
set_option maxRecDepth 100000 in
theorem sl_X3_creepAll_2 {l : Launch} {B : BT} (hA : bA B = false) {d : Nat} {M' : Mm} {y0 : Nat} {y1 : Nat} (hy0 : LY y0 = .inl (3, fk3)) (hy1 : LY y1 = .inl (0, fk0))   :
    ∀ (n : Nat) (y2 : Int32) (M : Mm), lp_X3_creepAll_2 y0 y1 n y2 M = some M' → GG l B LY (d + 3) yX3_creepAll cX3_creepAll 4 none 0 0 (PV M') 97 0 0 2 [(0, .ref y0), (1, .ref y1), (2, .int y2)] [] M := by
  intro n
  induction n with
  | zero => intro y2 M h; cases h
  | succ n ih =>
    intro y2 M h
    rw [lp_X3_creepAll_2] at h
    refine g_iload_n dX3_creepAll_2 rfl 2 rfl ?_
    refine g_aload_n dX3_creepAll_3 rfl 1 rfl ?_
    refine m_geti (k := 14) okX0 hy1 rfl (by decide) w_154 rfl dX3_creepAll_4 ?_
    refine g_icmp_ge (tgt := 53) dX3_creepAll_7 (by decide) (fun c14 => ?_) (fun c14 => ?_)
    · replace h := ite_p c14 h
      exact g_vret rfl (pv_of h) dX3_creepAll_53
    · replace h := ite_n c14 h
      refine g_aload_n dX3_creepAll_10 rfl 1 rfl ?_
      refine g_iload_n dX3_creepAll_11 rfl 2 rfl ?_
      refine g_aload_n dX3_creepAll_12 rfl 0 rfl ?_
      refine m_geti (k := 10) okX3 hy0 rfl (by decide) w_280 rfl dX3_creepAll_13 ?_
      obtain ⟨v16_2, M16_1, eM16_1, h⟩ := bd_e h
      refine m_callVi (As := [.int y2, .int (M y0 10)]) (st := []) (s_X0_goes (d := d + 0) hA hy1 eM16_1) hy1 okX0 ck_X0_goes w_729 rfl (Nat.le_of_ble_eq_true rfl) dX3_creepAll_16 ?_
      refine g_istore_n (lv' := [(3, .int v16_2), (0, .ref y0), (1, .ref y1), (2, .int y2)]) dX3_creepAll_19 rfl (by decide) rfl ?_
      refine g_aload_n dX3_creepAll_20 rfl 1 rfl ?_
      refine m_getr (k := 6) okX3 hy0 rfl (by decide) w_274 rfl dX3_creepAll_21 ?_
      refine g_iload_n dX3_creepAll_24 rfl 3 rfl ?_
      refine g_iload_n dX3_creepAll_25 rfl 0 rfl ?_
      obtain ⟨j5, ej5, h⟩ := jn_e h
      have hj5 : ∀ (s3 : Int32) (M4 : Mm), j5 s3 M4 = some M' → GG l B LY (d + 3) yX3_creepAll cX3_creepAll 4 none 0 0 (PV M') 97 0 0 34 [(0, .ref y0), (1, .ref y1), (2, .int y2), (3, .int v16_2)] [.int s3, .int y2, .ref (y0 + 7)] M4 := by
        intro s3 M4 h
        rw [ej5] at h
        obtain ⟨M34_6, eM34_6, h⟩ := bv_e h
        refine m_callNv (As := [.ref (y0 + 7), .int y2, .int s3]) (st := []) (s_X9_put (d := d + 2) hA (al_of (aX3_7 hy0)) eM34_6) ck_X9_put (host := "StillYard") (List.mem_of_getElem? (i := 17) rfl) rfl (Nat.le_of_ble_eq_true rfl) dX3_creepAll_34 ?_
        refine g_iload_n dX3_creepAll_37 rfl 3 rfl ?_
        obtain ⟨j9, ej9, h⟩ := jn_e h
        have hj9 : ∀ (M8 : Mm), j9 M8 = some M' → GG l B LY (d + 3) yX3_creepAll cX3_creepAll 4 none 0 0 (PV M') 97 0 0 47 [(0, .ref y0), (1, .ref y1), (2, .int y2)] [] M8 := by
          intro M8 h
          rw [ej9] at h
          refine g_iinc (v := (y2 + (nI 1))) (lv' := [(2, .int (y2 + (nI 1))), (0, .ref y0), (1, .ref y1)]) dX3_creepAll_47 2 rfl rfl (by decide) rfl ?_
          refine g_goto (tgt := 2) dX3_creepAll_50 (by decide) ?_
          refine g_sub [1, 2, 0] (lv' := [(0, .ref y0), (1, .ref y1), (2, .int (y2 + (nI 1)))]) rfl ?_
          exact ih _  _ h
        refine g_if_eq (tgt := 47) dX3_creepAll_38 (by decide) (fun c12 => ?_) (fun c12 => ?_)
        · replace h := ite_p c12 h
          refine g_sub [0, 1, 2] (lv' := [(0, .ref y0), (1, .ref y1), (2, .int y2)]) rfl ?_
          exact hj9  _ h
        · replace h := ite_n c12 h
          refine g_aload_n dX3_creepAll_41 rfl 0 rfl ?_
          refine g_aload_n dX3_creepAll_42 rfl 1 rfl ?_
          refine g_iload_n dX3_creepAll_43 rfl 2 rfl ?_
          obtain ⟨M44_10, eM44_10, h⟩ := bv_e h
          refine m_callVv (As := [.ref y1, .int y2]) (st := []) (s_X3_creep (d := d + 0) hA hy0 hy1 eM44_10) hy0 okX3 ck_X3_creep w_742 rfl (Nat.le_of_ble_eq_true rfl) dX3_creepAll_44 ?_
          refine g_sub [0, 1, 2] (lv' := [(0, .ref y0), (1, .ref y1), (2, .int y2)]) rfl ?_
          exact hj9  _ h
      refine g_if_eq (tgt := 33) dX3_creepAll_26 (by decide) (fun c13 => ?_) (fun c13 => ?_)
      · replace h := ite_p c13 h
        refine g_iconst (v := (nI 0)) dX3_creepAll_33 (by decide) ?_
        refine g_sub [1, 2, 3, 0] (lv' := [(0, .ref y0), (1, .ref y1), (2, .int y2), (3, .int v16_2)]) rfl ?_
        exact hj5 _ _ h
      · replace h := ite_n c13 h
        refine g_iconst (v := (nI 1)) dX3_creepAll_29 (by decide) ?_
        refine g_goto (tgt := 34) dX3_creepAll_30 (by decide) ?_
        refine g_sub [1, 2, 3, 0] (lv' := [(0, .ref y0), (1, .ref y1), (2, .int y2), (3, .int v16_2)]) rfl ?_
        exact hj5 _ _ h
set_option maxHeartbeats 4000000 in
set_option maxRecDepth 100000 in
theorem s_X3_creepAll {l : Launch} {B : BT} (hA : bA B = false) {d : Nat} {M' : Mm} {x0 : Nat} {x1 : Nat} {M : Mm} (hx0 : LY x0 = .inl (3, fk3)) (hx1 : LY x1 = .inl (0, fk0)) (h : f_X3_creepAll x0 x1 M = some M') : Con l B LY (d + 3) yX3_creepAll cX3_creepAll 4 none 0 0 [.ref x0, .ref x1] 97 M (PV M') := by
  refine con_of (by decide) (Nat.le_of_ble_eq_true rfl) ?_
  show GG l B LY (d + 3) yX3_creepAll cX3_creepAll 4 none 0 0 (PV M') 97 0 0 0 [(0, .ref x0), (1, .ref x1)] [] M
  rw [f_X3_creepAll] at h
  refine g_iconst (v := (nI 0)) dX3_creepAll_0 (by decide) ?_
  refine g_istore_n (lv' := [(2, .int (nI 0)), (0, .ref x0), (1, .ref x1)]) dX3_creepAll_1 rfl (by decide) rfl ?_
  refine g_sub [1, 2, 0] (lv' := [(0, .ref x0), (1, .ref x1), (2, .int (nI 0))]) rfl ?_
  refine sl_X3_creepAll_2 hA hx0 hx1  _ _ _ h
theorem ck_X3_creepAll : CKV yX3_creepAll cX3_creepAll 4 none 1 := ⟨⟨by decide, by decide, by decide +kernel⟩, w_728, w_76, ⟨w_726, w_727⟩, by decide⟩
theorem dX3_firstAtWall_0 : decode cX3_firstAtWall 0 = .ok (.iconst 0, 1) := by decide +kernel
theorem dX3_firstAtWall_1 : decode cX3_firstAtWall 1 = .ok (.istore_n 2, 1) := by decide +kernel
theorem dX3_firstAtWall_2 : decode cX3_firstAtWall 2 = .ok (.iload_n 2, 1) := by decide +kernel
theorem dX3_firstAtWall_3 : decode cX3_firstAtWall 3 = .ok (.aload_n 1, 1) := by decide +kernel
theorem dX3_firstAtWall_4 : decode cX3_firstAtWall 4 = .ok (.getfield 93, 3) := by decide +kernel
theorem dX3_firstAtWall_7 : decode cX3_firstAtWall 7 = .ok (.if_icmp .ge 26, 3) := by decide +kernel
theorem dX3_firstAtWall_10 : decode cX3_firstAtWall 10 = .ok (.aload_n 0, 1) := by decide +kernel
theorem dX3_firstAtWall_11 : decode cX3_firstAtWall 11 = .ok (.getfield 9, 3) := by decide +kernel
theorem dX3_firstAtWall_14 : decode cX3_firstAtWall 14 = .ok (.iload_n 2, 1) := by decide +kernel
theorem dX3_firstAtWall_15 : decode cX3_firstAtWall 15 = .ok (.invokestatic 112, 3) := by decide +kernel
theorem dX3_firstAtWall_18 : decode cX3_firstAtWall 18 = .ok (.aload_n 1, 1) := by decide +kernel
theorem dX3_firstAtWall_19 : decode cX3_firstAtWall 19 = .ok (.getfield 123, 3) := by decide +kernel
theorem dX3_firstAtWall_22 : decode cX3_firstAtWall 22 = .ok (.if_icmp .lt 5, 3) := by decide +kernel
theorem dX3_firstAtWall_25 : decode cX3_firstAtWall 25 = .ok (.iload_n 2, 1) := by decide +kernel
theorem dX3_firstAtWall_26 : decode cX3_firstAtWall 26 = .ok (.ireturn, 1) := by decide +kernel
theorem dX3_firstAtWall_27 : decode cX3_firstAtWall 27 = .ok (.iinc 2 1, 3) := by decide +kernel
theorem dX3_firstAtWall_30 : decode cX3_firstAtWall 30 = .ok (.goto (-28), 3) := by decide +kernel
theorem dX3_firstAtWall_33 : decode cX3_firstAtWall 33 = .ok (.bipush (-2), 2) := by decide +kernel
theorem dX3_firstAtWall_35 : decode cX3_firstAtWall 35 = .ok (.ireturn, 1) := by decide +kernel
def lp_X3_firstAtWall_2 (y0 : Nat) (y1 : Nat)  : Nat → Int32 → Mm → Option (Int32 × Mm)
  | 0, _, _ => none
  | n + 1, y2, M =>
    if (M y1 14) ≤ y2 then (some ((-2 : Int32), M)) else (bd (f_X9_at (y0 + 1) y2 M) fun v15_2 M15_1 => if v15_2 < (M15_1 y1 6) then (lp_X3_firstAtWall_2 y0 y1 n (y2 + (nI 1)) M15_1) else (some (y2, M15_1)))
def f_X3_firstAtWall (x0 : Nat) (x1 : Nat) (M : Mm) : Option (Int32 × Mm) :=
  lp_X3_firstAtWall_2 x0 x1  N0 (nI 0) M
set_option maxHeartbeats 4000000 in
set_option maxRecDepth 100000 in
theorem sl_X3_firstAtWall_2 {l : Launch} {B : BT} (hA : bA B = false) {d : Nat} {r : Int32} {M' : Mm} {y0 : Nat} {y1 : Nat} (hy0 : LY y0 = .inl (3, fk3)) (hy1 : LY y1 = .inl (0, fk0))   :
    ∀ (n : Nat) (y2 : Int32) (M : Mm), lp_X3_firstAtWall_2 y0 y1 n y2 M = some (r, M') → GG l B LY (d + 1) yX3_firstAtWall cX3_firstAtWall 3 (some .int) 0 0 (PI r M') 97 0 0 2 [(0, .ref y0), (1, .ref y1), (2, .int y2)] [] M := by
  intro n
  induction n with
  | zero => intro y2 M h; cases h
  | succ n ih =>
    intro y2 M h
    rw [lp_X3_firstAtWall_2] at h
    refine g_iload_n dX3_firstAtWall_2 rfl 2 rfl ?_
    refine g_aload_n dX3_firstAtWall_3 rfl 1 rfl ?_
    refine m_geti (k := 14) okX0 hy1 rfl (by decide) w_154 rfl dX3_firstAtWall_4 ?_
    refine g_icmp_ge (tgt := 33) dX3_firstAtWall_7 (by decide) (fun c4 => ?_) (fun c4 => ?_)
    · replace h := ite_p c4 h
      refine g_bipush (v := (-2 : Int32)) dX3_firstAtWall_33 (by decide) ?_
      exact g_zret rfl rfl (pi_of h) dX3_firstAtWall_35
    · replace h := ite_n c4 h
      refine g_aload_n dX3_firstAtWall_10 rfl 0 rfl ?_
      refine m_getr (k := 0) okX3 hy0 rfl (by decide) w_259 rfl dX3_firstAtWall_11 ?_
      refine g_iload_n dX3_firstAtWall_14 rfl 2 rfl ?_
      obtain ⟨v15_2, M15_1, eM15_1, h⟩ := bd_e h
      refine m_callNi (As := [.ref (y0 + 1), .int y2]) (st := []) (s_X9_at (d := d + 0) hA (al_of (aX3_1 hy0)) eM15_1) ck_X9_at (host := "StillYard") (List.mem_of_getElem? (i := 19) rfl) rfl (Nat.le_of_ble_eq_true rfl) dX3_firstAtWall_15 ?_
      refine g_aload_n dX3_firstAtWall_18 rfl 1 rfl ?_
      refine m_geti (k := 6) okX0 hy1 rfl (by decide) w_125 rfl dX3_firstAtWall_19 ?_
      refine g_icmp_lt (tgt := 27) dX3_firstAtWall_22 (by decide) (fun c3 => ?_) (fun c3 => ?_)
      · replace h := ite_p c3 h
        refine g_iinc (v := (y2 + (nI 1))) (lv' := [(2, .int (y2 + (nI 1))), (0, .ref y0), (1, .ref y1)]) dX3_firstAtWall_27 2 rfl rfl (by decide) rfl ?_
        refine g_goto (tgt := 2) dX3_firstAtWall_30 (by decide) ?_
        refine g_sub [1, 2, 0] (lv' := [(0, .ref y0), (1, .ref y1), (2, .int (y2 + (nI 1)))]) rfl ?_
        exact ih _  _ h
      · replace h := ite_n c3 h
        refine g_iload_n dX3_firstAtWall_25 rfl 2 rfl ?_
        exact g_zret rfl rfl (pi_of h) dX3_firstAtWall_26
set_option maxHeartbeats 4000000 in
set_option maxRecDepth 100000 in
theorem s_X3_firstAtWall {l : Launch} {B : BT} (hA : bA B = false) {d : Nat} {r : Int32} {M' : Mm} {x0 : Nat} {x1 : Nat} {M : Mm} (hx0 : LY x0 = .inl (3, fk3)) (hx1 : LY x1 = .inl (0, fk0)) (h : f_X3_firstAtWall x0 x1 M = some (r, M')) : Con l B LY (d + 1) yX3_firstAtWall cX3_firstAtWall 3 (some .int) 0 0 [.ref x0, .ref x1] 97 M (PI r M') := by
  refine con_of (by decide) (Nat.le_of_ble_eq_true rfl) ?_
  show GG l B LY (d + 1) yX3_firstAtWall cX3_firstAtWall 3 (some .int) 0 0 (PI r M') 97 0 0 0 [(0, .ref x0), (1, .ref x1)] [] M
  rw [f_X3_firstAtWall] at h
  refine g_iconst (v := (nI 0)) dX3_firstAtWall_0 (by decide) ?_
  refine g_istore_n (lv' := [(2, .int (nI 0)), (0, .ref x0), (1, .ref x1)]) dX3_firstAtWall_1 rfl (by decide) rfl ?_
  refine g_sub [1, 2, 0] (lv' := [(0, .ref x0), (1, .ref x1), (2, .int (nI 0))]) rfl ?_
  refine sl_X3_firstAtWall_2 hA hx0 hx1  _ _ _ h
theorem ck_X3_firstAtWall : CKV yX3_firstAtWall cX3_firstAtWall 3 (some .int) 1 := ⟨⟨by decide, by decide, by decide +kernel⟩, w_759, w_76, ⟨w_757, w_758⟩, by decide⟩
theorem dX3_turnsNow_0 : decode cX3_turnsNow 0 = .ok (.aload_n 1, 1) := by decide +kernel
theorem dX3_turnsNow_1 : decode cX3_turnsNow 1 = .ok (.aload_n 0, 1) := by decide +kernel
theorem dX3_turnsNow_2 : decode cX3_turnsNow 2 = .ok (.getfield 50, 3) := by decide +kernel
theorem dX3_turnsNow_5 : decode cX3_turnsNow 5 = .ok (.iconst 1, 1) := by decide +kernel
theorem dX3_turnsNow_6 : decode cX3_turnsNow 6 = .ok (.isub, 1) := by decide +kernel
theorem dX3_turnsNow_7 : decode cX3_turnsNow 7 = .ok (.invokevirtual 126, 3) := by decide +kernel
theorem dX3_turnsNow_10 : decode cX3_turnsNow 10 = .ok (.istore_n 2, 1) := by decide +kernel
theorem dX3_turnsNow_11 : decode cX3_turnsNow 11 = .ok (.aload_n 0, 1) := by decide +kernel
theorem dX3_turnsNow_12 : decode cX3_turnsNow 12 = .ok (.getfield 50, 3) := by decide +kernel
theorem dX3_turnsNow_15 : decode cX3_turnsNow 15 = .ok (.aload_n 1, 1) := by decide +kernel
theorem dX3_turnsNow_16 : decode cX3_turnsNow 16 = .ok (.iload_n 2, 1) := by decide +kernel
theorem dX3_turnsNow_17 : decode cX3_turnsNow 17 = .ok (.invokevirtual 130, 3) := by decide +kernel
theorem dX3_turnsNow_20 : decode cX3_turnsNow 20 = .ok (.if_icmp .eq 5, 3) := by decide +kernel
theorem dX3_turnsNow_23 : decode cX3_turnsNow 23 = .ok (.iconst 0, 1) := by decide +kernel
theorem dX3_turnsNow_24 : decode cX3_turnsNow 24 = .ok (.ireturn, 1) := by decide +kernel
theorem dX3_turnsNow_25 : decode cX3_turnsNow 25 = .ok (.iload_n 2, 1) := by decide +kernel
theorem dX3_turnsNow_26 : decode cX3_turnsNow 26 = .ok (.aload_n 1, 1) := by decide +kernel
theorem dX3_turnsNow_27 : decode cX3_turnsNow 27 = .ok (.getfield 133, 3) := by decide +kernel
theorem dX3_turnsNow_30 : decode cX3_turnsNow 30 = .ok (.iconst 1, 1) := by decide +kernel
theorem dX3_turnsNow_31 : decode cX3_turnsNow 31 = .ok (.isub, 1) := by decide +kernel
theorem dX3_turnsNow_32 : decode cX3_turnsNow 32 = .ok (.if_icmp .eq 23, 3) := by decide +kernel
theorem dX3_turnsNow_35 : decode cX3_turnsNow 35 = .ok (.aload_n 0, 1) := by decide +kernel
theorem dX3_turnsNow_36 : decode cX3_turnsNow 36 = .ok (.invokevirtual 136, 3) := by decide +kernel
theorem dX3_turnsNow_39 : decode cX3_turnsNow 39 = .ok (.aload_n 1, 1) := by decide +kernel
theorem dX3_turnsNow_40 : decode cX3_turnsNow 40 = .ok (.getfield 140, 3) := by decide +kernel
theorem dX3_turnsNow_43 : decode cX3_turnsNow 43 = .ok (.iload_n 2, 1) := by decide +kernel
theorem dX3_turnsNow_44 : decode cX3_turnsNow 44 = .ok (.invokestatic 112, 3) := by decide +kernel
theorem dX3_turnsNow_47 : decode cX3_turnsNow 47 = .ok (.aload_n 0, 1) := by decide +kernel
theorem dX3_turnsNow_48 : decode cX3_turnsNow 48 = .ok (.getfield 53, 3) := by decide +kernel
theorem dX3_turnsNow_51 : decode cX3_turnsNow 51 = .ok (.iadd, 1) := by decide +kernel
theorem dX3_turnsNow_52 : decode cX3_turnsNow 52 = .ok (.if_icmp .ge 7, 3) := by decide +kernel
theorem dX3_turnsNow_55 : decode cX3_turnsNow 55 = .ok (.iconst 1, 1) := by decide +kernel
theorem dX3_turnsNow_56 : decode cX3_turnsNow 56 = .ok (.goto 4, 3) := by decide +kernel
theorem dX3_turnsNow_59 : decode cX3_turnsNow 59 = .ok (.iconst 0, 1) := by decide +kernel
theorem dX3_turnsNow_60 : decode cX3_turnsNow 60 = .ok (.ireturn, 1) := by decide +kernel
def f_X3_turnsNow (x0 : Nat) (x1 : Nat) (M : Mm) : Option (Int32 × Mm) :=
  bd (f_X0_partOf x1 ((M x0 10) - (nI 1)) M) fun v7_2 M7_1 => bd (f_X0_endOf x1 v7_2 M7_1) fun v17_4 M17_3 => if (M7_1 x0 10) = v17_4 then (jn (fun (M5 : Mm) => some ((nI 1), M5)) fun j6 => if v7_2 = ((M17_3 x1 9) - (nI 1)) then (j6  M17_3) else (bd (f_X3_draw x0 M17_3) fun v36_8 M36_7 => bd (f_X9_at (x1 + 4) v7_2 M36_7) fun v44_10 M44_9 => if (v44_10 + (M44_9 x0 11)) ≤ v36_8 then (some ((nI 0), M44_9)) else (j6  M44_9))) else (some ((nI 0), M17_3))
set_option maxHeartbeats 4000000 in
set_option maxRecDepth 100000 in
theorem s_X3_turnsNow {l : Launch} {B : BT} (hA : bA B = false) {d : Nat} {r : Int32} {M' : Mm} {x0 : Nat} {x1 : Nat} {M : Mm} (hx0 : LY x0 = .inl (3, fk3)) (hx1 : LY x1 = .inl (0, fk0)) (h : f_X3_turnsNow x0 x1 M = some (r, M')) : Con l B LY (d + 2) yX3_turnsNow cX3_turnsNow 3 (some .boolean) 0 0 [.ref x0, .ref x1] 97 M (PI r M') := by
  refine con_of (by decide) (Nat.le_of_ble_eq_true rfl) ?_
  show GG l B LY (d + 2) yX3_turnsNow cX3_turnsNow 3 (some .boolean) 0 0 (PI r M') 97 0 0 0 [(0, .ref x0), (1, .ref x1)] [] M
  rw [f_X3_turnsNow] at h
  refine g_aload_n dX3_turnsNow_0 rfl 1 rfl ?_
  refine g_aload_n dX3_turnsNow_1 rfl 0 rfl ?_
  refine m_geti (k := 10) okX3 hx0 rfl (by decide) w_280 rfl dX3_turnsNow_2 ?_
  refine g_iconst (v := (nI 1)) dX3_turnsNow_5 (by decide) ?_
  refine g_isub dX3_turnsNow_6 ?_
  obtain ⟨v7_2, M7_1, eM7_1, h⟩ := bd_e h
  refine m_callVi (As := [.int ((M x0 10) - (nI 1))]) (st := []) (s_X0_partOf (d := d + 0) hA hx1 eM7_1) hx1 okX0 ck_X0_partOf w_765 rfl (Nat.le_of_ble_eq_true rfl) dX3_turnsNow_7 ?_
  refine g_istore_n (lv' := [(2, .int v7_2), (0, .ref x0), (1, .ref x1)]) dX3_turnsNow_10 rfl (by decide) rfl ?_
  refine g_aload_n dX3_turnsNow_11 rfl 1 rfl ?_
  refine m_geti (k := 10) okX3 hx0 rfl (by decide) w_280 rfl dX3_turnsNow_12 ?_
  refine g_aload_n dX3_turnsNow_15 rfl 2 rfl ?_
  refine g_iload_n dX3_turnsNow_16 rfl 0 rfl ?_
  obtain ⟨v17_4, M17_3, eM17_3, h⟩ := bd_e h
  refine m_callVi (As := [.int v7_2]) (st := [.int (M7_1 x0 10)]) (s_X0_endOf (d := d + 1) hA hx1 eM17_3) hx1 okX0 ck_X0_endOf w_766 rfl (Nat.le_of_ble_eq_true rfl) dX3_turnsNow_17 ?_
  refine g_icmp_eq (tgt := 25) dX3_turnsNow_20 (by decide) (fun c13 => ?_) (fun c13 => ?_)
  · replace h := ite_p c13 h
    refine g_iload_n dX3_turnsNow_25 rfl 0 rfl ?_
    refine g_aload_n dX3_turnsNow_26 rfl 2 rfl ?_
    refine m_geti (k := 9) okX0 hx1 rfl (by decide) w_136 rfl dX3_turnsNow_27 ?_
    refine g_iconst (v := (nI 1)) dX3_turnsNow_30 (by decide) ?_
    refine g_isub dX3_turnsNow_31 ?_
    obtain ⟨j6, ej6, h⟩ := jn_e h
    have hj6 : ∀ (M5 : Mm), j6 M5 = some (r, M') → GG l B LY (d + 2) yX3_turnsNow cX3_turnsNow 3 (some .boolean) 0 0 (PI r M') 97 0 0 55 [] [] M5 := by
      intro M5 h
      rw [ej6] at h
      refine g_iconst (v := (nI 1)) dX3_turnsNow_55 (by decide) ?_
      refine g_goto (tgt := 60) dX3_turnsNow_56 (by decide) ?_
      exact g_zret rfl rfl (pi_of h) dX3_turnsNow_60
    refine g_icmp_eq (tgt := 55) dX3_turnsNow_32 (by decide) (fun c12 => ?_) (fun c12 => ?_)
    · replace h := ite_p c12 h
      refine g_sub [] (lv' := []) rfl ?_
      exact hj6  _ h
    · replace h := ite_n c12 h
      refine g_aload_n dX3_turnsNow_35 rfl 1 rfl ?_
      obtain ⟨v36_8, M36_7, eM36_7, h⟩ := bd_e h
      refine m_callVi (As := []) (st := []) (s_X3_draw (d := d + 1) hA hx0 eM36_7) hx0 okX3 ck_X3_draw w_767 rfl (Nat.le_of_ble_eq_true rfl) dX3_turnsNow_36 ?_
      refine g_aload_n dX3_turnsNow_39 rfl 2 rfl ?_
      refine m_getr (k := 3) okX0 hx1 rfl (by decide) w_113 rfl dX3_turnsNow_40 ?_
      refine g_iload_n dX3_turnsNow_43 rfl 0 rfl ?_
      obtain ⟨v44_10, M44_9, eM44_9, h⟩ := bd_e h
      refine m_callNi (As := [.ref (x1 + 4), .int v7_2]) (st := [.int v36_8]) (s_X9_at (d := d + 1) hA (al_of (aX0_4 hx1)) eM44_9) ck_X9_at (host := "StillYard") (List.mem_of_getElem? (i := 19) rfl) rfl (Nat.le_of_ble_eq_true rfl) dX3_turnsNow_44 ?_
      refine g_aload_n dX3_turnsNow_47 rfl 1 rfl ?_
      refine m_geti (k := 11) okX3 hx0 rfl (by decide) w_282 rfl dX3_turnsNow_48 ?_
      refine g_iadd dX3_turnsNow_51 ?_
      refine g_icmp_ge (tgt := 59) dX3_turnsNow_52 (by decide) (fun c11 => ?_) (fun c11 => ?_)
      · replace h := ite_p c11 h
        refine g_iconst (v := (nI 0)) dX3_turnsNow_59 (by decide) ?_
        exact g_zret rfl rfl (pi_of h) dX3_turnsNow_60
      · replace h := ite_n c11 h
        refine g_sub [] (lv' := []) rfl ?_
        exact hj6  _ h
  · replace h := ite_n c13 h
    refine g_iconst (v := (nI 0)) dX3_turnsNow_23 (by decide) ?_
    exact g_zret rfl rfl (pi_of h) dX3_turnsNow_24
theorem ck_X3_turnsNow : CKV yX3_turnsNow cX3_turnsNow 3 (some .boolean) 1 := ⟨⟨by decide, by decide, by decide +kernel⟩, w_764, w_76, ⟨w_762, w_763⟩, by decide⟩
theorem dX3_stopFootUp_0 : decode cX3_stopFootUp 0 = .ok (.aload_n 0, 1) := by decide +kernel
theorem dX3_stopFootUp_1 : decode cX3_stopFootUp 1 = .ok (.invokevirtual 136, 3) := by decide +kernel
theorem dX3_stopFootUp_4 : decode cX3_stopFootUp 4 = .ok (.aload_n 1, 1) := by decide +kernel
theorem dX3_stopFootUp_5 : decode cX3_stopFootUp 5 = .ok (.iload_n 2, 1) := by decide +kernel
theorem dX3_stopFootUp_6 : decode cX3_stopFootUp 6 = .ok (.iconst 2, 1) := by decide +kernel
theorem dX3_stopFootUp_7 : decode cX3_stopFootUp 7 = .ok (.invokevirtual 116, 3) := by decide +kernel
theorem dX3_stopFootUp_10 : decode cX3_stopFootUp 10 = .ok (.if_icmp .ge 31, 3) := by decide +kernel
theorem dX3_stopFootUp_13 : decode cX3_stopFootUp 13 = .ok (.aload_n 0, 1) := by decide +kernel
theorem dX3_stopFootUp_14 : decode cX3_stopFootUp 14 = .ok (.getfield 33, 3) := by decide +kernel
theorem dX3_stopFootUp_17 : decode cX3_stopFootUp 17 = .ok (.iload_n 2, 1) := by decide +kernel
theorem dX3_stopFootUp_18 : decode cX3_stopFootUp 18 = .ok (.aload_n 0, 1) := by decide +kernel
theorem dX3_stopFootUp_19 : decode cX3_stopFootUp 19 = .ok (.getfield 15, 3) := by decide +kernel
theorem dX3_stopFootUp_22 : decode cX3_stopFootUp 22 = .ok (.iload_n 2, 1) := by decide +kernel
theorem dX3_stopFootUp_23 : decode cX3_stopFootUp 23 = .ok (.invokestatic 112, 3) := by decide +kernel
theorem dX3_stopFootUp_26 : decode cX3_stopFootUp 26 = .ok (.bipush 100, 2) := by decide +kernel
theorem dX3_stopFootUp_28 : decode cX3_stopFootUp 28 = .ok (.imul, 1) := by decide +kernel
theorem dX3_stopFootUp_29 : decode cX3_stopFootUp 29 = .ok (.aload_n 1, 1) := by decide +kernel
theorem dX3_stopFootUp_30 : decode cX3_stopFootUp 30 = .ok (.iload_n 2, 1) := by decide +kernel
theorem dX3_stopFootUp_31 : decode cX3_stopFootUp 31 = .ok (.iconst 1, 1) := by decide +kernel
theorem dX3_stopFootUp_32 : decode cX3_stopFootUp 32 = .ok (.invokevirtual 116, 3) := by decide +kernel
theorem dX3_stopFootUp_35 : decode cX3_stopFootUp 35 = .ok (.invokestatic 146, 3) := by decide +kernel
theorem dX3_stopFootUp_38 : decode cX3_stopFootUp 38 = .ok (.invokestatic 102, 3) := by decide +kernel
theorem dX3_stopFootUp_41 : decode cX3_stopFootUp 41 = .ok (.aload_n 0, 1) := by decide +kernel
theorem dX3_stopFootUp_42 : decode cX3_stopFootUp 42 = .ok (.getfield 15, 3) := by decide +kernel
theorem dX3_stopFootUp_45 : decode cX3_stopFootUp 45 = .ok (.iload_n 2, 1) := by decide +kernel
theorem dX3_stopFootUp_46 : decode cX3_stopFootUp 46 = .ok (.iconst 0, 1) := by decide +kernel
theorem dX3_stopFootUp_47 : decode cX3_stopFootUp 47 = .ok (.invokestatic 102, 3) := by decide +kernel
theorem dX3_stopFootUp_50 : decode cX3_stopFootUp 50 = .ok (.return_, 1) := by decide +kernel
def f_X3_stopFootUp (x0 : Nat) (x1 : Nat) (x2 : Int32) (M : Mm) : Option (Mm) :=
  bd (f_X3_draw x0 M) fun v1_2 M1_1 => bd (f_X0_trait x1 x2 (nI 2) M1_1) fun v7_4 M7_3 => jn (fun (M5 : Mm) => bv (f_X9_put (x0 + 2) x2 (nI 0) M5) fun M47_7 => some M47_7) fun j6 => if v7_4 ≤ v1_2 then (j6  M7_3) else (bd (f_X9_at (x0 + 2) x2 M7_3) fun v23_10 M23_9 => bd (f_X0_trait x1 x2 (nI 1) M23_9) fun v32_12 M32_11 => bd (f_X9_by (v23_10 * (nI 100)) v32_12 M32_11) fun v35_14 M35_13 => bv (f_X9_put (x0 + 8) x2 v35_14 M35_13) fun M38_15 => j6  M38_15)
set_option maxHeartbeats 4000000 in
set_option maxRecDepth 100000 in
theorem s_X3_stopFootUp {l : Launch} {B : BT} (hA : bA B = false) {d : Nat} {M' : Mm} {x0 : Nat} {x1 : Nat} {x2 : Int32} {M : Mm} (hx0 : LY x0 = .inl (3, fk3)) (hx1 : LY x1 = .inl (0, fk0)) (h : f_X3_stopFootUp x0 x1 x2 M = some M') : Con l B LY (d + 1) yX3_stopFootUp cX3_stopFootUp 3 none 0 0 [.ref x0, .ref x1, .int x2] 97 M (PV M') := by
  refine con_of (by decide) (Nat.le_of_ble_eq_true rfl) ?_
  show GG l B LY (d + 1) yX3_stopFootUp cX3_stopFootUp 3 none 0 0 (PV M') 97 0 0 0 [(0, .ref x0), (1, .ref x1), (2, .int x2)] [] M
  rw [f_X3_stopFootUp] at h
  refine g_aload_n dX3_stopFootUp_0 rfl 0 rfl ?_
  obtain ⟨v1_2, M1_1, eM1_1, h⟩ := bd_e h
  refine m_callVi (As := []) (st := []) (s_X3_draw (d := d + 0) hA hx0 eM1_1) hx0 okX3 ck_X3_draw w_767 rfl (Nat.le_of_ble_eq_true rfl) dX3_stopFootUp_1 ?_
  refine g_aload_n dX3_stopFootUp_4 rfl 1 rfl ?_
  refine g_iload_n dX3_stopFootUp_5 rfl 2 rfl ?_
  refine g_iconst (v := (nI 2)) dX3_stopFootUp_6 (by decide) ?_
  obtain ⟨v7_4, M7_3, eM7_3, h⟩ := bd_e h
  refine m_callVi (As := [.int x2, .int (nI 2)]) (st := [.int v1_2]) (s_X0_trait (d := d + 0) hA hx1 eM7_3) hx1 okX0 ck_X0_trait w_748 rfl (Nat.le_of_ble_eq_true rfl) dX3_stopFootUp_7 ?_
  obtain ⟨j6, ej6, h⟩ := jn_e h
  have hj6 : ∀ (M5 : Mm), j6 M5 = some M' → GG l B LY (d + 1) yX3_stopFootUp cX3_stopFootUp 3 none 0 0 (PV M') 97 0 0 41 [(0, .ref x0), (2, .int x2)] [] M5 := by
    intro M5 h
    rw [ej6] at h
    refine g_aload_n dX3_stopFootUp_41 rfl 0 rfl ?_
    refine m_getr (k := 1) okX3 hx0 rfl (by decide) w_263 rfl dX3_stopFootUp_42 ?_
    refine g_iload_n dX3_stopFootUp_45 rfl 1 rfl ?_
    refine g_iconst (v := (nI 0)) dX3_stopFootUp_46 (by decide) ?_
    obtain ⟨M47_7, eM47_7, h⟩ := bv_e h
    refine m_callNv (As := [.ref (x0 + 2), .int x2, .int (nI 0)]) (st := []) (s_X9_put (d := d + 0) hA (al_of (aX3_2 hx0)) eM47_7) ck_X9_put (host := "StillYard") (List.mem_of_getElem? (i := 17) rfl) rfl (Nat.le_of_ble_eq_true rfl) dX3_stopFootUp_47 ?_
    exact g_vret rfl (pv_of h) dX3_stopFootUp_50
  refine g_icmp_ge (tgt := 41) dX3_stopFootUp_10 (by decide) (fun c17 => ?_) (fun c17 => ?_)
  · replace h := ite_p c17 h
    refine g_sub [0, 2] (lv' := [(0, .ref x0), (2, .int x2)]) rfl ?_
    exact hj6  _ h
  · replace h := ite_n c17 h
    refine g_aload_n dX3_stopFootUp_13 rfl 0 rfl ?_
    refine m_getr (k := 7) okX3 hx0 rfl (by decide) w_275 rfl dX3_stopFootUp_14 ?_
    refine g_iload_n dX3_stopFootUp_17 rfl 2 rfl ?_
    refine g_aload_n dX3_stopFootUp_18 rfl 0 rfl ?_
    refine m_getr (k := 1) okX3 hx0 rfl (by decide) w_263 rfl dX3_stopFootUp_19 ?_
    refine g_iload_n dX3_stopFootUp_22 rfl 2 rfl ?_
    obtain ⟨v23_10, M23_9, eM23_9, h⟩ := bd_e h
    refine m_callNi (As := [.ref (x0 + 2), .int x2]) (st := [.int x2, .ref (x0 + 8)]) (s_X9_at (d := d + 0) hA (al_of (aX3_2 hx0)) eM23_9) ck_X9_at (host := "StillYard") (List.mem_of_getElem? (i := 19) rfl) rfl (Nat.le_of_ble_eq_true rfl) dX3_stopFootUp_23 ?_
    refine g_bipush (v := (nI 100)) dX3_stopFootUp_26 (by decide) ?_
    refine g_imul dX3_stopFootUp_28 ?_
    refine g_aload_n dX3_stopFootUp_29 rfl 1 rfl ?_
    refine g_iload_n dX3_stopFootUp_30 rfl 2 rfl ?_
    refine g_iconst (v := (nI 1)) dX3_stopFootUp_31 (by decide) ?_
    obtain ⟨v32_12, M32_11, eM32_11, h⟩ := bd_e h
    refine m_callVi (As := [.int x2, .int (nI 1)]) (st := [.int (v23_10 * (nI 100)), .int x2, .ref (x0 + 8)]) (s_X0_trait (d := d + 0) hA hx1 eM32_11) hx1 okX0 ck_X0_trait w_748 rfl (Nat.le_of_ble_eq_true rfl) dX3_stopFootUp_32 ?_
    obtain ⟨v35_14, M35_13, eM35_13, h⟩ := bd_e h
    refine m_callNi (As := [.int (v23_10 * (nI 100)), .int v32_12]) (st := [.int x2, .ref (x0 + 8)]) (s_X9_by (d := d + 0) hA  eM35_13) ck_X9_by (host := "StillYard") (List.mem_of_getElem? (i := 20) rfl) rfl (Nat.le_of_ble_eq_true rfl) dX3_stopFootUp_35 ?_
    obtain ⟨M38_15, eM38_15, h⟩ := bv_e h
    refine m_callNv (As := [.ref (x0 + 8), .int x2, .int v35_14]) (st := []) (s_X9_put (d := d + 0) hA (al_of (aX3_8 hx0)) eM38_15) ck_X9_put (host := "StillYard") (List.mem_of_getElem? (i := 17) rfl) rfl (Nat.le_of_ble_eq_true rfl) dX3_stopFootUp_38 ?_
    refine g_sub [0, 2] (lv' := [(0, .ref x0), (2, .int x2)]) rfl ?_
    exact hj6  _ h
theorem ck_X3_stopFootUp : CKV yX3_stopFootUp cX3_stopFootUp 3 none 2 := ⟨⟨by decide, by decide, by decide +kernel⟩, w_779, w_76, ⟨w_777, w_778⟩, by decide⟩
theorem dX3_wobbleAll_0 : decode cX3_wobbleAll 0 = .ok (.iconst 0, 1) := by decide +kernel
theorem dX3_wobbleAll_1 : decode cX3_wobbleAll 1 = .ok (.istore_n 2, 1) := by decide +kernel
theorem dX3_wobbleAll_2 : decode cX3_wobbleAll 2 = .ok (.iload_n 2, 1) := by decide +kernel
theorem dX3_wobbleAll_3 : decode cX3_wobbleAll 3 = .ok (.aload_n 1, 1) := by decide +kernel
theorem dX3_wobbleAll_4 : decode cX3_wobbleAll 4 = .ok (.getfield 93, 3) := by decide +kernel
theorem dX3_wobbleAll_7 : decode cX3_wobbleAll 7 = .ok (.if_icmp .ge 47, 3) := by decide +kernel
theorem dX3_wobbleAll_10 : decode cX3_wobbleAll 10 = .ok (.aload_n 0, 1) := by decide +kernel
theorem dX3_wobbleAll_11 : decode cX3_wobbleAll 11 = .ok (.getfield 33, 3) := by decide +kernel
theorem dX3_wobbleAll_14 : decode cX3_wobbleAll 14 = .ok (.iload_n 2, 1) := by decide +kernel
theorem dX3_wobbleAll_15 : decode cX3_wobbleAll 15 = .ok (.iconst (-1), 1) := by decide +kernel
theorem dX3_wobbleAll_16 : decode cX3_wobbleAll 16 = .ok (.invokestatic 102, 3) := by decide +kernel
theorem dX3_wobbleAll_19 : decode cX3_wobbleAll 19 = .ok (.aload_n 0, 1) := by decide +kernel
theorem dX3_wobbleAll_20 : decode cX3_wobbleAll 20 = .ok (.getfield 30, 3) := by decide +kernel
theorem dX3_wobbleAll_23 : decode cX3_wobbleAll 23 = .ok (.iload_n 2, 1) := by decide +kernel
theorem dX3_wobbleAll_24 : decode cX3_wobbleAll 24 = .ok (.invokestatic 112, 3) := by decide +kernel
theorem dX3_wobbleAll_27 : decode cX3_wobbleAll 27 = .ok (.iconst 1, 1) := by decide +kernel
theorem dX3_wobbleAll_28 : decode cX3_wobbleAll 28 = .ok (.if_icmp .ne 20, 3) := by decide +kernel
theorem dX3_wobbleAll_31 : decode cX3_wobbleAll 31 = .ok (.aload_n 0, 1) := by decide +kernel
theorem dX3_wobbleAll_32 : decode cX3_wobbleAll 32 = .ok (.getfield 15, 3) := by decide +kernel
theorem dX3_wobbleAll_35 : decode cX3_wobbleAll 35 = .ok (.iload_n 2, 1) := by decide +kernel
theorem dX3_wobbleAll_36 : decode cX3_wobbleAll 36 = .ok (.invokestatic 112, 3) := by decide +kernel
theorem dX3_wobbleAll_39 : decode cX3_wobbleAll 39 = .ok (.ifCond .le 9, 3) := by decide +kernel
theorem dX3_wobbleAll_42 : decode cX3_wobbleAll 42 = .ok (.aload_n 0, 1) := by decide +kernel
theorem dX3_wobbleAll_43 : decode cX3_wobbleAll 43 = .ok (.aload_n 1, 1) := by decide +kernel
theorem dX3_wobbleAll_44 : decode cX3_wobbleAll 44 = .ok (.iload_n 2, 1) := by decide +kernel
theorem dX3_wobbleAll_45 : decode cX3_wobbleAll 45 = .ok (.invokevirtual 143, 3) := by decide +kernel
theorem dX3_wobbleAll_48 : decode cX3_wobbleAll 48 = .ok (.iinc 2 1, 3) := by decide +kernel
theorem dX3_wobbleAll_51 : decode cX3_wobbleAll 51 = .ok (.goto (-49), 3) := by decide +kernel
theorem dX3_wobbleAll_54 : decode cX3_wobbleAll 54 = .ok (.return_, 1) := by decide +kernel
def lp_X3_wobbleAll_2 (y0 : Nat) (y1 : Nat)  : Nat → Int32 → Mm → Option (Mm)
  | 0, _, _ => none
  | n + 1, y2, M =>
    if (M y1 14) ≤ y2 then (some M) else (bv (f_X9_put (y0 + 8) y2 (-1 : Int32) M) fun M16_1 => bd (f_X9_at (y0 + 7) y2 M16_1) fun v24_4 M24_3 => jn (fun (M5 : Mm) => lp_X3_wobbleAll_2 y0 y1 n (y2 + (nI 1)) M5) fun j6 => if v24_4 = (nI 1) then (bd (f_X9_at (y0 + 2) y2 M24_3) fun v36_8 M36_7 => if v36_8 ≤ 0 then (j6  M36_7) else (bv (f_X3_stopFootUp y0 y1 y2 M36_7) fun M45_9 => j6  M45_9)) else (j6  M24_3))
def f_X3_wobbleAll (x0 : Nat) (x1 : Nat) (M : Mm) : Option (Mm) :=
  lp_X3_wobbleAll_2 x0 x1  N0 (nI 0) M
set_option maxHeartbeats 4000000 in
set_option maxRecDepth 100000 in
theorem sl_X3_wobbleAll_2 {l : Launch} {B : BT} (hA : bA B = false) {d : Nat} {M' : Mm} {y0 : Nat} {y1 : Nat} (hy0 : LY y0 = .inl (3, fk3)) (hy1 : LY y1 = .inl (0, fk0))   :
    ∀ (n : Nat) (y2 : Int32) (M : Mm), lp_X3_wobbleAll_2 y0 y1 n y2 M = some M' → GG l B LY (d + 2) yX3_wobbleAll cX3_wobbleAll 3 none 0 0 (PV M') 97 0 0 2 [(0, .ref y0), (1, .ref y1), (2, .int y2)] [] M := by
  intro n
  induction n with
  | zero => intro y2 M h; cases h
  | succ n ih =>
    intro y2 M h
    rw [lp_X3_wobbleAll_2] at h
    refine g_iload_n dX3_wobbleAll_2 rfl 2 rfl ?_
    refine g_aload_n dX3_wobbleAll_3 rfl 1 rfl ?_
    refine m_geti (k := 14) okX0 hy1 rfl (by decide) w_154 rfl dX3_wobbleAll_4 ?_
    refine g_icmp_ge (tgt := 54) dX3_wobbleAll_7 (by decide) (fun c13 => ?_) (fun c13 => ?_)
    · replace h := ite_p c13 h
      exact g_vret rfl (pv_of h) dX3_wobbleAll_54
    · replace h := ite_n c13 h
      refine g_aload_n dX3_wobbleAll_10 rfl 0 rfl ?_
      refine m_getr (k := 7) okX3 hy0 rfl (by decide) w_275 rfl dX3_wobbleAll_11 ?_
      refine g_iload_n dX3_wobbleAll_14 rfl 2 rfl ?_
      refine g_iconst (v := (-1 : Int32)) dX3_wobbleAll_15 (by decide) ?_
      obtain ⟨M16_1, eM16_1, h⟩ := bv_e h
      refine m_callNv (As := [.ref (y0 + 8), .int y2, .int (-1 : Int32)]) (st := []) (s_X9_put (d := d + 1) hA (al_of (aX3_8 hy0)) eM16_1) ck_X9_put (host := "StillYard") (List.mem_of_getElem? (i := 17) rfl) rfl (Nat.le_of_ble_eq_true rfl) dX3_wobbleAll_16 ?_
      refine g_aload_n dX3_wobbleAll_19 rfl 0 rfl ?_
      refine m_getr (k := 6) okX3 hy0 rfl (by decide) w_274 rfl dX3_wobbleAll_20 ?_
      refine g_iload_n dX3_wobbleAll_23 rfl 2 rfl ?_
      obtain ⟨v24_4, M24_3, eM24_3, h⟩ := bd_e h
      refine m_callNi (As := [.ref (y0 + 7), .int y2]) (st := []) (s_X9_at (d := d + 1) hA (al_of (aX3_7 hy0)) eM24_3) ck_X9_at (host := "StillYard") (List.mem_of_getElem? (i := 19) rfl) rfl (Nat.le_of_ble_eq_true rfl) dX3_wobbleAll_24 ?_
      refine g_iconst (v := (nI 1)) dX3_wobbleAll_27 (by decide) ?_
      obtain ⟨j6, ej6, h⟩ := jn_e h
      have hj6 : ∀ (M5 : Mm), j6 M5 = some M' → GG l B LY (d + 2) yX3_wobbleAll cX3_wobbleAll 3 none 0 0 (PV M') 97 0 0 48 [(0, .ref y0), (1, .ref y1), (2, .int y2)] [] M5 := by
        intro M5 h
        rw [ej6] at h
        refine g_iinc (v := (y2 + (nI 1))) (lv' := [(2, .int (y2 + (nI 1))), (0, .ref y0), (1, .ref y1)]) dX3_wobbleAll_48 2 rfl rfl (by decide) rfl ?_
        refine g_goto (tgt := 2) dX3_wobbleAll_51 (by decide) ?_
        refine g_sub [1, 2, 0] (lv' := [(0, .ref y0), (1, .ref y1), (2, .int (y2 + (nI 1)))]) rfl ?_
        exact ih _  _ h
      refine g_icmp_ne (tgt := 48) dX3_wobbleAll_28 (by decide) (fun c12 => ?_) (fun c12 => ?_)
      · replace h := ite_n c12 h
        refine g_sub [0, 1, 2] (lv' := [(0, .ref y0), (1, .ref y1), (2, .int y2)]) rfl ?_
        exact hj6  _ h
      · replace h := ite_p c12 h
        refine g_aload_n dX3_wobbleAll_31 rfl 0 rfl ?_
        refine m_getr (k := 1) okX3 hy0 rfl (by decide) w_263 rfl dX3_wobbleAll_32 ?_
        refine g_iload_n dX3_wobbleAll_35 rfl 2 rfl ?_
        obtain ⟨v36_8, M36_7, eM36_7, h⟩ := bd_e h
        refine m_callNi (As := [.ref (y0 + 2), .int y2]) (st := []) (s_X9_at (d := d + 1) hA (al_of (aX3_2 hy0)) eM36_7) ck_X9_at (host := "StillYard") (List.mem_of_getElem? (i := 19) rfl) rfl (Nat.le_of_ble_eq_true rfl) dX3_wobbleAll_36 ?_
        refine g_if_le (tgt := 48) dX3_wobbleAll_39 (by decide) (fun c11 => ?_) (fun c11 => ?_)
        · replace h := ite_p c11 h
          refine g_sub [0, 1, 2] (lv' := [(0, .ref y0), (1, .ref y1), (2, .int y2)]) rfl ?_
          exact hj6  _ h
        · replace h := ite_n c11 h
          refine g_aload_n dX3_wobbleAll_42 rfl 0 rfl ?_
          refine g_aload_n dX3_wobbleAll_43 rfl 1 rfl ?_
          refine g_iload_n dX3_wobbleAll_44 rfl 2 rfl ?_
          obtain ⟨M45_9, eM45_9, h⟩ := bv_e h
          refine m_callVv (As := [.ref y1, .int y2]) (st := []) (s_X3_stopFootUp (d := d + 0) hA hy0 hy1 eM45_9) hy0 okX3 ck_X3_stopFootUp w_776 rfl (Nat.le_of_ble_eq_true rfl) dX3_wobbleAll_45 ?_
          refine g_sub [0, 1, 2] (lv' := [(0, .ref y0), (1, .ref y1), (2, .int y2)]) rfl ?_
          exact hj6  _ h
set_option maxHeartbeats 4000000 in
set_option maxRecDepth 100000 in
theorem s_X3_wobbleAll {l : Launch} {B : BT} (hA : bA B = false) {d : Nat} {M' : Mm} {x0 : Nat} {x1 : Nat} {M : Mm} (hx0 : LY x0 = .inl (3, fk3)) (hx1 : LY x1 = .inl (0, fk0)) (h : f_X3_wobbleAll x0 x1 M = some M') : Con l B LY (d + 2) yX3_wobbleAll cX3_wobbleAll 3 none 0 0 [.ref x0, .ref x1] 97 M (PV M') := by
  refine con_of (by decide) (Nat.le_of_ble_eq_true rfl) ?_
  show GG l B LY (d + 2) yX3_wobbleAll cX3_wobbleAll 3 none 0 0 (PV M') 97 0 0 0 [(0, .ref x0), (1, .ref x1)] [] M
  rw [f_X3_wobbleAll] at h
  refine g_iconst (v := (nI 0)) dX3_wobbleAll_0 (by decide) ?_
  refine g_istore_n (lv' := [(2, .int (nI 0)), (0, .ref x0), (1, .ref x1)]) dX3_wobbleAll_1 rfl (by decide) rfl ?_
  refine g_sub [1, 2, 0] (lv' := [(0, .ref x0), (1, .ref x1), (2, .int (nI 0))]) rfl ?_
  refine sl_X3_wobbleAll_2 hA hx0 hx1  _ _ _ h
theorem ck_X3_wobbleAll : CKV yX3_wobbleAll cX3_wobbleAll 3 none 1 := ⟨⟨by decide, by decide, by decide +kernel⟩, w_775, w_76, ⟨w_773, w_774⟩, by decide⟩
theorem dX3_orderAll_0 : decode cX3_orderAll 0 = .ok (.iconst 0, 1) := by decide +kernel
theorem dX3_orderAll_1 : decode cX3_orderAll 1 = .ok (.istore_n 2, 1) := by decide +kernel
theorem dX3_orderAll_2 : decode cX3_orderAll 2 = .ok (.iload_n 2, 1) := by decide +kernel
theorem dX3_orderAll_3 : decode cX3_orderAll 3 = .ok (.aload_n 1, 1) := by decide +kernel
theorem dX3_orderAll_4 : decode cX3_orderAll 4 = .ok (.getfield 93, 3) := by decide +kernel
theorem dX3_orderAll_7 : decode cX3_orderAll 7 = .ok (.if_icmp .ge 76, 3) := by decide +kernel
theorem dX3_orderAll_10 : decode cX3_orderAll 10 = .ok (.iload_n 2, 1) := by decide +kernel
theorem dX3_orderAll_11 : decode cX3_orderAll 11 = .ok (.istore_n 3, 1) := by decide +kernel
theorem dX3_orderAll_12 : decode cX3_orderAll 12 = .ok (.iload_n 3, 1) := by decide +kernel
theorem dX3_orderAll_13 : decode cX3_orderAll 13 = .ok (.ifCond .le 55, 3) := by decide +kernel
theorem dX3_orderAll_16 : decode cX3_orderAll 16 = .ok (.aload_n 0, 1) := by decide +kernel
theorem dX3_orderAll_17 : decode cX3_orderAll 17 = .ok (.getfield 9, 3) := by decide +kernel
theorem dX3_orderAll_20 : decode cX3_orderAll 20 = .ok (.aload_n 0, 1) := by decide +kernel
theorem dX3_orderAll_21 : decode cX3_orderAll 21 = .ok (.getfield 36, 3) := by decide +kernel
theorem dX3_orderAll_24 : decode cX3_orderAll 24 = .ok (.iload_n 3, 1) := by decide +kernel
theorem dX3_orderAll_25 : decode cX3_orderAll 25 = .ok (.iconst 1, 1) := by decide +kernel
theorem dX3_orderAll_26 : decode cX3_orderAll 26 = .ok (.isub, 1) := by decide +kernel
theorem dX3_orderAll_27 : decode cX3_orderAll 27 = .ok (.invokestatic 112, 3) := by decide +kernel
theorem dX3_orderAll_30 : decode cX3_orderAll 30 = .ok (.invokestatic 112, 3) := by decide +kernel
theorem dX3_orderAll_33 : decode cX3_orderAll 33 = .ok (.aload_n 0, 1) := by decide +kernel
theorem dX3_orderAll_34 : decode cX3_orderAll 34 = .ok (.getfield 9, 3) := by decide +kernel
theorem dX3_orderAll_37 : decode cX3_orderAll 37 = .ok (.iload_n 2, 1) := by decide +kernel
theorem dX3_orderAll_38 : decode cX3_orderAll 38 = .ok (.invokestatic 112, 3) := by decide +kernel
theorem dX3_orderAll_41 : decode cX3_orderAll 41 = .ok (.if_icmp .ge 27, 3) := by decide +kernel
theorem dX3_orderAll_44 : decode cX3_orderAll 44 = .ok (.aload_n 0, 1) := by decide +kernel
theorem dX3_orderAll_45 : decode cX3_orderAll 45 = .ok (.getfield 36, 3) := by decide +kernel
theorem dX3_orderAll_48 : decode cX3_orderAll 48 = .ok (.iload_n 3, 1) := by decide +kernel
theorem dX3_orderAll_49 : decode cX3_orderAll 49 = .ok (.aload_n 0, 1) := by decide +kernel
theorem dX3_orderAll_50 : decode cX3_orderAll 50 = .ok (.getfield 36, 3) := by decide +kernel
theorem dX3_orderAll_53 : decode cX3_orderAll 53 = .ok (.iload_n 3, 1) := by decide +kernel
theorem dX3_orderAll_54 : decode cX3_orderAll 54 = .ok (.iconst 1, 1) := by decide +kernel
theorem dX3_orderAll_55 : decode cX3_orderAll 55 = .ok (.isub, 1) := by decide +kernel
theorem dX3_orderAll_56 : decode cX3_orderAll 56 = .ok (.invokestatic 112, 3) := by decide +kernel
theorem dX3_orderAll_59 : decode cX3_orderAll 59 = .ok (.invokestatic 102, 3) := by decide +kernel
theorem dX3_orderAll_62 : decode cX3_orderAll 62 = .ok (.iinc 3 (-1), 3) := by decide +kernel
theorem dX3_orderAll_65 : decode cX3_orderAll 65 = .ok (.goto (-53), 3) := by decide +kernel
theorem dX3_orderAll_68 : decode cX3_orderAll 68 = .ok (.aload_n 0, 1) := by decide +kernel
theorem dX3_orderAll_69 : decode cX3_orderAll 69 = .ok (.getfield 36, 3) := by decide +kernel
theorem dX3_orderAll_72 : decode cX3_orderAll 72 = .ok (.iload_n 3, 1) := by decide +kernel
theorem dX3_orderAll_73 : decode cX3_orderAll 73 = .ok (.iload_n 2, 1) := by decide +kernel
theorem dX3_orderAll_74 : decode cX3_orderAll 74 = .ok (.invokestatic 102, 3) := by decide +kernel
theorem dX3_orderAll_77 : decode cX3_orderAll 77 = .ok (.iinc 2 1, 3) := by decide +kernel
theorem dX3_orderAll_80 : decode cX3_orderAll 80 = .ok (.goto (-78), 3) := by decide +kernel
theorem dX3_orderAll_83 : decode cX3_orderAll 83 = .ok (.return_, 1) := by decide +kernel
def lp_X3_orderAll_12 (y0 : Nat) (y1 : Nat) (y2 : Int32) (k68 : Int32 → Mm → Option (Mm)) : Nat → Int32 → Mm → Option (Mm)
  | 0, _, _ => none
  | n + 1, y3, M =>
    if y3 ≤ 0 then (k68 y3 M) else (bd (f_X9_at (y0 + 9) (y3 - (nI 1)) M) fun v27_2 M27_1 => bd (f_X9_at (y0 + 1) v27_2 M27_1) fun v30_4 M30_3 => bd (f_X9_at (y0 + 1) y2 M30_3) fun v38_6 M38_5 => if v38_6 ≤ v30_4 then (k68 y3 M38_5) else (bd (f_X9_at (y0 + 9) (y3 - (nI 1)) M38_5) fun v56_8 M56_7 => bv (f_X9_put (y0 + 9) y3 v56_8 M56_7) fun M59_9 => lp_X3_orderAll_12 y0 y1 y2 k68 n (y3 + (-1 : Int32)) M59_9))
def lp_X3_orderAll_2 (y0 : Nat) (y1 : Nat)  : Nat → Int32 → Mm → Option (Mm)
  | 0, _, _ => none
  | n + 1, y2, M =>
    if (M y1 14) ≤ y2 then (some M) else (lp_X3_orderAll_12 y0 y1 y2 (fun (u13 : Int32) (M14 : Mm) => bv (f_X9_put (y0 + 9) u13 y2 M14) fun M74_15 => lp_X3_orderAll_2 y0 y1 n (y2 + (nI 1)) M74_15) N0 y2 M)
def f_X3_orderAll (x0 : Nat) (x1 : Nat) (M : Mm) : Option (Mm) :=
  lp_X3_orderAll_2 x0 x1  N0 (nI 0) M
set_option maxHeartbeats 4000000 in
set_option maxRecDepth 100000 in
theorem sl_X3_orderAll_12 {l : Launch} {B : BT} (hA : bA B = false) {d : Nat} {M' : Mm} {y0 : Nat} {y1 : Nat} {y2 : Int32} (hy0 : LY y0 = .inl (3, fk3)) (hy1 : LY y1 = .inl (0, fk0)) {k68 : Int32 → Mm → Option (Mm)} (hk68 : ∀ (z3 : Int32) (M9 : Mm), k68 z3 M9 = some M' → GG l B LY (d + 1) yX3_orderAll cX3_orderAll 4 none 0 0 (PV M') 97 0 0 68 [(0, .ref y0), (1, .ref y1), (2, .int y2), (3, .int z3)] [] M9) :
    ∀ (n : Nat) (y3 : Int32) (M : Mm), lp_X3_orderAll_12 y0 y1 y2 k68 n y3 M = some M' → GG l B LY (d + 1) yX3_orderAll cX3_orderAll 4 none 0 0 (PV M') 97 0 0 12 [(0, .ref y0), (1, .ref y1), (2, .int y2), (3, .int y3)] [] M := by
  intro n
  induction n with
  | zero => intro y3 M h; cases h
  | succ n ih =>
    intro y3 M h
    rw [lp_X3_orderAll_12] at h
    refine g_iload_n dX3_orderAll_12 rfl 3 rfl ?_
    refine g_if_le (tgt := 68) dX3_orderAll_13 (by decide) (fun c12 => ?_) (fun c12 => ?_)
    · replace h := ite_p c12 h
      refine g_sub [0, 1, 2, 3] (lv' := [(0, .ref y0), (1, .ref y1), (2, .int y2), (3, .int y3)]) rfl ?_
      exact hk68 _ _ h
    · replace h := ite_n c12 h
      refine g_aload_n dX3_orderAll_16 rfl 0 rfl ?_
      refine m_getr (k := 0) okX3 hy0 rfl (by decide) w_259 rfl dX3_orderAll_17 ?_
      refine g_aload_n dX3_orderAll_20 rfl 0 rfl ?_
      refine m_getr (k := 8) okX3 hy0 rfl (by decide) w_276 rfl dX3_orderAll_21 ?_
      refine g_iload_n dX3_orderAll_24 rfl 3 rfl ?_
      refine g_iconst (v := (nI 1)) dX3_orderAll_25 (by decide) ?_
      refine g_isub dX3_orderAll_26 ?_
      obtain ⟨v27_2, M27_1, eM27_1, h⟩ := bd_e h
      refine m_callNi (As := [.ref (y0 + 9), .int (y3 - (nI 1))]) (st := [.ref (y0 + 1)]) (s_X9_at (d := d + 0) hA (al_of (aX3_9 hy0)) eM27_1) ck_X9_at (host := "StillYard") (List.mem_of_getElem? (i := 19) rfl) rfl (Nat.le_of_ble_eq_true rfl) dX3_orderAll_27 ?_
      obtain ⟨v30_4, M30_3, eM30_3, h⟩ := bd_e h
      refine m_callNi (As := [.ref (y0 + 1), .int v27_2]) (st := []) (s_X9_at (d := d + 0) hA (al_of (aX3_1 hy0)) eM30_3) ck_X9_at (host := "StillYard") (List.mem_of_getElem? (i := 19) rfl) rfl (Nat.le_of_ble_eq_true rfl) dX3_orderAll_30 ?_
      refine g_aload_n dX3_orderAll_33 rfl 0 rfl ?_
      refine m_getr (k := 0) okX3 hy0 rfl (by decide) w_259 rfl dX3_orderAll_34 ?_
      refine g_iload_n dX3_orderAll_37 rfl 2 rfl ?_
      obtain ⟨v38_6, M38_5, eM38_5, h⟩ := bd_e h
      refine m_callNi (As := [.ref (y0 + 1), .int y2]) (st := [.int v30_4]) (s_X9_at (d := d + 0) hA (al_of (aX3_1 hy0)) eM38_5) ck_X9_at (host := "StillYard") (List.mem_of_getElem? (i := 19) rfl) rfl (Nat.le_of_ble_eq_true rfl) dX3_orderAll_38 ?_
      refine g_icmp_ge (tgt := 68) dX3_orderAll_41 (by decide) (fun c11 => ?_) (fun c11 => ?_)
      · replace h := ite_p c11 h
        refine g_sub [0, 1, 2, 3] (lv' := [(0, .ref y0), (1, .ref y1), (2, .int y2), (3, .int y3)]) rfl ?_
        exact hk68 _ _ h
      · replace h := ite_n c11 h
        refine g_aload_n dX3_orderAll_44 rfl 0 rfl ?_
        refine m_getr (k := 8) okX3 hy0 rfl (by decide) w_276 rfl dX3_orderAll_45 ?_
        refine g_iload_n dX3_orderAll_48 rfl 3 rfl ?_
        refine g_aload_n dX3_orderAll_49 rfl 0 rfl ?_
        refine m_getr (k := 8) okX3 hy0 rfl (by decide) w_276 rfl dX3_orderAll_50 ?_
        refine g_iload_n dX3_orderAll_53 rfl 3 rfl ?_
        refine g_iconst (v := (nI 1)) dX3_orderAll_54 (by decide) ?_
        refine g_isub dX3_orderAll_55 ?_
        obtain ⟨v56_8, M56_7, eM56_7, h⟩ := bd_e h
        refine m_callNi (As := [.ref (y0 + 9), .int (y3 - (nI 1))]) (st := [.int y3, .ref (y0 + 9)]) (s_X9_at (d := d + 0) hA (al_of (aX3_9 hy0)) eM56_7) ck_X9_at (host := "StillYard") (List.mem_of_getElem? (i := 19) rfl) rfl (Nat.le_of_ble_eq_true rfl) dX3_orderAll_56 ?_
        obtain ⟨M59_9, eM59_9, h⟩ := bv_e h
        refine m_callNv (As := [.ref (y0 + 9), .int y3, .int v56_8]) (st := []) (s_X9_put (d := d + 0) hA (al_of (aX3_9 hy0)) eM59_9) ck_X9_put (host := "StillYard") (List.mem_of_getElem? (i := 17) rfl) rfl (Nat.le_of_ble_eq_true rfl) dX3_orderAll_59 ?_
        refine g_iinc (v := (y3 + (-1 : Int32))) (lv' := [(3, .int (y3 + (-1 : Int32))), (0, .ref y0), (1, .ref y1), (2, .int y2)]) dX3_orderAll_62 3 rfl rfl (by decide) rfl ?_
        refine g_goto (tgt := 12) dX3_orderAll_65 (by decide) ?_
        refine g_sub [1, 2, 3, 0] (lv' := [(0, .ref y0), (1, .ref y1), (2, .int y2), (3, .int (y3 + (-1 : Int32)))]) rfl ?_
        exact ih _  _ h
set_option maxHeartbeats 4000000 in
set_option maxRecDepth 100000 in
theorem sl_X3_orderAll_2 {l : Launch} {B : BT} (hA : bA B = false) {d : Nat} {M' : Mm} {y0 : Nat} {y1 : Nat} (hy0 : LY y0 = .inl (3, fk3)) (hy1 : LY y1 = .inl (0, fk0))   :
    ∀ (n : Nat) (y2 : Int32) (M : Mm), lp_X3_orderAll_2 y0 y1 n y2 M = some M' → GG l B LY (d + 1) yX3_orderAll cX3_orderAll 4 none 0 0 (PV M') 97 0 0 2 [(0, .ref y0), (1, .ref y1), (2, .int y2)] [] M := by
  intro n
  induction n with
  | zero => intro y2 M h; cases h
  | succ n ih =>
    intro y2 M h
    rw [lp_X3_orderAll_2] at h
    refine g_iload_n dX3_orderAll_2 rfl 2 rfl ?_
    refine g_aload_n dX3_orderAll_3 rfl 1 rfl ?_
    refine m_geti (k := 14) okX0 hy1 rfl (by decide) w_154 rfl dX3_orderAll_4 ?_
    refine g_icmp_ge (tgt := 83) dX3_orderAll_7 (by decide) (fun c17 => ?_) (fun c17 => ?_)
    · replace h := ite_p c17 h
      exact g_vret rfl (pv_of h) dX3_orderAll_83
    · replace h := ite_n c17 h
      refine g_iload_n dX3_orderAll_10 rfl 2 rfl ?_
      refine g_istore_n (lv' := [(3, .int y2), (0, .ref y0), (1, .ref y1), (2, .int y2)]) dX3_orderAll_11 rfl (by decide) rfl ?_
      refine g_sub [1, 2, 3, 0] (lv' := [(0, .ref y0), (1, .ref y1), (2, .int y2), (3, .int y2)]) rfl ?_
      refine sl_X3_orderAll_12 hA hy0 hy1 ?_ _ _ _ h
      · intro u13 M14 h
        refine g_aload_n dX3_orderAll_68 rfl 0 rfl ?_
        refine m_getr (k := 8) okX3 hy0 rfl (by decide) w_276 rfl dX3_orderAll_69 ?_
        refine g_iload_n dX3_orderAll_72 rfl 3 rfl ?_
        refine g_iload_n dX3_orderAll_73 rfl 2 rfl ?_
        obtain ⟨M74_15, eM74_15, h⟩ := bv_e h
        refine m_callNv (As := [.ref (y0 + 9), .int u13, .int y2]) (st := []) (s_X9_put (d := d + 0) hA (al_of (aX3_9 hy0)) eM74_15) ck_X9_put (host := "StillYard") (List.mem_of_getElem? (i := 17) rfl) rfl (Nat.le_of_ble_eq_true rfl) dX3_orderAll_74 ?_
        refine g_iinc (v := (y2 + (nI 1))) (lv' := [(2, .int (y2 + (nI 1))), (0, .ref y0), (1, .ref y1), (3, .int u13)]) dX3_orderAll_77 2 rfl rfl (by decide) rfl ?_
        refine g_goto (tgt := 2) dX3_orderAll_80 (by decide) ?_
        refine g_sub [1, 2, 0] (lv' := [(0, .ref y0), (1, .ref y1), (2, .int (y2 + (nI 1)))]) rfl ?_
        exact ih _  _ h
set_option maxHeartbeats 4000000 in
set_option maxRecDepth 100000 in
theorem s_X3_orderAll {l : Launch} {B : BT} (hA : bA B = false) {d : Nat} {M' : Mm} {x0 : Nat} {x1 : Nat} {M : Mm} (hx0 : LY x0 = .inl (3, fk3)) (hx1 : LY x1 = .inl (0, fk0)) (h : f_X3_orderAll x0 x1 M = some M') : Con l B LY (d + 1) yX3_orderAll cX3_orderAll 4 none 0 0 [.ref x0, .ref x1] 97 M (PV M') := by
  refine con_of (by decide) (Nat.le_of_ble_eq_true rfl) ?_
  show GG l B LY (d + 1) yX3_orderAll cX3_orderAll 4 none 0 0 (PV M') 97 0 0 0 [(0, .ref x0), (1, .ref x1)] [] M
  rw [f_X3_orderAll] at h
  refine g_iconst (v := (nI 0)) dX3_orderAll_0 (by decide) ?_
  refine g_istore_n (lv' := [(2, .int (nI 0)), (0, .ref x0), (1, .ref x1)]) dX3_orderAll_1 rfl (by decide) rfl ?_
  refine g_sub [1, 2, 0] (lv' := [(0, .ref x0), (1, .ref x1), (2, .int (nI 0))]) rfl ?_
  refine sl_X3_orderAll_2 hA hx0 hx1  _ _ _ h
theorem ck_X3_orderAll : CKV yX3_orderAll cX3_orderAll 4 none 1 := ⟨⟨by decide, by decide, by decide +kernel⟩, w_791, w_76, ⟨w_789, w_790⟩, by decide⟩
theorem dX3_isHidden_0 : decode cX3_isHidden 0 = .ok (.iconst 0, 1) := by decide +kernel
theorem dX3_isHidden_1 : decode cX3_isHidden 1 = .ok (.istore_n 3, 1) := by decide +kernel
theorem dX3_isHidden_2 : decode cX3_isHidden 2 = .ok (.iload_n 3, 1) := by decide +kernel
theorem dX3_isHidden_3 : decode cX3_isHidden 3 = .ok (.aload_n 1, 1) := by decide +kernel
theorem dX3_isHidden_4 : decode cX3_isHidden 4 = .ok (.getfield 93, 3) := by decide +kernel
theorem dX3_isHidden_7 : decode cX3_isHidden 7 = .ok (.if_icmp .ge 60, 3) := by decide +kernel
theorem dX3_isHidden_10 : decode cX3_isHidden 10 = .ok (.aload_n 1, 1) := by decide +kernel
theorem dX3_isHidden_11 : decode cX3_isHidden 11 = .ok (.iload_n 3, 1) := by decide +kernel
theorem dX3_isHidden_12 : decode cX3_isHidden 12 = .ok (.iconst 0, 1) := by decide +kernel
theorem dX3_isHidden_13 : decode cX3_isHidden 13 = .ok (.invokevirtual 116, 3) := by decide +kernel
theorem dX3_isHidden_16 : decode cX3_isHidden 16 = .ok (.aload_n 1, 1) := by decide +kernel
theorem dX3_isHidden_17 : decode cX3_isHidden 17 = .ok (.iload_n 2, 1) := by decide +kernel
theorem dX3_isHidden_18 : decode cX3_isHidden 18 = .ok (.iconst 0, 1) := by decide +kernel
theorem dX3_isHidden_19 : decode cX3_isHidden 19 = .ok (.invokevirtual 116, 3) := by decide +kernel
theorem dX3_isHidden_22 : decode cX3_isHidden 22 = .ok (.if_icmp .ne 39, 3) := by decide +kernel
theorem dX3_isHidden_25 : decode cX3_isHidden 25 = .ok (.aload_n 0, 1) := by decide +kernel
theorem dX3_isHidden_26 : decode cX3_isHidden 26 = .ok (.getfield 9, 3) := by decide +kernel
theorem dX3_isHidden_29 : decode cX3_isHidden 29 = .ok (.iload_n 3, 1) := by decide +kernel
theorem dX3_isHidden_30 : decode cX3_isHidden 30 = .ok (.invokestatic 112, 3) := by decide +kernel
theorem dX3_isHidden_33 : decode cX3_isHidden 33 = .ok (.aload_n 0, 1) := by decide +kernel
theorem dX3_isHidden_34 : decode cX3_isHidden 34 = .ok (.getfield 9, 3) := by decide +kernel
theorem dX3_isHidden_37 : decode cX3_isHidden 37 = .ok (.iload_n 2, 1) := by decide +kernel
theorem dX3_isHidden_38 : decode cX3_isHidden 38 = .ok (.invokestatic 112, 3) := by decide +kernel
theorem dX3_isHidden_41 : decode cX3_isHidden 41 = .ok (.if_icmp .le 20, 3) := by decide +kernel
theorem dX3_isHidden_44 : decode cX3_isHidden 44 = .ok (.aload_n 1, 1) := by decide +kernel
theorem dX3_isHidden_45 : decode cX3_isHidden 45 = .ok (.iload_n 3, 1) := by decide +kernel
theorem dX3_isHidden_46 : decode cX3_isHidden 46 = .ok (.iconst 3, 1) := by decide +kernel
theorem dX3_isHidden_47 : decode cX3_isHidden 47 = .ok (.invokevirtual 116, 3) := by decide +kernel
theorem dX3_isHidden_50 : decode cX3_isHidden 50 = .ok (.aload_n 1, 1) := by decide +kernel
theorem dX3_isHidden_51 : decode cX3_isHidden 51 = .ok (.iload_n 2, 1) := by decide +kernel
theorem dX3_isHidden_52 : decode cX3_isHidden 52 = .ok (.iconst 3, 1) := by decide +kernel
theorem dX3_isHidden_53 : decode cX3_isHidden 53 = .ok (.invokevirtual 116, 3) := by decide +kernel
theorem dX3_isHidden_56 : decode cX3_isHidden 56 = .ok (.if_icmp .le 5, 3) := by decide +kernel
theorem dX3_isHidden_59 : decode cX3_isHidden 59 = .ok (.iconst 1, 1) := by decide +kernel
theorem dX3_isHidden_60 : decode cX3_isHidden 60 = .ok (.ireturn, 1) := by decide +kernel
theorem dX3_isHidden_61 : decode cX3_isHidden 61 = .ok (.iinc 3 1, 3) := by decide +kernel
theorem dX3_isHidden_64 : decode cX3_isHidden 64 = .ok (.goto (-62), 3) := by decide +kernel
theorem dX3_isHidden_67 : decode cX3_isHidden 67 = .ok (.iconst 0, 1) := by decide +kernel
theorem dX3_isHidden_68 : decode cX3_isHidden 68 = .ok (.ireturn, 1) := by decide +kernel
def lp_X3_isHidden_2 (y0 : Nat) (y1 : Nat) (y2 : Int32)  : Nat → Int32 → Mm → Option (Int32 × Mm)
  | 0, _, _ => none
  | n + 1, y3, M =>
    if (M y1 14) ≤ y3 then (some ((nI 0), M)) else (bd (f_X0_trait y1 y3 (nI 0) M) fun v13_2 M13_1 => bd (f_X0_trait y1 y2 (nI 0) M13_1) fun v19_4 M19_3 => jn (fun (M5 : Mm) => lp_X3_isHidden_2 y0 y1 y2 n (y3 + (nI 1)) M5) fun j6 => if v13_2 = v19_4 then (bd (f_X9_at (y0 + 1) y3 M19_3) fun v30_8 M30_7 => bd (f_X9_at (y0 + 1) y2 M30_7) fun v38_10 M38_9 => if v30_8 ≤ v38_10 then (j6  M38_9) else (bd (f_X0_trait y1 y3 (nI 3) M38_9) fun v47_12 M47_11 => bd (f_X0_trait y1 y2 (nI 3) M47_11) fun v53_14 M53_13 => if v47_12 ≤ v53_14 then (j6  M53_13) else (some ((nI 1), M53_13)))) else (j6  M19_3))
def f_X3_isHidden (x0 : Nat) (x1 : Nat) (x2 : Int32) (M : Mm) : Option (Int32 × Mm) :=
  lp_X3_isHidden_2 x0 x1 x2  N0 (nI 0) M
set_option maxHeartbeats 4000000 in
set_option maxRecDepth 100000 in
theorem sl_X3_isHidden_2 {l : Launch} {B : BT} (hA : bA B = false) {d : Nat} {r : Int32} {M' : Mm} {y0 : Nat} {y1 : Nat} {y2 : Int32} (hy0 : LY y0 = .inl (3, fk3)) (hy1 : LY y1 = .inl (0, fk0))   :
    ∀ (n : Nat) (y3 : Int32) (M : Mm), lp_X3_isHidden_2 y0 y1 y2 n y3 M = some (r, M') → GG l B LY (d + 1) yX3_isHidden cX3_isHidden 4 (some .boolean) 0 0 (PI r M') 97 0 0 2 [(0, .ref y0), (1, .ref y1), (2, .int y2), (3, .int y3)] [] M := by
  intro n
  induction n with
  | zero => intro y3 M h; cases h
  | succ n ih =>
    intro y3 M h
    rw [lp_X3_isHidden_2] at h
    refine g_iload_n dX3_isHidden_2 rfl 3 rfl ?_
    refine g_aload_n dX3_isHidden_3 rfl 1 rfl ?_
    refine m_geti (k := 14) okX0 hy1 rfl (by decide) w_154 rfl dX3_isHidden_4 ?_
    refine g_icmp_ge (tgt := 67) dX3_isHidden_7 (by decide) (fun c18 => ?_) (fun c18 => ?_)
    · replace h := ite_p c18 h
      refine g_iconst (v := (nI 0)) dX3_isHidden_67 (by decide) ?_
      exact g_zret rfl rfl (pi_of h) dX3_isHidden_68
    · replace h := ite_n c18 h
      refine g_aload_n dX3_isHidden_10 rfl 1 rfl ?_
      refine g_iload_n dX3_isHidden_11 rfl 3 rfl ?_
      refine g_iconst (v := (nI 0)) dX3_isHidden_12 (by decide) ?_
      obtain ⟨v13_2, M13_1, eM13_1, h⟩ := bd_e h
      refine m_callVi (As := [.int y3, .int (nI 0)]) (st := []) (s_X0_trait (d := d + 0) hA hy1 eM13_1) hy1 okX0 ck_X0_trait w_748 rfl (Nat.le_of_ble_eq_true rfl) dX3_isHidden_13 ?_
      refine g_aload_n dX3_isHidden_16 rfl 1 rfl ?_
      refine g_iload_n dX3_isHidden_17 rfl 2 rfl ?_
      refine g_iconst (v := (nI 0)) dX3_isHidden_18 (by decide) ?_
      obtain ⟨v19_4, M19_3, eM19_3, h⟩ := bd_e h
      refine m_callVi (As := [.int y2, .int (nI 0)]) (st := [.int v13_2]) (s_X0_trait (d := d + 0) hA hy1 eM19_3) hy1 okX0 ck_X0_trait w_748 rfl (Nat.le_of_ble_eq_true rfl) dX3_isHidden_19 ?_
      obtain ⟨j6, ej6, h⟩ := jn_e h
      have hj6 : ∀ (M5 : Mm), j6 M5 = some (r, M') → GG l B LY (d + 1) yX3_isHidden cX3_isHidden 4 (some .boolean) 0 0 (PI r M') 97 0 0 61 [(0, .ref y0), (1, .ref y1), (2, .int y2), (3, .int y3)] [] M5 := by
        intro M5 h
        rw [ej6] at h
        refine g_iinc (v := (y3 + (nI 1))) (lv' := [(3, .int (y3 + (nI 1))), (0, .ref y0), (1, .ref y1), (2, .int y2)]) dX3_isHidden_61 3 rfl rfl (by decide) rfl ?_
        refine g_goto (tgt := 2) dX3_isHidden_64 (by decide) ?_
        refine g_sub [1, 2, 3, 0] (lv' := [(0, .ref y0), (1, .ref y1), (2, .int y2), (3, .int (y3 + (nI 1)))]) rfl ?_
        exact ih _  _ h
      refine g_icmp_ne (tgt := 61) dX3_isHidden_22 (by decide) (fun c17 => ?_) (fun c17 => ?_)
      · replace h := ite_n c17 h
        refine g_sub [0, 1, 2, 3] (lv' := [(0, .ref y0), (1, .ref y1), (2, .int y2), (3, .int y3)]) rfl ?_
        exact hj6  _ h
      · replace h := ite_p c17 h
        refine g_aload_n dX3_isHidden_25 rfl 0 rfl ?_
        refine m_getr (k := 0) okX3 hy0 rfl (by decide) w_259 rfl dX3_isHidden_26 ?_
        refine g_iload_n dX3_isHidden_29 rfl 3 rfl ?_
        obtain ⟨v30_8, M30_7, eM30_7, h⟩ := bd_e h
        refine m_callNi (As := [.ref (y0 + 1), .int y3]) (st := []) (s_X9_at (d := d + 0) hA (al_of (aX3_1 hy0)) eM30_7) ck_X9_at (host := "StillYard") (List.mem_of_getElem? (i := 19) rfl) rfl (Nat.le_of_ble_eq_true rfl) dX3_isHidden_30 ?_
        refine g_aload_n dX3_isHidden_33 rfl 0 rfl ?_
        refine m_getr (k := 0) okX3 hy0 rfl (by decide) w_259 rfl dX3_isHidden_34 ?_
        refine g_iload_n dX3_isHidden_37 rfl 2 rfl ?_
        obtain ⟨v38_10, M38_9, eM38_9, h⟩ := bd_e h
        refine m_callNi (As := [.ref (y0 + 1), .int y2]) (st := [.int v30_8]) (s_X9_at (d := d + 0) hA (al_of (aX3_1 hy0)) eM38_9) ck_X9_at (host := "StillYard") (List.mem_of_getElem? (i := 19) rfl) rfl (Nat.le_of_ble_eq_true rfl) dX3_isHidden_38 ?_
        refine g_icmp_le (tgt := 61) dX3_isHidden_41 (by decide) (fun c16 => ?_) (fun c16 => ?_)
        · replace h := ite_p c16 h
          refine g_sub [0, 1, 2, 3] (lv' := [(0, .ref y0), (1, .ref y1), (2, .int y2), (3, .int y3)]) rfl ?_
          exact hj6  _ h
        · replace h := ite_n c16 h
          refine g_aload_n dX3_isHidden_44 rfl 1 rfl ?_
          refine g_iload_n dX3_isHidden_45 rfl 3 rfl ?_
          refine g_iconst (v := (nI 3)) dX3_isHidden_46 (by decide) ?_
          obtain ⟨v47_12, M47_11, eM47_11, h⟩ := bd_e h
          refine m_callVi (As := [.int y3, .int (nI 3)]) (st := []) (s_X0_trait (d := d + 0) hA hy1 eM47_11) hy1 okX0 ck_X0_trait w_748 rfl (Nat.le_of_ble_eq_true rfl) dX3_isHidden_47 ?_
          refine g_aload_n dX3_isHidden_50 rfl 1 rfl ?_
          refine g_iload_n dX3_isHidden_51 rfl 2 rfl ?_
          refine g_iconst (v := (nI 3)) dX3_isHidden_52 (by decide) ?_
          obtain ⟨v53_14, M53_13, eM53_13, h⟩ := bd_e h
          refine m_callVi (As := [.int y2, .int (nI 3)]) (st := [.int v47_12]) (s_X0_trait (d := d + 0) hA hy1 eM53_13) hy1 okX0 ck_X0_trait w_748 rfl (Nat.le_of_ble_eq_true rfl) dX3_isHidden_53 ?_
          refine g_icmp_le (tgt := 61) dX3_isHidden_56 (by decide) (fun c15 => ?_) (fun c15 => ?_)
          · replace h := ite_p c15 h
            refine g_sub [0, 1, 2, 3] (lv' := [(0, .ref y0), (1, .ref y1), (2, .int y2), (3, .int y3)]) rfl ?_
            exact hj6  _ h
          · replace h := ite_n c15 h
            refine g_iconst (v := (nI 1)) dX3_isHidden_59 (by decide) ?_
            exact g_zret rfl rfl (pi_of h) dX3_isHidden_60
set_option maxHeartbeats 4000000 in
set_option maxRecDepth 100000 in
theorem s_X3_isHidden {l : Launch} {B : BT} (hA : bA B = false) {d : Nat} {r : Int32} {M' : Mm} {x0 : Nat} {x1 : Nat} {x2 : Int32} {M : Mm} (hx0 : LY x0 = .inl (3, fk3)) (hx1 : LY x1 = .inl (0, fk0)) (h : f_X3_isHidden x0 x1 x2 M = some (r, M')) : Con l B LY (d + 1) yX3_isHidden cX3_isHidden 4 (some .boolean) 0 0 [.ref x0, .ref x1, .int x2] 97 M (PI r M') := by
  refine con_of (by decide) (Nat.le_of_ble_eq_true rfl) ?_
  show GG l B LY (d + 1) yX3_isHidden cX3_isHidden 4 (some .boolean) 0 0 (PI r M') 97 0 0 0 [(0, .ref x0), (1, .ref x1), (2, .int x2)] [] M
  rw [f_X3_isHidden] at h
  refine g_iconst (v := (nI 0)) dX3_isHidden_0 (by decide) ?_
  refine g_istore_n (lv' := [(3, .int (nI 0)), (0, .ref x0), (1, .ref x1), (2, .int x2)]) dX3_isHidden_1 rfl (by decide) rfl ?_
  refine g_sub [1, 2, 3, 0] (lv' := [(0, .ref x0), (1, .ref x1), (2, .int x2), (3, .int (nI 0))]) rfl ?_
  refine sl_X3_isHidden_2 hA hx0 hx1  _ _ _ h
theorem ck_X3_isHidden : CKV yX3_isHidden cX3_isHidden 4 (some .boolean) 2 := ⟨⟨by decide, by decide, by decide +kernel⟩, w_799, w_76, ⟨w_797, w_798⟩, by decide⟩
theorem dX3_howStands_0 : decode cX3_howStands 0 = .ok (.aload_n 0, 1) := by decide +kernel
theorem dX3_howStands_1 : decode cX3_howStands 1 = .ok (.aload_n 1, 1) := by decide +kernel
theorem dX3_howStands_2 : decode cX3_howStands 2 = .ok (.iload_n 2, 1) := by decide +kernel
theorem dX3_howStands_3 : decode cX3_howStands 3 = .ok (.invokevirtual 156, 3) := by decide +kernel
theorem dX3_howStands_6 : decode cX3_howStands 6 = .ok (.ifCond .eq 5, 3) := by decide +kernel
theorem dX3_howStands_9 : decode cX3_howStands 9 = .ok (.iconst 2, 1) := by decide +kernel
theorem dX3_howStands_10 : decode cX3_howStands 10 = .ok (.ireturn, 1) := by decide +kernel
theorem dX3_howStands_11 : decode cX3_howStands 11 = .ok (.aload_n 0, 1) := by decide +kernel
theorem dX3_howStands_12 : decode cX3_howStands 12 = .ok (.getfield 33, 3) := by decide +kernel
theorem dX3_howStands_15 : decode cX3_howStands 15 = .ok (.iload_n 2, 1) := by decide +kernel
theorem dX3_howStands_16 : decode cX3_howStands 16 = .ok (.invokestatic 112, 3) := by decide +kernel
theorem dX3_howStands_19 : decode cX3_howStands 19 = .ok (.istore_n 3, 1) := by decide +kernel
theorem dX3_howStands_20 : decode cX3_howStands 20 = .ok (.iload_n 3, 1) := by decide +kernel
theorem dX3_howStands_21 : decode cX3_howStands 21 = .ok (.iconst (-1), 1) := by decide +kernel
theorem dX3_howStands_22 : decode cX3_howStands 22 = .ok (.if_icmp .eq 31, 3) := by decide +kernel
theorem dX3_howStands_25 : decode cX3_howStands 25 = .ok (.iload_n 3, 1) := by decide +kernel
theorem dX3_howStands_26 : decode cX3_howStands 26 = .ok (.aload_n 1, 1) := by decide +kernel
theorem dX3_howStands_27 : decode cX3_howStands 27 = .ok (.getfield 160, 3) := by decide +kernel
theorem dX3_howStands_30 : decode cX3_howStands 30 = .ok (.aload_n 1, 1) := by decide +kernel
theorem dX3_howStands_31 : decode cX3_howStands 31 = .ok (.getfield 123, 3) := by decide +kernel
theorem dX3_howStands_34 : decode cX3_howStands 34 = .ok (.iadd, 1) := by decide +kernel
theorem dX3_howStands_35 : decode cX3_howStands 35 = .ok (.aload_n 0, 1) := by decide +kernel
theorem dX3_howStands_36 : decode cX3_howStands 36 = .ok (.getfield 9, 3) := by decide +kernel
theorem dX3_howStands_39 : decode cX3_howStands 39 = .ok (.iload_n 2, 1) := by decide +kernel
theorem dX3_howStands_40 : decode cX3_howStands 40 = .ok (.invokestatic 112, 3) := by decide +kernel
theorem dX3_howStands_43 : decode cX3_howStands 43 = .ok (.isub, 1) := by decide +kernel
theorem dX3_howStands_44 : decode cX3_howStands 44 = .ok (.if_icmp .lt 7, 3) := by decide +kernel
theorem dX3_howStands_47 : decode cX3_howStands 47 = .ok (.iconst 4, 1) := by decide +kernel
theorem dX3_howStands_48 : decode cX3_howStands 48 = .ok (.goto 4, 3) := by decide +kernel
theorem dX3_howStands_51 : decode cX3_howStands 51 = .ok (.iconst 1, 1) := by decide +kernel
theorem dX3_howStands_52 : decode cX3_howStands 52 = .ok (.ireturn, 1) := by decide +kernel
theorem dX3_howStands_53 : decode cX3_howStands 53 = .ok (.aload_n 0, 1) := by decide +kernel
theorem dX3_howStands_54 : decode cX3_howStands 54 = .ok (.invokevirtual 136, 3) := by decide +kernel
theorem dX3_howStands_57 : decode cX3_howStands 57 = .ok (.aload_n 1, 1) := by decide +kernel
theorem dX3_howStands_58 : decode cX3_howStands 58 = .ok (.iload_n 2, 1) := by decide +kernel
theorem dX3_howStands_59 : decode cX3_howStands 59 = .ok (.iconst 4, 1) := by decide +kernel
theorem dX3_howStands_60 : decode cX3_howStands 60 = .ok (.invokevirtual 116, 3) := by decide +kernel
theorem dX3_howStands_63 : decode cX3_howStands 63 = .ok (.if_icmp .ge 7, 3) := by decide +kernel
theorem dX3_howStands_66 : decode cX3_howStands 66 = .ok (.iconst 5, 1) := by decide +kernel
theorem dX3_howStands_67 : decode cX3_howStands 67 = .ok (.goto 4, 3) := by decide +kernel
theorem dX3_howStands_70 : decode cX3_howStands 70 = .ok (.iconst 0, 1) := by decide +kernel
theorem dX3_howStands_71 : decode cX3_howStands 71 = .ok (.ireturn, 1) := by decide +kernel
def f_X3_howStands (x0 : Nat) (x1 : Nat) (x2 : Int32) (M : Mm) : Option (Int32 × Mm) :=
  bd (f_X3_isHidden x0 x1 x2 M) fun v3_2 M3_1 => if v3_2 = 0 then (bd (f_X9_at (x0 + 8) x2 M3_1) fun v16_4 M16_3 => if v16_4 = (-1 : Int32) then (bd (f_X3_draw x0 M16_3) fun v54_6 M54_5 => bd (f_X0_trait x1 x2 (nI 4) M54_5) fun v60_8 M60_7 => if v60_8 ≤ v54_6 then (some ((nI 0), M60_7)) else (some ((nI 5), M60_7))) else (bd (f_X9_at (x0 + 1) x2 M16_3) fun v40_11 M40_10 => if v16_4 < (((M16_3 x1 12) + (M16_3 x1 6)) - v40_11) then (some ((nI 1), M40_10)) else (some ((nI 4), M40_10)))) else (some ((nI 2), M3_1))
set_option maxHeartbeats 4000000 in
set_option maxRecDepth 100000 in
theorem s_X3_howStands {l : Launch} {B : BT} (hA : bA B = false) {d : Nat} {r : Int32} {M' : Mm} {x0 : Nat} {x1 : Nat} {x2 : Int32} {M : Mm} (hx0 : LY x0 = .inl (3, fk3)) (hx1 : LY x1 = .inl (0, fk0)) (h : f_X3_howStands x0 x1 x2 M = some (r, M')) : Con l B LY (d + 2) yX3_howStands cX3_howStands 4 (some .int) 0 0 [.ref x0, .ref x1, .int x2] 97 M (PI r M') := by
  refine con_of (by decide) (Nat.le_of_ble_eq_true rfl) ?_
  show GG l B LY (d + 2) yX3_howStands cX3_howStands 4 (some .int) 0 0 (PI r M') 97 0 0 0 [(0, .ref x0), (1, .ref x1), (2, .int x2)] [] M
  rw [f_X3_howStands] at h
  refine g_aload_n dX3_howStands_0 rfl 0 rfl ?_
  refine g_aload_n dX3_howStands_1 rfl 1 rfl ?_
  refine g_iload_n dX3_howStands_2 rfl 2 rfl ?_
  obtain ⟨v3_2, M3_1, eM3_1, h⟩ := bd_e h
  refine m_callVi (As := [.ref x1, .int x2]) (st := []) (s_X3_isHidden (d := d + 0) hA hx0 hx1 eM3_1) hx0 okX3 ck_X3_isHidden w_796 rfl (Nat.le_of_ble_eq_true rfl) dX3_howStands_3 ?_
  refine g_if_eq (tgt := 11) dX3_howStands_6 (by decide) (fun c14 => ?_) (fun c14 => ?_)
  · replace h := ite_p c14 h
    refine g_aload_n dX3_howStands_11 rfl 0 rfl ?_
    refine m_getr (k := 7) okX3 hx0 rfl (by decide) w_275 rfl dX3_howStands_12 ?_
    refine g_iload_n dX3_howStands_15 rfl 2 rfl ?_
    obtain ⟨v16_4, M16_3, eM16_3, h⟩ := bd_e h
    refine m_callNi (As := [.ref (x0 + 8), .int x2]) (st := []) (s_X9_at (d := d + 1) hA (al_of (aX3_8 hx0)) eM16_3) ck_X9_at (host := "StillYard") (List.mem_of_getElem? (i := 19) rfl) rfl (Nat.le_of_ble_eq_true rfl) dX3_howStands_16 ?_
    refine g_istore_n (lv' := [(3, .int v16_4), (0, .ref x0), (1, .ref x1), (2, .int x2)]) dX3_howStands_19 rfl (by decide) rfl ?_
    refine g_iload_n dX3_howStands_20 rfl 0 rfl ?_
    refine g_iconst (v := (-1 : Int32)) dX3_howStands_21 (by decide) ?_
    refine g_icmp_eq (tgt := 53) dX3_howStands_22 (by decide) (fun c13 => ?_) (fun c13 => ?_)
    · replace h := ite_p c13 h
      refine g_aload_n dX3_howStands_53 rfl 1 rfl ?_
      obtain ⟨v54_6, M54_5, eM54_5, h⟩ := bd_e h
      refine m_callVi (As := []) (st := []) (s_X3_draw (d := d + 1) hA hx0 eM54_5) hx0 okX3 ck_X3_draw w_767 rfl (Nat.le_of_ble_eq_true rfl) dX3_howStands_54 ?_
      refine g_aload_n dX3_howStands_57 rfl 2 rfl ?_
      refine g_iload_n dX3_howStands_58 rfl 3 rfl ?_
      refine g_iconst (v := (nI 4)) dX3_howStands_59 (by decide) ?_
      obtain ⟨v60_8, M60_7, eM60_7, h⟩ := bd_e h
      refine m_callVi (As := [.int x2, .int (nI 4)]) (st := [.int v54_6]) (s_X0_trait (d := d + 1) hA hx1 eM60_7) hx1 okX0 ck_X0_trait w_748 rfl (Nat.le_of_ble_eq_true rfl) dX3_howStands_60 ?_
      refine g_icmp_ge (tgt := 70) dX3_howStands_63 (by decide) (fun c9 => ?_) (fun c9 => ?_)
      · replace h := ite_p c9 h
        refine g_iconst (v := (nI 0)) dX3_howStands_70 (by decide) ?_
        exact g_zret rfl rfl (pi_of h) dX3_howStands_71
      · replace h := ite_n c9 h
        refine g_iconst (v := (nI 5)) dX3_howStands_66 (by decide) ?_
        refine g_goto (tgt := 71) dX3_howStands_67 (by decide) ?_
        exact g_zret rfl rfl (pi_of h) dX3_howStands_71
    · replace h := ite_n c13 h
      refine g_iload_n dX3_howStands_25 rfl 0 rfl ?_
      refine g_aload_n dX3_howStands_26 rfl 2 rfl ?_
      refine m_geti (k := 12) okX0 hx1 rfl (by decide) w_145 rfl dX3_howStands_27 ?_
      refine g_aload_n dX3_howStands_30 rfl 2 rfl ?_
      refine m_geti (k := 6) okX0 hx1 rfl (by decide) w_125 rfl dX3_howStands_31 ?_
      refine g_iadd dX3_howStands_34 ?_
      refine g_aload_n dX3_howStands_35 rfl 1 rfl ?_
      refine m_getr (k := 0) okX3 hx0 rfl (by decide) w_259 rfl dX3_howStands_36 ?_
      refine g_iload_n dX3_howStands_39 rfl 3 rfl ?_
      obtain ⟨v40_11, M40_10, eM40_10, h⟩ := bd_e h
      refine m_callNi (As := [.ref (x0 + 1), .int x2]) (st := [.int ((M16_3 x1 12) + (M16_3 x1 6)), .int v16_4]) (s_X9_at (d := d + 1) hA (al_of (aX3_1 hx0)) eM40_10) ck_X9_at (host := "StillYard") (List.mem_of_getElem? (i := 19) rfl) rfl (Nat.le_of_ble_eq_true rfl) dX3_howStands_40 ?_
      refine g_isub dX3_howStands_43 ?_
      refine g_icmp_lt (tgt := 51) dX3_howStands_44 (by decide) (fun c12 => ?_) (fun c12 => ?_)
      · replace h := ite_p c12 h
        refine g_iconst (v := (nI 1)) dX3_howStands_51 (by decide) ?_
        exact g_zret rfl rfl (pi_of h) dX3_howStands_52
      · replace h := ite_n c12 h
        refine g_iconst (v := (nI 4)) dX3_howStands_47 (by decide) ?_
        refine g_goto (tgt := 52) dX3_howStands_48 (by decide) ?_
        exact g_zret rfl rfl (pi_of h) dX3_howStands_52
  · replace h := ite_n c14 h
    refine g_iconst (v := (nI 2)) dX3_howStands_9 (by decide) ?_
    exact g_zret rfl rfl (pi_of h) dX3_howStands_10
theorem ck_X3_howStands : CKV yX3_howStands cX3_howStands 4 (some .int) 2 := ⟨⟨by decide, by decide, by decide +kernel⟩, w_795, w_76, ⟨w_793, w_794⟩, by decide⟩
theorem dX3_lookAround_0 : decode cX3_lookAround 0 = .ok (.aload_n 0, 1) := by decide +kernel
theorem dX3_lookAround_1 : decode cX3_lookAround 1 = .ok (.getfield 9, 3) := by decide +kernel
theorem dX3_lookAround_4 : decode cX3_lookAround 4 = .ok (.aload_n 0, 1) := by decide +kernel
theorem dX3_lookAround_5 : decode cX3_lookAround 5 = .ok (.getfield 27, 3) := by decide +kernel
theorem dX3_lookAround_8 : decode cX3_lookAround 8 = .ok (.invokestatic 62, 3) := by decide +kernel
theorem dX3_lookAround_11 : decode cX3_lookAround 11 = .ok (.aload_n 0, 1) := by decide +kernel
theorem dX3_lookAround_12 : decode cX3_lookAround 12 = .ok (.getfield 18, 3) := by decide +kernel
theorem dX3_lookAround_15 : decode cX3_lookAround 15 = .ok (.iconst 3, 1) := by decide +kernel
theorem dX3_lookAround_16 : decode cX3_lookAround 16 = .ok (.invokestatic 43, 3) := by decide +kernel
theorem dX3_lookAround_19 : decode cX3_lookAround 19 = .ok (.aload_n 0, 1) := by decide +kernel
theorem dX3_lookAround_20 : decode cX3_lookAround 20 = .ok (.aload_n 1, 1) := by decide +kernel
theorem dX3_lookAround_21 : decode cX3_lookAround 21 = .ok (.invokevirtual 149, 3) := by decide +kernel
theorem dX3_lookAround_24 : decode cX3_lookAround 24 = .ok (.iconst 0, 1) := by decide +kernel
theorem dX3_lookAround_25 : decode cX3_lookAround 25 = .ok (.istore_n 3, 1) := by decide +kernel
theorem dX3_lookAround_26 : decode cX3_lookAround 26 = .ok (.iload_n 3, 1) := by decide +kernel
theorem dX3_lookAround_27 : decode cX3_lookAround 27 = .ok (.iload_n 2, 1) := by decide +kernel
theorem dX3_lookAround_28 : decode cX3_lookAround 28 = .ok (.if_icmp .ge 43, 3) := by decide +kernel
theorem dX3_lookAround_31 : decode cX3_lookAround 31 = .ok (.iload_n 3, 1) := by decide +kernel
theorem dX3_lookAround_32 : decode cX3_lookAround 32 = .ok (.aload_n 1, 1) := by decide +kernel
theorem dX3_lookAround_33 : decode cX3_lookAround 33 = .ok (.getfield 93, 3) := by decide +kernel
theorem dX3_lookAround_36 : decode cX3_lookAround 36 = .ok (.if_icmp .ge 35, 3) := by decide +kernel
theorem dX3_lookAround_39 : decode cX3_lookAround 39 = .ok (.aload_n 0, 1) := by decide +kernel
theorem dX3_lookAround_40 : decode cX3_lookAround 40 = .ok (.getfield 36, 3) := by decide +kernel
theorem dX3_lookAround_43 : decode cX3_lookAround 43 = .ok (.iload_n 3, 1) := by decide +kernel
theorem dX3_lookAround_44 : decode cX3_lookAround 44 = .ok (.invokestatic 112, 3) := by decide +kernel
theorem dX3_lookAround_47 : decode cX3_lookAround 47 = .ok (.istore 4, 2) := by decide +kernel
theorem dX3_lookAround_49 : decode cX3_lookAround 49 = .ok (.aload_n 0, 1) := by decide +kernel
theorem dX3_lookAround_50 : decode cX3_lookAround 50 = .ok (.getfield 18, 3) := by decide +kernel
theorem dX3_lookAround_53 : decode cX3_lookAround 53 = .ok (.iload 4, 2) := by decide +kernel
theorem dX3_lookAround_55 : decode cX3_lookAround 55 = .ok (.aload_n 0, 1) := by decide +kernel
theorem dX3_lookAround_56 : decode cX3_lookAround 56 = .ok (.aload_n 1, 1) := by decide +kernel
theorem dX3_lookAround_57 : decode cX3_lookAround 57 = .ok (.iload 4, 2) := by decide +kernel
theorem dX3_lookAround_59 : decode cX3_lookAround 59 = .ok (.invokevirtual 152, 3) := by decide +kernel
theorem dX3_lookAround_62 : decode cX3_lookAround 62 = .ok (.invokestatic 102, 3) := by decide +kernel
theorem dX3_lookAround_65 : decode cX3_lookAround 65 = .ok (.iinc 3 1, 3) := by decide +kernel
theorem dX3_lookAround_68 : decode cX3_lookAround 68 = .ok (.goto (-42), 3) := by decide +kernel
theorem dX3_lookAround_71 : decode cX3_lookAround 71 = .ok (.return_, 1) := by decide +kernel
def lp_X3_lookAround_26 (y0 : Nat) (y1 : Nat) (y2 : Int32)  : Nat → Int32 → Mm → Option (Mm)
  | 0, _, _ => none
  | n + 1, y3, M =>
    if y2 ≤ y3 then (some M) else (if (M y1 14) ≤ y3 then (some M) else (bd (f_X9_at (y0 + 9) y3 M) fun v44_8 M44_7 => bd (f_X3_howStands y0 y1 v44_8 M44_7) fun v59_10 M59_9 => bv (f_X9_put (y0 + 3) v44_8 v59_10 M59_9) fun M62_11 => lp_X3_lookAround_26 y0 y1 y2 n (y3 + (nI 1)) M62_11))
def f_X3_lookAround (x0 : Nat) (x1 : Nat) (x2 : Int32) (M : Mm) : Option (Mm) :=
  bv (f_X9_copy (x0 + 1) (x0 + 6) M) fun M8_1 => bv (f_X9_fill (x0 + 3) (nI 3) M8_1) fun M16_3 => bv (f_X3_orderAll x0 x1 M16_3) fun M21_5 => lp_X3_lookAround_26 x0 x1 x2  N0 (nI 0) M21_5
set_option maxHeartbeats 4000000 in
set_option maxRecDepth 100000 in
theorem sl_X3_lookAround_26 {l : Launch} {B : BT} (hA : bA B = false) {d : Nat} {M' : Mm} {y0 : Nat} {y1 : Nat} {y2 : Int32} (hy0 : LY y0 = .inl (3, fk3)) (hy1 : LY y1 = .inl (0, fk0))   :
    ∀ (n : Nat) (y3 : Int32) (M : Mm), lp_X3_lookAround_26 y0 y1 y2 n y3 M = some M' → GG l B LY (d + 3) yX3_lookAround cX3_lookAround 5 none 0 0 (PV M') 97 0 0 26 [(0, .ref y0), (1, .ref y1), (2, .int y2), (3, .int y3)] [] M := by
  intro n
  induction n with
  | zero => intro y3 M h; cases h
  | succ n ih =>
    intro y3 M h
    rw [lp_X3_lookAround_26] at h
    refine g_iload_n dX3_lookAround_26 rfl 3 rfl ?_
    refine g_iload_n dX3_lookAround_27 rfl 2 rfl ?_
    refine g_icmp_ge (tgt := 71) dX3_lookAround_28 (by decide) (fun c14 => ?_) (fun c14 => ?_)
    · replace h := ite_p c14 h
      exact g_vret rfl (pv_of h) dX3_lookAround_71
    · replace h := ite_n c14 h
      refine g_iload_n dX3_lookAround_31 rfl 3 rfl ?_
      refine g_aload_n dX3_lookAround_32 rfl 1 rfl ?_
      refine m_geti (k := 14) okX0 hy1 rfl (by decide) w_154 rfl dX3_lookAround_33 ?_
      refine g_icmp_ge (tgt := 71) dX3_lookAround_36 (by decide) (fun c13 => ?_) (fun c13 => ?_)
      · replace h := ite_p c13 h
        exact g_vret rfl (pv_of h) dX3_lookAround_71
      · replace h := ite_n c13 h
        refine g_aload_n dX3_lookAround_39 rfl 0 rfl ?_
        refine m_getr (k := 8) okX3 hy0 rfl (by decide) w_276 rfl dX3_lookAround_40 ?_
        refine g_iload_n dX3_lookAround_43 rfl 3 rfl ?_
        obtain ⟨v44_8, M44_7, eM44_7, h⟩ := bd_e h
        refine m_callNi (As := [.ref (y0 + 9), .int y3]) (st := []) (s_X9_at (d := d + 2) hA (al_of (aX3_9 hy0)) eM44_7) ck_X9_at (host := "StillYard") (List.mem_of_getElem? (i := 19) rfl) rfl (Nat.le_of_ble_eq_true rfl) dX3_lookAround_44 ?_
        refine g_istore (lv' := [(4, .int v44_8), (0, .ref y0), (1, .ref y1), (2, .int y2), (3, .int y3)]) dX3_lookAround_47 (by decide) rfl ?_
        refine g_aload_n dX3_lookAround_49 rfl 1 rfl ?_
        refine m_getr (k := 2) okX3 hy0 rfl (by decide) w_265 rfl dX3_lookAround_50 ?_
        refine g_iload dX3_lookAround_53 0 rfl ?_
        refine g_aload_n dX3_lookAround_55 rfl 1 rfl ?_
        refine g_aload_n dX3_lookAround_56 rfl 2 rfl ?_
        refine g_iload dX3_lookAround_57 0 rfl ?_
        obtain ⟨v59_10, M59_9, eM59_9, h⟩ := bd_e h
        refine m_callVi (As := [.ref y1, .int v44_8]) (st := [.int v44_8, .ref (y0 + 3)]) (s_X3_howStands (d := d + 0) hA hy0 hy1 eM59_9) hy0 okX3 ck_X3_howStands w_792 rfl (Nat.le_of_ble_eq_true rfl) dX3_lookAround_59 ?_
        obtain ⟨M62_11, eM62_11, h⟩ := bv_e h
        refine m_callNv (As := [.ref (y0 + 3), .int v44_8, .int v59_10]) (st := []) (s_X9_put (d := d + 2) hA (al_of (aX3_3 hy0)) eM62_11) ck_X9_put (host := "StillYard") (List.mem_of_getElem? (i := 17) rfl) rfl (Nat.le_of_ble_eq_true rfl) dX3_lookAround_62 ?_
        refine g_iinc (v := (y3 + (nI 1))) (lv' := [(3, .int (y3 + (nI 1))), (4, .int v44_8), (0, .ref y0), (1, .ref y1), (2, .int y2)]) dX3_lookAround_65 4 rfl rfl (by decide) rfl ?_
        refine g_goto (tgt := 26) dX3_lookAround_68 (by decide) ?_
        refine g_sub [2, 3, 4, 0] (lv' := [(0, .ref y0), (1, .ref y1), (2, .int y2), (3, .int (y3 + (nI 1)))]) rfl ?_
        exact ih _  _ h
set_option maxHeartbeats 4000000 in
set_option maxRecDepth 100000 in
theorem s_X3_lookAround {l : Launch} {B : BT} (hA : bA B = false) {d : Nat} {M' : Mm} {x0 : Nat} {x1 : Nat} {x2 : Int32} {M : Mm} (hx0 : LY x0 = .inl (3, fk3)) (hx1 : LY x1 = .inl (0, fk0)) (h : f_X3_lookAround x0 x1 x2 M = some M') : Con l B LY (d + 3) yX3_lookAround cX3_lookAround 5 none 0 0 [.ref x0, .ref x1, .int x2] 97 M (PV M') := by
  refine con_of (by decide) (Nat.le_of_ble_eq_true rfl) ?_
  show GG l B LY (d + 3) yX3_lookAround cX3_lookAround 5 none 0 0 (PV M') 97 0 0 0 [(0, .ref x0), (1, .ref x1), (2, .int x2)] [] M
  rw [f_X3_lookAround] at h
  refine g_aload_n dX3_lookAround_0 rfl 0 rfl ?_
  refine m_getr (k := 0) okX3 hx0 rfl (by decide) w_259 rfl dX3_lookAround_1 ?_
  refine g_aload_n dX3_lookAround_4 rfl 0 rfl ?_
  refine m_getr (k := 5) okX3 hx0 rfl (by decide) w_273 rfl dX3_lookAround_5 ?_
  obtain ⟨M8_1, eM8_1, h⟩ := bv_e h
  refine m_callNv (As := [.ref (x0 + 1), .ref (x0 + 6)]) (st := []) (s_X9_copy (d := d + 1) hA (al_of (aX3_1 hx0)) (al_of (aX3_6 hx0)) eM8_1) ck_X9_copy (host := "StillYard") (List.mem_of_getElem? (i := 21) rfl) rfl (Nat.le_of_ble_eq_true rfl) dX3_lookAround_8 ?_
  refine g_aload_n dX3_lookAround_11 rfl 0 rfl ?_
  refine m_getr (k := 2) okX3 hx0 rfl (by decide) w_265 rfl dX3_lookAround_12 ?_
  refine g_iconst (v := (nI 3)) dX3_lookAround_15 (by decide) ?_
  obtain ⟨M16_3, eM16_3, h⟩ := bv_e h
  refine m_callNv (As := [.ref (x0 + 3), .int (nI 3)]) (st := []) (s_X9_fill (d := d + 2) hA (al_of (aX3_3 hx0)) eM16_3) ck_X9_fill (host := "StillYard") (List.mem_of_getElem? (i := 14) rfl) rfl (Nat.le_of_ble_eq_true rfl) dX3_lookAround_16 ?_
  refine g_aload_n dX3_lookAround_19 rfl 0 rfl ?_
  refine g_aload_n dX3_lookAround_20 rfl 1 rfl ?_
  obtain ⟨M21_5, eM21_5, h⟩ := bv_e h
  refine m_callVv (As := [.ref x1]) (st := []) (s_X3_orderAll (d := d + 1) hA hx0 hx1 eM21_5) hx0 okX3 ck_X3_orderAll w_788 rfl (Nat.le_of_ble_eq_true rfl) dX3_lookAround_21 ?_
  refine g_iconst (v := (nI 0)) dX3_lookAround_24 (by decide) ?_
  refine g_istore_n (lv' := [(3, .int (nI 0)), (0, .ref x0), (1, .ref x1), (2, .int x2)]) dX3_lookAround_25 rfl (by decide) rfl ?_
  refine g_sub [1, 2, 3, 0] (lv' := [(0, .ref x0), (1, .ref x1), (2, .int x2), (3, .int (nI 0))]) rfl ?_
  refine sl_X3_lookAround_26 hA hx0 hx1  _ _ _ h
theorem ck_X3_lookAround : CKV yX3_lookAround cX3_lookAround 5 none 2 := ⟨⟨by decide, by decide, by decide +kernel⟩, w_784, w_76, ⟨w_782, w_783⟩, by decide⟩
theorem dX3_sendBack_0 : decode cX3_sendBack 0 = .ok (.iconst 0, 1) := by decide +kernel
theorem dX3_sendBack_1 : decode cX3_sendBack 1 = .ok (.istore_n 2, 1) := by decide +kernel
theorem dX3_sendBack_2 : decode cX3_sendBack 2 = .ok (.iload_n 2, 1) := by decide +kernel
theorem dX3_sendBack_3 : decode cX3_sendBack 3 = .ok (.aload_n 1, 1) := by decide +kernel
theorem dX3_sendBack_4 : decode cX3_sendBack 4 = .ok (.getfield 93, 3) := by decide +kernel
theorem dX3_sendBack_7 : decode cX3_sendBack 7 = .ok (.if_icmp .ge 65, 3) := by decide +kernel
theorem dX3_sendBack_10 : decode cX3_sendBack 10 = .ok (.aload_n 0, 1) := by decide +kernel
theorem dX3_sendBack_11 : decode cX3_sendBack 11 = .ok (.getfield 18, 3) := by decide +kernel
theorem dX3_sendBack_14 : decode cX3_sendBack 14 = .ok (.iload_n 2, 1) := by decide +kernel
theorem dX3_sendBack_15 : decode cX3_sendBack 15 = .ok (.invokestatic 112, 3) := by decide +kernel
theorem dX3_sendBack_18 : decode cX3_sendBack 18 = .ok (.istore_n 3, 1) := by decide +kernel
theorem dX3_sendBack_19 : decode cX3_sendBack 19 = .ok (.iload_n 3, 1) := by decide +kernel
theorem dX3_sendBack_20 : decode cX3_sendBack 20 = .ok (.iconst 4, 1) := by decide +kernel
theorem dX3_sendBack_21 : decode cX3_sendBack 21 = .ok (.if_icmp .ne 12, 3) := by decide +kernel
theorem dX3_sendBack_24 : decode cX3_sendBack 24 = .ok (.aload_n 0, 1) := by decide +kernel
theorem dX3_sendBack_25 : decode cX3_sendBack 25 = .ok (.getfield 21, 3) := by decide +kernel
theorem dX3_sendBack_28 : decode cX3_sendBack 28 = .ok (.iload_n 2, 1) := by decide +kernel
theorem dX3_sendBack_29 : decode cX3_sendBack 29 = .ok (.iconst 1, 1) := by decide +kernel
theorem dX3_sendBack_30 : decode cX3_sendBack 30 = .ok (.invokestatic 109, 3) := by decide +kernel
theorem dX3_sendBack_33 : decode cX3_sendBack 33 = .ok (.iload_n 3, 1) := by decide +kernel
theorem dX3_sendBack_34 : decode cX3_sendBack 34 = .ok (.iconst 5, 1) := by decide +kernel
theorem dX3_sendBack_35 : decode cX3_sendBack 35 = .ok (.if_icmp .ne 12, 3) := by decide +kernel
theorem dX3_sendBack_38 : decode cX3_sendBack 38 = .ok (.aload_n 0, 1) := by decide +kernel
theorem dX3_sendBack_39 : decode cX3_sendBack 39 = .ok (.getfield 24, 3) := by decide +kernel
theorem dX3_sendBack_42 : decode cX3_sendBack 42 = .ok (.iload_n 2, 1) := by decide +kernel
theorem dX3_sendBack_43 : decode cX3_sendBack 43 = .ok (.iconst 1, 1) := by decide +kernel
theorem dX3_sendBack_44 : decode cX3_sendBack 44 = .ok (.invokestatic 109, 3) := by decide +kernel
theorem dX3_sendBack_47 : decode cX3_sendBack 47 = .ok (.iload_n 3, 1) := by decide +kernel
theorem dX3_sendBack_48 : decode cX3_sendBack 48 = .ok (.iconst 4, 1) := by decide +kernel
theorem dX3_sendBack_49 : decode cX3_sendBack 49 = .ok (.if_icmp .eq 8, 3) := by decide +kernel
theorem dX3_sendBack_52 : decode cX3_sendBack 52 = .ok (.iload_n 3, 1) := by decide +kernel
theorem dX3_sendBack_53 : decode cX3_sendBack 53 = .ok (.iconst 5, 1) := by decide +kernel
theorem dX3_sendBack_54 : decode cX3_sendBack 54 = .ok (.if_icmp .ne 12, 3) := by decide +kernel
theorem dX3_sendBack_57 : decode cX3_sendBack 57 = .ok (.aload_n 0, 1) := by decide +kernel
theorem dX3_sendBack_58 : decode cX3_sendBack 58 = .ok (.getfield 9, 3) := by decide +kernel
theorem dX3_sendBack_61 : decode cX3_sendBack 61 = .ok (.iload_n 2, 1) := by decide +kernel
theorem dX3_sendBack_62 : decode cX3_sendBack 62 = .ok (.iconst 0, 1) := by decide +kernel
theorem dX3_sendBack_63 : decode cX3_sendBack 63 = .ok (.invokestatic 102, 3) := by decide +kernel
theorem dX3_sendBack_66 : decode cX3_sendBack 66 = .ok (.iinc 2 1, 3) := by decide +kernel
theorem dX3_sendBack_69 : decode cX3_sendBack 69 = .ok (.goto (-67), 3) := by decide +kernel
theorem dX3_sendBack_72 : decode cX3_sendBack 72 = .ok (.return_, 1) := by decide +kernel
def lp_X3_sendBack_2 (y0 : Nat) (y1 : Nat)  : Nat → Int32 → Mm → Option (Mm)
  | 0, _, _ => none
  | n + 1, y2, M =>
    if (M y1 14) ≤ y2 then (some M) else (bd (f_X9_at (y0 + 3) y2 M) fun v15_2 M15_1 => jn (fun (M3 : Mm) => jn (fun (M5 : Mm) => jn (fun (M7 : Mm) => lp_X3_sendBack_2 y0 y1 n (y2 + (nI 1)) M7) fun j8 => jn (fun (M9 : Mm) => bv (f_X9_put (y0 + 1) y2 (nI 0) M9) fun M63_11 => j8  M63_11) fun j10 => if v15_2 = (nI 4) then (j10  M5) else (if v15_2 = (nI 5) then (j10  M5) else (j8  M5))) fun j6 => if v15_2 = (nI 5) then (bv (f_X9_add (y0 + 5) y2 (nI 1) M3) fun M44_15 => j6  M44_15) else (j6  M3)) fun j4 => if v15_2 = (nI 4) then (bv (f_X9_add (y0 + 4) y2 (nI 1) M15_1) fun M30_18 => j4  M30_18) else (j4  M15_1))
def f_X3_sendBack (x0 : Nat) (x1 : Nat) (M : Mm) : Option (Mm) :=
  lp_X3_sendBack_2 x0 x1  N0 (nI 0) M
set_option maxHeartbeats 4000000 in
set_option maxRecDepth 100000 in
theorem sl_X3_sendBack_2 {l : Launch} {B : BT} (hA : bA B = false) {d : Nat} {M' : Mm} {y0 : Nat} {y1 : Nat} (hy0 : LY y0 = .inl (3, fk3)) (hy1 : LY y1 = .inl (0, fk0))   :
    ∀ (n : Nat) (y2 : Int32) (M : Mm), lp_X3_sendBack_2 y0 y1 n y2 M = some M' → GG l B LY (d + 2) yX3_sendBack cX3_sendBack 4 none 0 0 (PV M') 97 0 0 2 [(0, .ref y0), (1, .ref y1), (2, .int y2)] [] M := by
  intro n
  induction n with
  | zero => intro y2 M h; cases h
  | succ n ih =>
    intro y2 M h
    rw [lp_X3_sendBack_2] at h
    refine g_iload_n dX3_sendBack_2 rfl 2 rfl ?_
    refine g_aload_n dX3_sendBack_3 rfl 1 rfl ?_
    refine m_geti (k := 14) okX0 hy1 rfl (by decide) w_154 rfl dX3_sendBack_4 ?_
    refine g_icmp_ge (tgt := 72) dX3_sendBack_7 (by decide) (fun c21 => ?_) (fun c21 => ?_)
    · replace h := ite_p c21 h
      exact g_vret rfl (pv_of h) dX3_sendBack_72
    · replace h := ite_n c21 h
      refine g_aload_n dX3_sendBack_10 rfl 0 rfl ?_
      refine m_getr (k := 2) okX3 hy0 rfl (by decide) w_265 rfl dX3_sendBack_11 ?_
      refine g_iload_n dX3_sendBack_14 rfl 2 rfl ?_
      obtain ⟨v15_2, M15_1, eM15_1, h⟩ := bd_e h
      refine m_callNi (As := [.ref (y0 + 3), .int y2]) (st := []) (s_X9_at (d := d + 1) hA (al_of (aX3_3 hy0)) eM15_1) ck_X9_at (host := "StillYard") (List.mem_of_getElem? (i := 19) rfl) rfl (Nat.le_of_ble_eq_true rfl) dX3_sendBack_15 ?_
      refine g_istore_n (lv' := [(3, .int v15_2), (0, .ref y0), (1, .ref y1), (2, .int y2)]) dX3_sendBack_18 rfl (by decide) rfl ?_
      refine g_iload_n dX3_sendBack_19 rfl 0 rfl ?_
      refine g_iconst (v := (nI 4)) dX3_sendBack_20 (by decide) ?_
      obtain ⟨j4, ej4, h⟩ := jn_e h
      have hj4 : ∀ (M3 : Mm), j4 M3 = some M' → GG l B LY (d + 2) yX3_sendBack cX3_sendBack 4 none 0 0 (PV M') 97 0 0 33 [(0, .ref y0), (1, .ref y1), (2, .int y2), (3, .int v15_2)] [] M3 := by
        intro M3 h
        rw [ej4] at h
        refine g_iload_n dX3_sendBack_33 rfl 3 rfl ?_
        refine g_iconst (v := (nI 5)) dX3_sendBack_34 (by decide) ?_
        obtain ⟨j6, ej6, h⟩ := jn_e h
        have hj6 : ∀ (M5 : Mm), j6 M5 = some M' → GG l B LY (d + 2) yX3_sendBack cX3_sendBack 4 none 0 0 (PV M') 97 0 0 47 [(0, .ref y0), (1, .ref y1), (2, .int y2), (3, .int v15_2)] [] M5 := by
          intro M5 h
          rw [ej6] at h
          refine g_iload_n dX3_sendBack_47 rfl 3 rfl ?_
          refine g_iconst (v := (nI 4)) dX3_sendBack_48 (by decide) ?_
          obtain ⟨j8, ej8, h⟩ := jn_e h
          have hj8 : ∀ (M7 : Mm), j8 M7 = some M' → GG l B LY (d + 2) yX3_sendBack cX3_sendBack 4 none 0 0 (PV M') 97 0 0 66 [(0, .ref y0), (1, .ref y1), (2, .int y2)] [] M7 := by
            intro M7 h
            rw [ej8] at h
            refine g_iinc (v := (y2 + (nI 1))) (lv' := [(2, .int (y2 + (nI 1))), (0, .ref y0), (1, .ref y1)]) dX3_sendBack_66 2 rfl rfl (by decide) rfl ?_
            refine g_goto (tgt := 2) dX3_sendBack_69 (by decide) ?_
            refine g_sub [1, 2, 0] (lv' := [(0, .ref y0), (1, .ref y1), (2, .int (y2 + (nI 1)))]) rfl ?_
            exact ih _  _ h
          obtain ⟨j10, ej10, h⟩ := jn_e h
          have hj10 : ∀ (M9 : Mm), j10 M9 = some M' → GG l B LY (d + 2) yX3_sendBack cX3_sendBack 4 none 0 0 (PV M') 97 0 0 57 [(0, .ref y0), (1, .ref y1), (2, .int y2)] [] M9 := by
            intro M9 h
            rw [ej10] at h
            refine g_aload_n dX3_sendBack_57 rfl 0 rfl ?_
            refine m_getr (k := 0) okX3 hy0 rfl (by decide) w_259 rfl dX3_sendBack_58 ?_
            refine g_iload_n dX3_sendBack_61 rfl 2 rfl ?_
            refine g_iconst (v := (nI 0)) dX3_sendBack_62 (by decide) ?_
            obtain ⟨M63_11, eM63_11, h⟩ := bv_e h
            refine m_callNv (As := [.ref (y0 + 1), .int y2, .int (nI 0)]) (st := []) (s_X9_put (d := d + 1) hA (al_of (aX3_1 hy0)) eM63_11) ck_X9_put (host := "StillYard") (List.mem_of_getElem? (i := 17) rfl) rfl (Nat.le_of_ble_eq_true rfl) dX3_sendBack_63 ?_
            refine g_sub [0, 1, 2] (lv' := [(0, .ref y0), (1, .ref y1), (2, .int y2)]) rfl ?_
            exact hj8  _ h
          refine g_icmp_eq (tgt := 57) dX3_sendBack_49 (by decide) (fun c14 => ?_) (fun c14 => ?_)
          · replace h := ite_p c14 h
            refine g_sub [0, 1, 2] (lv' := [(0, .ref y0), (1, .ref y1), (2, .int y2)]) rfl ?_
            exact hj10  _ h
          · replace h := ite_n c14 h
            refine g_iload_n dX3_sendBack_52 rfl 3 rfl ?_
            refine g_iconst (v := (nI 5)) dX3_sendBack_53 (by decide) ?_
            refine g_icmp_ne (tgt := 66) dX3_sendBack_54 (by decide) (fun c13 => ?_) (fun c13 => ?_)
            · replace h := ite_n c13 h
              refine g_sub [0, 1, 2] (lv' := [(0, .ref y0), (1, .ref y1), (2, .int y2)]) rfl ?_
              exact hj8  _ h
            · replace h := ite_p c13 h
              refine g_sub [0, 1, 2] (lv' := [(0, .ref y0), (1, .ref y1), (2, .int y2)]) rfl ?_
              exact hj10  _ h
        refine g_icmp_ne (tgt := 47) dX3_sendBack_35 (by decide) (fun c17 => ?_) (fun c17 => ?_)
        · replace h := ite_n c17 h
          refine g_sub [0, 1, 2, 3] (lv' := [(0, .ref y0), (1, .ref y1), (2, .int y2), (3, .int v15_2)]) rfl ?_
          exact hj6  _ h
        · replace h := ite_p c17 h
          refine g_aload_n dX3_sendBack_38 rfl 0 rfl ?_
          refine m_getr (k := 4) okX3 hy0 rfl (by decide) w_270 rfl dX3_sendBack_39 ?_
          refine g_iload_n dX3_sendBack_42 rfl 2 rfl ?_
          refine g_iconst (v := (nI 1)) dX3_sendBack_43 (by decide) ?_
          obtain ⟨M44_15, eM44_15, h⟩ := bv_e h
          refine m_callNv (As := [.ref (y0 + 5), .int y2, .int (nI 1)]) (st := []) (s_X9_add (d := d + 0) hA (al_of (aX3_5 hy0)) eM44_15) ck_X9_add (host := "StillYard") (List.mem_of_getElem? (i := 18) rfl) rfl (Nat.le_of_ble_eq_true rfl) dX3_sendBack_44 ?_
          refine g_sub [0, 1, 2, 3] (lv' := [(0, .ref y0), (1, .ref y1), (2, .int y2), (3, .int v15_2)]) rfl ?_
          exact hj6  _ h
      refine g_icmp_ne (tgt := 33) dX3_sendBack_21 (by decide) (fun c20 => ?_) (fun c20 => ?_)
      · replace h := ite_n c20 h
        refine g_sub [1, 2, 3, 0] (lv' := [(0, .ref y0), (1, .ref y1), (2, .int y2), (3, .int v15_2)]) rfl ?_
        exact hj4  _ h
      · replace h := ite_p c20 h
        refine g_aload_n dX3_sendBack_24 rfl 1 rfl ?_
        refine m_getr (k := 3) okX3 hy0 rfl (by decide) w_267 rfl dX3_sendBack_25 ?_
        refine g_iload_n dX3_sendBack_28 rfl 3 rfl ?_
        refine g_iconst (v := (nI 1)) dX3_sendBack_29 (by decide) ?_
        obtain ⟨M30_18, eM30_18, h⟩ := bv_e h
        refine m_callNv (As := [.ref (y0 + 4), .int y2, .int (nI 1)]) (st := []) (s_X9_add (d := d + 0) hA (al_of (aX3_4 hy0)) eM30_18) ck_X9_add (host := "StillYard") (List.mem_of_getElem? (i := 18) rfl) rfl (Nat.le_of_ble_eq_true rfl) dX3_sendBack_30 ?_
        refine g_sub [1, 2, 3, 0] (lv' := [(0, .ref y0), (1, .ref y1), (2, .int y2), (3, .int v15_2)]) rfl ?_
        exact hj4  _ h
set_option maxHeartbeats 4000000 in
set_option maxRecDepth 100000 in
theorem s_X3_sendBack {l : Launch} {B : BT} (hA : bA B = false) {d : Nat} {M' : Mm} {x0 : Nat} {x1 : Nat} {M : Mm} (hx0 : LY x0 = .inl (3, fk3)) (hx1 : LY x1 = .inl (0, fk0)) (h : f_X3_sendBack x0 x1 M = some M') : Con l B LY (d + 2) yX3_sendBack cX3_sendBack 4 none 0 0 [.ref x0, .ref x1] 97 M (PV M') := by
  refine con_of (by decide) (Nat.le_of_ble_eq_true rfl) ?_
  show GG l B LY (d + 2) yX3_sendBack cX3_sendBack 4 none 0 0 (PV M') 97 0 0 0 [(0, .ref x0), (1, .ref x1)] [] M
  rw [f_X3_sendBack] at h
  refine g_iconst (v := (nI 0)) dX3_sendBack_0 (by decide) ?_
  refine g_istore_n (lv' := [(2, .int (nI 0)), (0, .ref x0), (1, .ref x1)]) dX3_sendBack_1 rfl (by decide) rfl ?_
  refine g_sub [1, 2, 0] (lv' := [(0, .ref x0), (1, .ref x1), (2, .int (nI 0))]) rfl ?_
  refine sl_X3_sendBack_2 hA hx0 hx1  _ _ _ h
theorem ck_X3_sendBack : CKV yX3_sendBack cX3_sendBack 4 none 1 := ⟨⟨by decide, by decide, by decide +kernel⟩, w_803, w_76, ⟨w_801, w_802⟩, by decide⟩
theorem dX3_goOn_0 : decode cX3_goOn 0 = .ok (.aload_n 0, 1) := by decide +kernel
theorem dX3_goOn_1 : decode cX3_goOn 1 = .ok (.aload_n 1, 1) := by decide +kernel
theorem dX3_goOn_2 : decode cX3_goOn 2 = .ok (.invokevirtual 67, 3) := by decide +kernel
theorem dX3_goOn_5 : decode cX3_goOn 5 = .ok (.aload_n 0, 1) := by decide +kernel
theorem dX3_goOn_6 : decode cX3_goOn 6 = .ok (.dup, 1) := by decide +kernel
theorem dX3_goOn_7 : decode cX3_goOn 7 = .ok (.getfield 50, 3) := by decide +kernel
theorem dX3_goOn_10 : decode cX3_goOn 10 = .ok (.iconst 1, 1) := by decide +kernel
theorem dX3_goOn_11 : decode cX3_goOn 11 = .ok (.iadd, 1) := by decide +kernel
theorem dX3_goOn_12 : decode cX3_goOn 12 = .ok (.putfield 50, 3) := by decide +kernel
theorem dX3_goOn_15 : decode cX3_goOn 15 = .ok (.aload_n 0, 1) := by decide +kernel
theorem dX3_goOn_16 : decode cX3_goOn 16 = .ok (.dup, 1) := by decide +kernel
theorem dX3_goOn_17 : decode cX3_goOn 17 = .ok (.getfield 59, 3) := by decide +kernel
theorem dX3_goOn_20 : decode cX3_goOn 20 = .ok (.iconst 1, 1) := by decide +kernel
theorem dX3_goOn_21 : decode cX3_goOn 21 = .ok (.iadd, 1) := by decide +kernel
theorem dX3_goOn_22 : decode cX3_goOn 22 = .ok (.putfield 59, 3) := by decide +kernel
theorem dX3_goOn_25 : decode cX3_goOn 25 = .ok (.aload_n 0, 1) := by decide +kernel
theorem dX3_goOn_26 : decode cX3_goOn 26 = .ok (.aload_n 0, 1) := by decide +kernel
theorem dX3_goOn_27 : decode cX3_goOn 27 = .ok (.aload_n 1, 1) := by decide +kernel
theorem dX3_goOn_28 : decode cX3_goOn 28 = .ok (.invokevirtual 71, 3) := by decide +kernel
theorem dX3_goOn_31 : decode cX3_goOn 31 = .ok (.putfield 39, 3) := by decide +kernel
theorem dX3_goOn_34 : decode cX3_goOn 34 = .ok (.aload_n 0, 1) := by decide +kernel
theorem dX3_goOn_35 : decode cX3_goOn 35 = .ok (.invokevirtual 75, 3) := by decide +kernel
theorem dX3_goOn_38 : decode cX3_goOn 38 = .ok (.ifCond .eq 5, 3) := by decide +kernel
theorem dX3_goOn_41 : decode cX3_goOn 41 = .ok (.iconst 2, 1) := by decide +kernel
theorem dX3_goOn_42 : decode cX3_goOn 42 = .ok (.ireturn, 1) := by decide +kernel
theorem dX3_goOn_43 : decode cX3_goOn 43 = .ok (.aload_n 0, 1) := by decide +kernel
theorem dX3_goOn_44 : decode cX3_goOn 44 = .ok (.aload_n 1, 1) := by decide +kernel
theorem dX3_goOn_45 : decode cX3_goOn 45 = .ok (.invokevirtual 79, 3) := by decide +kernel
theorem dX3_goOn_48 : decode cX3_goOn 48 = .ok (.ifCond .ne 5, 3) := by decide +kernel
theorem dX3_goOn_51 : decode cX3_goOn 51 = .ok (.iconst 0, 1) := by decide +kernel
theorem dX3_goOn_52 : decode cX3_goOn 52 = .ok (.ireturn, 1) := by decide +kernel
theorem dX3_goOn_53 : decode cX3_goOn 53 = .ok (.aload_n 0, 1) := by decide +kernel
theorem dX3_goOn_54 : decode cX3_goOn 54 = .ok (.aload_n 1, 1) := by decide +kernel
theorem dX3_goOn_55 : decode cX3_goOn 55 = .ok (.invokevirtual 83, 3) := by decide +kernel
theorem dX3_goOn_58 : decode cX3_goOn 58 = .ok (.aload_n 0, 1) := by decide +kernel
theorem dX3_goOn_59 : decode cX3_goOn 59 = .ok (.aload_n 1, 1) := by decide +kernel
theorem dX3_goOn_60 : decode cX3_goOn 60 = .ok (.iload_n 2, 1) := by decide +kernel
theorem dX3_goOn_61 : decode cX3_goOn 61 = .ok (.invokevirtual 86, 3) := by decide +kernel
theorem dX3_goOn_64 : decode cX3_goOn 64 = .ok (.aload_n 0, 1) := by decide +kernel
theorem dX3_goOn_65 : decode cX3_goOn 65 = .ok (.aload_n 1, 1) := by decide +kernel
theorem dX3_goOn_66 : decode cX3_goOn 66 = .ok (.invokevirtual 90, 3) := by decide +kernel
theorem dX3_goOn_69 : decode cX3_goOn 69 = .ok (.aload_n 0, 1) := by decide +kernel
theorem dX3_goOn_70 : decode cX3_goOn 70 = .ok (.iconst 0, 1) := by decide +kernel
theorem dX3_goOn_71 : decode cX3_goOn 71 = .ok (.putfield 50, 3) := by decide +kernel
theorem dX3_goOn_74 : decode cX3_goOn 74 = .ok (.aload_n 0, 1) := by decide +kernel
theorem dX3_goOn_75 : decode cX3_goOn 75 = .ok (.iconst 0, 1) := by decide +kernel
theorem dX3_goOn_76 : decode cX3_goOn 76 = .ok (.putfield 53, 3) := by decide +kernel
theorem dX3_goOn_79 : decode cX3_goOn 79 = .ok (.aload_n 0, 1) := by decide +kernel
theorem dX3_goOn_80 : decode cX3_goOn 80 = .ok (.dup, 1) := by decide +kernel
theorem dX3_goOn_81 : decode cX3_goOn 81 = .ok (.getfield 56, 3) := by decide +kernel
theorem dX3_goOn_84 : decode cX3_goOn 84 = .ok (.iconst 1, 1) := by decide +kernel
theorem dX3_goOn_85 : decode cX3_goOn 85 = .ok (.iadd, 1) := by decide +kernel
theorem dX3_goOn_86 : decode cX3_goOn 86 = .ok (.putfield 56, 3) := by decide +kernel
theorem dX3_goOn_89 : decode cX3_goOn 89 = .ok (.iconst 1, 1) := by decide +kernel
theorem dX3_goOn_90 : decode cX3_goOn 90 = .ok (.ireturn, 1) := by decide +kernel
def f_X3_goOn (x0 : Nat) (x1 : Nat) (x2 : Int32) (M : Mm) : Option (Int32 × Mm) :=
  bv (f_X3_creepAll x0 x1 M) fun M2_1 => bd (f_X3_firstAtWall x0 x1 (mset (mset M2_1 x0 10 ((M2_1 x0 10) + (nI 1))) x0 13 (((mset M2_1 x0 10 ((M2_1 x0 10) + (nI 1))) x0 13) + (nI 1)))) fun v28_4 M28_3 => bd (f_X3_isOver x0 (mset M28_3 x0 14 v28_4)) fun v35_6 M35_5 => if v35_6 = 0 then (bd (f_X3_turnsNow x0 x1 M35_5) fun v45_8 M45_7 => if v45_8 = 0 then (some ((nI 0), M45_7)) else (bv (f_X3_wobbleAll x0 x1 M45_7) fun M55_9 => bv (f_X3_lookAround x0 x1 x2 M55_9) fun M61_11 => bv (f_X3_sendBack x0 x1 M61_11) fun M66_13 => some ((nI 1), (mset (mset (mset M66_13 x0 10 (nI 0)) x0 11 (nI 0)) x0 12 (((mset (mset M66_13 x0 10 (nI 0)) x0 11 (nI 0)) x0 12) + (nI 1)))))) else (some ((nI 2), M35_5))
set_option maxHeartbeats 4000000 in
set_option maxRecDepth 100000 in
theorem s_X3_goOn {l : Launch} {B : BT} (hA : bA B = false) {d : Nat} {r : Int32} {M' : Mm} {x0 : Nat} {x1 : Nat} {x2 : Int32} {M : Mm} (hx0 : LY x0 = .inl (3, fk3)) (hx1 : LY x1 = .inl (0, fk0)) (h : f_X3_goOn x0 x1 x2 M = some (r, M')) : Con l B LY (d + 4) yX3_goOn cX3_goOn 3 (some .int) 0 0 [.ref x0, .ref x1, .int x2] 97 M (PI r M') := by
  refine con_of (by decide) (Nat.le_of_ble_eq_true rfl) ?_
  show GG l B LY (d + 4) yX3_goOn cX3_goOn 3 (some .int) 0 0 (PI r M') 97 0 0 0 [(0, .ref x0), (1, .ref x1), (2, .int x2)] [] M
  rw [f_X3_goOn] at h
  refine g_aload_n dX3_goOn_0 rfl 0 rfl ?_
  refine g_aload_n dX3_goOn_1 rfl 1 rfl ?_
  obtain ⟨M2_1, eM2_1, h⟩ := bv_e h
  refine m_callVv (As := [.ref x1]) (st := []) (s_X3_creepAll (d := d + 0) hA hx0 hx1 eM2_1) hx0 okX3 ck_X3_creepAll w_725 rfl (Nat.le_of_ble_eq_true rfl) dX3_goOn_2 ?_
  refine g_aload_n dX3_goOn_5 rfl 0 rfl ?_
  refine g_dup dX3_goOn_6 rfl ?_
  refine m_geti (k := 10) okX3 hx0 rfl (by decide) w_280 rfl dX3_goOn_7 ?_
  refine g_iconst (v := (nI 1)) dX3_goOn_10 (by decide) ?_
  refine g_iadd dX3_goOn_11 ?_
  refine m_puti (k := 10) okX3 hx0 rfl (by decide) w_280 rfl rfl rfl dX3_goOn_12 ?_
  refine g_aload_n dX3_goOn_15 rfl 0 rfl ?_
  refine g_dup dX3_goOn_16 rfl ?_
  refine m_geti (k := 13) okX3 hx0 rfl (by decide) w_286 rfl dX3_goOn_17 ?_
  refine g_iconst (v := (nI 1)) dX3_goOn_20 (by decide) ?_
  refine g_iadd dX3_goOn_21 ?_
  refine m_puti (k := 13) okX3 hx0 rfl (by decide) w_286 rfl rfl rfl dX3_goOn_22 ?_
  refine g_aload_n dX3_goOn_25 rfl 0 rfl ?_
  refine g_aload_n dX3_goOn_26 rfl 0 rfl ?_
  refine g_aload_n dX3_goOn_27 rfl 1 rfl ?_
  obtain ⟨v28_4, M28_3, eM28_3, h⟩ := bd_e h
  refine m_callVi (As := [.ref x1]) (st := [.ref x0]) (s_X3_firstAtWall (d := d + 2) hA hx0 hx1 eM28_3) hx0 okX3 ck_X3_firstAtWall w_756 rfl (Nat.le_of_ble_eq_true rfl) dX3_goOn_28 ?_
  refine m_puti (k := 14) okX3 hx0 rfl (by decide) w_289 rfl rfl rfl dX3_goOn_31 ?_
  refine g_aload_n dX3_goOn_34 rfl 0 rfl ?_
  obtain ⟨v35_6, M35_5, eM35_5, h⟩ := bd_e h
  refine m_callVi (As := []) (st := []) (s_X3_isOver (d := d + 3) hA hx0 eM35_5) hx0 okX3 ck_X3_isOver w_760 rfl (Nat.le_of_ble_eq_true rfl) dX3_goOn_35 ?_
  refine g_if_eq (tgt := 43) dX3_goOn_38 (by decide) (fun c16 => ?_) (fun c16 => ?_)
  · replace h := ite_p c16 h
    refine g_aload_n dX3_goOn_43 rfl 0 rfl ?_
    refine g_aload_n dX3_goOn_44 rfl 1 rfl ?_
    obtain ⟨v45_8, M45_7, eM45_7, h⟩ := bd_e h
    refine m_callVi (As := [.ref x1]) (st := []) (s_X3_turnsNow (d := d + 1) hA hx0 hx1 eM45_7) hx0 okX3 ck_X3_turnsNow w_761 rfl (Nat.le_of_ble_eq_true rfl) dX3_goOn_45 ?_
    refine g_if_ne (tgt := 53) dX3_goOn_48 (by decide) (fun c15 => ?_) (fun c15 => ?_)
    · replace h := ite_n c15 h
      refine g_aload_n dX3_goOn_53 rfl 0 rfl ?_
      refine g_aload_n dX3_goOn_54 rfl 1 rfl ?_
      obtain ⟨M55_9, eM55_9, h⟩ := bv_e h
      refine m_callVv (As := [.ref x1]) (st := []) (s_X3_wobbleAll (d := d + 1) hA hx0 hx1 eM55_9) hx0 okX3 ck_X3_wobbleAll w_772 rfl (Nat.le_of_ble_eq_true rfl) dX3_goOn_55 ?_
      refine g_aload_n dX3_goOn_58 rfl 0 rfl ?_
      refine g_aload_n dX3_goOn_59 rfl 1 rfl ?_
      refine g_iload_n dX3_goOn_60 rfl 2 rfl ?_
      obtain ⟨M61_11, eM61_11, h⟩ := bv_e h
      refine m_callVv (As := [.ref x1, .int x2]) (st := []) (s_X3_lookAround (d := d + 0) hA hx0 hx1 eM61_11) hx0 okX3 ck_X3_lookAround w_781 rfl (Nat.le_of_ble_eq_true rfl) dX3_goOn_61 ?_
      refine g_aload_n dX3_goOn_64 rfl 0 rfl ?_
      refine g_aload_n dX3_goOn_65 rfl 1 rfl ?_
      obtain ⟨M66_13, eM66_13, h⟩ := bv_e h
      refine m_callVv (As := [.ref x1]) (st := []) (s_X3_sendBack (d := d + 1) hA hx0 hx1 eM66_13) hx0 okX3 ck_X3_sendBack w_800 rfl (Nat.le_of_ble_eq_true rfl) dX3_goOn_66 ?_
      refine g_aload_n dX3_goOn_69 rfl 0 rfl ?_
      refine g_iconst (v := (nI 0)) dX3_goOn_70 (by decide) ?_
      refine m_puti (k := 10) okX3 hx0 rfl (by decide) w_280 rfl rfl rfl dX3_goOn_71 ?_
      refine g_aload_n dX3_goOn_74 rfl 0 rfl ?_
      refine g_iconst (v := (nI 0)) dX3_goOn_75 (by decide) ?_
      refine m_puti (k := 11) okX3 hx0 rfl (by decide) w_282 rfl rfl rfl dX3_goOn_76 ?_
      refine g_aload_n dX3_goOn_79 rfl 0 rfl ?_
      refine g_dup dX3_goOn_80 rfl ?_
      refine m_geti (k := 12) okX3 hx0 rfl (by decide) w_284 rfl dX3_goOn_81 ?_
      refine g_iconst (v := (nI 1)) dX3_goOn_84 (by decide) ?_
      refine g_iadd dX3_goOn_85 ?_
      refine m_puti (k := 12) okX3 hx0 rfl (by decide) w_284 rfl rfl rfl dX3_goOn_86 ?_
      refine g_iconst (v := (nI 1)) dX3_goOn_89 (by decide) ?_
      exact g_zret rfl rfl (pi_of h) dX3_goOn_90
    · replace h := ite_p c15 h
      refine g_iconst (v := (nI 0)) dX3_goOn_51 (by decide) ?_
      exact g_zret rfl rfl (pi_of h) dX3_goOn_52
  · replace h := ite_n c16 h
    refine g_iconst (v := (nI 2)) dX3_goOn_41 (by decide) ?_
    exact g_zret rfl rfl (pi_of h) dX3_goOn_42
theorem ck_X3_goOn : CKV yX3_goOn cX3_goOn 3 (some .int) 2 := ⟨⟨by decide, by decide, by decide +kernel⟩, w_724, w_76, ⟨w_722, w_723⟩, by decide⟩
