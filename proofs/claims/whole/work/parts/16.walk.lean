/-! walks: X9_granted X9_start X9_tenths X9_round X9_isCreeper X9_isBelowWall X9_bring X9_right X9_about X9_play X9_often X9_mark X9_back X9_behind X9_ways X9_isOfVerse X9_risk X9_gain X9_best. Written by wip/programs/parts.py. -/
theorem dX9_granted_0 : decode cX9_granted 0 = .ok (.aload_n 0, 1) := by decide +kernel
theorem dX9_granted_1 : decode cX9_granted 1 = .ok (.iconst 0, 1) := by decide +kernel
theorem dX9_granted_2 : decode cX9_granted 2 = .ok (.putfield 117, 3) := by decide +kernel
theorem dX9_granted_5 : decode cX9_granted 5 = .ok (.iconst 1, 1) := by decide +kernel
theorem dX9_granted_6 : decode cX9_granted 6 = .ok (.ireturn, 1) := by decide +kernel
def f_X9_granted  (M : Mm) : Option (Int32 × Mm) :=
  some ((nI 1), (mset M 0 11 (nI 0)))
set_option maxHeartbeats 4000000 in
set_option maxRecDepth 100000 in
theorem s_X9_granted {l : Launch} {B : BT} (hA : bA B = false) {d : Nat} {r : Int32} {M' : Mm}  {M : Mm}  (h : f_X9_granted  M = some (r, M')) : Con l B LY (d + 0) yX9_granted cX9_granted 1 (some .boolean) 0 0 [.ref 0] 97 M (PI r M') := by
  refine con_of (by decide) (Nat.le_of_ble_eq_true rfl) ?_
  show GG l B LY (d + 0) yX9_granted cX9_granted 1 (some .boolean) 0 0 (PI r M') 97 0 0 0 [(0, .ref 0)] [] M
  rw [f_X9_granted] at h
  refine g_aload_n dX9_granted_0 rfl 0 rfl ?_
  refine g_iconst (v := (nI 0)) dX9_granted_1 (by decide) ?_
  refine m_puti (k := 11) okX9 rfl rfl (by decide) w_424 rfl rfl rfl dX9_granted_2 ?_
  refine g_iconst (v := (nI 1)) dX9_granted_5 (by decide) ?_
  exact g_zret rfl rfl (pi_of h) dX9_granted_6
theorem ck_X9_granted : CKV yX9_granted cX9_granted 1 (some .boolean) 0 := ⟨⟨by decide, by decide, by decide +kernel⟩, w_705, w_72, ⟨w_704, w_4⟩, by decide⟩
theorem dX9_start_0 : decode cX9_start 0 = .ok (.aload_n 0, 1) := by decide +kernel
theorem dX9_start_1 : decode cX9_start 1 = .ok (.invokevirtual 120, 3) := by decide +kernel
theorem dX9_start_4 : decode cX9_start 4 = .ok (.ifCond .ne 9, 3) := by decide +kernel
theorem dX9_start_7 : decode cX9_start 7 = .ok (.aload_n 0, 1) := by decide +kernel
theorem dX9_start_8 : decode cX9_start 8 = .ok (.iconst 1, 1) := by decide +kernel
theorem dX9_start_9 : decode cX9_start 9 = .ok (.invokevirtual 124, 3) := by decide +kernel
theorem dX9_start_12 : decode cX9_start 12 = .ok (.ireturn, 1) := by decide +kernel
theorem dX9_start_13 : decode cX9_start 13 = .ok (.iload_n 1, 1) := by decide +kernel
theorem dX9_start_14 : decode cX9_start 14 = .ok (.ifCond .lt 9, 3) := by decide +kernel
theorem dX9_start_17 : decode cX9_start 17 = .ok (.iload_n 1, 1) := by decide +kernel
theorem dX9_start_18 : decode cX9_start 18 = .ok (.ldc 128, 2) := by decide +kernel
theorem dX9_start_20 : decode cX9_start 20 = .ok (.if_icmp .lt 9, 3) := by decide +kernel
theorem dX9_start_23 : decode cX9_start 23 = .ok (.aload_n 0, 1) := by decide +kernel
theorem dX9_start_24 : decode cX9_start 24 = .ok (.iconst 2, 1) := by decide +kernel
theorem dX9_start_25 : decode cX9_start 25 = .ok (.invokevirtual 124, 3) := by decide +kernel
theorem dX9_start_28 : decode cX9_start 28 = .ok (.ireturn, 1) := by decide +kernel
theorem dX9_start_29 : decode cX9_start 29 = .ok (.aload_n 0, 1) := by decide +kernel
theorem dX9_start_30 : decode cX9_start 30 = .ok (.getfield 38, 3) := by decide +kernel
theorem dX9_start_33 : decode cX9_start 33 = .ok (.iload_n 1, 1) := by decide +kernel
theorem dX9_start_34 : decode cX9_start 34 = .ok (.invokevirtual 102, 3) := by decide +kernel
theorem dX9_start_37 : decode cX9_start 37 = .ok (.aload_n 0, 1) := by decide +kernel
theorem dX9_start_38 : decode cX9_start 38 = .ok (.invokevirtual 129, 3) := by decide +kernel
theorem dX9_start_41 : decode cX9_start 41 = .ok (.ireturn, 1) := by decide +kernel
def f_X9_start (x1 : Int32) (M : Mm) : Option (Int32 × Mm) :=
  bd (f_X9_hasGame  M) fun v1_2 M1_1 => if v1_2 = 0 then (bd (f_X9_denied (nI 1) M1_1) fun v9_14 M9_13 => gd (zo v9_14) <| some (v9_14, M9_13)) else (jn (fun (M3 : Mm) => bd (f_X9_denied (nI 2) M3) fun v25_6 M25_5 => gd (zo v25_6) <| some (v25_6, M25_5)) fun j4 => if x1 < 0 then (j4  M1_1) else (if x1 < (nI 65537) then (bv (f_X3_begin 20 x1 M1_1) fun M34_7 => bd (f_X9_granted  M34_7) fun v38_10 M38_9 => gd (zo v38_10) <| some (v38_10, M38_9)) else (j4  M1_1)))
set_option maxHeartbeats 4000000 in
set_option maxRecDepth 100000 in
theorem s_X9_start {l : Launch} {B : BT} (hA : bA B = false) {d : Nat} {r : Int32} {M' : Mm} {x1 : Int32} {M : Mm}  (h : f_X9_start x1 M = some (r, M')) : Con l B LY (d + 2) yX9_start cX9_start 2 (some .boolean) 0 0 [.ref 0, .int x1] 97 M (PI r M') := by
  refine con_of (by decide) (Nat.le_of_ble_eq_true rfl) ?_
  show GG l B LY (d + 2) yX9_start cX9_start 2 (some .boolean) 0 0 (PI r M') 97 0 0 0 [(0, .ref 0), (1, .int x1)] [] M
  rw [f_X9_start] at h
  refine g_aload_n dX9_start_0 rfl 0 rfl ?_
  obtain ⟨v1_2, M1_1, eM1_1, h⟩ := bd_e h
  refine m_callVi (As := []) (st := []) (s_X9_hasGame (d := d + 1) hA  eM1_1) rfl okX9 ck_X9_hasGame w_693 rfl (Nat.le_of_ble_eq_true rfl) dX9_start_1 ?_
  refine g_if_ne (tgt := 13) dX9_start_4 (by decide) (fun c15 => ?_) (fun c15 => ?_)
  · replace h := ite_n c15 h
    refine g_iload_n dX9_start_13 rfl 1 rfl ?_
    obtain ⟨j4, ej4, h⟩ := jn_e h
    have hj4 : ∀ (M3 : Mm), j4 M3 = some (r, M') → GG l B LY (d + 2) yX9_start cX9_start 2 (some .boolean) 0 0 (PI r M') 97 0 0 23 [(0, .ref 0)] [] M3 := by
      intro M3 h
      rw [ej4] at h
      refine g_aload_n dX9_start_23 rfl 0 rfl ?_
      refine g_iconst (v := (nI 2)) dX9_start_24 (by decide) ?_
      obtain ⟨v25_6, M25_5, eM25_5, h⟩ := bd_e h
      refine m_callVi (As := [.int (nI 2)]) (st := []) (s_X9_denied (d := d + 1) hA  eM25_5) rfl okX9 ck_X9_denied w_697 rfl (Nat.le_of_ble_eq_true rfl) dX9_start_25 ?_
      obtain ⟨hz, h⟩ := gd_s h
      exact g_zret rfl (nar_zo hz) (pi_of h) dX9_start_28
    refine g_if_lt (tgt := 23) dX9_start_14 (by decide) (fun c12 => ?_) (fun c12 => ?_)
    · replace h := ite_p c12 h
      refine g_sub [0] (lv' := [(0, .ref 0)]) rfl ?_
      exact hj4  _ h
    · replace h := ite_n c12 h
      refine g_iload_n dX9_start_17 rfl 1 rfl ?_
      refine g_ldc (v := (nI 65537)) w_701 dX9_start_18 ?_
      refine g_icmp_lt (tgt := 29) dX9_start_20 (by decide) (fun c11 => ?_) (fun c11 => ?_)
      · replace h := ite_p c11 h
        refine g_aload_n dX9_start_29 rfl 0 rfl ?_
        refine m_geta (k := 2) okX9 rfl rfl (by decide) w_415 rfl dX9_start_30 ?_
        refine g_iload_n dX9_start_33 rfl 1 rfl ?_
        obtain ⟨M34_7, eM34_7, h⟩ := bv_e h
        refine m_callVv (As := [.int x1]) (st := []) (s_X3_begin (d := d + 0) hA rfl eM34_7) rfl okX3 ck_X3_begin w_667 rfl (Nat.le_of_ble_eq_true rfl) dX9_start_34 ?_
        refine g_aload_n dX9_start_37 rfl 0 rfl ?_
        obtain ⟨v38_10, M38_9, eM38_9, h⟩ := bd_e h
        refine m_callVi (As := []) (st := []) (s_X9_granted (d := d + 1) hA  eM38_9) rfl okX9 ck_X9_granted w_702 rfl (Nat.le_of_ble_eq_true rfl) dX9_start_38 ?_
        obtain ⟨hz, h⟩ := gd_s h
        exact g_zret rfl (nar_zo hz) (pi_of h) dX9_start_41
      · replace h := ite_n c11 h
        refine g_sub [0] (lv' := [(0, .ref 0)]) rfl ?_
        exact hj4  _ h
  · replace h := ite_p c15 h
    refine g_aload_n dX9_start_7 rfl 0 rfl ?_
    refine g_iconst (v := (nI 1)) dX9_start_8 (by decide) ?_
    obtain ⟨v9_14, M9_13, eM9_13, h⟩ := bd_e h
    refine m_callVi (As := [.int (nI 1)]) (st := []) (s_X9_denied (d := d + 1) hA  eM9_13) rfl okX9 ck_X9_denied w_697 rfl (Nat.le_of_ble_eq_true rfl) dX9_start_9 ?_
    obtain ⟨hz, h⟩ := gd_s h
    exact g_zret rfl (nar_zo hz) (pi_of h) dX9_start_12
theorem ck_X9_start : CKV yX9_start cX9_start 2 (some .boolean) 1 := ⟨⟨by decide, by decide, by decide +kernel⟩, w_692, w_72, ⟨w_690, w_691⟩, by decide⟩
theorem dX9_tenths_0 : decode cX9_tenths 0 = .ok (.aload_n 0, 1) := by decide +kernel
theorem dX9_tenths_1 : decode cX9_tenths 1 = .ok (.invokevirtual 120, 3) := by decide +kernel
theorem dX9_tenths_4 : decode cX9_tenths 4 = .ok (.ifCond .ne 9, 3) := by decide +kernel
theorem dX9_tenths_7 : decode cX9_tenths 7 = .ok (.aload_n 0, 1) := by decide +kernel
theorem dX9_tenths_8 : decode cX9_tenths 8 = .ok (.iconst 1, 1) := by decide +kernel
theorem dX9_tenths_9 : decode cX9_tenths 9 = .ok (.invokevirtual 82, 3) := by decide +kernel
theorem dX9_tenths_12 : decode cX9_tenths 12 = .ok (.ireturn, 1) := by decide +kernel
theorem dX9_tenths_13 : decode cX9_tenths 13 = .ok (.iload_n 1, 1) := by decide +kernel
theorem dX9_tenths_14 : decode cX9_tenths 14 = .ok (.iconst 1, 1) := by decide +kernel
theorem dX9_tenths_15 : decode cX9_tenths 15 = .ok (.if_icmp .lt 9, 3) := by decide +kernel
theorem dX9_tenths_18 : decode cX9_tenths 18 = .ok (.iload_n 1, 1) := by decide +kernel
theorem dX9_tenths_19 : decode cX9_tenths 19 = .ok (.bipush 100, 2) := by decide +kernel
theorem dX9_tenths_21 : decode cX9_tenths 21 = .ok (.if_icmp .le 9, 3) := by decide +kernel
theorem dX9_tenths_24 : decode cX9_tenths 24 = .ok (.aload_n 0, 1) := by decide +kernel
theorem dX9_tenths_25 : decode cX9_tenths 25 = .ok (.iconst 2, 1) := by decide +kernel
theorem dX9_tenths_26 : decode cX9_tenths 26 = .ok (.invokevirtual 82, 3) := by decide +kernel
theorem dX9_tenths_29 : decode cX9_tenths 29 = .ok (.ireturn, 1) := by decide +kernel
theorem dX9_tenths_30 : decode cX9_tenths 30 = .ok (.aload_n 0, 1) := by decide +kernel
theorem dX9_tenths_31 : decode cX9_tenths 31 = .ok (.getfield 38, 3) := by decide +kernel
theorem dX9_tenths_34 : decode cX9_tenths 34 = .ok (.invokevirtual 132, 3) := by decide +kernel
theorem dX9_tenths_37 : decode cX9_tenths 37 = .ok (.ifCond .eq 10, 3) := by decide +kernel
theorem dX9_tenths_40 : decode cX9_tenths 40 = .ok (.aload_n 0, 1) := by decide +kernel
theorem dX9_tenths_41 : decode cX9_tenths 41 = .ok (.bipush 6, 2) := by decide +kernel
theorem dX9_tenths_43 : decode cX9_tenths 43 = .ok (.invokevirtual 82, 3) := by decide +kernel
theorem dX9_tenths_46 : decode cX9_tenths 46 = .ok (.ireturn, 1) := by decide +kernel
theorem dX9_tenths_47 : decode cX9_tenths 47 = .ok (.iconst 0, 1) := by decide +kernel
theorem dX9_tenths_48 : decode cX9_tenths 48 = .ok (.istore_n 2, 1) := by decide +kernel
theorem dX9_tenths_49 : decode cX9_tenths 49 = .ok (.iload_n 2, 1) := by decide +kernel
theorem dX9_tenths_50 : decode cX9_tenths 50 = .ok (.iload_n 1, 1) := by decide +kernel
theorem dX9_tenths_51 : decode cX9_tenths 51 = .ok (.if_icmp .ge 38, 3) := by decide +kernel
theorem dX9_tenths_54 : decode cX9_tenths 54 = .ok (.aload_n 0, 1) := by decide +kernel
theorem dX9_tenths_55 : decode cX9_tenths 55 = .ok (.getfield 38, 3) := by decide +kernel
theorem dX9_tenths_58 : decode cX9_tenths 58 = .ok (.invokevirtual 132, 3) := by decide +kernel
theorem dX9_tenths_61 : decode cX9_tenths 61 = .ok (.ifCond .ne 28, 3) := by decide +kernel
theorem dX9_tenths_64 : decode cX9_tenths 64 = .ok (.aload_n 0, 1) := by decide +kernel
theorem dX9_tenths_65 : decode cX9_tenths 65 = .ok (.getfield 38, 3) := by decide +kernel
theorem dX9_tenths_68 : decode cX9_tenths 68 = .ok (.aload_n 0, 1) := by decide +kernel
theorem dX9_tenths_69 : decode cX9_tenths 69 = .ok (.getfield 10, 3) := by decide +kernel
theorem dX9_tenths_72 : decode cX9_tenths 72 = .ok (.aload_n 0, 1) := by decide +kernel
theorem dX9_tenths_73 : decode cX9_tenths 73 = .ok (.getfield 10, 3) := by decide +kernel
theorem dX9_tenths_76 : decode cX9_tenths 76 = .ok (.invokevirtual 135, 3) := by decide +kernel
theorem dX9_tenths_79 : decode cX9_tenths 79 = .ok (.invokevirtual 139, 3) := by decide +kernel
theorem dX9_tenths_82 : decode cX9_tenths 82 = .ok (.pop, 1) := by decide +kernel
theorem dX9_tenths_83 : decode cX9_tenths 83 = .ok (.iinc 2 1, 3) := by decide +kernel
theorem dX9_tenths_86 : decode cX9_tenths 86 = .ok (.goto (-37), 3) := by decide +kernel
theorem dX9_tenths_89 : decode cX9_tenths 89 = .ok (.aload_n 0, 1) := by decide +kernel
theorem dX9_tenths_90 : decode cX9_tenths 90 = .ok (.iload_n 2, 1) := by decide +kernel
theorem dX9_tenths_91 : decode cX9_tenths 91 = .ok (.invokevirtual 114, 3) := by decide +kernel
theorem dX9_tenths_94 : decode cX9_tenths 94 = .ok (.ireturn, 1) := by decide +kernel
def lp_X9_tenths_49 (y1 : Int32) (k89 : Int32 → Mm → Option (Int32 × Mm)) : Nat → Int32 → Mm → Option (Int32 × Mm)
  | 0, _, _ => none
  | n + 1, y2, M =>
    if y1 ≤ y2 then (k89 y2 M) else (bd (f_X3_isOver 20 M) fun v58_10 M58_9 => if v58_10 = 0 then (bg (M58_9 0 8) fun g11 => bg (M58_9 0 8) fun g12 => bd (f_X0_eyes g12 M58_9) fun v76_14 M76_13 => bd (f_X3_goOn 20 g11 v76_14 M76_13) fun v79_16 M79_15 => lp_X9_tenths_49 y1 k89 n (y2 + (nI 1)) M79_15) else (k89 y2 M58_9))
def f_X9_tenths (x1 : Int32) (M : Mm) : Option (Int32 × Mm) :=
  bd (f_X9_hasGame  M) fun v1_2 M1_1 => if v1_2 = 0 then (bd (f_X9_refused (nI 1) M1_1) fun v9_29 M9_28 => some (v9_29, M9_28)) else (jn (fun (M3 : Mm) => bd (f_X9_refused (nI 2) M3) fun v26_6 M26_5 => some (v26_6, M26_5)) fun j4 => if x1 < (nI 1) then (j4  M1_1) else (if x1 ≤ (nI 100) then (bd (f_X3_isOver 20 M1_1) fun v34_8 M34_7 => if v34_8 = 0 then (lp_X9_tenths_49 x1 (fun (u19 : Int32) (M20 : Mm) => bd (f_X9_well u19 M20) fun v91_22 M91_21 => some (v91_22, M91_21)) N0 (nI 0) M34_7) else (bd (f_X9_refused (nI 6) M34_7) fun v43_24 M43_23 => some (v43_24, M43_23))) else (j4  M1_1)))
set_option maxHeartbeats 4000000 in
set_option maxRecDepth 100000 in
theorem sl_X9_tenths_49 {l : Launch} {B : BT} (hA : bA B = false) {d : Nat} {r : Int32} {M' : Mm} {y1 : Int32}  {k89 : Int32 → Mm → Option (Int32 × Mm)} (hk89 : ∀ (z2 : Int32) (M9 : Mm), k89 z2 M9 = some (r, M') → GG l B LY (d + 5) yX9_tenths cX9_tenths 3 (some .int) 0 0 (PI r M') 97 0 0 89 [(0, .ref 0), (2, .int z2)] [] M9) :
    ∀ (n : Nat) (y2 : Int32) (M : Mm), lp_X9_tenths_49 y1 k89 n y2 M = some (r, M') → GG l B LY (d + 5) yX9_tenths cX9_tenths 3 (some .int) 0 0 (PI r M') 97 0 0 49 [(0, .ref 0), (1, .int y1), (2, .int y2)] [] M := by
  intro n
  induction n with
  | zero => intro y2 M h; cases h
  | succ n ih =>
    intro y2 M h
    rw [lp_X9_tenths_49] at h
    refine g_iload_n dX9_tenths_49 rfl 2 rfl ?_
    refine g_iload_n dX9_tenths_50 rfl 1 rfl ?_
    refine g_icmp_ge (tgt := 89) dX9_tenths_51 (by decide) (fun c18 => ?_) (fun c18 => ?_)
    · replace h := ite_p c18 h
      refine g_sub [0, 2] (lv' := [(0, .ref 0), (2, .int y2)]) rfl ?_
      exact hk89 _ _ h
    · replace h := ite_n c18 h
      refine g_aload_n dX9_tenths_54 rfl 0 rfl ?_
      refine m_geta (k := 2) okX9 rfl rfl (by decide) w_415 rfl dX9_tenths_55 ?_
      obtain ⟨v58_10, M58_9, eM58_9, h⟩ := bd_e h
      refine m_callVi (As := []) (st := []) (s_X3_isOver (d := d + 4) hA rfl eM58_9) rfl okX3 ck_X3_isOver w_710 rfl (Nat.le_of_ble_eq_true rfl) dX9_tenths_58 ?_
      refine g_if_ne (tgt := 89) dX9_tenths_61 (by decide) (fun c17 => ?_) (fun c17 => ?_)
      · replace h := ite_n c17 h
        refine g_sub [0, 2] (lv' := [(0, .ref 0), (2, .int y2)]) rfl ?_
        exact hk89 _ _ h
      · replace h := ite_p c17 h
        refine g_aload_n dX9_tenths_64 rfl 0 rfl ?_
        refine m_geta (k := 2) okX9 rfl rfl (by decide) w_415 rfl dX9_tenths_65 ?_
        refine g_aload_n dX9_tenths_68 rfl 0 rfl ?_
        obtain ⟨g11, eg11, hg11, h⟩ := bg_e h
        refine m_getm (k := 8) okX9 rfl rfl (by decide) w_421 rfl dX9_tenths_69 eg11 hg11 ?_
        refine g_aload_n dX9_tenths_72 rfl 0 rfl ?_
        obtain ⟨g12, eg12, hg12, h⟩ := bg_e h
        refine m_getm (k := 8) okX9 rfl rfl (by decide) w_421 rfl dX9_tenths_73 eg12 hg12 ?_
        obtain ⟨v76_14, M76_13, eM76_13, h⟩ := bd_e h
        refine m_callVi (As := []) (st := [.ref g11, .ref 20]) (s_X0_eyes (d := d + 3) hA hg12 eM76_13) hg12 okX0 ck_X0_eyes w_714 rfl (Nat.le_of_ble_eq_true rfl) dX9_tenths_76 ?_
        obtain ⟨v79_16, M79_15, eM79_15, h⟩ := bd_e h
        refine m_callVi (As := [.ref g11, .int v76_14]) (st := []) (s_X3_goOn (d := d + 0) hA rfl hg11 eM79_15) rfl okX3 ck_X3_goOn w_721 rfl (Nat.le_of_ble_eq_true rfl) dX9_tenths_79 ?_
        refine g_pop dX9_tenths_82 rfl ?_
        refine g_iinc (v := (y2 + (nI 1))) (lv' := [(2, .int (y2 + (nI 1))), (0, .ref 0), (1, .int y1)]) dX9_tenths_83 2 rfl rfl (by decide) rfl ?_
        refine g_goto (tgt := 49) dX9_tenths_86 (by decide) ?_
        refine g_sub [1, 2, 0] (lv' := [(0, .ref 0), (1, .int y1), (2, .int (y2 + (nI 1)))]) rfl ?_
        exact ih _  _ h
set_option maxHeartbeats 4000000 in
set_option maxRecDepth 100000 in
theorem s_X9_tenths {l : Launch} {B : BT} (hA : bA B = false) {d : Nat} {r : Int32} {M' : Mm} {x1 : Int32} {M : Mm}  (h : f_X9_tenths x1 M = some (r, M')) : Con l B LY (d + 5) yX9_tenths cX9_tenths 3 (some .int) 0 0 [.ref 0, .int x1] 97 M (PI r M') := by
  refine con_of (by decide) (Nat.le_of_ble_eq_true rfl) ?_
  show GG l B LY (d + 5) yX9_tenths cX9_tenths 3 (some .int) 0 0 (PI r M') 97 0 0 0 [(0, .ref 0), (1, .int x1)] [] M
  rw [f_X9_tenths] at h
  refine g_aload_n dX9_tenths_0 rfl 0 rfl ?_
  obtain ⟨v1_2, M1_1, eM1_1, h⟩ := bd_e h
  refine m_callVi (As := []) (st := []) (s_X9_hasGame (d := d + 4) hA  eM1_1) rfl okX9 ck_X9_hasGame w_693 rfl (Nat.le_of_ble_eq_true rfl) dX9_tenths_1 ?_
  refine g_if_ne (tgt := 13) dX9_tenths_4 (by decide) (fun c30 => ?_) (fun c30 => ?_)
  · replace h := ite_n c30 h
    refine g_iload_n dX9_tenths_13 rfl 1 rfl ?_
    refine g_iconst (v := (nI 1)) dX9_tenths_14 (by decide) ?_
    obtain ⟨j4, ej4, h⟩ := jn_e h
    have hj4 : ∀ (M3 : Mm), j4 M3 = some (r, M') → GG l B LY (d + 5) yX9_tenths cX9_tenths 3 (some .int) 0 0 (PI r M') 97 0 0 24 [(0, .ref 0)] [] M3 := by
      intro M3 h
      rw [ej4] at h
      refine g_aload_n dX9_tenths_24 rfl 0 rfl ?_
      refine g_iconst (v := (nI 2)) dX9_tenths_25 (by decide) ?_
      obtain ⟨v26_6, M26_5, eM26_5, h⟩ := bd_e h
      refine m_callVi (As := [.int (nI 2)]) (st := []) (s_X9_refused (d := d + 4) hA  eM26_5) rfl okX9 ck_X9_refused w_468 rfl (Nat.le_of_ble_eq_true rfl) dX9_tenths_26 ?_
      exact g_zret rfl rfl (pi_of h) dX9_tenths_29
    refine g_icmp_lt (tgt := 24) dX9_tenths_15 (by decide) (fun c27 => ?_) (fun c27 => ?_)
    · replace h := ite_p c27 h
      refine g_sub [0] (lv' := [(0, .ref 0)]) rfl ?_
      exact hj4  _ h
    · replace h := ite_n c27 h
      refine g_iload_n dX9_tenths_18 rfl 1 rfl ?_
      refine g_bipush (v := (nI 100)) dX9_tenths_19 (by decide) ?_
      refine g_icmp_le (tgt := 30) dX9_tenths_21 (by decide) (fun c26 => ?_) (fun c26 => ?_)
      · replace h := ite_p c26 h
        refine g_aload_n dX9_tenths_30 rfl 0 rfl ?_
        refine m_geta (k := 2) okX9 rfl rfl (by decide) w_415 rfl dX9_tenths_31 ?_
        obtain ⟨v34_8, M34_7, eM34_7, h⟩ := bd_e h
        refine m_callVi (As := []) (st := []) (s_X3_isOver (d := d + 4) hA rfl eM34_7) rfl okX3 ck_X3_isOver w_710 rfl (Nat.le_of_ble_eq_true rfl) dX9_tenths_34 ?_
        refine g_if_eq (tgt := 47) dX9_tenths_37 (by decide) (fun c25 => ?_) (fun c25 => ?_)
        · replace h := ite_p c25 h
          refine g_iconst (v := (nI 0)) dX9_tenths_47 (by decide) ?_
          refine g_istore_n (lv' := [(2, .int (nI 0)), (0, .ref 0), (1, .int x1)]) dX9_tenths_48 rfl (by decide) rfl ?_
          refine g_sub [1, 2, 0] (lv' := [(0, .ref 0), (1, .int x1), (2, .int (nI 0))]) rfl ?_
          refine sl_X9_tenths_49 hA  ?_ _ _ _ h
          · intro u19 M20 h
            refine g_aload_n dX9_tenths_89 rfl 0 rfl ?_
            refine g_iload_n dX9_tenths_90 rfl 1 rfl ?_
            obtain ⟨v91_22, M91_21, eM91_21, h⟩ := bd_e h
            refine m_callVi (As := [.int u19]) (st := []) (s_X9_well (d := d + 4) hA  eM91_21) rfl okX9 ck_X9_well w_677 rfl (Nat.le_of_ble_eq_true rfl) dX9_tenths_91 ?_
            exact g_zret rfl rfl (pi_of h) dX9_tenths_94
        · replace h := ite_n c25 h
          refine g_aload_n dX9_tenths_40 rfl 0 rfl ?_
          refine g_bipush (v := (nI 6)) dX9_tenths_41 (by decide) ?_
          obtain ⟨v43_24, M43_23, eM43_23, h⟩ := bd_e h
          refine m_callVi (As := [.int (nI 6)]) (st := []) (s_X9_refused (d := d + 4) hA  eM43_23) rfl okX9 ck_X9_refused w_468 rfl (Nat.le_of_ble_eq_true rfl) dX9_tenths_43 ?_
          exact g_zret rfl rfl (pi_of h) dX9_tenths_46
      · replace h := ite_n c26 h
        refine g_sub [0] (lv' := [(0, .ref 0)]) rfl ?_
        exact hj4  _ h
  · replace h := ite_p c30 h
    refine g_aload_n dX9_tenths_7 rfl 0 rfl ?_
    refine g_iconst (v := (nI 1)) dX9_tenths_8 (by decide) ?_
    obtain ⟨v9_29, M9_28, eM9_28, h⟩ := bd_e h
    refine m_callVi (As := [.int (nI 1)]) (st := []) (s_X9_refused (d := d + 4) hA  eM9_28) rfl okX9 ck_X9_refused w_468 rfl (Nat.le_of_ble_eq_true rfl) dX9_tenths_9 ?_
    exact g_zret rfl rfl (pi_of h) dX9_tenths_12
theorem ck_X9_tenths : CKV yX9_tenths cX9_tenths 3 (some .int) 1 := ⟨⟨by decide, by decide, by decide +kernel⟩, w_709, w_72, ⟨w_707, w_708⟩, by decide⟩
theorem dX9_round_0 : decode cX9_round 0 = .ok (.aload_n 0, 1) := by decide +kernel
theorem dX9_round_1 : decode cX9_round 1 = .ok (.invokevirtual 120, 3) := by decide +kernel
theorem dX9_round_4 : decode cX9_round 4 = .ok (.ifCond .ne 9, 3) := by decide +kernel
theorem dX9_round_7 : decode cX9_round 7 = .ok (.aload_n 0, 1) := by decide +kernel
theorem dX9_round_8 : decode cX9_round 8 = .ok (.iconst 1, 1) := by decide +kernel
theorem dX9_round_9 : decode cX9_round 9 = .ok (.invokevirtual 82, 3) := by decide +kernel
theorem dX9_round_12 : decode cX9_round 12 = .ok (.ireturn, 1) := by decide +kernel
theorem dX9_round_13 : decode cX9_round 13 = .ok (.aload_n 0, 1) := by decide +kernel
theorem dX9_round_14 : decode cX9_round 14 = .ok (.getfield 38, 3) := by decide +kernel
theorem dX9_round_17 : decode cX9_round 17 = .ok (.invokevirtual 132, 3) := by decide +kernel
theorem dX9_round_20 : decode cX9_round 20 = .ok (.ifCond .eq 10, 3) := by decide +kernel
theorem dX9_round_23 : decode cX9_round 23 = .ok (.aload_n 0, 1) := by decide +kernel
theorem dX9_round_24 : decode cX9_round 24 = .ok (.bipush 6, 2) := by decide +kernel
theorem dX9_round_26 : decode cX9_round 26 = .ok (.invokevirtual 82, 3) := by decide +kernel
theorem dX9_round_29 : decode cX9_round 29 = .ok (.ireturn, 1) := by decide +kernel
theorem dX9_round_30 : decode cX9_round 30 = .ok (.iconst 0, 1) := by decide +kernel
theorem dX9_round_31 : decode cX9_round 31 = .ok (.istore_n 1, 1) := by decide +kernel
theorem dX9_round_32 : decode cX9_round 32 = .ok (.aload_n 0, 1) := by decide +kernel
theorem dX9_round_33 : decode cX9_round 33 = .ok (.getfield 10, 3) := by decide +kernel
theorem dX9_round_36 : decode cX9_round 36 = .ok (.invokevirtual 143, 3) := by decide +kernel
theorem dX9_round_39 : decode cX9_round 39 = .ok (.istore_n 2, 1) := by decide +kernel
theorem dX9_round_40 : decode cX9_round 40 = .ok (.iconst 0, 1) := by decide +kernel
theorem dX9_round_41 : decode cX9_round 41 = .ok (.istore_n 3, 1) := by decide +kernel
theorem dX9_round_42 : decode cX9_round 42 = .ok (.iload_n 3, 1) := by decide +kernel
theorem dX9_round_43 : decode cX9_round 43 = .ok (.iload_n 2, 1) := by decide +kernel
theorem dX9_round_44 : decode cX9_round 44 = .ok (.if_icmp .ge 32, 3) := by decide +kernel
theorem dX9_round_47 : decode cX9_round 47 = .ok (.iload_n 1, 1) := by decide +kernel
theorem dX9_round_48 : decode cX9_round 48 = .ok (.ifCond .ne 28, 3) := by decide +kernel
theorem dX9_round_51 : decode cX9_round 51 = .ok (.aload_n 0, 1) := by decide +kernel
theorem dX9_round_52 : decode cX9_round 52 = .ok (.getfield 38, 3) := by decide +kernel
theorem dX9_round_55 : decode cX9_round 55 = .ok (.aload_n 0, 1) := by decide +kernel
theorem dX9_round_56 : decode cX9_round 56 = .ok (.getfield 10, 3) := by decide +kernel
theorem dX9_round_59 : decode cX9_round 59 = .ok (.aload_n 0, 1) := by decide +kernel
theorem dX9_round_60 : decode cX9_round 60 = .ok (.getfield 10, 3) := by decide +kernel
theorem dX9_round_63 : decode cX9_round 63 = .ok (.invokevirtual 135, 3) := by decide +kernel
theorem dX9_round_66 : decode cX9_round 66 = .ok (.invokevirtual 139, 3) := by decide +kernel
theorem dX9_round_69 : decode cX9_round 69 = .ok (.istore_n 1, 1) := by decide +kernel
theorem dX9_round_70 : decode cX9_round 70 = .ok (.iinc 3 1, 3) := by decide +kernel
theorem dX9_round_73 : decode cX9_round 73 = .ok (.goto (-31), 3) := by decide +kernel
theorem dX9_round_76 : decode cX9_round 76 = .ok (.aload_n 0, 1) := by decide +kernel
theorem dX9_round_77 : decode cX9_round 77 = .ok (.iload_n 1, 1) := by decide +kernel
theorem dX9_round_78 : decode cX9_round 78 = .ok (.invokevirtual 114, 3) := by decide +kernel
theorem dX9_round_81 : decode cX9_round 81 = .ok (.ireturn, 1) := by decide +kernel
def lp_X9_round_42 (y2 : Int32) (k76 : Int32 → Mm → Option (Int32 × Mm)) : Nat → Int32 → Int32 → Mm → Option (Int32 × Mm)
  | 0, _, _, _ => none
  | n + 1, y1, y3, M =>
    if y2 ≤ y3 then (k76 y1 M) else (if y1 = 0 then (bg (M 0 8) fun g8 => bg (M 0 8) fun g9 => bd (f_X0_eyes g9 M) fun v63_11 M63_10 => bd (f_X3_goOn 20 g8 v63_11 M63_10) fun v66_13 M66_12 => lp_X9_round_42 y2 k76 n v66_13 (y3 + (nI 1)) M66_12) else (k76 y1 M))
def f_X9_round  (M : Mm) : Option (Int32 × Mm) :=
  bd (f_X9_hasGame  M) fun v1_2 M1_1 => if v1_2 = 0 then (bd (f_X9_refused (nI 1) M1_1) fun v9_24 M9_23 => some (v9_24, M9_23)) else (bd (f_X3_isOver 20 M1_1) fun v17_4 M17_3 => if v17_4 = 0 then (bg (M17_3 0 8) fun g5 => bd (f_X0_verseTenths g5 M17_3) fun v36_7 M36_6 => lp_X9_round_42 v36_7 (fun (u16 : Int32) (M17 : Mm) => bd (f_X9_well u16 M17) fun v78_19 M78_18 => some (v78_19, M78_18)) N0 (nI 0) (nI 0) M36_6) else (bd (f_X9_refused (nI 6) M17_3) fun v26_21 M26_20 => some (v26_21, M26_20)))
set_option maxHeartbeats 4000000 in
set_option maxRecDepth 100000 in
theorem sl_X9_round_42 {l : Launch} {B : BT} (hA : bA B = false) {d : Nat} {r : Int32} {M' : Mm} {y2 : Int32}  {k76 : Int32 → Mm → Option (Int32 × Mm)} (hk76 : ∀ (z1 : Int32) (M9 : Mm), k76 z1 M9 = some (r, M') → GG l B LY (d + 5) yX9_round cX9_round 4 (some .int) 0 0 (PI r M') 97 0 0 76 [(0, .ref 0), (1, .int z1)] [] M9) :
    ∀ (n : Nat) (y1 : Int32) (y3 : Int32) (M : Mm), lp_X9_round_42 y2 k76 n y1 y3 M = some (r, M') → GG l B LY (d + 5) yX9_round cX9_round 4 (some .int) 0 0 (PI r M') 97 0 0 42 [(0, .ref 0), (1, .int y1), (2, .int y2), (3, .int y3)] [] M := by
  intro n
  induction n with
  | zero => intro y1 y3 M h; cases h
  | succ n ih =>
    intro y1 y3 M h
    rw [lp_X9_round_42] at h
    refine g_iload_n dX9_round_42 rfl 3 rfl ?_
    refine g_iload_n dX9_round_43 rfl 2 rfl ?_
    refine g_icmp_ge (tgt := 76) dX9_round_44 (by decide) (fun c15 => ?_) (fun c15 => ?_)
    · replace h := ite_p c15 h
      refine g_sub [0, 1] (lv' := [(0, .ref 0), (1, .int y1)]) rfl ?_
      exact hk76 _ _ h
    · replace h := ite_n c15 h
      refine g_iload_n dX9_round_47 rfl 1 rfl ?_
      refine g_if_ne (tgt := 76) dX9_round_48 (by decide) (fun c14 => ?_) (fun c14 => ?_)
      · replace h := ite_n c14 h
        refine g_sub [0, 1] (lv' := [(0, .ref 0), (1, .int y1)]) rfl ?_
        exact hk76 _ _ h
      · replace h := ite_p c14 h
        refine g_aload_n dX9_round_51 rfl 0 rfl ?_
        refine m_geta (k := 2) okX9 rfl rfl (by decide) w_415 rfl dX9_round_52 ?_
        refine g_aload_n dX9_round_55 rfl 0 rfl ?_
        obtain ⟨g8, eg8, hg8, h⟩ := bg_e h
        refine m_getm (k := 8) okX9 rfl rfl (by decide) w_421 rfl dX9_round_56 eg8 hg8 ?_
        refine g_aload_n dX9_round_59 rfl 0 rfl ?_
        obtain ⟨g9, eg9, hg9, h⟩ := bg_e h
        refine m_getm (k := 8) okX9 rfl rfl (by decide) w_421 rfl dX9_round_60 eg9 hg9 ?_
        obtain ⟨v63_11, M63_10, eM63_10, h⟩ := bd_e h
        refine m_callVi (As := []) (st := [.ref g8, .ref 20]) (s_X0_eyes (d := d + 3) hA hg9 eM63_10) hg9 okX0 ck_X0_eyes w_714 rfl (Nat.le_of_ble_eq_true rfl) dX9_round_63 ?_
        obtain ⟨v66_13, M66_12, eM66_12, h⟩ := bd_e h
        refine m_callVi (As := [.ref g8, .int v63_11]) (st := []) (s_X3_goOn (d := d + 0) hA rfl hg8 eM66_12) rfl okX3 ck_X3_goOn w_721 rfl (Nat.le_of_ble_eq_true rfl) dX9_round_66 ?_
        refine g_istore_n (lv' := [(1, .int v66_13), (0, .ref 0), (2, .int y2), (3, .int y3)]) dX9_round_69 rfl (by decide) rfl ?_
        refine g_iinc (v := (y3 + (nI 1))) (lv' := [(3, .int (y3 + (nI 1))), (1, .int v66_13), (0, .ref 0), (2, .int y2)]) dX9_round_70 3 rfl rfl (by decide) rfl ?_
        refine g_goto (tgt := 42) dX9_round_73 (by decide) ?_
        refine g_sub [2, 1, 3, 0] (lv' := [(0, .ref 0), (1, .int v66_13), (2, .int y2), (3, .int (y3 + (nI 1)))]) rfl ?_
        exact ih _ _  _ h
set_option maxHeartbeats 4000000 in
set_option maxRecDepth 100000 in
theorem s_X9_round {l : Launch} {B : BT} (hA : bA B = false) {d : Nat} {r : Int32} {M' : Mm}  {M : Mm}  (h : f_X9_round  M = some (r, M')) : Con l B LY (d + 5) yX9_round cX9_round 4 (some .int) 0 0 [.ref 0] 97 M (PI r M') := by
  refine con_of (by decide) (Nat.le_of_ble_eq_true rfl) ?_
  show GG l B LY (d + 5) yX9_round cX9_round 4 (some .int) 0 0 (PI r M') 97 0 0 0 [(0, .ref 0)] [] M
  rw [f_X9_round] at h
  refine g_aload_n dX9_round_0 rfl 0 rfl ?_
  obtain ⟨v1_2, M1_1, eM1_1, h⟩ := bd_e h
  refine m_callVi (As := []) (st := []) (s_X9_hasGame (d := d + 4) hA  eM1_1) rfl okX9 ck_X9_hasGame w_693 rfl (Nat.le_of_ble_eq_true rfl) dX9_round_1 ?_
  refine g_if_ne (tgt := 13) dX9_round_4 (by decide) (fun c25 => ?_) (fun c25 => ?_)
  · replace h := ite_n c25 h
    refine g_aload_n dX9_round_13 rfl 0 rfl ?_
    refine m_geta (k := 2) okX9 rfl rfl (by decide) w_415 rfl dX9_round_14 ?_
    obtain ⟨v17_4, M17_3, eM17_3, h⟩ := bd_e h
    refine m_callVi (As := []) (st := []) (s_X3_isOver (d := d + 4) hA rfl eM17_3) rfl okX3 ck_X3_isOver w_710 rfl (Nat.le_of_ble_eq_true rfl) dX9_round_17 ?_
    refine g_if_eq (tgt := 30) dX9_round_20 (by decide) (fun c22 => ?_) (fun c22 => ?_)
    · replace h := ite_p c22 h
      refine g_iconst (v := (nI 0)) dX9_round_30 (by decide) ?_
      refine g_istore_n (lv' := [(1, .int (nI 0)), (0, .ref 0)]) dX9_round_31 rfl (by decide) rfl ?_
      refine g_aload_n dX9_round_32 rfl 1 rfl ?_
      obtain ⟨g5, eg5, hg5, h⟩ := bg_e h
      refine m_getm (k := 8) okX9 rfl rfl (by decide) w_421 rfl dX9_round_33 eg5 hg5 ?_
      obtain ⟨v36_7, M36_6, eM36_6, h⟩ := bd_e h
      refine m_callVi (As := []) (st := []) (s_X0_verseTenths (d := d + 3) hA hg5 eM36_6) hg5 okX0 ck_X0_verseTenths w_808 rfl (Nat.le_of_ble_eq_true rfl) dX9_round_36 ?_
      refine g_istore_n (lv' := [(2, .int v36_7), (1, .int (nI 0)), (0, .ref 0)]) dX9_round_39 rfl (by decide) rfl ?_
      refine g_iconst (v := (nI 0)) dX9_round_40 (by decide) ?_
      refine g_istore_n (lv' := [(3, .int (nI 0)), (2, .int v36_7), (1, .int (nI 0)), (0, .ref 0)]) dX9_round_41 rfl (by decide) rfl ?_
      refine g_sub [3, 2, 1, 0] (lv' := [(0, .ref 0), (1, .int (nI 0)), (2, .int v36_7), (3, .int (nI 0))]) rfl ?_
      refine sl_X9_round_42 hA  ?_ _ _ _ _ h
      · intro u16 M17 h
        refine g_aload_n dX9_round_76 rfl 0 rfl ?_
        refine g_iload_n dX9_round_77 rfl 1 rfl ?_
        obtain ⟨v78_19, M78_18, eM78_18, h⟩ := bd_e h
        refine m_callVi (As := [.int u16]) (st := []) (s_X9_well (d := d + 4) hA  eM78_18) rfl okX9 ck_X9_well w_677 rfl (Nat.le_of_ble_eq_true rfl) dX9_round_78 ?_
        exact g_zret rfl rfl (pi_of h) dX9_round_81
    · replace h := ite_n c22 h
      refine g_aload_n dX9_round_23 rfl 0 rfl ?_
      refine g_bipush (v := (nI 6)) dX9_round_24 (by decide) ?_
      obtain ⟨v26_21, M26_20, eM26_20, h⟩ := bd_e h
      refine m_callVi (As := [.int (nI 6)]) (st := []) (s_X9_refused (d := d + 4) hA  eM26_20) rfl okX9 ck_X9_refused w_468 rfl (Nat.le_of_ble_eq_true rfl) dX9_round_26 ?_
      exact g_zret rfl rfl (pi_of h) dX9_round_29
  · replace h := ite_p c25 h
    refine g_aload_n dX9_round_7 rfl 0 rfl ?_
    refine g_iconst (v := (nI 1)) dX9_round_8 (by decide) ?_
    obtain ⟨v9_24, M9_23, eM9_23, h⟩ := bd_e h
    refine m_callVi (As := [.int (nI 1)]) (st := []) (s_X9_refused (d := d + 4) hA  eM9_23) rfl okX9 ck_X9_refused w_468 rfl (Nat.le_of_ble_eq_true rfl) dX9_round_9 ?_
    exact g_zret rfl rfl (pi_of h) dX9_round_12
theorem ck_X9_round : CKV yX9_round cX9_round 4 (some .int) 0 := ⟨⟨by decide, by decide, by decide +kernel⟩, w_807, w_72, ⟨w_805, w_806⟩, by decide⟩
theorem dX9_isCreeper_0 : decode cX9_isCreeper 0 = .ok (.iload_n 1, 1) := by decide +kernel
theorem dX9_isCreeper_1 : decode cX9_isCreeper 1 = .ok (.ifCond .lt 18, 3) := by decide +kernel
theorem dX9_isCreeper_4 : decode cX9_isCreeper 4 = .ok (.iload_n 1, 1) := by decide +kernel
theorem dX9_isCreeper_5 : decode cX9_isCreeper 5 = .ok (.aload_n 0, 1) := by decide +kernel
theorem dX9_isCreeper_6 : decode cX9_isCreeper 6 = .ok (.getfield 10, 3) := by decide +kernel
theorem dX9_isCreeper_9 : decode cX9_isCreeper 9 = .ok (.getfield 111, 3) := by decide +kernel
theorem dX9_isCreeper_12 : decode cX9_isCreeper 12 = .ok (.if_icmp .ge 7, 3) := by decide +kernel
theorem dX9_isCreeper_15 : decode cX9_isCreeper 15 = .ok (.iconst 1, 1) := by decide +kernel
theorem dX9_isCreeper_16 : decode cX9_isCreeper 16 = .ok (.goto 4, 3) := by decide +kernel
theorem dX9_isCreeper_19 : decode cX9_isCreeper 19 = .ok (.iconst 0, 1) := by decide +kernel
theorem dX9_isCreeper_20 : decode cX9_isCreeper 20 = .ok (.ireturn, 1) := by decide +kernel
def f_X9_isCreeper (x1 : Int32) (M : Mm) : Option (Int32 × Mm) :=
  jn (fun (M1 : Mm) => some ((nI 0), M1)) fun j2 => if x1 < 0 then (j2  M) else (bg (M 0 8) fun g3 => if (M g3 14) ≤ x1 then (j2  M) else (some ((nI 1), M)))
set_option maxHeartbeats 4000000 in
set_option maxRecDepth 100000 in
theorem s_X9_isCreeper {l : Launch} {B : BT} (hA : bA B = false) {d : Nat} {r : Int32} {M' : Mm} {x1 : Int32} {M : Mm}  (h : f_X9_isCreeper x1 M = some (r, M')) : Con l B LY (d + 0) yX9_isCreeper cX9_isCreeper 2 (some .boolean) 0 0 [.ref 0, .int x1] 97 M (PI r M') := by
  refine con_of (by decide) (Nat.le_of_ble_eq_true rfl) ?_
  show GG l B LY (d + 0) yX9_isCreeper cX9_isCreeper 2 (some .boolean) 0 0 (PI r M') 97 0 0 0 [(0, .ref 0), (1, .int x1)] [] M
  rw [f_X9_isCreeper] at h
  refine g_iload_n dX9_isCreeper_0 rfl 1 rfl ?_
  obtain ⟨j2, ej2, h⟩ := jn_e h
  have hj2 : ∀ (M1 : Mm), j2 M1 = some (r, M') → GG l B LY (d + 0) yX9_isCreeper cX9_isCreeper 2 (some .boolean) 0 0 (PI r M') 97 0 0 19 [] [] M1 := by
    intro M1 h
    rw [ej2] at h
    refine g_iconst (v := (nI 0)) dX9_isCreeper_19 (by decide) ?_
    exact g_zret rfl rfl (pi_of h) dX9_isCreeper_20
  refine g_if_lt (tgt := 19) dX9_isCreeper_1 (by decide) (fun c5 => ?_) (fun c5 => ?_)
  · replace h := ite_p c5 h
    refine g_sub [] (lv' := []) rfl ?_
    exact hj2  _ h
  · replace h := ite_n c5 h
    refine g_iload_n dX9_isCreeper_4 rfl 1 rfl ?_
    refine g_aload_n dX9_isCreeper_5 rfl 0 rfl ?_
    obtain ⟨g3, eg3, hg3, h⟩ := bg_e h
    refine m_getm (k := 8) okX9 rfl rfl (by decide) w_421 rfl dX9_isCreeper_6 eg3 hg3 ?_
    refine m_geti (k := 14) okX0 hg3 rfl (by decide) w_152 rfl dX9_isCreeper_9 ?_
    refine g_icmp_ge (tgt := 19) dX9_isCreeper_12 (by decide) (fun c4 => ?_) (fun c4 => ?_)
    · replace h := ite_p c4 h
      refine g_sub [] (lv' := []) rfl ?_
      exact hj2  _ h
    · replace h := ite_n c4 h
      refine g_iconst (v := (nI 1)) dX9_isCreeper_15 (by decide) ?_
      refine g_goto (tgt := 20) dX9_isCreeper_16 (by decide) ?_
      exact g_zret rfl rfl (pi_of h) dX9_isCreeper_20
theorem ck_X9_isCreeper : CKV yX9_isCreeper cX9_isCreeper 2 (some .boolean) 1 := ⟨⟨by decide, by decide, by decide +kernel⟩, w_819, w_72, ⟨w_818, w_5⟩, by decide⟩
theorem dX9_isBelowWall_0 : decode cX9_isBelowWall 0 = .ok (.iload_n 1, 1) := by decide +kernel
theorem dX9_isBelowWall_1 : decode cX9_isBelowWall 1 = .ok (.ifCond .lt 18, 3) := by decide +kernel
theorem dX9_isBelowWall_4 : decode cX9_isBelowWall 4 = .ok (.iload_n 1, 1) := by decide +kernel
theorem dX9_isBelowWall_5 : decode cX9_isBelowWall 5 = .ok (.aload_n 0, 1) := by decide +kernel
theorem dX9_isBelowWall_6 : decode cX9_isBelowWall 6 = .ok (.getfield 10, 3) := by decide +kernel
theorem dX9_isBelowWall_9 : decode cX9_isBelowWall 9 = .ok (.getfield 328, 3) := by decide +kernel
theorem dX9_isBelowWall_12 : decode cX9_isBelowWall 12 = .ok (.if_icmp .ge 7, 3) := by decide +kernel
theorem dX9_isBelowWall_15 : decode cX9_isBelowWall 15 = .ok (.iconst 1, 1) := by decide +kernel
theorem dX9_isBelowWall_16 : decode cX9_isBelowWall 16 = .ok (.goto 4, 3) := by decide +kernel
theorem dX9_isBelowWall_19 : decode cX9_isBelowWall 19 = .ok (.iconst 0, 1) := by decide +kernel
theorem dX9_isBelowWall_20 : decode cX9_isBelowWall 20 = .ok (.ireturn, 1) := by decide +kernel
def f_X9_isBelowWall (x1 : Int32) (M : Mm) : Option (Int32 × Mm) :=
  jn (fun (M1 : Mm) => some ((nI 0), M1)) fun j2 => if x1 < 0 then (j2  M) else (bg (M 0 8) fun g3 => if (M g3 6) ≤ x1 then (j2  M) else (some ((nI 1), M)))
set_option maxHeartbeats 4000000 in
set_option maxRecDepth 100000 in
theorem s_X9_isBelowWall {l : Launch} {B : BT} (hA : bA B = false) {d : Nat} {r : Int32} {M' : Mm} {x1 : Int32} {M : Mm}  (h : f_X9_isBelowWall x1 M = some (r, M')) : Con l B LY (d + 0) yX9_isBelowWall cX9_isBelowWall 2 (some .boolean) 0 0 [.ref 0, .int x1] 97 M (PI r M') := by
  refine con_of (by decide) (Nat.le_of_ble_eq_true rfl) ?_
  show GG l B LY (d + 0) yX9_isBelowWall cX9_isBelowWall 2 (some .boolean) 0 0 (PI r M') 97 0 0 0 [(0, .ref 0), (1, .int x1)] [] M
  rw [f_X9_isBelowWall] at h
  refine g_iload_n dX9_isBelowWall_0 rfl 1 rfl ?_
  obtain ⟨j2, ej2, h⟩ := jn_e h
  have hj2 : ∀ (M1 : Mm), j2 M1 = some (r, M') → GG l B LY (d + 0) yX9_isBelowWall cX9_isBelowWall 2 (some .boolean) 0 0 (PI r M') 97 0 0 19 [] [] M1 := by
    intro M1 h
    rw [ej2] at h
    refine g_iconst (v := (nI 0)) dX9_isBelowWall_19 (by decide) ?_
    exact g_zret rfl rfl (pi_of h) dX9_isBelowWall_20
  refine g_if_lt (tgt := 19) dX9_isBelowWall_1 (by decide) (fun c5 => ?_) (fun c5 => ?_)
  · replace h := ite_p c5 h
    refine g_sub [] (lv' := []) rfl ?_
    exact hj2  _ h
  · replace h := ite_n c5 h
    refine g_iload_n dX9_isBelowWall_4 rfl 1 rfl ?_
    refine g_aload_n dX9_isBelowWall_5 rfl 0 rfl ?_
    obtain ⟨g3, eg3, hg3, h⟩ := bg_e h
    refine m_getm (k := 8) okX9 rfl rfl (by decide) w_421 rfl dX9_isBelowWall_6 eg3 hg3 ?_
    refine m_geti (k := 6) okX0 hg3 rfl (by decide) w_126 rfl dX9_isBelowWall_9 ?_
    refine g_icmp_ge (tgt := 19) dX9_isBelowWall_12 (by decide) (fun c4 => ?_) (fun c4 => ?_)
    · replace h := ite_p c4 h
      refine g_sub [] (lv' := []) rfl ?_
      exact hj2  _ h
    · replace h := ite_n c4 h
      refine g_iconst (v := (nI 1)) dX9_isBelowWall_15 (by decide) ?_
      refine g_goto (tgt := 20) dX9_isBelowWall_16 (by decide) ?_
      exact g_zret rfl rfl (pi_of h) dX9_isBelowWall_20
theorem ck_X9_isBelowWall : CKV yX9_isBelowWall cX9_isBelowWall 2 (some .boolean) 1 := ⟨⟨by decide, by decide, by decide +kernel⟩, w_823, w_72, ⟨w_822, w_6⟩, by decide⟩
theorem dX9_bring_0 : decode cX9_bring 0 = .ok (.aload_n 0, 1) := by decide +kernel
theorem dX9_bring_1 : decode cX9_bring 1 = .ok (.iload_n 1, 1) := by decide +kernel
theorem dX9_bring_2 : decode cX9_bring 2 = .ok (.invokevirtual 146, 3) := by decide +kernel
theorem dX9_bring_5 : decode cX9_bring 5 = .ok (.ifCond .ne 9, 3) := by decide +kernel
theorem dX9_bring_8 : decode cX9_bring 8 = .ok (.aload_n 0, 1) := by decide +kernel
theorem dX9_bring_9 : decode cX9_bring 9 = .ok (.iconst 1, 1) := by decide +kernel
theorem dX9_bring_10 : decode cX9_bring 10 = .ok (.invokevirtual 124, 3) := by decide +kernel
theorem dX9_bring_13 : decode cX9_bring 13 = .ok (.ireturn, 1) := by decide +kernel
theorem dX9_bring_14 : decode cX9_bring 14 = .ok (.aload_n 0, 1) := by decide +kernel
theorem dX9_bring_15 : decode cX9_bring 15 = .ok (.iload_n 2, 1) := by decide +kernel
theorem dX9_bring_16 : decode cX9_bring 16 = .ok (.invokevirtual 149, 3) := by decide +kernel
theorem dX9_bring_19 : decode cX9_bring 19 = .ok (.ifCond .ne 9, 3) := by decide +kernel
theorem dX9_bring_22 : decode cX9_bring 22 = .ok (.aload_n 0, 1) := by decide +kernel
theorem dX9_bring_23 : decode cX9_bring 23 = .ok (.iconst 2, 1) := by decide +kernel
theorem dX9_bring_24 : decode cX9_bring 24 = .ok (.invokevirtual 124, 3) := by decide +kernel
theorem dX9_bring_27 : decode cX9_bring 27 = .ok (.ireturn, 1) := by decide +kernel
theorem dX9_bring_28 : decode cX9_bring 28 = .ok (.aload_n 0, 1) := by decide +kernel
theorem dX9_bring_29 : decode cX9_bring 29 = .ok (.getfield 38, 3) := by decide +kernel
theorem dX9_bring_32 : decode cX9_bring 32 = .ok (.invokevirtual 132, 3) := by decide +kernel
theorem dX9_bring_35 : decode cX9_bring 35 = .ok (.ifCond .eq 10, 3) := by decide +kernel
theorem dX9_bring_38 : decode cX9_bring 38 = .ok (.aload_n 0, 1) := by decide +kernel
theorem dX9_bring_39 : decode cX9_bring 39 = .ok (.bipush 6, 2) := by decide +kernel
theorem dX9_bring_41 : decode cX9_bring 41 = .ok (.invokevirtual 124, 3) := by decide +kernel
theorem dX9_bring_44 : decode cX9_bring 44 = .ok (.ireturn, 1) := by decide +kernel
theorem dX9_bring_45 : decode cX9_bring 45 = .ok (.aload_n 0, 1) := by decide +kernel
theorem dX9_bring_46 : decode cX9_bring 46 = .ok (.getfield 38, 3) := by decide +kernel
theorem dX9_bring_49 : decode cX9_bring 49 = .ok (.getfield 152, 3) := by decide +kernel
theorem dX9_bring_52 : decode cX9_bring 52 = .ok (.iload_n 1, 1) := by decide +kernel
theorem dX9_bring_53 : decode cX9_bring 53 = .ok (.iload_n 2, 1) := by decide +kernel
theorem dX9_bring_54 : decode cX9_bring 54 = .ok (.invokestatic 156, 3) := by decide +kernel
theorem dX9_bring_57 : decode cX9_bring 57 = .ok (.aload_n 0, 1) := by decide +kernel
theorem dX9_bring_58 : decode cX9_bring 58 = .ok (.getfield 38, 3) := by decide +kernel
theorem dX9_bring_61 : decode cX9_bring 61 = .ok (.getfield 160, 3) := by decide +kernel
theorem dX9_bring_64 : decode cX9_bring 64 = .ok (.iload_n 1, 1) := by decide +kernel
theorem dX9_bring_65 : decode cX9_bring 65 = .ok (.iconst 0, 1) := by decide +kernel
theorem dX9_bring_66 : decode cX9_bring 66 = .ok (.invokestatic 156, 3) := by decide +kernel
theorem dX9_bring_69 : decode cX9_bring 69 = .ok (.aload_n 0, 1) := by decide +kernel
theorem dX9_bring_70 : decode cX9_bring 70 = .ok (.invokevirtual 129, 3) := by decide +kernel
theorem dX9_bring_73 : decode cX9_bring 73 = .ok (.ireturn, 1) := by decide +kernel
def f_X9_bring (x1 : Int32) (x2 : Int32) (M : Mm) : Option (Int32 × Mm) :=
  bd (f_X9_isCreeper x1 M) fun v2_2 M2_1 => if v2_2 = 0 then (bd (f_X9_denied (nI 1) M2_1) fun v10_20 M10_19 => gd (zo v10_20) <| some (v10_20, M10_19)) else (bd (f_X9_isBelowWall x2 M2_1) fun v16_4 M16_3 => if v16_4 = 0 then (bd (f_X9_denied (nI 2) M16_3) fun v24_17 M24_16 => gd (zo v24_17) <| some (v24_17, M24_16)) else (bd (f_X3_isOver 20 M16_3) fun v32_6 M32_5 => if v32_6 = 0 then (bv (f_X9_put 21 x1 x2 M32_5) fun M54_7 => bv (f_X9_put 22 x1 (nI 0) M54_7) fun M66_9 => bd (f_X9_granted  M66_9) fun v70_12 M70_11 => gd (zo v70_12) <| some (v70_12, M70_11)) else (bd (f_X9_denied (nI 6) M32_5) fun v41_14 M41_13 => gd (zo v41_14) <| some (v41_14, M41_13))))
set_option maxHeartbeats 4000000 in
set_option maxRecDepth 100000 in
theorem s_X9_bring {l : Launch} {B : BT} (hA : bA B = false) {d : Nat} {r : Int32} {M' : Mm} {x1 : Int32} {x2 : Int32} {M : Mm}  (h : f_X9_bring x1 x2 M = some (r, M')) : Con l B LY (d + 1) yX9_bring cX9_bring 3 (some .boolean) 0 0 [.ref 0, .int x1, .int x2] 97 M (PI r M') := by
  refine con_of (by decide) (Nat.le_of_ble_eq_true rfl) ?_
  show GG l B LY (d + 1) yX9_bring cX9_bring 3 (some .boolean) 0 0 (PI r M') 97 0 0 0 [(0, .ref 0), (1, .int x1), (2, .int x2)] [] M
  rw [f_X9_bring] at h
  refine g_aload_n dX9_bring_0 rfl 0 rfl ?_
  refine g_iload_n dX9_bring_1 rfl 1 rfl ?_
  obtain ⟨v2_2, M2_1, eM2_1, h⟩ := bd_e h
  refine m_callVi (As := [.int x1]) (st := []) (s_X9_isCreeper (d := d + 0) hA  eM2_1) rfl okX9 ck_X9_isCreeper w_816 rfl (Nat.le_of_ble_eq_true rfl) dX9_bring_2 ?_
  refine g_if_ne (tgt := 14) dX9_bring_5 (by decide) (fun c21 => ?_) (fun c21 => ?_)
  · replace h := ite_n c21 h
    refine g_aload_n dX9_bring_14 rfl 0 rfl ?_
    refine g_iload_n dX9_bring_15 rfl 2 rfl ?_
    obtain ⟨v16_4, M16_3, eM16_3, h⟩ := bd_e h
    refine m_callVi (As := [.int x2]) (st := []) (s_X9_isBelowWall (d := d + 0) hA  eM16_3) rfl okX9 ck_X9_isBelowWall w_820 rfl (Nat.le_of_ble_eq_true rfl) dX9_bring_16 ?_
    refine g_if_ne (tgt := 28) dX9_bring_19 (by decide) (fun c18 => ?_) (fun c18 => ?_)
    · replace h := ite_n c18 h
      refine g_aload_n dX9_bring_28 rfl 0 rfl ?_
      refine m_geta (k := 2) okX9 rfl rfl (by decide) w_415 rfl dX9_bring_29 ?_
      obtain ⟨v32_6, M32_5, eM32_5, h⟩ := bd_e h
      refine m_callVi (As := []) (st := []) (s_X3_isOver (d := d + 0) hA rfl eM32_5) rfl okX3 ck_X3_isOver w_710 rfl (Nat.le_of_ble_eq_true rfl) dX9_bring_32 ?_
      refine g_if_eq (tgt := 45) dX9_bring_35 (by decide) (fun c15 => ?_) (fun c15 => ?_)
      · replace h := ite_p c15 h
        refine g_aload_n dX9_bring_45 rfl 0 rfl ?_
        refine m_geta (k := 2) okX9 rfl rfl (by decide) w_415 rfl dX9_bring_46 ?_
        refine m_getr (k := 0) okX3 rfl rfl (by decide) w_261 rfl dX9_bring_49 ?_
        refine g_iload_n dX9_bring_52 rfl 1 rfl ?_
        refine g_iload_n dX9_bring_53 rfl 2 rfl ?_
        obtain ⟨M54_7, eM54_7, h⟩ := bv_e h
        refine m_callSv (As := [.ref 21, .int x1, .int x2]) (st := []) (s_X9_put (d := d + 0) hA (al_of rfl) eM54_7) ck_X9_put w_606 rfl (Nat.le_of_ble_eq_true rfl) dX9_bring_54 ?_
        refine g_aload_n dX9_bring_57 rfl 0 rfl ?_
        refine m_geta (k := 2) okX9 rfl rfl (by decide) w_415 rfl dX9_bring_58 ?_
        refine m_getr (k := 1) okX3 rfl rfl (by decide) w_264 rfl dX9_bring_61 ?_
        refine g_iload_n dX9_bring_64 rfl 1 rfl ?_
        refine g_iconst (v := (nI 0)) dX9_bring_65 (by decide) ?_
        obtain ⟨M66_9, eM66_9, h⟩ := bv_e h
        refine m_callSv (As := [.ref 22, .int x1, .int (nI 0)]) (st := []) (s_X9_put (d := d + 0) hA (al_of rfl) eM66_9) ck_X9_put w_606 rfl (Nat.le_of_ble_eq_true rfl) dX9_bring_66 ?_
        refine g_aload_n dX9_bring_69 rfl 0 rfl ?_
        obtain ⟨v70_12, M70_11, eM70_11, h⟩ := bd_e h
        refine m_callVi (As := []) (st := []) (s_X9_granted (d := d + 0) hA  eM70_11) rfl okX9 ck_X9_granted w_702 rfl (Nat.le_of_ble_eq_true rfl) dX9_bring_70 ?_
        obtain ⟨hz, h⟩ := gd_s h
        exact g_zret rfl (nar_zo hz) (pi_of h) dX9_bring_73
      · replace h := ite_n c15 h
        refine g_aload_n dX9_bring_38 rfl 0 rfl ?_
        refine g_bipush (v := (nI 6)) dX9_bring_39 (by decide) ?_
        obtain ⟨v41_14, M41_13, eM41_13, h⟩ := bd_e h
        refine m_callVi (As := [.int (nI 6)]) (st := []) (s_X9_denied (d := d + 0) hA  eM41_13) rfl okX9 ck_X9_denied w_697 rfl (Nat.le_of_ble_eq_true rfl) dX9_bring_41 ?_
        obtain ⟨hz, h⟩ := gd_s h
        exact g_zret rfl (nar_zo hz) (pi_of h) dX9_bring_44
    · replace h := ite_p c18 h
      refine g_aload_n dX9_bring_22 rfl 0 rfl ?_
      refine g_iconst (v := (nI 2)) dX9_bring_23 (by decide) ?_
      obtain ⟨v24_17, M24_16, eM24_16, h⟩ := bd_e h
      refine m_callVi (As := [.int (nI 2)]) (st := []) (s_X9_denied (d := d + 0) hA  eM24_16) rfl okX9 ck_X9_denied w_697 rfl (Nat.le_of_ble_eq_true rfl) dX9_bring_24 ?_
      obtain ⟨hz, h⟩ := gd_s h
      exact g_zret rfl (nar_zo hz) (pi_of h) dX9_bring_27
  · replace h := ite_p c21 h
    refine g_aload_n dX9_bring_8 rfl 0 rfl ?_
    refine g_iconst (v := (nI 1)) dX9_bring_9 (by decide) ?_
    obtain ⟨v10_20, M10_19, eM10_19, h⟩ := bd_e h
    refine m_callVi (As := [.int (nI 1)]) (st := []) (s_X9_denied (d := d + 0) hA  eM10_19) rfl okX9 ck_X9_denied w_697 rfl (Nat.le_of_ble_eq_true rfl) dX9_bring_10 ?_
    obtain ⟨hz, h⟩ := gd_s h
    exact g_zret rfl (nar_zo hz) (pi_of h) dX9_bring_13
theorem ck_X9_bring : CKV yX9_bring cX9_bring 3 (some .boolean) 2 := ⟨⟨by decide, by decide, by decide +kernel⟩, w_815, w_72, ⟨w_813, w_814⟩, by decide⟩
theorem dX9_right_0 : decode cX9_right 0 = .ok (.aload_n 0, 1) := by decide +kernel
theorem dX9_right_1 : decode cX9_right 1 = .ok (.iload_n 1, 1) := by decide +kernel
theorem dX9_right_2 : decode cX9_right 2 = .ok (.invokevirtual 146, 3) := by decide +kernel
theorem dX9_right_5 : decode cX9_right 5 = .ok (.ifCond .ne 9, 3) := by decide +kernel
theorem dX9_right_8 : decode cX9_right 8 = .ok (.aload_n 0, 1) := by decide +kernel
theorem dX9_right_9 : decode cX9_right 9 = .ok (.iconst 1, 1) := by decide +kernel
theorem dX9_right_10 : decode cX9_right 10 = .ok (.invokevirtual 124, 3) := by decide +kernel
theorem dX9_right_13 : decode cX9_right 13 = .ok (.ireturn, 1) := by decide +kernel
theorem dX9_right_14 : decode cX9_right 14 = .ok (.aload_n 0, 1) := by decide +kernel
theorem dX9_right_15 : decode cX9_right 15 = .ok (.getfield 38, 3) := by decide +kernel
theorem dX9_right_18 : decode cX9_right 18 = .ok (.invokevirtual 132, 3) := by decide +kernel
theorem dX9_right_21 : decode cX9_right 21 = .ok (.ifCond .eq 10, 3) := by decide +kernel
theorem dX9_right_24 : decode cX9_right 24 = .ok (.aload_n 0, 1) := by decide +kernel
theorem dX9_right_25 : decode cX9_right 25 = .ok (.bipush 6, 2) := by decide +kernel
theorem dX9_right_27 : decode cX9_right 27 = .ok (.invokevirtual 124, 3) := by decide +kernel
theorem dX9_right_30 : decode cX9_right 30 = .ok (.ireturn, 1) := by decide +kernel
theorem dX9_right_31 : decode cX9_right 31 = .ok (.aload_n 0, 1) := by decide +kernel
theorem dX9_right_32 : decode cX9_right 32 = .ok (.getfield 38, 3) := by decide +kernel
theorem dX9_right_35 : decode cX9_right 35 = .ok (.getfield 163, 3) := by decide +kernel
theorem dX9_right_38 : decode cX9_right 38 = .ok (.iload_n 1, 1) := by decide +kernel
theorem dX9_right_39 : decode cX9_right 39 = .ok (.invokestatic 166, 3) := by decide +kernel
theorem dX9_right_42 : decode cX9_right 42 = .ok (.iconst 5, 1) := by decide +kernel
theorem dX9_right_43 : decode cX9_right 43 = .ok (.if_icmp .eq 9, 3) := by decide +kernel
theorem dX9_right_46 : decode cX9_right 46 = .ok (.aload_n 0, 1) := by decide +kernel
theorem dX9_right_47 : decode cX9_right 47 = .ok (.iconst 5, 1) := by decide +kernel
theorem dX9_right_48 : decode cX9_right 48 = .ok (.invokevirtual 124, 3) := by decide +kernel
theorem dX9_right_51 : decode cX9_right 51 = .ok (.ireturn, 1) := by decide +kernel
theorem dX9_right_52 : decode cX9_right 52 = .ok (.aload_n 0, 1) := by decide +kernel
theorem dX9_right_53 : decode cX9_right 53 = .ok (.getfield 38, 3) := by decide +kernel
theorem dX9_right_56 : decode cX9_right 56 = .ok (.iload_n 1, 1) := by decide +kernel
theorem dX9_right_57 : decode cX9_right 57 = .ok (.invokevirtual 170, 3) := by decide +kernel
theorem dX9_right_60 : decode cX9_right 60 = .ok (.aload_n 0, 1) := by decide +kernel
theorem dX9_right_61 : decode cX9_right 61 = .ok (.invokevirtual 129, 3) := by decide +kernel
theorem dX9_right_64 : decode cX9_right 64 = .ok (.ireturn, 1) := by decide +kernel
def f_X9_right (x1 : Int32) (M : Mm) : Option (Int32 × Mm) :=
  bd (f_X9_isCreeper x1 M) fun v2_2 M2_1 => if v2_2 = 0 then (bd (f_X9_denied (nI 1) M2_1) fun v10_18 M10_17 => gd (zo v10_18) <| some (v10_18, M10_17)) else (bd (f_X3_isOver 20 M2_1) fun v18_4 M18_3 => if v18_4 = 0 then (bd (f_X9_at 23 x1 M18_3) fun v39_6 M39_5 => if v39_6 = (nI 5) then (bv (f_X3_putRight 20 x1 M39_5) fun M57_7 => bd (f_X9_granted  M57_7) fun v61_10 M61_9 => gd (zo v61_10) <| some (v61_10, M61_9)) else (bd (f_X9_denied (nI 5) M39_5) fun v48_12 M48_11 => gd (zo v48_12) <| some (v48_12, M48_11))) else (bd (f_X9_denied (nI 6) M18_3) fun v27_15 M27_14 => gd (zo v27_15) <| some (v27_15, M27_14)))
set_option maxHeartbeats 4000000 in
set_option maxRecDepth 100000 in
theorem s_X9_right {l : Launch} {B : BT} (hA : bA B = false) {d : Nat} {r : Int32} {M' : Mm} {x1 : Int32} {M : Mm}  (h : f_X9_right x1 M = some (r, M')) : Con l B LY (d + 3) yX9_right cX9_right 2 (some .boolean) 0 0 [.ref 0, .int x1] 97 M (PI r M') := by
  refine con_of (by decide) (Nat.le_of_ble_eq_true rfl) ?_
  show GG l B LY (d + 3) yX9_right cX9_right 2 (some .boolean) 0 0 (PI r M') 97 0 0 0 [(0, .ref 0), (1, .int x1)] [] M
  rw [f_X9_right] at h
  refine g_aload_n dX9_right_0 rfl 0 rfl ?_
  refine g_iload_n dX9_right_1 rfl 1 rfl ?_
  obtain ⟨v2_2, M2_1, eM2_1, h⟩ := bd_e h
  refine m_callVi (As := [.int x1]) (st := []) (s_X9_isCreeper (d := d + 2) hA  eM2_1) rfl okX9 ck_X9_isCreeper w_816 rfl (Nat.le_of_ble_eq_true rfl) dX9_right_2 ?_
  refine g_if_ne (tgt := 14) dX9_right_5 (by decide) (fun c19 => ?_) (fun c19 => ?_)
  · replace h := ite_n c19 h
    refine g_aload_n dX9_right_14 rfl 0 rfl ?_
    refine m_geta (k := 2) okX9 rfl rfl (by decide) w_415 rfl dX9_right_15 ?_
    obtain ⟨v18_4, M18_3, eM18_3, h⟩ := bd_e h
    refine m_callVi (As := []) (st := []) (s_X3_isOver (d := d + 2) hA rfl eM18_3) rfl okX3 ck_X3_isOver w_710 rfl (Nat.le_of_ble_eq_true rfl) dX9_right_18 ?_
    refine g_if_eq (tgt := 31) dX9_right_21 (by decide) (fun c16 => ?_) (fun c16 => ?_)
    · replace h := ite_p c16 h
      refine g_aload_n dX9_right_31 rfl 0 rfl ?_
      refine m_geta (k := 2) okX9 rfl rfl (by decide) w_415 rfl dX9_right_32 ?_
      refine m_getr (k := 2) okX3 rfl rfl (by decide) w_266 rfl dX9_right_35 ?_
      refine g_iload_n dX9_right_38 rfl 1 rfl ?_
      obtain ⟨v39_6, M39_5, eM39_5, h⟩ := bd_e h
      refine m_callSi (As := [.ref 23, .int x1]) (st := []) (s_X9_at (d := d + 2) hA (al_of rfl) eM39_5) ck_X9_at w_605 rfl (Nat.le_of_ble_eq_true rfl) dX9_right_39 ?_
      refine g_iconst (v := (nI 5)) dX9_right_42 (by decide) ?_
      refine g_icmp_eq (tgt := 52) dX9_right_43 (by decide) (fun c13 => ?_) (fun c13 => ?_)
      · replace h := ite_p c13 h
        refine g_aload_n dX9_right_52 rfl 0 rfl ?_
        refine m_geta (k := 2) okX9 rfl rfl (by decide) w_415 rfl dX9_right_53 ?_
        refine g_iload_n dX9_right_56 rfl 1 rfl ?_
        obtain ⟨M57_7, eM57_7, h⟩ := bv_e h
        refine m_callVv (As := [.int x1]) (st := []) (s_X3_putRight (d := d + 0) hA rfl eM57_7) rfl okX3 ck_X3_putRight w_828 rfl (Nat.le_of_ble_eq_true rfl) dX9_right_57 ?_
        refine g_aload_n dX9_right_60 rfl 0 rfl ?_
        obtain ⟨v61_10, M61_9, eM61_9, h⟩ := bd_e h
        refine m_callVi (As := []) (st := []) (s_X9_granted (d := d + 2) hA  eM61_9) rfl okX9 ck_X9_granted w_702 rfl (Nat.le_of_ble_eq_true rfl) dX9_right_61 ?_
        obtain ⟨hz, h⟩ := gd_s h
        exact g_zret rfl (nar_zo hz) (pi_of h) dX9_right_64
      · replace h := ite_n c13 h
        refine g_aload_n dX9_right_46 rfl 0 rfl ?_
        refine g_iconst (v := (nI 5)) dX9_right_47 (by decide) ?_
        obtain ⟨v48_12, M48_11, eM48_11, h⟩ := bd_e h
        refine m_callVi (As := [.int (nI 5)]) (st := []) (s_X9_denied (d := d + 2) hA  eM48_11) rfl okX9 ck_X9_denied w_697 rfl (Nat.le_of_ble_eq_true rfl) dX9_right_48 ?_
        obtain ⟨hz, h⟩ := gd_s h
        exact g_zret rfl (nar_zo hz) (pi_of h) dX9_right_51
    · replace h := ite_n c16 h
      refine g_aload_n dX9_right_24 rfl 0 rfl ?_
      refine g_bipush (v := (nI 6)) dX9_right_25 (by decide) ?_
      obtain ⟨v27_15, M27_14, eM27_14, h⟩ := bd_e h
      refine m_callVi (As := [.int (nI 6)]) (st := []) (s_X9_denied (d := d + 2) hA  eM27_14) rfl okX9 ck_X9_denied w_697 rfl (Nat.le_of_ble_eq_true rfl) dX9_right_27 ?_
      obtain ⟨hz, h⟩ := gd_s h
      exact g_zret rfl (nar_zo hz) (pi_of h) dX9_right_30
  · replace h := ite_p c19 h
    refine g_aload_n dX9_right_8 rfl 0 rfl ?_
    refine g_iconst (v := (nI 1)) dX9_right_9 (by decide) ?_
    obtain ⟨v10_18, M10_17, eM10_17, h⟩ := bd_e h
    refine m_callVi (As := [.int (nI 1)]) (st := []) (s_X9_denied (d := d + 2) hA  eM10_17) rfl okX9 ck_X9_denied w_697 rfl (Nat.le_of_ble_eq_true rfl) dX9_right_10 ?_
    obtain ⟨hz, h⟩ := gd_s h
    exact g_zret rfl (nar_zo hz) (pi_of h) dX9_right_13
theorem ck_X9_right : CKV yX9_right cX9_right 2 (some .boolean) 1 := ⟨⟨by decide, by decide, by decide +kernel⟩, w_827, w_72, ⟨w_825, w_826⟩, by decide⟩
theorem dX9_about_0 : decode cX9_about 0 = .ok (.aload_n 0, 1) := by decide +kernel
theorem dX9_about_1 : decode cX9_about 1 = .ok (.iload_n 1, 1) := by decide +kernel
theorem dX9_about_2 : decode cX9_about 2 = .ok (.invokevirtual 146, 3) := by decide +kernel
theorem dX9_about_5 : decode cX9_about 5 = .ok (.ifCond .ne 9, 3) := by decide +kernel
theorem dX9_about_8 : decode cX9_about 8 = .ok (.aload_n 0, 1) := by decide +kernel
theorem dX9_about_9 : decode cX9_about 9 = .ok (.iconst 1, 1) := by decide +kernel
theorem dX9_about_10 : decode cX9_about 10 = .ok (.invokevirtual 82, 3) := by decide +kernel
theorem dX9_about_13 : decode cX9_about 13 = .ok (.ireturn, 1) := by decide +kernel
theorem dX9_about_14 : decode cX9_about 14 = .ok (.iload_n 2, 1) := by decide +kernel
theorem dX9_about_15 : decode cX9_about 15 = .ok (.tableswitch 155 0 5 #[37, 53, 69, 85, 101, 117], 37) := by decide +kernel
theorem dX9_about_52 : decode cX9_about 52 = .ok (.aload_n 0, 1) := by decide +kernel
theorem dX9_about_53 : decode cX9_about 53 = .ok (.aload_n 0, 1) := by decide +kernel
theorem dX9_about_54 : decode cX9_about 54 = .ok (.getfield 38, 3) := by decide +kernel
theorem dX9_about_57 : decode cX9_about 57 = .ok (.getfield 152, 3) := by decide +kernel
theorem dX9_about_60 : decode cX9_about 60 = .ok (.iload_n 1, 1) := by decide +kernel
theorem dX9_about_61 : decode cX9_about 61 = .ok (.invokestatic 166, 3) := by decide +kernel
theorem dX9_about_64 : decode cX9_about 64 = .ok (.invokevirtual 114, 3) := by decide +kernel
theorem dX9_about_67 : decode cX9_about 67 = .ok (.ireturn, 1) := by decide +kernel
theorem dX9_about_68 : decode cX9_about 68 = .ok (.aload_n 0, 1) := by decide +kernel
theorem dX9_about_69 : decode cX9_about 69 = .ok (.aload_n 0, 1) := by decide +kernel
theorem dX9_about_70 : decode cX9_about 70 = .ok (.getfield 38, 3) := by decide +kernel
theorem dX9_about_73 : decode cX9_about 73 = .ok (.getfield 160, 3) := by decide +kernel
theorem dX9_about_76 : decode cX9_about 76 = .ok (.iload_n 1, 1) := by decide +kernel
theorem dX9_about_77 : decode cX9_about 77 = .ok (.invokestatic 166, 3) := by decide +kernel
theorem dX9_about_80 : decode cX9_about 80 = .ok (.invokevirtual 114, 3) := by decide +kernel
theorem dX9_about_83 : decode cX9_about 83 = .ok (.ireturn, 1) := by decide +kernel
theorem dX9_about_84 : decode cX9_about 84 = .ok (.aload_n 0, 1) := by decide +kernel
theorem dX9_about_85 : decode cX9_about 85 = .ok (.aload_n 0, 1) := by decide +kernel
theorem dX9_about_86 : decode cX9_about 86 = .ok (.getfield 38, 3) := by decide +kernel
theorem dX9_about_89 : decode cX9_about 89 = .ok (.getfield 163, 3) := by decide +kernel
theorem dX9_about_92 : decode cX9_about 92 = .ok (.iload_n 1, 1) := by decide +kernel
theorem dX9_about_93 : decode cX9_about 93 = .ok (.invokestatic 166, 3) := by decide +kernel
theorem dX9_about_96 : decode cX9_about 96 = .ok (.invokevirtual 114, 3) := by decide +kernel
theorem dX9_about_99 : decode cX9_about 99 = .ok (.ireturn, 1) := by decide +kernel
theorem dX9_about_100 : decode cX9_about 100 = .ok (.aload_n 0, 1) := by decide +kernel
theorem dX9_about_101 : decode cX9_about 101 = .ok (.aload_n 0, 1) := by decide +kernel
theorem dX9_about_102 : decode cX9_about 102 = .ok (.getfield 38, 3) := by decide +kernel
theorem dX9_about_105 : decode cX9_about 105 = .ok (.getfield 173, 3) := by decide +kernel
theorem dX9_about_108 : decode cX9_about 108 = .ok (.iload_n 1, 1) := by decide +kernel
theorem dX9_about_109 : decode cX9_about 109 = .ok (.invokestatic 166, 3) := by decide +kernel
theorem dX9_about_112 : decode cX9_about 112 = .ok (.invokevirtual 114, 3) := by decide +kernel
theorem dX9_about_115 : decode cX9_about 115 = .ok (.ireturn, 1) := by decide +kernel
theorem dX9_about_116 : decode cX9_about 116 = .ok (.aload_n 0, 1) := by decide +kernel
theorem dX9_about_117 : decode cX9_about 117 = .ok (.aload_n 0, 1) := by decide +kernel
theorem dX9_about_118 : decode cX9_about 118 = .ok (.getfield 38, 3) := by decide +kernel
theorem dX9_about_121 : decode cX9_about 121 = .ok (.getfield 176, 3) := by decide +kernel
theorem dX9_about_124 : decode cX9_about 124 = .ok (.iload_n 1, 1) := by decide +kernel
theorem dX9_about_125 : decode cX9_about 125 = .ok (.invokestatic 166, 3) := by decide +kernel
theorem dX9_about_128 : decode cX9_about 128 = .ok (.invokevirtual 114, 3) := by decide +kernel
theorem dX9_about_131 : decode cX9_about 131 = .ok (.ireturn, 1) := by decide +kernel
theorem dX9_about_132 : decode cX9_about 132 = .ok (.aload_n 0, 1) := by decide +kernel
theorem dX9_about_133 : decode cX9_about 133 = .ok (.aload_n 0, 1) := by decide +kernel
theorem dX9_about_134 : decode cX9_about 134 = .ok (.getfield 38, 3) := by decide +kernel
theorem dX9_about_137 : decode cX9_about 137 = .ok (.invokevirtual 132, 3) := by decide +kernel
theorem dX9_about_140 : decode cX9_about 140 = .ok (.ifCond .ne 25, 3) := by decide +kernel
theorem dX9_about_143 : decode cX9_about 143 = .ok (.aload_n 0, 1) := by decide +kernel
theorem dX9_about_144 : decode cX9_about 144 = .ok (.getfield 10, 3) := by decide +kernel
theorem dX9_about_147 : decode cX9_about 147 = .ok (.iload_n 1, 1) := by decide +kernel
theorem dX9_about_148 : decode cX9_about 148 = .ok (.aload_n 0, 1) := by decide +kernel
theorem dX9_about_149 : decode cX9_about 149 = .ok (.getfield 38, 3) := by decide +kernel
theorem dX9_about_152 : decode cX9_about 152 = .ok (.getfield 179, 3) := by decide +kernel
theorem dX9_about_155 : decode cX9_about 155 = .ok (.invokevirtual 182, 3) := by decide +kernel
theorem dX9_about_158 : decode cX9_about 158 = .ok (.ifCond .eq 7, 3) := by decide +kernel
theorem dX9_about_161 : decode cX9_about 161 = .ok (.iconst 1, 1) := by decide +kernel
theorem dX9_about_162 : decode cX9_about 162 = .ok (.goto 4, 3) := by decide +kernel
theorem dX9_about_165 : decode cX9_about 165 = .ok (.iconst 0, 1) := by decide +kernel
theorem dX9_about_166 : decode cX9_about 166 = .ok (.invokevirtual 114, 3) := by decide +kernel
theorem dX9_about_169 : decode cX9_about 169 = .ok (.ireturn, 1) := by decide +kernel
theorem dX9_about_170 : decode cX9_about 170 = .ok (.aload_n 0, 1) := by decide +kernel
theorem dX9_about_171 : decode cX9_about 171 = .ok (.iconst 1, 1) := by decide +kernel
theorem dX9_about_172 : decode cX9_about 172 = .ok (.invokevirtual 82, 3) := by decide +kernel
theorem dX9_about_175 : decode cX9_about 175 = .ok (.ireturn, 1) := by decide +kernel
def f_X9_about (x1 : Int32) (x2 : Int32) (M : Mm) : Option (Int32 × Mm) :=
  bd (f_X9_isCreeper x1 M) fun v2_2 M2_1 => if v2_2 = 0 then (bd (f_X9_refused (nI 1) M2_1) fun v10_46 M10_45 => some (v10_46, M10_45)) else (if x2 = (nI 0) then (bd (f_X9_at 21 x1 M2_1) fun v61_5 M61_4 => bd (f_X9_well v61_5 M61_4) fun v64_7 M64_6 => some (v64_7, M64_6)) else (if x2 = (nI 1) then (bd (f_X9_at 22 x1 M2_1) fun v77_10 M77_9 => bd (f_X9_well v77_10 M77_9) fun v80_12 M80_11 => some (v80_12, M80_11)) else (if x2 = (nI 2) then (bd (f_X9_at 23 x1 M2_1) fun v93_15 M93_14 => bd (f_X9_well v93_15 M93_14) fun v96_17 M96_16 => some (v96_17, M96_16)) else (if x2 = (nI 3) then (bd (f_X9_at 24 x1 M2_1) fun v109_20 M109_19 => bd (f_X9_well v109_20 M109_19) fun v112_22 M112_21 => some (v112_22, M112_21)) else (if x2 = (nI 4) then (bd (f_X9_at 25 x1 M2_1) fun v125_25 M125_24 => bd (f_X9_well v125_25 M125_24) fun v128_27 M128_26 => some (v128_27, M128_26)) else (if x2 = (nI 5) then (bd (f_X3_isOver 20 M2_1) fun v137_30 M137_29 => jn (fun (s31 : Int32) (M32 : Mm) => bd (f_X9_well s31 M32) fun v166_35 M166_34 => some (v166_35, M166_34)) fun j33 => jn (fun (M36 : Mm) => j33 (nI 0) M36) fun j37 => if v137_30 = 0 then (bg (M137_29 0 8) fun g38 => bd (f_X0_goes g38 x1 (M137_29 20 10) M137_29) fun v155_40 M155_39 => if v155_40 = 0 then (j37  M155_39) else (j33 (nI 1) M155_39)) else (j37  M137_29)) else (bd (f_X9_refused (nI 1) M2_1) fun v172_44 M172_43 => some (v172_44, M172_43))))))))
set_option maxHeartbeats 4000000 in
set_option maxRecDepth 100000 in
theorem s_X9_about {l : Launch} {B : BT} (hA : bA B = false) {d : Nat} {r : Int32} {M' : Mm} {x1 : Int32} {x2 : Int32} {M : Mm}  (h : f_X9_about x1 x2 M = some (r, M')) : Con l B LY (d + 3) yX9_about cX9_about 3 (some .int) 0 0 [.ref 0, .int x1, .int x2] 97 M (PI r M') := by
  refine con_of (by decide) (Nat.le_of_ble_eq_true rfl) ?_
  show GG l B LY (d + 3) yX9_about cX9_about 3 (some .int) 0 0 (PI r M') 97 0 0 0 [(0, .ref 0), (1, .int x1), (2, .int x2)] [] M
  rw [f_X9_about] at h
  refine g_aload_n dX9_about_0 rfl 0 rfl ?_
  refine g_iload_n dX9_about_1 rfl 1 rfl ?_
  obtain ⟨v2_2, M2_1, eM2_1, h⟩ := bd_e h
  refine m_callVi (As := [.int x1]) (st := []) (s_X9_isCreeper (d := d + 2) hA  eM2_1) rfl okX9 ck_X9_isCreeper w_816 rfl (Nat.le_of_ble_eq_true rfl) dX9_about_2 ?_
  refine g_if_ne (tgt := 14) dX9_about_5 (by decide) (fun c47 => ?_) (fun c47 => ?_)
  · replace h := ite_n c47 h
    refine g_iload_n dX9_about_14 rfl 2 rfl ?_
    by_cases c3 : x2 = (nI 0)
    · replace h := ite_p c3 h
      refine g_tabIn (tgt := 52) dX9_about_15 (by rw [c3]; decide) (by rw [c3]; decide) (off := 37) (by rw [c3]; rfl) (by decide) ?_
      refine g_aload_n dX9_about_52 rfl 0 rfl ?_
      refine g_aload_n dX9_about_53 rfl 0 rfl ?_
      refine m_geta (k := 2) okX9 rfl rfl (by decide) w_415 rfl dX9_about_54 ?_
      refine m_getr (k := 0) okX3 rfl rfl (by decide) w_261 rfl dX9_about_57 ?_
      refine g_iload_n dX9_about_60 rfl 1 rfl ?_
      obtain ⟨v61_5, M61_4, eM61_4, h⟩ := bd_e h
      refine m_callSi (As := [.ref 21, .int x1]) (st := [.ref 0]) (s_X9_at (d := d + 2) hA (al_of rfl) eM61_4) ck_X9_at w_605 rfl (Nat.le_of_ble_eq_true rfl) dX9_about_61 ?_
      obtain ⟨v64_7, M64_6, eM64_6, h⟩ := bd_e h
      refine m_callVi (As := [.int v61_5]) (st := []) (s_X9_well (d := d + 2) hA  eM64_6) rfl okX9 ck_X9_well w_677 rfl (Nat.le_of_ble_eq_true rfl) dX9_about_64 ?_
      exact g_zret rfl rfl (pi_of h) dX9_about_67
    replace h := ite_n c3 h
    by_cases c8 : x2 = (nI 1)
    · replace h := ite_p c8 h
      refine g_tabIn (tgt := 68) dX9_about_15 (by rw [c8]; decide) (by rw [c8]; decide) (off := 53) (by rw [c8]; rfl) (by decide) ?_
      refine g_aload_n dX9_about_68 rfl 0 rfl ?_
      refine g_aload_n dX9_about_69 rfl 0 rfl ?_
      refine m_geta (k := 2) okX9 rfl rfl (by decide) w_415 rfl dX9_about_70 ?_
      refine m_getr (k := 1) okX3 rfl rfl (by decide) w_264 rfl dX9_about_73 ?_
      refine g_iload_n dX9_about_76 rfl 1 rfl ?_
      obtain ⟨v77_10, M77_9, eM77_9, h⟩ := bd_e h
      refine m_callSi (As := [.ref 22, .int x1]) (st := [.ref 0]) (s_X9_at (d := d + 2) hA (al_of rfl) eM77_9) ck_X9_at w_605 rfl (Nat.le_of_ble_eq_true rfl) dX9_about_77 ?_
      obtain ⟨v80_12, M80_11, eM80_11, h⟩ := bd_e h
      refine m_callVi (As := [.int v77_10]) (st := []) (s_X9_well (d := d + 2) hA  eM80_11) rfl okX9 ck_X9_well w_677 rfl (Nat.le_of_ble_eq_true rfl) dX9_about_80 ?_
      exact g_zret rfl rfl (pi_of h) dX9_about_83
    replace h := ite_n c8 h
    by_cases c13 : x2 = (nI 2)
    · replace h := ite_p c13 h
      refine g_tabIn (tgt := 84) dX9_about_15 (by rw [c13]; decide) (by rw [c13]; decide) (off := 69) (by rw [c13]; rfl) (by decide) ?_
      refine g_aload_n dX9_about_84 rfl 0 rfl ?_
      refine g_aload_n dX9_about_85 rfl 0 rfl ?_
      refine m_geta (k := 2) okX9 rfl rfl (by decide) w_415 rfl dX9_about_86 ?_
      refine m_getr (k := 2) okX3 rfl rfl (by decide) w_266 rfl dX9_about_89 ?_
      refine g_iload_n dX9_about_92 rfl 1 rfl ?_
      obtain ⟨v93_15, M93_14, eM93_14, h⟩ := bd_e h
      refine m_callSi (As := [.ref 23, .int x1]) (st := [.ref 0]) (s_X9_at (d := d + 2) hA (al_of rfl) eM93_14) ck_X9_at w_605 rfl (Nat.le_of_ble_eq_true rfl) dX9_about_93 ?_
      obtain ⟨v96_17, M96_16, eM96_16, h⟩ := bd_e h
      refine m_callVi (As := [.int v93_15]) (st := []) (s_X9_well (d := d + 2) hA  eM96_16) rfl okX9 ck_X9_well w_677 rfl (Nat.le_of_ble_eq_true rfl) dX9_about_96 ?_
      exact g_zret rfl rfl (pi_of h) dX9_about_99
    replace h := ite_n c13 h
    by_cases c18 : x2 = (nI 3)
    · replace h := ite_p c18 h
      refine g_tabIn (tgt := 100) dX9_about_15 (by rw [c18]; decide) (by rw [c18]; decide) (off := 85) (by rw [c18]; rfl) (by decide) ?_
      refine g_aload_n dX9_about_100 rfl 0 rfl ?_
      refine g_aload_n dX9_about_101 rfl 0 rfl ?_
      refine m_geta (k := 2) okX9 rfl rfl (by decide) w_415 rfl dX9_about_102 ?_
      refine m_getr (k := 3) okX3 rfl rfl (by decide) w_269 rfl dX9_about_105 ?_
      refine g_iload_n dX9_about_108 rfl 1 rfl ?_
      obtain ⟨v109_20, M109_19, eM109_19, h⟩ := bd_e h
      refine m_callSi (As := [.ref 24, .int x1]) (st := [.ref 0]) (s_X9_at (d := d + 2) hA (al_of rfl) eM109_19) ck_X9_at w_605 rfl (Nat.le_of_ble_eq_true rfl) dX9_about_109 ?_
      obtain ⟨v112_22, M112_21, eM112_21, h⟩ := bd_e h
      refine m_callVi (As := [.int v109_20]) (st := []) (s_X9_well (d := d + 2) hA  eM112_21) rfl okX9 ck_X9_well w_677 rfl (Nat.le_of_ble_eq_true rfl) dX9_about_112 ?_
      exact g_zret rfl rfl (pi_of h) dX9_about_115
    replace h := ite_n c18 h
    by_cases c23 : x2 = (nI 4)
    · replace h := ite_p c23 h
      refine g_tabIn (tgt := 116) dX9_about_15 (by rw [c23]; decide) (by rw [c23]; decide) (off := 101) (by rw [c23]; rfl) (by decide) ?_
      refine g_aload_n dX9_about_116 rfl 0 rfl ?_
      refine g_aload_n dX9_about_117 rfl 0 rfl ?_
      refine m_geta (k := 2) okX9 rfl rfl (by decide) w_415 rfl dX9_about_118 ?_
      refine m_getr (k := 4) okX3 rfl rfl (by decide) w_272 rfl dX9_about_121 ?_
      refine g_iload_n dX9_about_124 rfl 1 rfl ?_
      obtain ⟨v125_25, M125_24, eM125_24, h⟩ := bd_e h
      refine m_callSi (As := [.ref 25, .int x1]) (st := [.ref 0]) (s_X9_at (d := d + 2) hA (al_of rfl) eM125_24) ck_X9_at w_605 rfl (Nat.le_of_ble_eq_true rfl) dX9_about_125 ?_
      obtain ⟨v128_27, M128_26, eM128_26, h⟩ := bd_e h
      refine m_callVi (As := [.int v125_25]) (st := []) (s_X9_well (d := d + 2) hA  eM128_26) rfl okX9 ck_X9_well w_677 rfl (Nat.le_of_ble_eq_true rfl) dX9_about_128 ?_
      exact g_zret rfl rfl (pi_of h) dX9_about_131
    replace h := ite_n c23 h
    by_cases c28 : x2 = (nI 5)
    · replace h := ite_p c28 h
      refine g_tabIn (tgt := 132) dX9_about_15 (by rw [c28]; decide) (by rw [c28]; decide) (off := 117) (by rw [c28]; rfl) (by decide) ?_
      refine g_aload_n dX9_about_132 rfl 0 rfl ?_
      refine g_aload_n dX9_about_133 rfl 0 rfl ?_
      refine m_geta (k := 2) okX9 rfl rfl (by decide) w_415 rfl dX9_about_134 ?_
      obtain ⟨v137_30, M137_29, eM137_29, h⟩ := bd_e h
      refine m_callVi (As := []) (st := [.ref 0]) (s_X3_isOver (d := d + 2) hA rfl eM137_29) rfl okX3 ck_X3_isOver w_710 rfl (Nat.le_of_ble_eq_true rfl) dX9_about_137 ?_
      obtain ⟨j33, ej33, h⟩ := jn_e h
      have hj33 : ∀ (s31 : Int32) (M32 : Mm), j33 s31 M32 = some (r, M') → GG l B LY (d + 3) yX9_about cX9_about 3 (some .int) 0 0 (PI r M') 97 0 0 166 [] [.int s31, .ref 0] M32 := by
        intro s31 M32 h
        rw [ej33] at h
        obtain ⟨v166_35, M166_34, eM166_34, h⟩ := bd_e h
        refine m_callVi (As := [.int s31]) (st := []) (s_X9_well (d := d + 2) hA  eM166_34) rfl okX9 ck_X9_well w_677 rfl (Nat.le_of_ble_eq_true rfl) dX9_about_166 ?_
        exact g_zret rfl rfl (pi_of h) dX9_about_169
      obtain ⟨j37, ej37, h⟩ := jn_e h
      have hj37 : ∀ (M36 : Mm), j37 M36 = some (r, M') → GG l B LY (d + 3) yX9_about cX9_about 3 (some .int) 0 0 (PI r M') 97 0 0 165 [] [.ref 0] M36 := by
        intro M36 h
        rw [ej37] at h
        refine g_iconst (v := (nI 0)) dX9_about_165 (by decide) ?_
        refine g_sub [] (lv' := []) rfl ?_
        exact hj33 _ _ h
      refine g_if_ne (tgt := 165) dX9_about_140 (by decide) (fun c42 => ?_) (fun c42 => ?_)
      · replace h := ite_n c42 h
        refine g_sub [] (lv' := []) rfl ?_
        exact hj37  _ h
      · replace h := ite_p c42 h
        refine g_aload_n dX9_about_143 rfl 0 rfl ?_
        obtain ⟨g38, eg38, hg38, h⟩ := bg_e h
        refine m_getm (k := 8) okX9 rfl rfl (by decide) w_421 rfl dX9_about_144 eg38 hg38 ?_
        refine g_iload_n dX9_about_147 rfl 1 rfl ?_
        refine g_aload_n dX9_about_148 rfl 0 rfl ?_
        refine m_geta (k := 2) okX9 rfl rfl (by decide) w_415 rfl dX9_about_149 ?_
        refine m_geti (k := 10) okX3 rfl rfl (by decide) w_281 rfl dX9_about_152 ?_
        obtain ⟨v155_40, M155_39, eM155_39, h⟩ := bd_e h
        refine m_callVi (As := [.int x1, .int (M137_29 20 10)]) (st := [.ref 0]) (s_X0_goes (d := d + 0) hA hg38 eM155_39) hg38 okX0 ck_X0_goes w_836 rfl (Nat.le_of_ble_eq_true rfl) dX9_about_155 ?_
        refine g_if_eq (tgt := 165) dX9_about_158 (by decide) (fun c41 => ?_) (fun c41 => ?_)
        · replace h := ite_p c41 h
          refine g_sub [] (lv' := []) rfl ?_
          exact hj37  _ h
        · replace h := ite_n c41 h
          refine g_iconst (v := (nI 1)) dX9_about_161 (by decide) ?_
          refine g_goto (tgt := 166) dX9_about_162 (by decide) ?_
          refine g_sub [] (lv' := []) rfl ?_
          exact hj33 _ _ h
    replace h := ite_n c28 h
    have tc3 : x2.toInt ≠ 0 := fun e => c3 (Int32.toInt_inj.mp (e.trans (by decide)))
    have tc8 : x2.toInt ≠ 1 := fun e => c8 (Int32.toInt_inj.mp (e.trans (by decide)))
    have tc13 : x2.toInt ≠ 2 := fun e => c13 (Int32.toInt_inj.mp (e.trans (by decide)))
    have tc18 : x2.toInt ≠ 3 := fun e => c18 (Int32.toInt_inj.mp (e.trans (by decide)))
    have tc23 : x2.toInt ≠ 4 := fun e => c23 (Int32.toInt_inj.mp (e.trans (by decide)))
    have tc28 : x2.toInt ≠ 5 := fun e => c28 (Int32.toInt_inj.mp (e.trans (by decide)))
    refine g_tabOut (tgt := 170) dX9_about_15 (by omega) (by decide) ?_
    refine g_aload_n dX9_about_170 rfl 0 rfl ?_
    refine g_iconst (v := (nI 1)) dX9_about_171 (by decide) ?_
    obtain ⟨v172_44, M172_43, eM172_43, h⟩ := bd_e h
    refine m_callVi (As := [.int (nI 1)]) (st := []) (s_X9_refused (d := d + 2) hA  eM172_43) rfl okX9 ck_X9_refused w_468 rfl (Nat.le_of_ble_eq_true rfl) dX9_about_172 ?_
    exact g_zret rfl rfl (pi_of h) dX9_about_175
  · replace h := ite_p c47 h
    refine g_aload_n dX9_about_8 rfl 0 rfl ?_
    refine g_iconst (v := (nI 1)) dX9_about_9 (by decide) ?_
    obtain ⟨v10_46, M10_45, eM10_45, h⟩ := bd_e h
    refine m_callVi (As := [.int (nI 1)]) (st := []) (s_X9_refused (d := d + 2) hA  eM10_45) rfl okX9 ck_X9_refused w_468 rfl (Nat.le_of_ble_eq_true rfl) dX9_about_10 ?_
    exact g_zret rfl rfl (pi_of h) dX9_about_13
theorem ck_X9_about : CKV yX9_about cX9_about 3 (some .int) 2 := ⟨⟨by decide, by decide, by decide +kernel⟩, w_835, w_72, ⟨w_833, w_834⟩, by decide⟩
theorem dX9_play_0 : decode cX9_play 0 = .ok (.aload_n 0, 1) := by decide +kernel
theorem dX9_play_1 : decode cX9_play 1 = .ok (.invokevirtual 120, 3) := by decide +kernel
theorem dX9_play_4 : decode cX9_play 4 = .ok (.ifCond .ne 9, 3) := by decide +kernel
theorem dX9_play_7 : decode cX9_play 7 = .ok (.aload_n 0, 1) := by decide +kernel
theorem dX9_play_8 : decode cX9_play 8 = .ok (.iconst 1, 1) := by decide +kernel
theorem dX9_play_9 : decode cX9_play 9 = .ok (.invokevirtual 82, 3) := by decide +kernel
theorem dX9_play_12 : decode cX9_play 12 = .ok (.ireturn, 1) := by decide +kernel
theorem dX9_play_13 : decode cX9_play 13 = .ok (.iload_n 1, 1) := by decide +kernel
theorem dX9_play_14 : decode cX9_play 14 = .ok (.tableswitch 158 0 7 #[46, 62, 78, 94, 106, 118, 130, 142], 46) := by decide +kernel
theorem dX9_play_60 : decode cX9_play 60 = .ok (.aload_n 0, 1) := by decide +kernel
theorem dX9_play_61 : decode cX9_play 61 = .ok (.aload_n 0, 1) := by decide +kernel
theorem dX9_play_62 : decode cX9_play 62 = .ok (.getfield 38, 3) := by decide +kernel
theorem dX9_play_65 : decode cX9_play 65 = .ok (.aload_n 0, 1) := by decide +kernel
theorem dX9_play_66 : decode cX9_play 66 = .ok (.getfield 10, 3) := by decide +kernel
theorem dX9_play_69 : decode cX9_play 69 = .ok (.invokevirtual 186, 3) := by decide +kernel
theorem dX9_play_72 : decode cX9_play 72 = .ok (.invokevirtual 114, 3) := by decide +kernel
theorem dX9_play_75 : decode cX9_play 75 = .ok (.ireturn, 1) := by decide +kernel
theorem dX9_play_76 : decode cX9_play 76 = .ok (.aload_n 0, 1) := by decide +kernel
theorem dX9_play_77 : decode cX9_play 77 = .ok (.aload_n 0, 1) := by decide +kernel
theorem dX9_play_78 : decode cX9_play 78 = .ok (.getfield 38, 3) := by decide +kernel
theorem dX9_play_81 : decode cX9_play 81 = .ok (.aload_n 0, 1) := by decide +kernel
theorem dX9_play_82 : decode cX9_play 82 = .ok (.getfield 10, 3) := by decide +kernel
theorem dX9_play_85 : decode cX9_play 85 = .ok (.invokevirtual 190, 3) := by decide +kernel
theorem dX9_play_88 : decode cX9_play 88 = .ok (.invokevirtual 114, 3) := by decide +kernel
theorem dX9_play_91 : decode cX9_play 91 = .ok (.ireturn, 1) := by decide +kernel
theorem dX9_play_92 : decode cX9_play 92 = .ok (.aload_n 0, 1) := by decide +kernel
theorem dX9_play_93 : decode cX9_play 93 = .ok (.aload_n 0, 1) := by decide +kernel
theorem dX9_play_94 : decode cX9_play 94 = .ok (.getfield 38, 3) := by decide +kernel
theorem dX9_play_97 : decode cX9_play 97 = .ok (.aload_n 0, 1) := by decide +kernel
theorem dX9_play_98 : decode cX9_play 98 = .ok (.getfield 10, 3) := by decide +kernel
theorem dX9_play_101 : decode cX9_play 101 = .ok (.invokevirtual 193, 3) := by decide +kernel
theorem dX9_play_104 : decode cX9_play 104 = .ok (.invokevirtual 114, 3) := by decide +kernel
theorem dX9_play_107 : decode cX9_play 107 = .ok (.ireturn, 1) := by decide +kernel
theorem dX9_play_108 : decode cX9_play 108 = .ok (.aload_n 0, 1) := by decide +kernel
theorem dX9_play_109 : decode cX9_play 109 = .ok (.aload_n 0, 1) := by decide +kernel
theorem dX9_play_110 : decode cX9_play 110 = .ok (.getfield 38, 3) := by decide +kernel
theorem dX9_play_113 : decode cX9_play 113 = .ok (.getfield 196, 3) := by decide +kernel
theorem dX9_play_116 : decode cX9_play 116 = .ok (.invokevirtual 114, 3) := by decide +kernel
theorem dX9_play_119 : decode cX9_play 119 = .ok (.ireturn, 1) := by decide +kernel
theorem dX9_play_120 : decode cX9_play 120 = .ok (.aload_n 0, 1) := by decide +kernel
theorem dX9_play_121 : decode cX9_play 121 = .ok (.aload_n 0, 1) := by decide +kernel
theorem dX9_play_122 : decode cX9_play 122 = .ok (.getfield 38, 3) := by decide +kernel
theorem dX9_play_125 : decode cX9_play 125 = .ok (.getfield 199, 3) := by decide +kernel
theorem dX9_play_128 : decode cX9_play 128 = .ok (.invokevirtual 114, 3) := by decide +kernel
theorem dX9_play_131 : decode cX9_play 131 = .ok (.ireturn, 1) := by decide +kernel
theorem dX9_play_132 : decode cX9_play 132 = .ok (.aload_n 0, 1) := by decide +kernel
theorem dX9_play_133 : decode cX9_play 133 = .ok (.aload_n 0, 1) := by decide +kernel
theorem dX9_play_134 : decode cX9_play 134 = .ok (.getfield 38, 3) := by decide +kernel
theorem dX9_play_137 : decode cX9_play 137 = .ok (.getfield 202, 3) := by decide +kernel
theorem dX9_play_140 : decode cX9_play 140 = .ok (.invokevirtual 114, 3) := by decide +kernel
theorem dX9_play_143 : decode cX9_play 143 = .ok (.ireturn, 1) := by decide +kernel
theorem dX9_play_144 : decode cX9_play 144 = .ok (.aload_n 0, 1) := by decide +kernel
theorem dX9_play_145 : decode cX9_play 145 = .ok (.aload_n 0, 1) := by decide +kernel
theorem dX9_play_146 : decode cX9_play 146 = .ok (.getfield 38, 3) := by decide +kernel
theorem dX9_play_149 : decode cX9_play 149 = .ok (.getfield 205, 3) := by decide +kernel
theorem dX9_play_152 : decode cX9_play 152 = .ok (.invokevirtual 114, 3) := by decide +kernel
theorem dX9_play_155 : decode cX9_play 155 = .ok (.ireturn, 1) := by decide +kernel
theorem dX9_play_156 : decode cX9_play 156 = .ok (.aload_n 0, 1) := by decide +kernel
theorem dX9_play_157 : decode cX9_play 157 = .ok (.aload_n 0, 1) := by decide +kernel
theorem dX9_play_158 : decode cX9_play 158 = .ok (.getfield 38, 3) := by decide +kernel
theorem dX9_play_161 : decode cX9_play 161 = .ok (.aload_n 0, 1) := by decide +kernel
theorem dX9_play_162 : decode cX9_play 162 = .ok (.getfield 10, 3) := by decide +kernel
theorem dX9_play_165 : decode cX9_play 165 = .ok (.invokevirtual 208, 3) := by decide +kernel
theorem dX9_play_168 : decode cX9_play 168 = .ok (.invokevirtual 114, 3) := by decide +kernel
theorem dX9_play_171 : decode cX9_play 171 = .ok (.ireturn, 1) := by decide +kernel
theorem dX9_play_172 : decode cX9_play 172 = .ok (.aload_n 0, 1) := by decide +kernel
theorem dX9_play_173 : decode cX9_play 173 = .ok (.iconst 1, 1) := by decide +kernel
theorem dX9_play_174 : decode cX9_play 174 = .ok (.invokevirtual 82, 3) := by decide +kernel
theorem dX9_play_177 : decode cX9_play 177 = .ok (.ireturn, 1) := by decide +kernel
def f_X9_play (x1 : Int32) (M : Mm) : Option (Int32 × Mm) :=
  bd (f_X9_hasGame  M) fun v1_2 M1_1 => if v1_2 = 0 then (bd (f_X9_refused (nI 1) M1_1) fun v9_42 M9_41 => some (v9_42, M9_41)) else (if x1 = (nI 0) then (bg (M1_1 0 8) fun g4 => bd (f_X3_partSaid 20 g4 M1_1) fun v69_6 M69_5 => bd (f_X9_well v69_6 M69_5) fun v72_8 M72_7 => some (v72_8, M72_7)) else (if x1 = (nI 1) then (bg (M1_1 0 8) fun g10 => bd (f_X3_syllableSaid 20 g10 M1_1) fun v85_12 M85_11 => bd (f_X9_well v85_12 M85_11) fun v88_14 M88_13 => some (v88_14, M88_13)) else (if x1 = (nI 2) then (bg (M1_1 0 8) fun g16 => bd (f_X3_tenthsOfSyllable 20 g16 M1_1) fun v101_18 M101_17 => bd (f_X9_well v101_18 M101_17) fun v104_20 M104_19 => some (v104_20, M104_19)) else (if x1 = (nI 3) then (bd (f_X9_well (M1_1 20 11) M1_1) fun v116_23 M116_22 => some (v116_23, M116_22)) else (if x1 = (nI 4) then (bd (f_X9_well (M1_1 20 12) M1_1) fun v128_26 M128_25 => some (v128_26, M128_25)) else (if x1 = (nI 5) then (bd (f_X9_well (M1_1 20 13) M1_1) fun v140_29 M140_28 => some (v140_29, M140_28)) else (if x1 = (nI 6) then (bd (f_X9_well (M1_1 20 14) M1_1) fun v152_32 M152_31 => some (v152_32, M152_31)) else (if x1 = (nI 7) then (bg (M1_1 0 8) fun g34 => bd (f_X3_caughtBits 20 g34 M1_1) fun v165_36 M165_35 => bd (f_X9_well v165_36 M165_35) fun v168_38 M168_37 => some (v168_38, M168_37)) else (bd (f_X9_refused (nI 1) M1_1) fun v174_40 M174_39 => some (v174_40, M174_39))))))))))
set_option maxHeartbeats 4000000 in
set_option maxRecDepth 100000 in
theorem s_X9_play {l : Launch} {B : BT} (hA : bA B = false) {d : Nat} {r : Int32} {M' : Mm} {x1 : Int32} {M : Mm}  (h : f_X9_play x1 M = some (r, M')) : Con l B LY (d + 5) yX9_play cX9_play 2 (some .int) 0 0 [.ref 0, .int x1] 97 M (PI r M') := by
  refine con_of (by decide) (Nat.le_of_ble_eq_true rfl) ?_
  show GG l B LY (d + 5) yX9_play cX9_play 2 (some .int) 0 0 (PI r M') 97 0 0 0 [(0, .ref 0), (1, .int x1)] [] M
  rw [f_X9_play] at h
  refine g_aload_n dX9_play_0 rfl 0 rfl ?_
  obtain ⟨v1_2, M1_1, eM1_1, h⟩ := bd_e h
  refine m_callVi (As := []) (st := []) (s_X9_hasGame (d := d + 4) hA  eM1_1) rfl okX9 ck_X9_hasGame w_693 rfl (Nat.le_of_ble_eq_true rfl) dX9_play_1 ?_
  refine g_if_ne (tgt := 13) dX9_play_4 (by decide) (fun c43 => ?_) (fun c43 => ?_)
  · replace h := ite_n c43 h
    refine g_iload_n dX9_play_13 rfl 1 rfl ?_
    by_cases c3 : x1 = (nI 0)
    · replace h := ite_p c3 h
      refine g_tabIn (tgt := 60) dX9_play_14 (by rw [c3]; decide) (by rw [c3]; decide) (off := 46) (by rw [c3]; rfl) (by decide) ?_
      refine g_aload_n dX9_play_60 rfl 0 rfl ?_
      refine g_aload_n dX9_play_61 rfl 0 rfl ?_
      refine m_geta (k := 2) okX9 rfl rfl (by decide) w_415 rfl dX9_play_62 ?_
      refine g_aload_n dX9_play_65 rfl 0 rfl ?_
      obtain ⟨g4, eg4, hg4, h⟩ := bg_e h
      refine m_getm (k := 8) okX9 rfl rfl (by decide) w_421 rfl dX9_play_66 eg4 hg4 ?_
      obtain ⟨v69_6, M69_5, eM69_5, h⟩ := bd_e h
      refine m_callVi (As := [.ref g4]) (st := [.ref 0]) (s_X3_partSaid (d := d + 2) hA rfl hg4 eM69_5) rfl okX3 ck_X3_partSaid w_841 rfl (Nat.le_of_ble_eq_true rfl) dX9_play_69 ?_
      obtain ⟨v72_8, M72_7, eM72_7, h⟩ := bd_e h
      refine m_callVi (As := [.int v69_6]) (st := []) (s_X9_well (d := d + 4) hA  eM72_7) rfl okX9 ck_X9_well w_677 rfl (Nat.le_of_ble_eq_true rfl) dX9_play_72 ?_
      exact g_zret rfl rfl (pi_of h) dX9_play_75
    replace h := ite_n c3 h
    by_cases c9 : x1 = (nI 1)
    · replace h := ite_p c9 h
      refine g_tabIn (tgt := 76) dX9_play_14 (by rw [c9]; decide) (by rw [c9]; decide) (off := 62) (by rw [c9]; rfl) (by decide) ?_
      refine g_aload_n dX9_play_76 rfl 0 rfl ?_
      refine g_aload_n dX9_play_77 rfl 0 rfl ?_
      refine m_geta (k := 2) okX9 rfl rfl (by decide) w_415 rfl dX9_play_78 ?_
      refine g_aload_n dX9_play_81 rfl 0 rfl ?_
      obtain ⟨g10, eg10, hg10, h⟩ := bg_e h
      refine m_getm (k := 8) okX9 rfl rfl (by decide) w_421 rfl dX9_play_82 eg10 hg10 ?_
      obtain ⟨v85_12, M85_11, eM85_11, h⟩ := bd_e h
      refine m_callVi (As := [.ref g10]) (st := [.ref 0]) (s_X3_syllableSaid (d := d + 1) hA rfl hg10 eM85_11) rfl okX3 ck_X3_syllableSaid w_845 rfl (Nat.le_of_ble_eq_true rfl) dX9_play_85 ?_
      obtain ⟨v88_14, M88_13, eM88_13, h⟩ := bd_e h
      refine m_callVi (As := [.int v85_12]) (st := []) (s_X9_well (d := d + 4) hA  eM88_13) rfl okX9 ck_X9_well w_677 rfl (Nat.le_of_ble_eq_true rfl) dX9_play_88 ?_
      exact g_zret rfl rfl (pi_of h) dX9_play_91
    replace h := ite_n c9 h
    by_cases c15 : x1 = (nI 2)
    · replace h := ite_p c15 h
      refine g_tabIn (tgt := 92) dX9_play_14 (by rw [c15]; decide) (by rw [c15]; decide) (off := 78) (by rw [c15]; rfl) (by decide) ?_
      refine g_aload_n dX9_play_92 rfl 0 rfl ?_
      refine g_aload_n dX9_play_93 rfl 0 rfl ?_
      refine m_geta (k := 2) okX9 rfl rfl (by decide) w_415 rfl dX9_play_94 ?_
      refine g_aload_n dX9_play_97 rfl 0 rfl ?_
      obtain ⟨g16, eg16, hg16, h⟩ := bg_e h
      refine m_getm (k := 8) okX9 rfl rfl (by decide) w_421 rfl dX9_play_98 eg16 hg16 ?_
      obtain ⟨v101_18, M101_17, eM101_17, h⟩ := bd_e h
      refine m_callVi (As := [.ref g16]) (st := [.ref 0]) (s_X3_tenthsOfSyllable (d := d + 0) hA rfl hg16 eM101_17) rfl okX3 ck_X3_tenthsOfSyllable w_854 rfl (Nat.le_of_ble_eq_true rfl) dX9_play_101 ?_
      obtain ⟨v104_20, M104_19, eM104_19, h⟩ := bd_e h
      refine m_callVi (As := [.int v101_18]) (st := []) (s_X9_well (d := d + 4) hA  eM104_19) rfl okX9 ck_X9_well w_677 rfl (Nat.le_of_ble_eq_true rfl) dX9_play_104 ?_
      exact g_zret rfl rfl (pi_of h) dX9_play_107
    replace h := ite_n c15 h
    by_cases c21 : x1 = (nI 3)
    · replace h := ite_p c21 h
      refine g_tabIn (tgt := 108) dX9_play_14 (by rw [c21]; decide) (by rw [c21]; decide) (off := 94) (by rw [c21]; rfl) (by decide) ?_
      refine g_aload_n dX9_play_108 rfl 0 rfl ?_
      refine g_aload_n dX9_play_109 rfl 0 rfl ?_
      refine m_geta (k := 2) okX9 rfl rfl (by decide) w_415 rfl dX9_play_110 ?_
      refine m_geti (k := 11) okX3 rfl rfl (by decide) w_283 rfl dX9_play_113 ?_
      obtain ⟨v116_23, M116_22, eM116_22, h⟩ := bd_e h
      refine m_callVi (As := [.int (M1_1 20 11)]) (st := []) (s_X9_well (d := d + 4) hA  eM116_22) rfl okX9 ck_X9_well w_677 rfl (Nat.le_of_ble_eq_true rfl) dX9_play_116 ?_
      exact g_zret rfl rfl (pi_of h) dX9_play_119
    replace h := ite_n c21 h
    by_cases c24 : x1 = (nI 4)
    · replace h := ite_p c24 h
      refine g_tabIn (tgt := 120) dX9_play_14 (by rw [c24]; decide) (by rw [c24]; decide) (off := 106) (by rw [c24]; rfl) (by decide) ?_
      refine g_aload_n dX9_play_120 rfl 0 rfl ?_
      refine g_aload_n dX9_play_121 rfl 0 rfl ?_
      refine m_geta (k := 2) okX9 rfl rfl (by decide) w_415 rfl dX9_play_122 ?_
      refine m_geti (k := 12) okX3 rfl rfl (by decide) w_285 rfl dX9_play_125 ?_
      obtain ⟨v128_26, M128_25, eM128_25, h⟩ := bd_e h
      refine m_callVi (As := [.int (M1_1 20 12)]) (st := []) (s_X9_well (d := d + 4) hA  eM128_25) rfl okX9 ck_X9_well w_677 rfl (Nat.le_of_ble_eq_true rfl) dX9_play_128 ?_
      exact g_zret rfl rfl (pi_of h) dX9_play_131
    replace h := ite_n c24 h
    by_cases c27 : x1 = (nI 5)
    · replace h := ite_p c27 h
      refine g_tabIn (tgt := 132) dX9_play_14 (by rw [c27]; decide) (by rw [c27]; decide) (off := 118) (by rw [c27]; rfl) (by decide) ?_
      refine g_aload_n dX9_play_132 rfl 0 rfl ?_
      refine g_aload_n dX9_play_133 rfl 0 rfl ?_
      refine m_geta (k := 2) okX9 rfl rfl (by decide) w_415 rfl dX9_play_134 ?_
      refine m_geti (k := 13) okX3 rfl rfl (by decide) w_288 rfl dX9_play_137 ?_
      obtain ⟨v140_29, M140_28, eM140_28, h⟩ := bd_e h
      refine m_callVi (As := [.int (M1_1 20 13)]) (st := []) (s_X9_well (d := d + 4) hA  eM140_28) rfl okX9 ck_X9_well w_677 rfl (Nat.le_of_ble_eq_true rfl) dX9_play_140 ?_
      exact g_zret rfl rfl (pi_of h) dX9_play_143
    replace h := ite_n c27 h
    by_cases c30 : x1 = (nI 6)
    · replace h := ite_p c30 h
      refine g_tabIn (tgt := 144) dX9_play_14 (by rw [c30]; decide) (by rw [c30]; decide) (off := 130) (by rw [c30]; rfl) (by decide) ?_
      refine g_aload_n dX9_play_144 rfl 0 rfl ?_
      refine g_aload_n dX9_play_145 rfl 0 rfl ?_
      refine m_geta (k := 2) okX9 rfl rfl (by decide) w_415 rfl dX9_play_146 ?_
      refine m_geti (k := 14) okX3 rfl rfl (by decide) w_291 rfl dX9_play_149 ?_
      obtain ⟨v152_32, M152_31, eM152_31, h⟩ := bd_e h
      refine m_callVi (As := [.int (M1_1 20 14)]) (st := []) (s_X9_well (d := d + 4) hA  eM152_31) rfl okX9 ck_X9_well w_677 rfl (Nat.le_of_ble_eq_true rfl) dX9_play_152 ?_
      exact g_zret rfl rfl (pi_of h) dX9_play_155
    replace h := ite_n c30 h
    by_cases c33 : x1 = (nI 7)
    · replace h := ite_p c33 h
      refine g_tabIn (tgt := 156) dX9_play_14 (by rw [c33]; decide) (by rw [c33]; decide) (off := 142) (by rw [c33]; rfl) (by decide) ?_
      refine g_aload_n dX9_play_156 rfl 0 rfl ?_
      refine g_aload_n dX9_play_157 rfl 0 rfl ?_
      refine m_geta (k := 2) okX9 rfl rfl (by decide) w_415 rfl dX9_play_158 ?_
      refine g_aload_n dX9_play_161 rfl 0 rfl ?_
      obtain ⟨g34, eg34, hg34, h⟩ := bg_e h
      refine m_getm (k := 8) okX9 rfl rfl (by decide) w_421 rfl dX9_play_162 eg34 hg34 ?_
      obtain ⟨v165_36, M165_35, eM165_35, h⟩ := bd_e h
      refine m_callVi (As := [.ref g34]) (st := [.ref 0]) (s_X3_caughtBits (d := d + 2) hA rfl hg34 eM165_35) rfl okX3 ck_X3_caughtBits w_859 rfl (Nat.le_of_ble_eq_true rfl) dX9_play_165 ?_
      obtain ⟨v168_38, M168_37, eM168_37, h⟩ := bd_e h
      refine m_callVi (As := [.int v165_36]) (st := []) (s_X9_well (d := d + 4) hA  eM168_37) rfl okX9 ck_X9_well w_677 rfl (Nat.le_of_ble_eq_true rfl) dX9_play_168 ?_
      exact g_zret rfl rfl (pi_of h) dX9_play_171
    replace h := ite_n c33 h
    have tc3 : x1.toInt ≠ 0 := fun e => c3 (Int32.toInt_inj.mp (e.trans (by decide)))
    have tc9 : x1.toInt ≠ 1 := fun e => c9 (Int32.toInt_inj.mp (e.trans (by decide)))
    have tc15 : x1.toInt ≠ 2 := fun e => c15 (Int32.toInt_inj.mp (e.trans (by decide)))
    have tc21 : x1.toInt ≠ 3 := fun e => c21 (Int32.toInt_inj.mp (e.trans (by decide)))
    have tc24 : x1.toInt ≠ 4 := fun e => c24 (Int32.toInt_inj.mp (e.trans (by decide)))
    have tc27 : x1.toInt ≠ 5 := fun e => c27 (Int32.toInt_inj.mp (e.trans (by decide)))
    have tc30 : x1.toInt ≠ 6 := fun e => c30 (Int32.toInt_inj.mp (e.trans (by decide)))
    have tc33 : x1.toInt ≠ 7 := fun e => c33 (Int32.toInt_inj.mp (e.trans (by decide)))
    refine g_tabOut (tgt := 172) dX9_play_14 (by omega) (by decide) ?_
    refine g_aload_n dX9_play_172 rfl 0 rfl ?_
    refine g_iconst (v := (nI 1)) dX9_play_173 (by decide) ?_
    obtain ⟨v174_40, M174_39, eM174_39, h⟩ := bd_e h
    refine m_callVi (As := [.int (nI 1)]) (st := []) (s_X9_refused (d := d + 4) hA  eM174_39) rfl okX9 ck_X9_refused w_468 rfl (Nat.le_of_ble_eq_true rfl) dX9_play_174 ?_
    exact g_zret rfl rfl (pi_of h) dX9_play_177
  · replace h := ite_p c43 h
    refine g_aload_n dX9_play_7 rfl 0 rfl ?_
    refine g_iconst (v := (nI 1)) dX9_play_8 (by decide) ?_
    obtain ⟨v9_42, M9_41, eM9_41, h⟩ := bd_e h
    refine m_callVi (As := [.int (nI 1)]) (st := []) (s_X9_refused (d := d + 4) hA  eM9_41) rfl okX9 ck_X9_refused w_468 rfl (Nat.le_of_ble_eq_true rfl) dX9_play_9 ?_
    exact g_zret rfl rfl (pi_of h) dX9_play_12
theorem ck_X9_play : CKV yX9_play cX9_play 2 (some .int) 1 := ⟨⟨by decide, by decide, by decide +kernel⟩, w_840, w_72, ⟨w_838, w_839⟩, by decide⟩
theorem dX9_often_0 : decode cX9_often 0 = .ok (.aload_n 0, 1) := by decide +kernel
theorem dX9_often_1 : decode cX9_often 1 = .ok (.iload_n 1, 1) := by decide +kernel
theorem dX9_often_2 : decode cX9_often 2 = .ok (.invokevirtual 146, 3) := by decide +kernel
theorem dX9_often_5 : decode cX9_often 5 = .ok (.ifCond .ne 9, 3) := by decide +kernel
theorem dX9_often_8 : decode cX9_often 8 = .ok (.aload_n 0, 1) := by decide +kernel
theorem dX9_often_9 : decode cX9_often 9 = .ok (.iconst 1, 1) := by decide +kernel
theorem dX9_often_10 : decode cX9_often 10 = .ok (.invokevirtual 82, 3) := by decide +kernel
theorem dX9_often_13 : decode cX9_often 13 = .ok (.ireturn, 1) := by decide +kernel
theorem dX9_often_14 : decode cX9_often 14 = .ok (.aload_n 0, 1) := by decide +kernel
theorem dX9_often_15 : decode cX9_often 15 = .ok (.getfield 38, 3) := by decide +kernel
theorem dX9_often_18 : decode cX9_often 18 = .ok (.getfield 173, 3) := by decide +kernel
theorem dX9_often_21 : decode cX9_often 21 = .ok (.iload_n 1, 1) := by decide +kernel
theorem dX9_often_22 : decode cX9_often 22 = .ok (.invokestatic 166, 3) := by decide +kernel
theorem dX9_often_25 : decode cX9_often 25 = .ok (.aload_n 0, 1) := by decide +kernel
theorem dX9_often_26 : decode cX9_often 26 = .ok (.getfield 38, 3) := by decide +kernel
theorem dX9_often_29 : decode cX9_often 29 = .ok (.getfield 176, 3) := by decide +kernel
theorem dX9_often_32 : decode cX9_often 32 = .ok (.iload_n 1, 1) := by decide +kernel
theorem dX9_often_33 : decode cX9_often 33 = .ok (.invokestatic 166, 3) := by decide +kernel
theorem dX9_often_36 : decode cX9_often 36 = .ok (.iadd, 1) := by decide +kernel
theorem dX9_often_37 : decode cX9_often 37 = .ok (.istore_n 2, 1) := by decide +kernel
theorem dX9_often_38 : decode cX9_often 38 = .ok (.iload_n 2, 1) := by decide +kernel
theorem dX9_often_39 : decode cX9_often 39 = .ok (.ifCond .ne 10, 3) := by decide +kernel
theorem dX9_often_42 : decode cX9_often 42 = .ok (.aload_n 0, 1) := by decide +kernel
theorem dX9_often_43 : decode cX9_often 43 = .ok (.bipush 6, 2) := by decide +kernel
theorem dX9_often_45 : decode cX9_often 45 = .ok (.invokevirtual 82, 3) := by decide +kernel
theorem dX9_often_48 : decode cX9_often 48 = .ok (.ireturn, 1) := by decide +kernel
theorem dX9_often_49 : decode cX9_often 49 = .ok (.aload_n 0, 1) := by decide +kernel
theorem dX9_often_50 : decode cX9_often 50 = .ok (.aload_n 0, 1) := by decide +kernel
theorem dX9_often_51 : decode cX9_often 51 = .ok (.getfield 38, 3) := by decide +kernel
theorem dX9_often_54 : decode cX9_often 54 = .ok (.getfield 176, 3) := by decide +kernel
theorem dX9_often_57 : decode cX9_often 57 = .ok (.iload_n 1, 1) := by decide +kernel
theorem dX9_often_58 : decode cX9_often 58 = .ok (.invokestatic 166, 3) := by decide +kernel
theorem dX9_often_61 : decode cX9_often 61 = .ok (.bipush 100, 2) := by decide +kernel
theorem dX9_often_63 : decode cX9_often 63 = .ok (.imul, 1) := by decide +kernel
theorem dX9_often_64 : decode cX9_often 64 = .ok (.iload_n 2, 1) := by decide +kernel
theorem dX9_often_65 : decode cX9_often 65 = .ok (.invokestatic 211, 3) := by decide +kernel
theorem dX9_often_68 : decode cX9_often 68 = .ok (.invokevirtual 114, 3) := by decide +kernel
theorem dX9_often_71 : decode cX9_often 71 = .ok (.ireturn, 1) := by decide +kernel
def f_X9_often (x1 : Int32) (M : Mm) : Option (Int32 × Mm) :=
  bd (f_X9_isCreeper x1 M) fun v2_2 M2_1 => if v2_2 = 0 then (bd (f_X9_refused (nI 1) M2_1) fun v10_17 M10_16 => some (v10_17, M10_16)) else (bd (f_X9_at 24 x1 M2_1) fun v22_4 M22_3 => bd (f_X9_at 25 x1 M22_3) fun v33_6 M33_5 => if (v22_4 + v33_6) = 0 then (bd (f_X9_refused (nI 6) M33_5) fun v45_14 M45_13 => some (v45_14, M45_13)) else (bd (f_X9_at 25 x1 M33_5) fun v58_8 M58_7 => bd (f_X9_by (v58_8 * (nI 100)) (v22_4 + v33_6) M58_7) fun v65_10 M65_9 => bd (f_X9_well v65_10 M65_9) fun v68_12 M68_11 => some (v68_12, M68_11)))
set_option maxHeartbeats 4000000 in
set_option maxRecDepth 100000 in
theorem s_X9_often {l : Launch} {B : BT} (hA : bA B = false) {d : Nat} {r : Int32} {M' : Mm} {x1 : Int32} {M : Mm}  (h : f_X9_often x1 M = some (r, M')) : Con l B LY (d + 1) yX9_often cX9_often 3 (some .int) 0 0 [.ref 0, .int x1] 97 M (PI r M') := by
  refine con_of (by decide) (Nat.le_of_ble_eq_true rfl) ?_
  show GG l B LY (d + 1) yX9_often cX9_often 3 (some .int) 0 0 (PI r M') 97 0 0 0 [(0, .ref 0), (1, .int x1)] [] M
  rw [f_X9_often] at h
  refine g_aload_n dX9_often_0 rfl 0 rfl ?_
  refine g_iload_n dX9_often_1 rfl 1 rfl ?_
  obtain ⟨v2_2, M2_1, eM2_1, h⟩ := bd_e h
  refine m_callVi (As := [.int x1]) (st := []) (s_X9_isCreeper (d := d + 0) hA  eM2_1) rfl okX9 ck_X9_isCreeper w_816 rfl (Nat.le_of_ble_eq_true rfl) dX9_often_2 ?_
  refine g_if_ne (tgt := 14) dX9_often_5 (by decide) (fun c18 => ?_) (fun c18 => ?_)
  · replace h := ite_n c18 h
    refine g_aload_n dX9_often_14 rfl 0 rfl ?_
    refine m_geta (k := 2) okX9 rfl rfl (by decide) w_415 rfl dX9_often_15 ?_
    refine m_getr (k := 3) okX3 rfl rfl (by decide) w_269 rfl dX9_often_18 ?_
    refine g_iload_n dX9_often_21 rfl 1 rfl ?_
    obtain ⟨v22_4, M22_3, eM22_3, h⟩ := bd_e h
    refine m_callSi (As := [.ref 24, .int x1]) (st := []) (s_X9_at (d := d + 0) hA (al_of rfl) eM22_3) ck_X9_at w_605 rfl (Nat.le_of_ble_eq_true rfl) dX9_often_22 ?_
    refine g_aload_n dX9_often_25 rfl 0 rfl ?_
    refine m_geta (k := 2) okX9 rfl rfl (by decide) w_415 rfl dX9_often_26 ?_
    refine m_getr (k := 4) okX3 rfl rfl (by decide) w_272 rfl dX9_often_29 ?_
    refine g_iload_n dX9_often_32 rfl 1 rfl ?_
    obtain ⟨v33_6, M33_5, eM33_5, h⟩ := bd_e h
    refine m_callSi (As := [.ref 25, .int x1]) (st := [.int v22_4]) (s_X9_at (d := d + 0) hA (al_of rfl) eM33_5) ck_X9_at w_605 rfl (Nat.le_of_ble_eq_true rfl) dX9_often_33 ?_
    refine g_iadd dX9_often_36 ?_
    refine g_istore_n (lv' := [(2, .int (v22_4 + v33_6)), (0, .ref 0), (1, .int x1)]) dX9_often_37 rfl (by decide) rfl ?_
    refine g_iload_n dX9_often_38 rfl 0 rfl ?_
    refine g_if_ne (tgt := 49) dX9_often_39 (by decide) (fun c15 => ?_) (fun c15 => ?_)
    · replace h := ite_n c15 h
      refine g_aload_n dX9_often_49 rfl 1 rfl ?_
      refine g_aload_n dX9_often_50 rfl 1 rfl ?_
      refine m_geta (k := 2) okX9 rfl rfl (by decide) w_415 rfl dX9_often_51 ?_
      refine m_getr (k := 4) okX3 rfl rfl (by decide) w_272 rfl dX9_often_54 ?_
      refine g_iload_n dX9_often_57 rfl 2 rfl ?_
      obtain ⟨v58_8, M58_7, eM58_7, h⟩ := bd_e h
      refine m_callSi (As := [.ref 25, .int x1]) (st := [.ref 0]) (s_X9_at (d := d + 0) hA (al_of rfl) eM58_7) ck_X9_at w_605 rfl (Nat.le_of_ble_eq_true rfl) dX9_often_58 ?_
      refine g_bipush (v := (nI 100)) dX9_often_61 (by decide) ?_
      refine g_imul dX9_often_63 ?_
      refine g_iload_n dX9_often_64 rfl 0 rfl ?_
      obtain ⟨v65_10, M65_9, eM65_9, h⟩ := bd_e h
      refine m_callSi (As := [.int (v58_8 * (nI 100)), .int (v22_4 + v33_6)]) (st := [.ref 0]) (s_X9_by (d := d + 0) hA  eM65_9) ck_X9_by w_871 rfl (Nat.le_of_ble_eq_true rfl) dX9_often_65 ?_
      obtain ⟨v68_12, M68_11, eM68_11, h⟩ := bd_e h
      refine m_callVi (As := [.int v65_10]) (st := []) (s_X9_well (d := d + 0) hA  eM68_11) rfl okX9 ck_X9_well w_677 rfl (Nat.le_of_ble_eq_true rfl) dX9_often_68 ?_
      exact g_zret rfl rfl (pi_of h) dX9_often_71
    · replace h := ite_p c15 h
      refine g_aload_n dX9_often_42 rfl 1 rfl ?_
      refine g_bipush (v := (nI 6)) dX9_often_43 (by decide) ?_
      obtain ⟨v45_14, M45_13, eM45_13, h⟩ := bd_e h
      refine m_callVi (As := [.int (nI 6)]) (st := []) (s_X9_refused (d := d + 0) hA  eM45_13) rfl okX9 ck_X9_refused w_468 rfl (Nat.le_of_ble_eq_true rfl) dX9_often_45 ?_
      exact g_zret rfl rfl (pi_of h) dX9_often_48
  · replace h := ite_p c18 h
    refine g_aload_n dX9_often_8 rfl 0 rfl ?_
    refine g_iconst (v := (nI 1)) dX9_often_9 (by decide) ?_
    obtain ⟨v10_17, M10_16, eM10_16, h⟩ := bd_e h
    refine m_callVi (As := [.int (nI 1)]) (st := []) (s_X9_refused (d := d + 0) hA  eM10_16) rfl okX9 ck_X9_refused w_468 rfl (Nat.le_of_ble_eq_true rfl) dX9_often_10 ?_
    exact g_zret rfl rfl (pi_of h) dX9_often_13
theorem ck_X9_often : CKV yX9_often cX9_often 3 (some .int) 1 := ⟨⟨by decide, by decide, by decide +kernel⟩, w_870, w_72, ⟨w_868, w_869⟩, by decide⟩
theorem dX9_mark_0 : decode cX9_mark 0 = .ok (.aload_n 0, 1) := by decide +kernel
theorem dX9_mark_1 : decode cX9_mark 1 = .ok (.invokevirtual 120, 3) := by decide +kernel
theorem dX9_mark_4 : decode cX9_mark 4 = .ok (.ifCond .ne 9, 3) := by decide +kernel
theorem dX9_mark_7 : decode cX9_mark 7 = .ok (.aload_n 0, 1) := by decide +kernel
theorem dX9_mark_8 : decode cX9_mark 8 = .ok (.iconst 1, 1) := by decide +kernel
theorem dX9_mark_9 : decode cX9_mark 9 = .ok (.invokevirtual 82, 3) := by decide +kernel
theorem dX9_mark_12 : decode cX9_mark 12 = .ok (.ireturn, 1) := by decide +kernel
theorem dX9_mark_13 : decode cX9_mark 13 = .ok (.aload_n 0, 1) := by decide +kernel
theorem dX9_mark_14 : decode cX9_mark 14 = .ok (.getfield 105, 3) := by decide +kernel
theorem dX9_mark_17 : decode cX9_mark 17 = .ok (.ifCond .lt 15, 3) := by decide +kernel
theorem dX9_mark_20 : decode cX9_mark 20 = .ok (.aload_n 0, 1) := by decide +kernel
theorem dX9_mark_21 : decode cX9_mark 21 = .ok (.getfield 105, 3) := by decide +kernel
theorem dX9_mark_24 : decode cX9_mark 24 = .ok (.aload_n 0, 1) := by decide +kernel
theorem dX9_mark_25 : decode cX9_mark 25 = .ok (.getfield 42, 3) := by decide +kernel
theorem dX9_mark_28 : decode cX9_mark 28 = .ok (.arraylength, 1) := by decide +kernel
theorem dX9_mark_29 : decode cX9_mark 29 = .ok (.if_icmp .lt 9, 3) := by decide +kernel
theorem dX9_mark_32 : decode cX9_mark 32 = .ok (.aload_n 0, 1) := by decide +kernel
theorem dX9_mark_33 : decode cX9_mark 33 = .ok (.iconst 3, 1) := by decide +kernel
theorem dX9_mark_34 : decode cX9_mark 34 = .ok (.invokevirtual 82, 3) := by decide +kernel
theorem dX9_mark_37 : decode cX9_mark 37 = .ok (.ireturn, 1) := by decide +kernel
theorem dX9_mark_38 : decode cX9_mark 38 = .ok (.aload_n 0, 1) := by decide +kernel
theorem dX9_mark_39 : decode cX9_mark 39 = .ok (.getfield 42, 3) := by decide +kernel
theorem dX9_mark_42 : decode cX9_mark 42 = .ok (.aload_n 0, 1) := by decide +kernel
theorem dX9_mark_43 : decode cX9_mark 43 = .ok (.getfield 105, 3) := by decide +kernel
theorem dX9_mark_46 : decode cX9_mark 46 = .ok (.aaload, 1) := by decide +kernel
theorem dX9_mark_47 : decode cX9_mark 47 = .ok (.astore_n 1, 1) := by decide +kernel
theorem dX9_mark_48 : decode cX9_mark 48 = .ok (.aload_n 1, 1) := by decide +kernel
theorem dX9_mark_49 : decode cX9_mark 49 = .ok (.ifnull 11, 3) := by decide +kernel
theorem dX9_mark_52 : decode cX9_mark 52 = .ok (.aload_n 1, 1) := by decide +kernel
theorem dX9_mark_53 : decode cX9_mark 53 = .ok (.aload_n 0, 1) := by decide +kernel
theorem dX9_mark_54 : decode cX9_mark 54 = .ok (.getfield 38, 3) := by decide +kernel
theorem dX9_mark_57 : decode cX9_mark 57 = .ok (.invokevirtual 215, 3) := by decide +kernel
theorem dX9_mark_60 : decode cX9_mark 60 = .ok (.aload_n 0, 1) := by decide +kernel
theorem dX9_mark_61 : decode cX9_mark 61 = .ok (.dup, 1) := by decide +kernel
theorem dX9_mark_62 : decode cX9_mark 62 = .ok (.getfield 105, 3) := by decide +kernel
theorem dX9_mark_65 : decode cX9_mark 65 = .ok (.iconst 1, 1) := by decide +kernel
theorem dX9_mark_66 : decode cX9_mark 66 = .ok (.iadd, 1) := by decide +kernel
theorem dX9_mark_67 : decode cX9_mark 67 = .ok (.putfield 105, 3) := by decide +kernel
theorem dX9_mark_70 : decode cX9_mark 70 = .ok (.aload_n 0, 1) := by decide +kernel
theorem dX9_mark_71 : decode cX9_mark 71 = .ok (.aload_n 0, 1) := by decide +kernel
theorem dX9_mark_72 : decode cX9_mark 72 = .ok (.getfield 105, 3) := by decide +kernel
theorem dX9_mark_75 : decode cX9_mark 75 = .ok (.iconst 1, 1) := by decide +kernel
theorem dX9_mark_76 : decode cX9_mark 76 = .ok (.isub, 1) := by decide +kernel
theorem dX9_mark_77 : decode cX9_mark 77 = .ok (.invokevirtual 114, 3) := by decide +kernel
theorem dX9_mark_80 : decode cX9_mark 80 = .ok (.ireturn, 1) := by decide +kernel
def f_X9_mark  (M : Mm) : Option (Int32 × Mm) :=
  bd (f_X9_hasGame  M) fun v1_2 M1_1 => if v1_2 = 0 then (bd (f_X9_refused (nI 1) M1_1) fun v9_15 M9_14 => some (v9_15, M9_14)) else (jn (fun (M3 : Mm) => bd (f_X9_refused (nI 3) M3) fun v34_6 M34_5 => some (v34_6, M34_5)) fun j4 => if (M1_1 0 10) < 0 then (j4  M1_1) else (if (M1_1 0 10) < (nI 3) then (gd (inb (M1_1 0 10) 3) <| bp (30 + 1 + 10 * (M1_1 0 10).toNatClampNeg) fun g7 => bv (f_X3_become g7 20 M1_1) fun M57_8 => bd (f_X9_well (((mset M57_8 0 10 ((M57_8 0 10) + (nI 1))) 0 10) - (nI 1)) (mset M57_8 0 10 ((M57_8 0 10) + (nI 1)))) fun v77_11 M77_10 => some (v77_11, M77_10)) else (j4  M1_1)))
set_option maxHeartbeats 4000000 in
set_option maxRecDepth 100000 in
theorem s_X9_mark {l : Launch} {B : BT} (hA : bA B = false) {d : Nat} {r : Int32} {M' : Mm}  {M : Mm}  (h : f_X9_mark  M = some (r, M')) : Con l B LY (d + 3) yX9_mark cX9_mark 2 (some .int) 0 0 [.ref 0] 97 M (PI r M') := by
  refine con_of (by decide) (Nat.le_of_ble_eq_true rfl) ?_
  show GG l B LY (d + 3) yX9_mark cX9_mark 2 (some .int) 0 0 (PI r M') 97 0 0 0 [(0, .ref 0)] [] M
  rw [f_X9_mark] at h
  refine g_aload_n dX9_mark_0 rfl 0 rfl ?_
  obtain ⟨v1_2, M1_1, eM1_1, h⟩ := bd_e h
  refine m_callVi (As := []) (st := []) (s_X9_hasGame (d := d + 2) hA  eM1_1) rfl okX9 ck_X9_hasGame w_693 rfl (Nat.le_of_ble_eq_true rfl) dX9_mark_1 ?_
  refine g_if_ne (tgt := 13) dX9_mark_4 (by decide) (fun c16 => ?_) (fun c16 => ?_)
  · replace h := ite_n c16 h
    refine g_aload_n dX9_mark_13 rfl 0 rfl ?_
    refine m_geti (k := 10) okX9 rfl rfl (by decide) w_423 rfl dX9_mark_14 ?_
    obtain ⟨j4, ej4, h⟩ := jn_e h
    have hj4 : ∀ (M3 : Mm), j4 M3 = some (r, M') → GG l B LY (d + 3) yX9_mark cX9_mark 2 (some .int) 0 0 (PI r M') 97 0 0 32 [(0, .ref 0)] [] M3 := by
      intro M3 h
      rw [ej4] at h
      refine g_aload_n dX9_mark_32 rfl 0 rfl ?_
      refine g_iconst (v := (nI 3)) dX9_mark_33 (by decide) ?_
      obtain ⟨v34_6, M34_5, eM34_5, h⟩ := bd_e h
      refine m_callVi (As := [.int (nI 3)]) (st := []) (s_X9_refused (d := d + 2) hA  eM34_5) rfl okX9 ck_X9_refused w_468 rfl (Nat.le_of_ble_eq_true rfl) dX9_mark_34 ?_
      exact g_zret rfl rfl (pi_of h) dX9_mark_37
    refine g_if_lt (tgt := 32) dX9_mark_17 (by decide) (fun c13 => ?_) (fun c13 => ?_)
    · replace h := ite_p c13 h
      refine g_sub [0] (lv' := [(0, .ref 0)]) rfl ?_
      exact hj4  _ h
    · replace h := ite_n c13 h
      refine g_aload_n dX9_mark_20 rfl 0 rfl ?_
      refine m_geti (k := 10) okX9 rfl rfl (by decide) w_423 rfl dX9_mark_21 ?_
      refine g_aload_n dX9_mark_24 rfl 0 rfl ?_
      refine m_geta (k := 3) okX9 rfl rfl (by decide) w_416 rfl dX9_mark_25 ?_
      refine m_alen (v := (nI 3)) rfl (by decide) rfl dX9_mark_28 ?_
      refine g_icmp_lt (tgt := 38) dX9_mark_29 (by decide) (fun c12 => ?_) (fun c12 => ?_)
      · replace h := ite_p c12 h
        refine g_aload_n dX9_mark_38 rfl 0 rfl ?_
        refine m_geta (k := 3) okX9 rfl rfl (by decide) w_416 rfl dX9_mark_39 ?_
        refine g_aload_n dX9_mark_42 rfl 0 rfl ?_
        refine m_geti (k := 10) okX9 rfl rfl (by decide) w_423 rfl dX9_mark_43 ?_
        obtain ⟨hz, h⟩ := gd_s h
        obtain ⟨g7, eg7, hg7, h⟩ := bp_e h
        refine m_aald (len := 3) rfl hz dX9_mark_46 eg7 ?_
        refine g_astore_n (lv' := [(1, .ref g7), (0, .ref 0)]) dX9_mark_47 rfl (by decide) rfl ?_
        refine g_aload_n dX9_mark_48 rfl 0 rfl ?_
        refine g_ifnull dX9_mark_49 ?_
        refine g_aload_n dX9_mark_52 rfl 0 rfl ?_
        refine g_aload_n dX9_mark_53 rfl 1 rfl ?_
        refine m_geta (k := 2) okX9 rfl rfl (by decide) w_415 rfl dX9_mark_54 ?_
        obtain ⟨M57_8, eM57_8, h⟩ := bv_e h
        refine m_callVv (As := [.ref 20]) (st := []) (s_X3_become (d := d + 0) hA hg7 rfl eM57_8) hg7 okX3 ck_X3_become w_876 rfl (Nat.le_of_ble_eq_true rfl) dX9_mark_57 ?_
        refine g_aload_n dX9_mark_60 rfl 1 rfl ?_
        refine g_dup dX9_mark_61 rfl ?_
        refine m_geti (k := 10) okX9 rfl rfl (by decide) w_423 rfl dX9_mark_62 ?_
        refine g_iconst (v := (nI 1)) dX9_mark_65 (by decide) ?_
        refine g_iadd dX9_mark_66 ?_
        refine m_puti (k := 10) okX9 rfl rfl (by decide) w_423 rfl rfl rfl dX9_mark_67 ?_
        refine g_aload_n dX9_mark_70 rfl 1 rfl ?_
        refine g_aload_n dX9_mark_71 rfl 1 rfl ?_
        refine m_geti (k := 10) okX9 rfl rfl (by decide) w_423 rfl dX9_mark_72 ?_
        refine g_iconst (v := (nI 1)) dX9_mark_75 (by decide) ?_
        refine g_isub dX9_mark_76 ?_
        obtain ⟨v77_11, M77_10, eM77_10, h⟩ := bd_e h
        refine m_callVi (As := [.int (((mset M57_8 0 10 ((M57_8 0 10) + (nI 1))) 0 10) - (nI 1))]) (st := []) (s_X9_well (d := d + 2) hA  eM77_10) rfl okX9 ck_X9_well w_677 rfl (Nat.le_of_ble_eq_true rfl) dX9_mark_77 ?_
        exact g_zret rfl rfl (pi_of h) dX9_mark_80
      · replace h := ite_n c12 h
        refine g_sub [0] (lv' := [(0, .ref 0)]) rfl ?_
        exact hj4  _ h
  · replace h := ite_p c16 h
    refine g_aload_n dX9_mark_7 rfl 0 rfl ?_
    refine g_iconst (v := (nI 1)) dX9_mark_8 (by decide) ?_
    obtain ⟨v9_15, M9_14, eM9_14, h⟩ := bd_e h
    refine m_callVi (As := [.int (nI 1)]) (st := []) (s_X9_refused (d := d + 2) hA  eM9_14) rfl okX9 ck_X9_refused w_468 rfl (Nat.le_of_ble_eq_true rfl) dX9_mark_9 ?_
    exact g_zret rfl rfl (pi_of h) dX9_mark_12
theorem ck_X9_mark : CKV yX9_mark cX9_mark 2 (some .int) 0 := ⟨⟨by decide, by decide, by decide +kernel⟩, w_875, w_72, ⟨w_873, w_874⟩, by decide⟩
theorem dX9_back_0 : decode cX9_back 0 = .ok (.iload_n 1, 1) := by decide +kernel
theorem dX9_back_1 : decode cX9_back 1 = .ok (.ifCond .lt 20, 3) := by decide +kernel
theorem dX9_back_4 : decode cX9_back 4 = .ok (.iload_n 1, 1) := by decide +kernel
theorem dX9_back_5 : decode cX9_back 5 = .ok (.aload_n 0, 1) := by decide +kernel
theorem dX9_back_6 : decode cX9_back 6 = .ok (.getfield 105, 3) := by decide +kernel
theorem dX9_back_9 : decode cX9_back 9 = .ok (.if_icmp .ge 12, 3) := by decide +kernel
theorem dX9_back_12 : decode cX9_back 12 = .ok (.iload_n 1, 1) := by decide +kernel
theorem dX9_back_13 : decode cX9_back 13 = .ok (.aload_n 0, 1) := by decide +kernel
theorem dX9_back_14 : decode cX9_back 14 = .ok (.getfield 42, 3) := by decide +kernel
theorem dX9_back_17 : decode cX9_back 17 = .ok (.arraylength, 1) := by decide +kernel
theorem dX9_back_18 : decode cX9_back 18 = .ok (.if_icmp .lt 9, 3) := by decide +kernel
theorem dX9_back_21 : decode cX9_back 21 = .ok (.aload_n 0, 1) := by decide +kernel
theorem dX9_back_22 : decode cX9_back 22 = .ok (.iconst 1, 1) := by decide +kernel
theorem dX9_back_23 : decode cX9_back 23 = .ok (.invokevirtual 124, 3) := by decide +kernel
theorem dX9_back_26 : decode cX9_back 26 = .ok (.ireturn, 1) := by decide +kernel
theorem dX9_back_27 : decode cX9_back 27 = .ok (.aload_n 0, 1) := by decide +kernel
theorem dX9_back_28 : decode cX9_back 28 = .ok (.getfield 42, 3) := by decide +kernel
theorem dX9_back_31 : decode cX9_back 31 = .ok (.iload_n 1, 1) := by decide +kernel
theorem dX9_back_32 : decode cX9_back 32 = .ok (.aaload, 1) := by decide +kernel
theorem dX9_back_33 : decode cX9_back 33 = .ok (.astore_n 2, 1) := by decide +kernel
theorem dX9_back_34 : decode cX9_back 34 = .ok (.aload_n 2, 1) := by decide +kernel
theorem dX9_back_35 : decode cX9_back 35 = .ok (.ifnull 11, 3) := by decide +kernel
theorem dX9_back_38 : decode cX9_back 38 = .ok (.aload_n 0, 1) := by decide +kernel
theorem dX9_back_39 : decode cX9_back 39 = .ok (.getfield 38, 3) := by decide +kernel
theorem dX9_back_42 : decode cX9_back 42 = .ok (.aload_n 2, 1) := by decide +kernel
theorem dX9_back_43 : decode cX9_back 43 = .ok (.invokevirtual 215, 3) := by decide +kernel
theorem dX9_back_46 : decode cX9_back 46 = .ok (.aload_n 0, 1) := by decide +kernel
theorem dX9_back_47 : decode cX9_back 47 = .ok (.invokevirtual 129, 3) := by decide +kernel
theorem dX9_back_50 : decode cX9_back 50 = .ok (.ireturn, 1) := by decide +kernel
def f_X9_back (x1 : Int32) (M : Mm) : Option (Int32 × Mm) :=
  jn (fun (M1 : Mm) => bd (f_X9_denied (nI 1) M1) fun v23_4 M23_3 => gd (zo v23_4) <| some (v23_4, M23_3)) fun j2 => if x1 < 0 then (j2  M) else (if (M 0 10) ≤ x1 then (j2  M) else (if x1 < (nI 3) then (gd (inb x1 3) <| bp (30 + 1 + 10 * x1.toNatClampNeg) fun g5 => bv (f_X3_become 20 g5 M) fun M43_6 => bd (f_X9_granted  M43_6) fun v47_9 M47_8 => gd (zo v47_9) <| some (v47_9, M47_8)) else (j2  M)))
set_option maxHeartbeats 4000000 in
set_option maxRecDepth 100000 in
theorem s_X9_back {l : Launch} {B : BT} (hA : bA B = false) {d : Nat} {r : Int32} {M' : Mm} {x1 : Int32} {M : Mm}  (h : f_X9_back x1 M = some (r, M')) : Con l B LY (d + 3) yX9_back cX9_back 3 (some .boolean) 0 0 [.ref 0, .int x1] 97 M (PI r M') := by
  refine con_of (by decide) (Nat.le_of_ble_eq_true rfl) ?_
  show GG l B LY (d + 3) yX9_back cX9_back 3 (some .boolean) 0 0 (PI r M') 97 0 0 0 [(0, .ref 0), (1, .int x1)] [] M
  rw [f_X9_back] at h
  refine g_iload_n dX9_back_0 rfl 1 rfl ?_
  obtain ⟨j2, ej2, h⟩ := jn_e h
  have hj2 : ∀ (M1 : Mm), j2 M1 = some (r, M') → GG l B LY (d + 3) yX9_back cX9_back 3 (some .boolean) 0 0 (PI r M') 97 0 0 21 [(0, .ref 0)] [] M1 := by
    intro M1 h
    rw [ej2] at h
    refine g_aload_n dX9_back_21 rfl 0 rfl ?_
    refine g_iconst (v := (nI 1)) dX9_back_22 (by decide) ?_
    obtain ⟨v23_4, M23_3, eM23_3, h⟩ := bd_e h
    refine m_callVi (As := [.int (nI 1)]) (st := []) (s_X9_denied (d := d + 2) hA  eM23_3) rfl okX9 ck_X9_denied w_697 rfl (Nat.le_of_ble_eq_true rfl) dX9_back_23 ?_
    obtain ⟨hz, h⟩ := gd_s h
    exact g_zret rfl (nar_zo hz) (pi_of h) dX9_back_26
  refine g_if_lt (tgt := 21) dX9_back_1 (by decide) (fun c12 => ?_) (fun c12 => ?_)
  · replace h := ite_p c12 h
    refine g_sub [0] (lv' := [(0, .ref 0)]) rfl ?_
    exact hj2  _ h
  · replace h := ite_n c12 h
    refine g_iload_n dX9_back_4 rfl 1 rfl ?_
    refine g_aload_n dX9_back_5 rfl 0 rfl ?_
    refine m_geti (k := 10) okX9 rfl rfl (by decide) w_423 rfl dX9_back_6 ?_
    refine g_icmp_ge (tgt := 21) dX9_back_9 (by decide) (fun c11 => ?_) (fun c11 => ?_)
    · replace h := ite_p c11 h
      refine g_sub [0] (lv' := [(0, .ref 0)]) rfl ?_
      exact hj2  _ h
    · replace h := ite_n c11 h
      refine g_iload_n dX9_back_12 rfl 1 rfl ?_
      refine g_aload_n dX9_back_13 rfl 0 rfl ?_
      refine m_geta (k := 3) okX9 rfl rfl (by decide) w_416 rfl dX9_back_14 ?_
      refine m_alen (v := (nI 3)) rfl (by decide) rfl dX9_back_17 ?_
      refine g_icmp_lt (tgt := 27) dX9_back_18 (by decide) (fun c10 => ?_) (fun c10 => ?_)
      · replace h := ite_p c10 h
        refine g_aload_n dX9_back_27 rfl 0 rfl ?_
        refine m_geta (k := 3) okX9 rfl rfl (by decide) w_416 rfl dX9_back_28 ?_
        refine g_iload_n dX9_back_31 rfl 1 rfl ?_
        obtain ⟨hz, h⟩ := gd_s h
        obtain ⟨g5, eg5, hg5, h⟩ := bp_e h
        refine m_aald (len := 3) rfl hz dX9_back_32 eg5 ?_
        refine g_astore_n (lv' := [(2, .ref g5), (0, .ref 0), (1, .int x1)]) dX9_back_33 rfl (by decide) rfl ?_
        refine g_aload_n dX9_back_34 rfl 0 rfl ?_
        refine g_ifnull dX9_back_35 ?_
        refine g_aload_n dX9_back_38 rfl 1 rfl ?_
        refine m_geta (k := 2) okX9 rfl rfl (by decide) w_415 rfl dX9_back_39 ?_
        refine g_aload_n dX9_back_42 rfl 0 rfl ?_
        obtain ⟨M43_6, eM43_6, h⟩ := bv_e h
        refine m_callVv (As := [.ref g5]) (st := []) (s_X3_become (d := d + 0) hA rfl hg5 eM43_6) rfl okX3 ck_X3_become w_876 rfl (Nat.le_of_ble_eq_true rfl) dX9_back_43 ?_
        refine g_aload_n dX9_back_46 rfl 1 rfl ?_
        obtain ⟨v47_9, M47_8, eM47_8, h⟩ := bd_e h
        refine m_callVi (As := []) (st := []) (s_X9_granted (d := d + 2) hA  eM47_8) rfl okX9 ck_X9_granted w_702 rfl (Nat.le_of_ble_eq_true rfl) dX9_back_47 ?_
        obtain ⟨hz, h⟩ := gd_s h
        exact g_zret rfl (nar_zo hz) (pi_of h) dX9_back_50
      · replace h := ite_n c10 h
        refine g_sub [0] (lv' := [(0, .ref 0)]) rfl ?_
        exact hj2  _ h
theorem ck_X9_back : CKV yX9_back cX9_back 3 (some .boolean) 1 := ⟨⟨by decide, by decide, by decide +kernel⟩, w_883, w_72, ⟨w_881, w_882⟩, by decide⟩
theorem dX9_behind_0 : decode cX9_behind 0 = .ok (.iload_n 1, 1) := by decide +kernel
theorem dX9_behind_1 : decode cX9_behind 1 = .ok (.ifCond .lt 14, 3) := by decide +kernel
theorem dX9_behind_4 : decode cX9_behind 4 = .ok (.iload_n 1, 1) := by decide +kernel
theorem dX9_behind_5 : decode cX9_behind 5 = .ok (.aload_n 0, 1) := by decide +kernel
theorem dX9_behind_6 : decode cX9_behind 6 = .ok (.getfield 10, 3) := by decide +kernel
theorem dX9_behind_9 : decode cX9_behind 9 = .ok (.getfield 219, 3) := by decide +kernel
theorem dX9_behind_12 : decode cX9_behind 12 = .ok (.if_icmp .lt 10, 3) := by decide +kernel
theorem dX9_behind_15 : decode cX9_behind 15 = .ok (.aload_n 0, 1) := by decide +kernel
theorem dX9_behind_16 : decode cX9_behind 16 = .ok (.iconst 1, 1) := by decide +kernel
theorem dX9_behind_17 : decode cX9_behind 17 = .ok (.invokevirtual 82, 3) := by decide +kernel
theorem dX9_behind_20 : decode cX9_behind 20 = .ok (.i2l, 1) := by decide +kernel
theorem dX9_behind_21 : decode cX9_behind 21 = .ok (.lreturn, 1) := by decide +kernel
theorem dX9_behind_22 : decode cX9_behind 22 = .ok (.aload_n 0, 1) := by decide +kernel
theorem dX9_behind_23 : decode cX9_behind 23 = .ok (.iconst 0, 1) := by decide +kernel
theorem dX9_behind_24 : decode cX9_behind 24 = .ok (.putfield 117, 3) := by decide +kernel
theorem dX9_behind_27 : decode cX9_behind 27 = .ok (.aload_n 0, 1) := by decide +kernel
theorem dX9_behind_28 : decode cX9_behind 28 = .ok (.getfield 10, 3) := by decide +kernel
theorem dX9_behind_31 : decode cX9_behind 31 = .ok (.iload_n 1, 1) := by decide +kernel
theorem dX9_behind_32 : decode cX9_behind 32 = .ok (.invokestatic 222, 3) := by decide +kernel
theorem dX9_behind_35 : decode cX9_behind 35 = .ok (.lreturn, 1) := by decide +kernel
def f_X9_behind (x1 : Int32) (M : Mm) : Option (Int64 × Mm) :=
  jn (fun (M1 : Mm) => bd (f_X9_refused (nI 1) M1) fun v17_4 M17_3 => some (v17_4.toInt64, M17_3)) fun j2 => if x1 < 0 then (j2  M) else (bg (M 0 8) fun g5 => if x1 < (M g5 9) then (bg ((mset M 0 11 (nI 0)) 0 8) fun g6 => bd (f_X2_waysToTurn g6 x1 (mset M 0 11 (nI 0))) fun v32_8 M32_7 => some (v32_8, M32_7)) else (j2  M))
set_option maxHeartbeats 4000000 in
set_option maxRecDepth 100000 in
theorem s_X9_behind {l : Launch} {B : BT} (hA : bA B = false) {d : Nat} {r : Int64} {M' : Mm} {x1 : Int32} {M : Mm}  (h : f_X9_behind x1 M = some (r, M')) : Con l B LY (d + 3) yX9_behind cX9_behind 2 (some .long) 0 0 [.ref 0, .int x1] 97 M (PL r M') := by
  refine con_of (by decide) (Nat.le_of_ble_eq_true rfl) ?_
  show GG l B LY (d + 3) yX9_behind cX9_behind 2 (some .long) 0 0 (PL r M') 97 0 0 0 [(0, .ref 0), (1, .int x1)] [] M
  rw [f_X9_behind] at h
  refine g_iload_n dX9_behind_0 rfl 1 rfl ?_
  obtain ⟨j2, ej2, h⟩ := jn_e h
  have hj2 : ∀ (M1 : Mm), j2 M1 = some (r, M') → GG l B LY (d + 3) yX9_behind cX9_behind 2 (some .long) 0 0 (PL r M') 97 0 0 15 [(0, .ref 0)] [] M1 := by
    intro M1 h
    rw [ej2] at h
    refine g_aload_n dX9_behind_15 rfl 0 rfl ?_
    refine g_iconst (v := (nI 1)) dX9_behind_16 (by decide) ?_
    obtain ⟨v17_4, M17_3, eM17_3, h⟩ := bd_e h
    refine m_callVi (As := [.int (nI 1)]) (st := []) (s_X9_refused (d := d + 2) hA  eM17_3) rfl okX9 ck_X9_refused w_468 rfl (Nat.le_of_ble_eq_true rfl) dX9_behind_17 ?_
    refine g_i2l dX9_behind_20 ?_
    exact g_lret rfl (pl_of h) dX9_behind_21
  refine g_if_lt (tgt := 15) dX9_behind_1 (by decide) (fun c10 => ?_) (fun c10 => ?_)
  · replace h := ite_p c10 h
    refine g_sub [0] (lv' := [(0, .ref 0)]) rfl ?_
    exact hj2  _ h
  · replace h := ite_n c10 h
    refine g_iload_n dX9_behind_4 rfl 1 rfl ?_
    refine g_aload_n dX9_behind_5 rfl 0 rfl ?_
    obtain ⟨g5, eg5, hg5, h⟩ := bg_e h
    refine m_getm (k := 8) okX9 rfl rfl (by decide) w_421 rfl dX9_behind_6 eg5 hg5 ?_
    refine m_geti (k := 9) okX0 hg5 rfl (by decide) w_137 rfl dX9_behind_9 ?_
    refine g_icmp_lt (tgt := 22) dX9_behind_12 (by decide) (fun c9 => ?_) (fun c9 => ?_)
    · replace h := ite_p c9 h
      refine g_aload_n dX9_behind_22 rfl 0 rfl ?_
      refine g_iconst (v := (nI 0)) dX9_behind_23 (by decide) ?_
      refine m_puti (k := 11) okX9 rfl rfl (by decide) w_424 rfl rfl rfl dX9_behind_24 ?_
      refine g_aload_n dX9_behind_27 rfl 0 rfl ?_
      obtain ⟨g6, eg6, hg6, h⟩ := bg_e h
      refine m_getm (k := 8) okX9 rfl rfl (by decide) w_421 rfl dX9_behind_28 eg6 hg6 ?_
      refine g_iload_n dX9_behind_31 rfl 1 rfl ?_
      obtain ⟨v32_8, M32_7, eM32_7, h⟩ := bd_e h
      refine m_callSl (As := [.ref g6, .int x1]) (st := []) (s_X2_waysToTurn (d := d + 0) hA hg6 eM32_7) ck_X2_waysToTurn w_888 rfl (Nat.le_of_ble_eq_true rfl) dX9_behind_32 ?_
      exact g_lret rfl (pl_of h) dX9_behind_35
    · replace h := ite_n c9 h
      refine g_sub [0] (lv' := [(0, .ref 0)]) rfl ?_
      exact hj2  _ h
theorem ck_X9_behind : CKV yX9_behind cX9_behind 2 (some .long) 1 := ⟨⟨by decide, by decide, by decide +kernel⟩, w_887, w_72, ⟨w_885, w_886⟩, by decide⟩
theorem dX9_ways_0 : decode cX9_ways 0 = .ok (.aload_n 0, 1) := by decide +kernel
theorem dX9_ways_1 : decode cX9_ways 1 = .ok (.invokevirtual 120, 3) := by decide +kernel
theorem dX9_ways_4 : decode cX9_ways 4 = .ok (.ifCond .ne 10, 3) := by decide +kernel
theorem dX9_ways_7 : decode cX9_ways 7 = .ok (.aload_n 0, 1) := by decide +kernel
theorem dX9_ways_8 : decode cX9_ways 8 = .ok (.iconst 1, 1) := by decide +kernel
theorem dX9_ways_9 : decode cX9_ways 9 = .ok (.invokevirtual 82, 3) := by decide +kernel
theorem dX9_ways_12 : decode cX9_ways 12 = .ok (.i2l, 1) := by decide +kernel
theorem dX9_ways_13 : decode cX9_ways 13 = .ok (.lreturn, 1) := by decide +kernel
theorem dX9_ways_14 : decode cX9_ways 14 = .ok (.aload_n 0, 1) := by decide +kernel
theorem dX9_ways_15 : decode cX9_ways 15 = .ok (.iconst 0, 1) := by decide +kernel
theorem dX9_ways_16 : decode cX9_ways 16 = .ok (.putfield 117, 3) := by decide +kernel
theorem dX9_ways_19 : decode cX9_ways 19 = .ok (.aload_n 0, 1) := by decide +kernel
theorem dX9_ways_20 : decode cX9_ways 20 = .ok (.getfield 10, 3) := by decide +kernel
theorem dX9_ways_23 : decode cX9_ways 23 = .ok (.invokestatic 228, 3) := by decide +kernel
theorem dX9_ways_26 : decode cX9_ways 26 = .ok (.lreturn, 1) := by decide +kernel
def f_X9_ways  (M : Mm) : Option (Int64 × Mm) :=
  bd (f_X9_hasGame  M) fun v1_2 M1_1 => if v1_2 = 0 then (bd (f_X9_refused (nI 1) M1_1) fun v9_7 M9_6 => some (v9_7.toInt64, M9_6)) else (bg ((mset M1_1 0 11 (nI 0)) 0 8) fun g3 => bd (f_X2_allWays g3 (mset M1_1 0 11 (nI 0))) fun v23_5 M23_4 => some (v23_5, M23_4))
set_option maxHeartbeats 4000000 in
set_option maxRecDepth 100000 in
theorem s_X9_ways {l : Launch} {B : BT} (hA : bA B = false) {d : Nat} {r : Int64} {M' : Mm}  {M : Mm}  (h : f_X9_ways  M = some (r, M')) : Con l B LY (d + 3) yX9_ways cX9_ways 1 (some .long) 0 0 [.ref 0] 97 M (PL r M') := by
  refine con_of (by decide) (Nat.le_of_ble_eq_true rfl) ?_
  show GG l B LY (d + 3) yX9_ways cX9_ways 1 (some .long) 0 0 (PL r M') 97 0 0 0 [(0, .ref 0)] [] M
  rw [f_X9_ways] at h
  refine g_aload_n dX9_ways_0 rfl 0 rfl ?_
  obtain ⟨v1_2, M1_1, eM1_1, h⟩ := bd_e h
  refine m_callVi (As := []) (st := []) (s_X9_hasGame (d := d + 2) hA  eM1_1) rfl okX9 ck_X9_hasGame w_693 rfl (Nat.le_of_ble_eq_true rfl) dX9_ways_1 ?_
  refine g_if_ne (tgt := 14) dX9_ways_4 (by decide) (fun c8 => ?_) (fun c8 => ?_)
  · replace h := ite_n c8 h
    refine g_aload_n dX9_ways_14 rfl 0 rfl ?_
    refine g_iconst (v := (nI 0)) dX9_ways_15 (by decide) ?_
    refine m_puti (k := 11) okX9 rfl rfl (by decide) w_424 rfl rfl rfl dX9_ways_16 ?_
    refine g_aload_n dX9_ways_19 rfl 0 rfl ?_
    obtain ⟨g3, eg3, hg3, h⟩ := bg_e h
    refine m_getm (k := 8) okX9 rfl rfl (by decide) w_421 rfl dX9_ways_20 eg3 hg3 ?_
    obtain ⟨v23_5, M23_4, eM23_4, h⟩ := bd_e h
    refine m_callSl (As := [.ref g3]) (st := []) (s_X2_allWays (d := d + 0) hA hg3 eM23_4) ck_X2_allWays w_900 rfl (Nat.le_of_ble_eq_true rfl) dX9_ways_23 ?_
    exact g_lret rfl (pl_of h) dX9_ways_26
  · replace h := ite_p c8 h
    refine g_aload_n dX9_ways_7 rfl 0 rfl ?_
    refine g_iconst (v := (nI 1)) dX9_ways_8 (by decide) ?_
    obtain ⟨v9_7, M9_6, eM9_6, h⟩ := bd_e h
    refine m_callVi (As := [.int (nI 1)]) (st := []) (s_X9_refused (d := d + 2) hA  eM9_6) rfl okX9 ck_X9_refused w_468 rfl (Nat.le_of_ble_eq_true rfl) dX9_ways_9 ?_
    refine g_i2l dX9_ways_12 ?_
    exact g_lret rfl (pl_of h) dX9_ways_13
theorem ck_X9_ways : CKV yX9_ways cX9_ways 1 (some .long) 0 := ⟨⟨by decide, by decide, by decide +kernel⟩, w_899, w_72, ⟨w_897, w_898⟩, by decide⟩
theorem dX9_isOfVerse_0 : decode cX9_isOfVerse 0 = .ok (.iload_n 1, 1) := by decide +kernel
theorem dX9_isOfVerse_1 : decode cX9_isOfVerse 1 = .ok (.ifCond .lt 18, 3) := by decide +kernel
theorem dX9_isOfVerse_4 : decode cX9_isOfVerse 4 = .ok (.iload_n 1, 1) := by decide +kernel
theorem dX9_isOfVerse_5 : decode cX9_isOfVerse 5 = .ok (.aload_n 0, 1) := by decide +kernel
theorem dX9_isOfVerse_6 : decode cX9_isOfVerse 6 = .ok (.getfield 10, 3) := by decide +kernel
theorem dX9_isOfVerse_9 : decode cX9_isOfVerse 9 = .ok (.invokevirtual 143, 3) := by decide +kernel
theorem dX9_isOfVerse_12 : decode cX9_isOfVerse 12 = .ok (.if_icmp .gt 7, 3) := by decide +kernel
theorem dX9_isOfVerse_15 : decode cX9_isOfVerse 15 = .ok (.iconst 1, 1) := by decide +kernel
theorem dX9_isOfVerse_16 : decode cX9_isOfVerse 16 = .ok (.goto 4, 3) := by decide +kernel
theorem dX9_isOfVerse_19 : decode cX9_isOfVerse 19 = .ok (.iconst 0, 1) := by decide +kernel
theorem dX9_isOfVerse_20 : decode cX9_isOfVerse 20 = .ok (.ireturn, 1) := by decide +kernel
def f_X9_isOfVerse (x1 : Int32) (M : Mm) : Option (Int32 × Mm) :=
  jn (fun (M1 : Mm) => some ((nI 0), M1)) fun j2 => if x1 < 0 then (j2  M) else (bg (M 0 8) fun g3 => bd (f_X0_verseTenths g3 M) fun v9_5 M9_4 => if v9_5 < x1 then (j2  M9_4) else (some ((nI 1), M9_4)))
set_option maxHeartbeats 4000000 in
set_option maxRecDepth 100000 in
theorem s_X9_isOfVerse {l : Launch} {B : BT} (hA : bA B = false) {d : Nat} {r : Int32} {M' : Mm} {x1 : Int32} {M : Mm}  (h : f_X9_isOfVerse x1 M = some (r, M')) : Con l B LY (d + 2) yX9_isOfVerse cX9_isOfVerse 2 (some .boolean) 0 0 [.ref 0, .int x1] 97 M (PI r M') := by
  refine con_of (by decide) (Nat.le_of_ble_eq_true rfl) ?_
  show GG l B LY (d + 2) yX9_isOfVerse cX9_isOfVerse 2 (some .boolean) 0 0 (PI r M') 97 0 0 0 [(0, .ref 0), (1, .int x1)] [] M
  rw [f_X9_isOfVerse] at h
  refine g_iload_n dX9_isOfVerse_0 rfl 1 rfl ?_
  obtain ⟨j2, ej2, h⟩ := jn_e h
  have hj2 : ∀ (M1 : Mm), j2 M1 = some (r, M') → GG l B LY (d + 2) yX9_isOfVerse cX9_isOfVerse 2 (some .boolean) 0 0 (PI r M') 97 0 0 19 [] [] M1 := by
    intro M1 h
    rw [ej2] at h
    refine g_iconst (v := (nI 0)) dX9_isOfVerse_19 (by decide) ?_
    exact g_zret rfl rfl (pi_of h) dX9_isOfVerse_20
  refine g_if_lt (tgt := 19) dX9_isOfVerse_1 (by decide) (fun c7 => ?_) (fun c7 => ?_)
  · replace h := ite_p c7 h
    refine g_sub [] (lv' := []) rfl ?_
    exact hj2  _ h
  · replace h := ite_n c7 h
    refine g_iload_n dX9_isOfVerse_4 rfl 1 rfl ?_
    refine g_aload_n dX9_isOfVerse_5 rfl 0 rfl ?_
    obtain ⟨g3, eg3, hg3, h⟩ := bg_e h
    refine m_getm (k := 8) okX9 rfl rfl (by decide) w_421 rfl dX9_isOfVerse_6 eg3 hg3 ?_
    obtain ⟨v9_5, M9_4, eM9_4, h⟩ := bd_e h
    refine m_callVi (As := []) (st := [.int x1]) (s_X0_verseTenths (d := d + 0) hA hg3 eM9_4) hg3 okX0 ck_X0_verseTenths w_808 rfl (Nat.le_of_ble_eq_true rfl) dX9_isOfVerse_9 ?_
    refine g_icmp_gt (tgt := 19) dX9_isOfVerse_12 (by decide) (fun c6 => ?_) (fun c6 => ?_)
    · replace h := ite_p c6 h
      refine g_sub [] (lv' := []) rfl ?_
      exact hj2  _ h
    · replace h := ite_n c6 h
      refine g_iconst (v := (nI 1)) dX9_isOfVerse_15 (by decide) ?_
      refine g_goto (tgt := 20) dX9_isOfVerse_16 (by decide) ?_
      exact g_zret rfl rfl (pi_of h) dX9_isOfVerse_20
theorem ck_X9_isOfVerse : CKV yX9_isOfVerse cX9_isOfVerse 2 (some .boolean) 1 := ⟨⟨by decide, by decide, by decide +kernel⟩, w_910, w_72, ⟨w_909, w_7⟩, by decide⟩
theorem dX9_risk_0 : decode cX9_risk 0 = .ok (.aload_n 0, 1) := by decide +kernel
theorem dX9_risk_1 : decode cX9_risk 1 = .ok (.iload_n 1, 1) := by decide +kernel
theorem dX9_risk_2 : decode cX9_risk 2 = .ok (.invokevirtual 146, 3) := by decide +kernel
theorem dX9_risk_5 : decode cX9_risk 5 = .ok (.ifCond .ne 10, 3) := by decide +kernel
theorem dX9_risk_8 : decode cX9_risk 8 = .ok (.aload_n 0, 1) := by decide +kernel
theorem dX9_risk_9 : decode cX9_risk 9 = .ok (.iconst 1, 1) := by decide +kernel
theorem dX9_risk_10 : decode cX9_risk 10 = .ok (.invokevirtual 82, 3) := by decide +kernel
theorem dX9_risk_13 : decode cX9_risk 13 = .ok (.i2l, 1) := by decide +kernel
theorem dX9_risk_14 : decode cX9_risk 14 = .ok (.lreturn, 1) := by decide +kernel
theorem dX9_risk_15 : decode cX9_risk 15 = .ok (.aload_n 0, 1) := by decide +kernel
theorem dX9_risk_16 : decode cX9_risk 16 = .ok (.iload_n 2, 1) := by decide +kernel
theorem dX9_risk_17 : decode cX9_risk 17 = .ok (.invokevirtual 149, 3) := by decide +kernel
theorem dX9_risk_20 : decode cX9_risk 20 = .ok (.ifCond .eq 11, 3) := by decide +kernel
theorem dX9_risk_23 : decode cX9_risk 23 = .ok (.aload_n 0, 1) := by decide +kernel
theorem dX9_risk_24 : decode cX9_risk 24 = .ok (.iload_n 3, 1) := by decide +kernel
theorem dX9_risk_25 : decode cX9_risk 25 = .ok (.invokevirtual 232, 3) := by decide +kernel
theorem dX9_risk_28 : decode cX9_risk 28 = .ok (.ifCond .ne 10, 3) := by decide +kernel
theorem dX9_risk_31 : decode cX9_risk 31 = .ok (.aload_n 0, 1) := by decide +kernel
theorem dX9_risk_32 : decode cX9_risk 32 = .ok (.iconst 2, 1) := by decide +kernel
theorem dX9_risk_33 : decode cX9_risk 33 = .ok (.invokevirtual 82, 3) := by decide +kernel
theorem dX9_risk_36 : decode cX9_risk 36 = .ok (.i2l, 1) := by decide +kernel
theorem dX9_risk_37 : decode cX9_risk 37 = .ok (.lreturn, 1) := by decide +kernel
theorem dX9_risk_38 : decode cX9_risk 38 = .ok (.aload_n 0, 1) := by decide +kernel
theorem dX9_risk_39 : decode cX9_risk 39 = .ok (.iconst 0, 1) := by decide +kernel
theorem dX9_risk_40 : decode cX9_risk 40 = .ok (.putfield 117, 3) := by decide +kernel
theorem dX9_risk_43 : decode cX9_risk 43 = .ok (.aload_n 0, 1) := by decide +kernel
theorem dX9_risk_44 : decode cX9_risk 44 = .ok (.getfield 10, 3) := by decide +kernel
theorem dX9_risk_47 : decode cX9_risk 47 = .ok (.iload_n 1, 1) := by decide +kernel
theorem dX9_risk_48 : decode cX9_risk 48 = .ok (.iload_n 2, 1) := by decide +kernel
theorem dX9_risk_49 : decode cX9_risk 49 = .ok (.iload_n 3, 1) := by decide +kernel
theorem dX9_risk_50 : decode cX9_risk 50 = .ok (.invokestatic 235, 3) := by decide +kernel
theorem dX9_risk_53 : decode cX9_risk 53 = .ok (.lreturn, 1) := by decide +kernel
def f_X9_risk (x1 : Int32) (x2 : Int32) (x3 : Int32) (M : Mm) : Option (Int64 × Mm) :=
  bd (f_X9_isCreeper x1 M) fun v2_2 M2_1 => if v2_2 = 0 then (bd (f_X9_refused (nI 1) M2_1) fun v10_17 M10_16 => some (v10_17.toInt64, M10_16)) else (bd (f_X9_isBelowWall x2 M2_1) fun v17_4 M17_3 => jn (fun (M5 : Mm) => bd (f_X9_refused (nI 2) M5) fun v33_8 M33_7 => some (v33_8.toInt64, M33_7)) fun j6 => if v17_4 = 0 then (j6  M17_3) else (bd (f_X9_isOfVerse x3 M17_3) fun v25_10 M25_9 => if v25_10 = 0 then (j6  M25_9) else (bg ((mset M25_9 0 11 (nI 0)) 0 8) fun g11 => bd (f_X2_seenWays g11 x1 x2 x3 (mset M25_9 0 11 (nI 0))) fun v50_13 M50_12 => some (v50_13, M50_12))))
set_option maxHeartbeats 4000000 in
set_option maxRecDepth 100000 in
theorem s_X9_risk {l : Launch} {B : BT} (hA : bA B = false) {d : Nat} {r : Int64} {M' : Mm} {x1 : Int32} {x2 : Int32} {x3 : Int32} {M : Mm}  (h : f_X9_risk x1 x2 x3 M = some (r, M')) : Con l B LY (d + 4) yX9_risk cX9_risk 4 (some .long) 0 0 [.ref 0, .int x1, .int x2, .int x3] 97 M (PL r M') := by
  refine con_of (by decide) (Nat.le_of_ble_eq_true rfl) ?_
  show GG l B LY (d + 4) yX9_risk cX9_risk 4 (some .long) 0 0 (PL r M') 97 0 0 0 [(0, .ref 0), (1, .int x1), (2, .int x2), (3, .int x3)] [] M
  rw [f_X9_risk] at h
  refine g_aload_n dX9_risk_0 rfl 0 rfl ?_
  refine g_iload_n dX9_risk_1 rfl 1 rfl ?_
  obtain ⟨v2_2, M2_1, eM2_1, h⟩ := bd_e h
  refine m_callVi (As := [.int x1]) (st := []) (s_X9_isCreeper (d := d + 3) hA  eM2_1) rfl okX9 ck_X9_isCreeper w_816 rfl (Nat.le_of_ble_eq_true rfl) dX9_risk_2 ?_
  refine g_if_ne (tgt := 15) dX9_risk_5 (by decide) (fun c18 => ?_) (fun c18 => ?_)
  · replace h := ite_n c18 h
    refine g_aload_n dX9_risk_15 rfl 0 rfl ?_
    refine g_iload_n dX9_risk_16 rfl 2 rfl ?_
    obtain ⟨v17_4, M17_3, eM17_3, h⟩ := bd_e h
    refine m_callVi (As := [.int x2]) (st := []) (s_X9_isBelowWall (d := d + 3) hA  eM17_3) rfl okX9 ck_X9_isBelowWall w_820 rfl (Nat.le_of_ble_eq_true rfl) dX9_risk_17 ?_
    obtain ⟨j6, ej6, h⟩ := jn_e h
    have hj6 : ∀ (M5 : Mm), j6 M5 = some (r, M') → GG l B LY (d + 4) yX9_risk cX9_risk 4 (some .long) 0 0 (PL r M') 97 0 0 31 [(0, .ref 0)] [] M5 := by
      intro M5 h
      rw [ej6] at h
      refine g_aload_n dX9_risk_31 rfl 0 rfl ?_
      refine g_iconst (v := (nI 2)) dX9_risk_32 (by decide) ?_
      obtain ⟨v33_8, M33_7, eM33_7, h⟩ := bd_e h
      refine m_callVi (As := [.int (nI 2)]) (st := []) (s_X9_refused (d := d + 3) hA  eM33_7) rfl okX9 ck_X9_refused w_468 rfl (Nat.le_of_ble_eq_true rfl) dX9_risk_33 ?_
      refine g_i2l dX9_risk_36 ?_
      exact g_lret rfl (pl_of h) dX9_risk_37
    refine g_if_eq (tgt := 31) dX9_risk_20 (by decide) (fun c15 => ?_) (fun c15 => ?_)
    · replace h := ite_p c15 h
      refine g_sub [0] (lv' := [(0, .ref 0)]) rfl ?_
      exact hj6  _ h
    · replace h := ite_n c15 h
      refine g_aload_n dX9_risk_23 rfl 0 rfl ?_
      refine g_iload_n dX9_risk_24 rfl 3 rfl ?_
      obtain ⟨v25_10, M25_9, eM25_9, h⟩ := bd_e h
      refine m_callVi (As := [.int x3]) (st := []) (s_X9_isOfVerse (d := d + 1) hA  eM25_9) rfl okX9 ck_X9_isOfVerse w_907 rfl (Nat.le_of_ble_eq_true rfl) dX9_risk_25 ?_
      refine g_if_ne (tgt := 38) dX9_risk_28 (by decide) (fun c14 => ?_) (fun c14 => ?_)
      · replace h := ite_n c14 h
        refine g_aload_n dX9_risk_38 rfl 0 rfl ?_
        refine g_iconst (v := (nI 0)) dX9_risk_39 (by decide) ?_
        refine m_puti (k := 11) okX9 rfl rfl (by decide) w_424 rfl rfl rfl dX9_risk_40 ?_
        refine g_aload_n dX9_risk_43 rfl 0 rfl ?_
        obtain ⟨g11, eg11, hg11, h⟩ := bg_e h
        refine m_getm (k := 8) okX9 rfl rfl (by decide) w_421 rfl dX9_risk_44 eg11 hg11 ?_
        refine g_iload_n dX9_risk_47 rfl 1 rfl ?_
        refine g_iload_n dX9_risk_48 rfl 2 rfl ?_
        refine g_iload_n dX9_risk_49 rfl 3 rfl ?_
        obtain ⟨v50_13, M50_12, eM50_12, h⟩ := bd_e h
        refine m_callSl (As := [.ref g11, .int x1, .int x2, .int x3]) (st := []) (s_X2_seenWays (d := d + 0) hA hg11 eM50_12) ck_X2_seenWays w_911 rfl (Nat.le_of_ble_eq_true rfl) dX9_risk_50 ?_
        exact g_lret rfl (pl_of h) dX9_risk_53
      · replace h := ite_p c14 h
        refine g_sub [0] (lv' := [(0, .ref 0)]) rfl ?_
        exact hj6  _ h
  · replace h := ite_p c18 h
    refine g_aload_n dX9_risk_8 rfl 0 rfl ?_
    refine g_iconst (v := (nI 1)) dX9_risk_9 (by decide) ?_
    obtain ⟨v10_17, M10_16, eM10_16, h⟩ := bd_e h
    refine m_callVi (As := [.int (nI 1)]) (st := []) (s_X9_refused (d := d + 3) hA  eM10_16) rfl okX9 ck_X9_refused w_468 rfl (Nat.le_of_ble_eq_true rfl) dX9_risk_10 ?_
    refine g_i2l dX9_risk_13 ?_
    exact g_lret rfl (pl_of h) dX9_risk_14
theorem ck_X9_risk : CKV yX9_risk cX9_risk 4 (some .long) 3 := ⟨⟨by decide, by decide, by decide +kernel⟩, w_906, w_72, ⟨w_904, w_905⟩, by decide⟩
theorem dX9_gain_0 : decode cX9_gain 0 = .ok (.aload_n 0, 1) := by decide +kernel
theorem dX9_gain_1 : decode cX9_gain 1 = .ok (.iload_n 1, 1) := by decide +kernel
theorem dX9_gain_2 : decode cX9_gain 2 = .ok (.invokevirtual 146, 3) := by decide +kernel
theorem dX9_gain_5 : decode cX9_gain 5 = .ok (.ifCond .ne 13, 3) := by decide +kernel
theorem dX9_gain_8 : decode cX9_gain 8 = .ok (.aload_n 0, 1) := by decide +kernel
theorem dX9_gain_9 : decode cX9_gain 9 = .ok (.iconst 1, 1) := by decide +kernel
theorem dX9_gain_10 : decode cX9_gain 10 = .ok (.invokevirtual 82, 3) := by decide +kernel
theorem dX9_gain_13 : decode cX9_gain 13 = .ok (.pop, 1) := by decide +kernel
theorem dX9_gain_14 : decode cX9_gain 14 = .ok (.ldc2_w 239, 3) := by decide +kernel
theorem dX9_gain_17 : decode cX9_gain 17 = .ok (.lreturn, 1) := by decide +kernel
theorem dX9_gain_18 : decode cX9_gain 18 = .ok (.aload_n 0, 1) := by decide +kernel
theorem dX9_gain_19 : decode cX9_gain 19 = .ok (.iload_n 2, 1) := by decide +kernel
theorem dX9_gain_20 : decode cX9_gain 20 = .ok (.invokevirtual 149, 3) := by decide +kernel
theorem dX9_gain_23 : decode cX9_gain 23 = .ok (.ifCond .eq 11, 3) := by decide +kernel
theorem dX9_gain_26 : decode cX9_gain 26 = .ok (.aload_n 0, 1) := by decide +kernel
theorem dX9_gain_27 : decode cX9_gain 27 = .ok (.iload_n 3, 1) := by decide +kernel
theorem dX9_gain_28 : decode cX9_gain 28 = .ok (.invokevirtual 232, 3) := by decide +kernel
theorem dX9_gain_31 : decode cX9_gain 31 = .ok (.ifCond .ne 13, 3) := by decide +kernel
theorem dX9_gain_34 : decode cX9_gain 34 = .ok (.aload_n 0, 1) := by decide +kernel
theorem dX9_gain_35 : decode cX9_gain 35 = .ok (.iconst 2, 1) := by decide +kernel
theorem dX9_gain_36 : decode cX9_gain 36 = .ok (.invokevirtual 82, 3) := by decide +kernel
theorem dX9_gain_39 : decode cX9_gain 39 = .ok (.pop, 1) := by decide +kernel
theorem dX9_gain_40 : decode cX9_gain 40 = .ok (.ldc2_w 239, 3) := by decide +kernel
theorem dX9_gain_43 : decode cX9_gain 43 = .ok (.lreturn, 1) := by decide +kernel
theorem dX9_gain_44 : decode cX9_gain 44 = .ok (.aload_n 0, 1) := by decide +kernel
theorem dX9_gain_45 : decode cX9_gain 45 = .ok (.iconst 0, 1) := by decide +kernel
theorem dX9_gain_46 : decode cX9_gain 46 = .ok (.putfield 117, 3) := by decide +kernel
theorem dX9_gain_49 : decode cX9_gain 49 = .ok (.aload_n 0, 1) := by decide +kernel
theorem dX9_gain_50 : decode cX9_gain 50 = .ok (.getfield 10, 3) := by decide +kernel
theorem dX9_gain_53 : decode cX9_gain 53 = .ok (.iload_n 1, 1) := by decide +kernel
theorem dX9_gain_54 : decode cX9_gain 54 = .ok (.iload_n 2, 1) := by decide +kernel
theorem dX9_gain_55 : decode cX9_gain 55 = .ok (.iload_n 3, 1) := by decide +kernel
theorem dX9_gain_56 : decode cX9_gain 56 = .ok (.iload 4, 2) := by decide +kernel
theorem dX9_gain_58 : decode cX9_gain 58 = .ok (.invokestatic 241, 3) := by decide +kernel
theorem dX9_gain_61 : decode cX9_gain 61 = .ok (.lreturn, 1) := by decide +kernel
def f_X9_gain (x1 : Int32) (x2 : Int32) (x3 : Int32) (x4 : Int32) (M : Mm) : Option (Int64 × Mm) :=
  bd (f_X9_isCreeper x1 M) fun v2_2 M2_1 => if v2_2 = 0 then (bd (f_X9_refused (nI 1) M2_1) fun v10_17 M10_16 => some ((-9223372036854775808 : Int64), M10_16)) else (bd (f_X9_isBelowWall x2 M2_1) fun v20_4 M20_3 => jn (fun (M5 : Mm) => bd (f_X9_refused (nI 2) M5) fun v36_8 M36_7 => some ((-9223372036854775808 : Int64), M36_7)) fun j6 => if v20_4 = 0 then (j6  M20_3) else (bd (f_X9_isOfVerse x3 M20_3) fun v28_10 M28_9 => if v28_10 = 0 then (j6  M28_9) else (bg ((mset M28_9 0 11 (nI 0)) 0 8) fun g11 => bd (f_X2_gained g11 x1 x2 x3 x4 (mset M28_9 0 11 (nI 0))) fun v58_13 M58_12 => some (v58_13, M58_12))))
set_option maxHeartbeats 4000000 in
set_option maxRecDepth 100000 in
theorem s_X9_gain {l : Launch} {B : BT} (hA : bA B = false) {d : Nat} {r : Int64} {M' : Mm} {x1 : Int32} {x2 : Int32} {x3 : Int32} {x4 : Int32} {M : Mm}  (h : f_X9_gain x1 x2 x3 x4 M = some (r, M')) : Con l B LY (d + 5) yX9_gain cX9_gain 5 (some .long) 0 0 [.ref 0, .int x1, .int x2, .int x3, .int x4] 97 M (PL r M') := by
  refine con_of (by decide) (Nat.le_of_ble_eq_true rfl) ?_
  show GG l B LY (d + 5) yX9_gain cX9_gain 5 (some .long) 0 0 (PL r M') 97 0 0 0 [(0, .ref 0), (1, .int x1), (2, .int x2), (3, .int x3), (4, .int x4)] [] M
  rw [f_X9_gain] at h
  refine g_aload_n dX9_gain_0 rfl 0 rfl ?_
  refine g_iload_n dX9_gain_1 rfl 1 rfl ?_
  obtain ⟨v2_2, M2_1, eM2_1, h⟩ := bd_e h
  refine m_callVi (As := [.int x1]) (st := []) (s_X9_isCreeper (d := d + 4) hA  eM2_1) rfl okX9 ck_X9_isCreeper w_816 rfl (Nat.le_of_ble_eq_true rfl) dX9_gain_2 ?_
  refine g_if_ne (tgt := 18) dX9_gain_5 (by decide) (fun c18 => ?_) (fun c18 => ?_)
  · replace h := ite_n c18 h
    refine g_aload_n dX9_gain_18 rfl 0 rfl ?_
    refine g_iload_n dX9_gain_19 rfl 2 rfl ?_
    obtain ⟨v20_4, M20_3, eM20_3, h⟩ := bd_e h
    refine m_callVi (As := [.int x2]) (st := []) (s_X9_isBelowWall (d := d + 4) hA  eM20_3) rfl okX9 ck_X9_isBelowWall w_820 rfl (Nat.le_of_ble_eq_true rfl) dX9_gain_20 ?_
    obtain ⟨j6, ej6, h⟩ := jn_e h
    have hj6 : ∀ (M5 : Mm), j6 M5 = some (r, M') → GG l B LY (d + 5) yX9_gain cX9_gain 5 (some .long) 0 0 (PL r M') 97 0 0 34 [(0, .ref 0)] [] M5 := by
      intro M5 h
      rw [ej6] at h
      refine g_aload_n dX9_gain_34 rfl 0 rfl ?_
      refine g_iconst (v := (nI 2)) dX9_gain_35 (by decide) ?_
      obtain ⟨v36_8, M36_7, eM36_7, h⟩ := bd_e h
      refine m_callVi (As := [.int (nI 2)]) (st := []) (s_X9_refused (d := d + 4) hA  eM36_7) rfl okX9 ck_X9_refused w_468 rfl (Nat.le_of_ble_eq_true rfl) dX9_gain_36 ?_
      refine g_pop dX9_gain_39 rfl ?_
      refine g_ldc2 (v := (-9223372036854775808)) w_934 dX9_gain_40 ?_
      exact g_lret rfl (pl_of h) dX9_gain_43
    refine g_if_eq (tgt := 34) dX9_gain_23 (by decide) (fun c15 => ?_) (fun c15 => ?_)
    · replace h := ite_p c15 h
      refine g_sub [0] (lv' := [(0, .ref 0)]) rfl ?_
      exact hj6  _ h
    · replace h := ite_n c15 h
      refine g_aload_n dX9_gain_26 rfl 0 rfl ?_
      refine g_iload_n dX9_gain_27 rfl 3 rfl ?_
      obtain ⟨v28_10, M28_9, eM28_9, h⟩ := bd_e h
      refine m_callVi (As := [.int x3]) (st := []) (s_X9_isOfVerse (d := d + 2) hA  eM28_9) rfl okX9 ck_X9_isOfVerse w_907 rfl (Nat.le_of_ble_eq_true rfl) dX9_gain_28 ?_
      refine g_if_ne (tgt := 44) dX9_gain_31 (by decide) (fun c14 => ?_) (fun c14 => ?_)
      · replace h := ite_n c14 h
        refine g_aload_n dX9_gain_44 rfl 0 rfl ?_
        refine g_iconst (v := (nI 0)) dX9_gain_45 (by decide) ?_
        refine m_puti (k := 11) okX9 rfl rfl (by decide) w_424 rfl rfl rfl dX9_gain_46 ?_
        refine g_aload_n dX9_gain_49 rfl 0 rfl ?_
        obtain ⟨g11, eg11, hg11, h⟩ := bg_e h
        refine m_getm (k := 8) okX9 rfl rfl (by decide) w_421 rfl dX9_gain_50 eg11 hg11 ?_
        refine g_iload_n dX9_gain_53 rfl 1 rfl ?_
        refine g_iload_n dX9_gain_54 rfl 2 rfl ?_
        refine g_iload_n dX9_gain_55 rfl 3 rfl ?_
        refine g_iload dX9_gain_56 4 rfl ?_
        obtain ⟨v58_13, M58_12, eM58_12, h⟩ := bd_e h
        refine m_callSl (As := [.ref g11, .int x1, .int x2, .int x3, .int x4]) (st := []) (s_X2_gained (d := d + 0) hA hg11 eM58_12) ck_X2_gained w_935 rfl (Nat.le_of_ble_eq_true rfl) dX9_gain_58 ?_
        exact g_lret rfl (pl_of h) dX9_gain_61
      · replace h := ite_p c14 h
        refine g_sub [0] (lv' := [(0, .ref 0)]) rfl ?_
        exact hj6  _ h
  · replace h := ite_p c18 h
    refine g_aload_n dX9_gain_8 rfl 0 rfl ?_
    refine g_iconst (v := (nI 1)) dX9_gain_9 (by decide) ?_
    obtain ⟨v10_17, M10_16, eM10_16, h⟩ := bd_e h
    refine m_callVi (As := [.int (nI 1)]) (st := []) (s_X9_refused (d := d + 4) hA  eM10_16) rfl okX9 ck_X9_refused w_468 rfl (Nat.le_of_ble_eq_true rfl) dX9_gain_10 ?_
    refine g_pop dX9_gain_13 rfl ?_
    refine g_ldc2 (v := (-9223372036854775808)) w_934 dX9_gain_14 ?_
    exact g_lret rfl (pl_of h) dX9_gain_17
theorem ck_X9_gain : CKV yX9_gain cX9_gain 5 (some .long) 4 := ⟨⟨by decide, by decide, by decide +kernel⟩, w_933, w_72, ⟨w_931, w_932⟩, by decide⟩
theorem dX9_best_0 : decode cX9_best 0 = .ok (.aload_n 0, 1) := by decide +kernel
theorem dX9_best_1 : decode cX9_best 1 = .ok (.iload_n 1, 1) := by decide +kernel
theorem dX9_best_2 : decode cX9_best 2 = .ok (.invokevirtual 146, 3) := by decide +kernel
theorem dX9_best_5 : decode cX9_best 5 = .ok (.ifCond .ne 9, 3) := by decide +kernel
theorem dX9_best_8 : decode cX9_best 8 = .ok (.aload_n 0, 1) := by decide +kernel
theorem dX9_best_9 : decode cX9_best 9 = .ok (.iconst 1, 1) := by decide +kernel
theorem dX9_best_10 : decode cX9_best 10 = .ok (.invokevirtual 82, 3) := by decide +kernel
theorem dX9_best_13 : decode cX9_best 13 = .ok (.ireturn, 1) := by decide +kernel
theorem dX9_best_14 : decode cX9_best 14 = .ok (.aload_n 0, 1) := by decide +kernel
theorem dX9_best_15 : decode cX9_best 15 = .ok (.iload_n 2, 1) := by decide +kernel
theorem dX9_best_16 : decode cX9_best 16 = .ok (.invokevirtual 149, 3) := by decide +kernel
theorem dX9_best_19 : decode cX9_best 19 = .ok (.ifCond .ne 9, 3) := by decide +kernel
theorem dX9_best_22 : decode cX9_best 22 = .ok (.aload_n 0, 1) := by decide +kernel
theorem dX9_best_23 : decode cX9_best 23 = .ok (.iconst 2, 1) := by decide +kernel
theorem dX9_best_24 : decode cX9_best 24 = .ok (.invokevirtual 82, 3) := by decide +kernel
theorem dX9_best_27 : decode cX9_best 27 = .ok (.ireturn, 1) := by decide +kernel
theorem dX9_best_28 : decode cX9_best 28 = .ok (.aload_n 0, 1) := by decide +kernel
theorem dX9_best_29 : decode cX9_best 29 = .ok (.aload_n 0, 1) := by decide +kernel
theorem dX9_best_30 : decode cX9_best 30 = .ok (.getfield 10, 3) := by decide +kernel
theorem dX9_best_33 : decode cX9_best 33 = .ok (.iload_n 1, 1) := by decide +kernel
theorem dX9_best_34 : decode cX9_best 34 = .ok (.iload_n 2, 1) := by decide +kernel
theorem dX9_best_35 : decode cX9_best 35 = .ok (.iload_n 3, 1) := by decide +kernel
theorem dX9_best_36 : decode cX9_best 36 = .ok (.invokestatic 245, 3) := by decide +kernel
theorem dX9_best_39 : decode cX9_best 39 = .ok (.invokevirtual 114, 3) := by decide +kernel
theorem dX9_best_42 : decode cX9_best 42 = .ok (.ireturn, 1) := by decide +kernel
def f_X9_best (x1 : Int32) (x2 : Int32) (x3 : Int32) (M : Mm) : Option (Int32 × Mm) :=
  bd (f_X9_isCreeper x1 M) fun v2_2 M2_1 => if v2_2 = 0 then (bd (f_X9_refused (nI 1) M2_1) fun v10_14 M10_13 => some (v10_14, M10_13)) else (bd (f_X9_isBelowWall x2 M2_1) fun v16_4 M16_3 => if v16_4 = 0 then (bd (f_X9_refused (nI 2) M16_3) fun v24_11 M24_10 => some (v24_11, M24_10)) else (bg (M16_3 0 8) fun g5 => bd (f_X2_bestStand g5 x1 x2 x3 M16_3) fun v36_7 M36_6 => bd (f_X9_well v36_7 M36_6) fun v39_9 M39_8 => some (v39_9, M39_8)))
set_option maxHeartbeats 4000000 in
set_option maxRecDepth 100000 in
theorem s_X9_best {l : Launch} {B : BT} (hA : bA B = false) {d : Nat} {r : Int32} {M' : Mm} {x1 : Int32} {x2 : Int32} {x3 : Int32} {M : Mm}  (h : f_X9_best x1 x2 x3 M = some (r, M')) : Con l B LY (d + 6) yX9_best cX9_best 4 (some .int) 0 0 [.ref 0, .int x1, .int x2, .int x3] 97 M (PI r M') := by
  refine con_of (by decide) (Nat.le_of_ble_eq_true rfl) ?_
  show GG l B LY (d + 6) yX9_best cX9_best 4 (some .int) 0 0 (PI r M') 97 0 0 0 [(0, .ref 0), (1, .int x1), (2, .int x2), (3, .int x3)] [] M
  rw [f_X9_best] at h
  refine g_aload_n dX9_best_0 rfl 0 rfl ?_
  refine g_iload_n dX9_best_1 rfl 1 rfl ?_
  obtain ⟨v2_2, M2_1, eM2_1, h⟩ := bd_e h
  refine m_callVi (As := [.int x1]) (st := []) (s_X9_isCreeper (d := d + 5) hA  eM2_1) rfl okX9 ck_X9_isCreeper w_816 rfl (Nat.le_of_ble_eq_true rfl) dX9_best_2 ?_
  refine g_if_ne (tgt := 14) dX9_best_5 (by decide) (fun c15 => ?_) (fun c15 => ?_)
  · replace h := ite_n c15 h
    refine g_aload_n dX9_best_14 rfl 0 rfl ?_
    refine g_iload_n dX9_best_15 rfl 2 rfl ?_
    obtain ⟨v16_4, M16_3, eM16_3, h⟩ := bd_e h
    refine m_callVi (As := [.int x2]) (st := []) (s_X9_isBelowWall (d := d + 5) hA  eM16_3) rfl okX9 ck_X9_isBelowWall w_820 rfl (Nat.le_of_ble_eq_true rfl) dX9_best_16 ?_
    refine g_if_ne (tgt := 28) dX9_best_19 (by decide) (fun c12 => ?_) (fun c12 => ?_)
    · replace h := ite_n c12 h
      refine g_aload_n dX9_best_28 rfl 0 rfl ?_
      refine g_aload_n dX9_best_29 rfl 0 rfl ?_
      obtain ⟨g5, eg5, hg5, h⟩ := bg_e h
      refine m_getm (k := 8) okX9 rfl rfl (by decide) w_421 rfl dX9_best_30 eg5 hg5 ?_
      refine g_iload_n dX9_best_33 rfl 1 rfl ?_
      refine g_iload_n dX9_best_34 rfl 2 rfl ?_
      refine g_iload_n dX9_best_35 rfl 3 rfl ?_
      obtain ⟨v36_7, M36_6, eM36_6, h⟩ := bd_e h
      refine m_callSi (As := [.ref g5, .int x1, .int x2, .int x3]) (st := [.ref 0]) (s_X2_bestStand (d := d + 0) hA hg5 eM36_6) ck_X2_bestStand w_945 rfl (Nat.le_of_ble_eq_true rfl) dX9_best_36 ?_
      obtain ⟨v39_9, M39_8, eM39_8, h⟩ := bd_e h
      refine m_callVi (As := [.int v36_7]) (st := []) (s_X9_well (d := d + 5) hA  eM39_8) rfl okX9 ck_X9_well w_677 rfl (Nat.le_of_ble_eq_true rfl) dX9_best_39 ?_
      exact g_zret rfl rfl (pi_of h) dX9_best_42
    · replace h := ite_p c12 h
      refine g_aload_n dX9_best_22 rfl 0 rfl ?_
      refine g_iconst (v := (nI 2)) dX9_best_23 (by decide) ?_
      obtain ⟨v24_11, M24_10, eM24_10, h⟩ := bd_e h
      refine m_callVi (As := [.int (nI 2)]) (st := []) (s_X9_refused (d := d + 5) hA  eM24_10) rfl okX9 ck_X9_refused w_468 rfl (Nat.le_of_ble_eq_true rfl) dX9_best_24 ?_
      exact g_zret rfl rfl (pi_of h) dX9_best_27
  · replace h := ite_p c15 h
    refine g_aload_n dX9_best_8 rfl 0 rfl ?_
    refine g_iconst (v := (nI 1)) dX9_best_9 (by decide) ?_
    obtain ⟨v10_14, M10_13, eM10_13, h⟩ := bd_e h
    refine m_callVi (As := [.int (nI 1)]) (st := []) (s_X9_refused (d := d + 5) hA  eM10_13) rfl okX9 ck_X9_refused w_468 rfl (Nat.le_of_ble_eq_true rfl) dX9_best_10 ?_
    exact g_zret rfl rfl (pi_of h) dX9_best_13
theorem ck_X9_best : CKV yX9_best cX9_best 4 (some .int) 3 := ⟨⟨by decide, by decide, by decide +kernel⟩, w_944, w_72, ⟨w_942, w_943⟩, by decide⟩
