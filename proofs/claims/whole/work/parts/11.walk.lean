/-! walks: X1_isInSpan X1_leastWobble X1_greatestWobble X2_waysUnturned X2_allWays X2_waysToTurn X2_reached X9_leftOver X2_isShown X2_seenWays X2_gainedIf X2_gained X2_bestStand X2_isRest X2_countRests X2_restAt J6_bitCount_0f7a4 X2_riskTogether X2_watched. Written by wip/programs/parts.py. -/
theorem dX1_isInSpan_0 : decode cX1_isInSpan 0 = .ok (.aload_n 0, 1) := by decide +kernel
theorem dX1_isInSpan_1 : decode cX1_isInSpan 1 = .ok (.getfield 15, 3) := by decide +kernel
theorem dX1_isInSpan_4 : decode cX1_isInSpan 4 = .ok (.iload_n 1, 1) := by decide +kernel
theorem dX1_isInSpan_5 : decode cX1_isInSpan 5 = .ok (.invokestatic 33, 3) := by decide +kernel
theorem dX1_isInSpan_8 : decode cX1_isInSpan 8 = .ok (.istore_n 3, 1) := by decide +kernel
theorem dX1_isInSpan_9 : decode cX1_isInSpan 9 = .ok (.aload_n 0, 1) := by decide +kernel
theorem dX1_isInSpan_10 : decode cX1_isInSpan 10 = .ok (.getfield 18, 3) := by decide +kernel
theorem dX1_isInSpan_13 : decode cX1_isInSpan 13 = .ok (.iload_n 1, 1) := by decide +kernel
theorem dX1_isInSpan_14 : decode cX1_isInSpan 14 = .ok (.invokestatic 33, 3) := by decide +kernel
theorem dX1_isInSpan_17 : decode cX1_isInSpan 17 = .ok (.istore 4, 2) := by decide +kernel
theorem dX1_isInSpan_19 : decode cX1_isInSpan 19 = .ok (.iload_n 3, 1) := by decide +kernel
theorem dX1_isInSpan_20 : decode cX1_isInSpan 20 = .ok (.iload_n 2, 1) := by decide +kernel
theorem dX1_isInSpan_21 : decode cX1_isInSpan 21 = .ok (.iload 4, 2) := by decide +kernel
theorem dX1_isInSpan_23 : decode cX1_isInSpan 23 = .ok (.iload_n 3, 1) := by decide +kernel
theorem dX1_isInSpan_24 : decode cX1_isInSpan 24 = .ok (.invokestatic 44, 3) := by decide +kernel
theorem dX1_isInSpan_27 : decode cX1_isInSpan 27 = .ok (.iload_n 3, 1) := by decide +kernel
theorem dX1_isInSpan_28 : decode cX1_isInSpan 28 = .ok (.invokestatic 48, 3) := by decide +kernel
theorem dX1_isInSpan_31 : decode cX1_isInSpan 31 = .ok (.ifCond .eq 22, 3) := by decide +kernel
theorem dX1_isInSpan_34 : decode cX1_isInSpan 34 = .ok (.iload_n 3, 1) := by decide +kernel
theorem dX1_isInSpan_35 : decode cX1_isInSpan 35 = .ok (.iload_n 2, 1) := by decide +kernel
theorem dX1_isInSpan_36 : decode cX1_isInSpan 36 = .ok (.iconst 0, 1) := by decide +kernel
theorem dX1_isInSpan_37 : decode cX1_isInSpan 37 = .ok (.iload 4, 2) := by decide +kernel
theorem dX1_isInSpan_39 : decode cX1_isInSpan 39 = .ok (.invokestatic 44, 3) := by decide +kernel
theorem dX1_isInSpan_42 : decode cX1_isInSpan 42 = .ok (.iload_n 3, 1) := by decide +kernel
theorem dX1_isInSpan_43 : decode cX1_isInSpan 43 = .ok (.invokestatic 48, 3) := by decide +kernel
theorem dX1_isInSpan_46 : decode cX1_isInSpan 46 = .ok (.ifCond .eq 7, 3) := by decide +kernel
theorem dX1_isInSpan_49 : decode cX1_isInSpan 49 = .ok (.iconst 1, 1) := by decide +kernel
theorem dX1_isInSpan_50 : decode cX1_isInSpan 50 = .ok (.goto 4, 3) := by decide +kernel
theorem dX1_isInSpan_53 : decode cX1_isInSpan 53 = .ok (.iconst 0, 1) := by decide +kernel
theorem dX1_isInSpan_54 : decode cX1_isInSpan 54 = .ok (.ireturn, 1) := by decide +kernel
def f_X1_isInSpan (x1 : Int32) (x2 : Int32) (M : Mm) : Option (Int32 × Mm) :=
  bd (f_X9_at 75 x1 M) fun v5_2 M5_1 => bd (f_X9_at 76 x1 M5_1) fun v14_4 M14_3 => bd (f_X1_waysBetween v5_2 x2 v14_4 v5_2 M14_3) fun v24_6 M24_5 => bd (f_X1_isUsual v24_6 v5_2 M24_5) fun v28_8 M28_7 => jn (fun (M9 : Mm) => some ((nI 0), M9)) fun j10 => if v28_8 = 0 then (j10  M28_7) else (bd (f_X1_waysBetween v5_2 x2 (nI 0) v14_4 M28_7) fun v39_12 M39_11 => bd (f_X1_isUsual v39_12 v5_2 M39_11) fun v43_14 M43_13 => if v43_14 = 0 then (j10  M43_13) else (some ((nI 1), M43_13)))
set_option maxHeartbeats 4000000 in
set_option maxRecDepth 100000 in
theorem s_X1_isInSpan {l : Launch} {B : BT} (hA : bA B = false) {d : Nat} {r : Int32} {M' : Mm} {x1 : Int32} {x2 : Int32} {M : Mm}  (h : f_X1_isInSpan x1 x2 M = some (r, M')) : Con l B LY (d + 3) yX1_isInSpan cX1_isInSpan 5 (some .boolean) 0 0 [.ref 73, .int x1, .int x2] 97 M (PI r M') := by
  refine con_of (by decide) (Nat.le_of_ble_eq_true rfl) ?_
  show GG l B LY (d + 3) yX1_isInSpan cX1_isInSpan 5 (some .boolean) 0 0 (PI r M') 97 0 0 0 [(0, .ref 73), (1, .int x1), (2, .int x2)] [] M
  rw [f_X1_isInSpan] at h
  refine g_aload_n dX1_isInSpan_0 rfl 0 rfl ?_
  refine m_getr (k := 1) okX1 rfl rfl (by decide) w_359 rfl dX1_isInSpan_1 ?_
  refine g_iload_n dX1_isInSpan_4 rfl 1 rfl ?_
  obtain ⟨v5_2, M5_1, eM5_1, h⟩ := bd_e h
  refine m_callNi (As := [.ref 75, .int x1]) (st := []) (s_X9_at (d := d + 2) hA (al_of rfl) eM5_1) ck_X9_at (host := "StillYard") (List.mem_of_getElem? (i := 29) rfl) rfl (Nat.le_of_ble_eq_true rfl) dX1_isInSpan_5 ?_
  refine g_istore_n (lv' := [(3, .int v5_2), (0, .ref 73), (1, .int x1), (2, .int x2)]) dX1_isInSpan_8 rfl (by decide) rfl ?_
  refine g_aload_n dX1_isInSpan_9 rfl 1 rfl ?_
  refine m_getr (k := 2) okX1 rfl rfl (by decide) w_361 rfl dX1_isInSpan_10 ?_
  refine g_iload_n dX1_isInSpan_13 rfl 2 rfl ?_
  obtain ⟨v14_4, M14_3, eM14_3, h⟩ := bd_e h
  refine m_callNi (As := [.ref 76, .int x1]) (st := []) (s_X9_at (d := d + 2) hA (al_of rfl) eM14_3) ck_X9_at (host := "StillYard") (List.mem_of_getElem? (i := 29) rfl) rfl (Nat.le_of_ble_eq_true rfl) dX1_isInSpan_14 ?_
  refine g_istore (lv' := [(4, .int v14_4), (3, .int v5_2), (0, .ref 73), (1, .int x1), (2, .int x2)]) dX1_isInSpan_17 (by decide) rfl ?_
  refine g_iload_n dX1_isInSpan_19 rfl 1 rfl ?_
  refine g_iload_n dX1_isInSpan_20 rfl 4 rfl ?_
  refine g_iload dX1_isInSpan_21 0 rfl ?_
  refine g_iload_n dX1_isInSpan_23 rfl 1 rfl ?_
  obtain ⟨v24_6, M24_5, eM24_5, h⟩ := bd_e h
  refine m_callSl (As := [.int v5_2, .int x2, .int v14_4, .int v5_2]) (st := []) (s_X1_waysBetween (d := d + 0) hA  eM24_5) ck_X1_waysBetween w_1097 rfl (Nat.le_of_ble_eq_true rfl) dX1_isInSpan_24 ?_
  refine g_iload_n dX1_isInSpan_27 rfl 1 rfl ?_
  obtain ⟨v28_8, M28_7, eM28_7, h⟩ := bd_e h
  refine m_callSi (As := [.long v24_6, .int v5_2]) (st := []) (s_X1_isUsual (d := d + 2) hA  eM28_7) ck_X1_isUsual w_1103 rfl (Nat.le_of_ble_eq_true rfl) dX1_isInSpan_28 ?_
  obtain ⟨j10, ej10, h⟩ := jn_e h
  have hj10 : ∀ (M9 : Mm), j10 M9 = some (r, M') → GG l B LY (d + 3) yX1_isInSpan cX1_isInSpan 5 (some .boolean) 0 0 (PI r M') 97 0 0 53 [] [] M9 := by
    intro M9 h
    rw [ej10] at h
    refine g_iconst (v := (nI 0)) dX1_isInSpan_53 (by decide) ?_
    exact g_zret rfl rfl (pi_of h) dX1_isInSpan_54
  refine g_if_eq (tgt := 53) dX1_isInSpan_31 (by decide) (fun c16 => ?_) (fun c16 => ?_)
  · replace h := ite_p c16 h
    refine g_sub [] (lv' := []) rfl ?_
    exact hj10  _ h
  · replace h := ite_n c16 h
    refine g_iload_n dX1_isInSpan_34 rfl 1 rfl ?_
    refine g_iload_n dX1_isInSpan_35 rfl 4 rfl ?_
    refine g_iconst (v := (nI 0)) dX1_isInSpan_36 (by decide) ?_
    refine g_iload dX1_isInSpan_37 0 rfl ?_
    obtain ⟨v39_12, M39_11, eM39_11, h⟩ := bd_e h
    refine m_callSl (As := [.int v5_2, .int x2, .int (nI 0), .int v14_4]) (st := []) (s_X1_waysBetween (d := d + 0) hA  eM39_11) ck_X1_waysBetween w_1097 rfl (Nat.le_of_ble_eq_true rfl) dX1_isInSpan_39 ?_
    refine g_iload_n dX1_isInSpan_42 rfl 1 rfl ?_
    obtain ⟨v43_14, M43_13, eM43_13, h⟩ := bd_e h
    refine m_callSi (As := [.long v39_12, .int v5_2]) (st := []) (s_X1_isUsual (d := d + 2) hA  eM43_13) ck_X1_isUsual w_1103 rfl (Nat.le_of_ble_eq_true rfl) dX1_isInSpan_43 ?_
    refine g_if_eq (tgt := 53) dX1_isInSpan_46 (by decide) (fun c15 => ?_) (fun c15 => ?_)
    · replace h := ite_p c15 h
      refine g_sub [] (lv' := []) rfl ?_
      exact hj10  _ h
    · replace h := ite_n c15 h
      refine g_iconst (v := (nI 1)) dX1_isInSpan_49 (by decide) ?_
      refine g_goto (tgt := 54) dX1_isInSpan_50 (by decide) ?_
      exact g_zret rfl rfl (pi_of h) dX1_isInSpan_54
theorem ck_X1_isInSpan : CKV yX1_isInSpan cX1_isInSpan 5 (some .boolean) 2 := ⟨⟨by decide, by decide, by decide +kernel⟩, w_1096, w_78, ⟨w_1094, w_1095⟩, by decide⟩
theorem dX1_leastWobble_0 : decode cX1_leastWobble 0 = .ok (.iconst 0, 1) := by decide +kernel
theorem dX1_leastWobble_1 : decode cX1_leastWobble 1 = .ok (.istore_n 2, 1) := by decide +kernel
theorem dX1_leastWobble_2 : decode cX1_leastWobble 2 = .ok (.iload_n 2, 1) := by decide +kernel
theorem dX1_leastWobble_3 : decode cX1_leastWobble 3 = .ok (.bipush 100, 2) := by decide +kernel
theorem dX1_leastWobble_5 : decode cX1_leastWobble 5 = .ok (.if_icmp .ge 18, 3) := by decide +kernel
theorem dX1_leastWobble_8 : decode cX1_leastWobble 8 = .ok (.aload_n 0, 1) := by decide +kernel
theorem dX1_leastWobble_9 : decode cX1_leastWobble 9 = .ok (.iload_n 1, 1) := by decide +kernel
theorem dX1_leastWobble_10 : decode cX1_leastWobble 10 = .ok (.iload_n 2, 1) := by decide +kernel
theorem dX1_leastWobble_11 : decode cX1_leastWobble 11 = .ok (.invokevirtual 60, 3) := by decide +kernel
theorem dX1_leastWobble_14 : decode cX1_leastWobble 14 = .ok (.ifCond .ne 9, 3) := by decide +kernel
theorem dX1_leastWobble_17 : decode cX1_leastWobble 17 = .ok (.iinc 2 1, 3) := by decide +kernel
theorem dX1_leastWobble_20 : decode cX1_leastWobble 20 = .ok (.goto (-18), 3) := by decide +kernel
theorem dX1_leastWobble_23 : decode cX1_leastWobble 23 = .ok (.iload_n 2, 1) := by decide +kernel
theorem dX1_leastWobble_24 : decode cX1_leastWobble 24 = .ok (.ireturn, 1) := by decide +kernel
def lp_X1_leastWobble_2 (y1 : Int32)  : Nat → Int32 → Mm → Option (Int32 × Mm)
  | 0, _, _ => none
  | n + 1, y2, M =>
    if (nI 100) ≤ y2 then (some (y2, M)) else (bd (f_X1_isInSpan y1 y2 M) fun v11_2 M11_1 => if v11_2 = 0 then (lp_X1_leastWobble_2 y1 n (y2 + (nI 1)) M11_1) else (some (y2, M11_1)))
def f_X1_leastWobble (x1 : Int32) (M : Mm) : Option (Int32 × Mm) :=
  lp_X1_leastWobble_2 x1  N0 (nI 0) M
set_option maxHeartbeats 4000000 in
set_option maxRecDepth 100000 in
theorem sl_X1_leastWobble_2 {l : Launch} {B : BT} (hA : bA B = false) {d : Nat} {r : Int32} {M' : Mm} {y1 : Int32}    :
    ∀ (n : Nat) (y2 : Int32) (M : Mm), lp_X1_leastWobble_2 y1 n y2 M = some (r, M') → GG l B LY (d + 4) yX1_leastWobble cX1_leastWobble 3 (some .int) 0 0 (PI r M') 97 0 0 2 [(0, .ref 73), (1, .int y1), (2, .int y2)] [] M := by
  intro n
  induction n with
  | zero => intro y2 M h; cases h
  | succ n ih =>
    intro y2 M h
    rw [lp_X1_leastWobble_2] at h
    refine g_iload_n dX1_leastWobble_2 rfl 2 rfl ?_
    refine g_bipush (v := (nI 100)) dX1_leastWobble_3 (by decide) ?_
    refine g_icmp_ge (tgt := 23) dX1_leastWobble_5 (by decide) (fun c4 => ?_) (fun c4 => ?_)
    · replace h := ite_p c4 h
      refine g_iload_n dX1_leastWobble_23 rfl 2 rfl ?_
      exact g_zret rfl rfl (pi_of h) dX1_leastWobble_24
    · replace h := ite_n c4 h
      refine g_aload_n dX1_leastWobble_8 rfl 0 rfl ?_
      refine g_iload_n dX1_leastWobble_9 rfl 1 rfl ?_
      refine g_iload_n dX1_leastWobble_10 rfl 2 rfl ?_
      obtain ⟨v11_2, M11_1, eM11_1, h⟩ := bd_e h
      refine m_callVi (As := [.int y1, .int y2]) (st := []) (s_X1_isInSpan (d := d + 0) hA  eM11_1) rfl okX1 ck_X1_isInSpan w_1093 rfl (Nat.le_of_ble_eq_true rfl) dX1_leastWobble_11 ?_
      refine g_if_ne (tgt := 23) dX1_leastWobble_14 (by decide) (fun c3 => ?_) (fun c3 => ?_)
      · replace h := ite_n c3 h
        refine g_iload_n dX1_leastWobble_23 rfl 2 rfl ?_
        exact g_zret rfl rfl (pi_of h) dX1_leastWobble_24
      · replace h := ite_p c3 h
        refine g_iinc (v := (y2 + (nI 1))) (lv' := [(2, .int (y2 + (nI 1))), (0, .ref 73), (1, .int y1)]) dX1_leastWobble_17 2 rfl rfl (by decide) rfl ?_
        refine g_goto (tgt := 2) dX1_leastWobble_20 (by decide) ?_
        refine g_sub [1, 2, 0] (lv' := [(0, .ref 73), (1, .int y1), (2, .int (y2 + (nI 1)))]) rfl ?_
        exact ih _  _ h
set_option maxHeartbeats 4000000 in
set_option maxRecDepth 100000 in
theorem s_X1_leastWobble {l : Launch} {B : BT} (hA : bA B = false) {d : Nat} {r : Int32} {M' : Mm} {x1 : Int32} {M : Mm}  (h : f_X1_leastWobble x1 M = some (r, M')) : Con l B LY (d + 4) yX1_leastWobble cX1_leastWobble 3 (some .int) 0 0 [.ref 73, .int x1] 97 M (PI r M') := by
  refine con_of (by decide) (Nat.le_of_ble_eq_true rfl) ?_
  show GG l B LY (d + 4) yX1_leastWobble cX1_leastWobble 3 (some .int) 0 0 (PI r M') 97 0 0 0 [(0, .ref 73), (1, .int x1)] [] M
  rw [f_X1_leastWobble] at h
  refine g_iconst (v := (nI 0)) dX1_leastWobble_0 (by decide) ?_
  refine g_istore_n (lv' := [(2, .int (nI 0)), (0, .ref 73), (1, .int x1)]) dX1_leastWobble_1 rfl (by decide) rfl ?_
  refine g_sub [1, 2, 0] (lv' := [(0, .ref 73), (1, .int x1), (2, .int (nI 0))]) rfl ?_
  refine sl_X1_leastWobble_2 hA   _ _ _ h
theorem ck_X1_leastWobble : CKV yX1_leastWobble cX1_leastWobble 3 (some .int) 1 := ⟨⟨by decide, by decide, by decide +kernel⟩, w_1111, w_78, ⟨w_1109, w_1110⟩, by decide⟩
theorem dX1_greatestWobble_0 : decode cX1_greatestWobble 0 = .ok (.bipush 100, 2) := by decide +kernel
theorem dX1_greatestWobble_2 : decode cX1_greatestWobble 2 = .ok (.istore_n 2, 1) := by decide +kernel
theorem dX1_greatestWobble_3 : decode cX1_greatestWobble 3 = .ok (.iload_n 2, 1) := by decide +kernel
theorem dX1_greatestWobble_4 : decode cX1_greatestWobble 4 = .ok (.ifCond .le 18, 3) := by decide +kernel
theorem dX1_greatestWobble_7 : decode cX1_greatestWobble 7 = .ok (.aload_n 0, 1) := by decide +kernel
theorem dX1_greatestWobble_8 : decode cX1_greatestWobble 8 = .ok (.iload_n 1, 1) := by decide +kernel
theorem dX1_greatestWobble_9 : decode cX1_greatestWobble 9 = .ok (.iload_n 2, 1) := by decide +kernel
theorem dX1_greatestWobble_10 : decode cX1_greatestWobble 10 = .ok (.invokevirtual 60, 3) := by decide +kernel
theorem dX1_greatestWobble_13 : decode cX1_greatestWobble 13 = .ok (.ifCond .ne 9, 3) := by decide +kernel
theorem dX1_greatestWobble_16 : decode cX1_greatestWobble 16 = .ok (.iinc 2 (-1), 3) := by decide +kernel
theorem dX1_greatestWobble_19 : decode cX1_greatestWobble 19 = .ok (.goto (-16), 3) := by decide +kernel
theorem dX1_greatestWobble_22 : decode cX1_greatestWobble 22 = .ok (.iload_n 2, 1) := by decide +kernel
theorem dX1_greatestWobble_23 : decode cX1_greatestWobble 23 = .ok (.ireturn, 1) := by decide +kernel
def lp_X1_greatestWobble_3 (y1 : Int32)  : Nat → Int32 → Mm → Option (Int32 × Mm)
  | 0, _, _ => none
  | n + 1, y2, M =>
    if y2 ≤ 0 then (some (y2, M)) else (bd (f_X1_isInSpan y1 y2 M) fun v10_2 M10_1 => if v10_2 = 0 then (lp_X1_greatestWobble_3 y1 n (y2 + (-1 : Int32)) M10_1) else (some (y2, M10_1)))
def f_X1_greatestWobble (x1 : Int32) (M : Mm) : Option (Int32 × Mm) :=
  lp_X1_greatestWobble_3 x1  N0 (nI 100) M
set_option maxHeartbeats 4000000 in
set_option maxRecDepth 100000 in
theorem sl_X1_greatestWobble_3 {l : Launch} {B : BT} (hA : bA B = false) {d : Nat} {r : Int32} {M' : Mm} {y1 : Int32}    :
    ∀ (n : Nat) (y2 : Int32) (M : Mm), lp_X1_greatestWobble_3 y1 n y2 M = some (r, M') → GG l B LY (d + 4) yX1_greatestWobble cX1_greatestWobble 3 (some .int) 0 0 (PI r M') 97 0 0 3 [(0, .ref 73), (1, .int y1), (2, .int y2)] [] M := by
  intro n
  induction n with
  | zero => intro y2 M h; cases h
  | succ n ih =>
    intro y2 M h
    rw [lp_X1_greatestWobble_3] at h
    refine g_iload_n dX1_greatestWobble_3 rfl 2 rfl ?_
    refine g_if_le (tgt := 22) dX1_greatestWobble_4 (by decide) (fun c4 => ?_) (fun c4 => ?_)
    · replace h := ite_p c4 h
      refine g_iload_n dX1_greatestWobble_22 rfl 2 rfl ?_
      exact g_zret rfl rfl (pi_of h) dX1_greatestWobble_23
    · replace h := ite_n c4 h
      refine g_aload_n dX1_greatestWobble_7 rfl 0 rfl ?_
      refine g_iload_n dX1_greatestWobble_8 rfl 1 rfl ?_
      refine g_iload_n dX1_greatestWobble_9 rfl 2 rfl ?_
      obtain ⟨v10_2, M10_1, eM10_1, h⟩ := bd_e h
      refine m_callVi (As := [.int y1, .int y2]) (st := []) (s_X1_isInSpan (d := d + 0) hA  eM10_1) rfl okX1 ck_X1_isInSpan w_1093 rfl (Nat.le_of_ble_eq_true rfl) dX1_greatestWobble_10 ?_
      refine g_if_ne (tgt := 22) dX1_greatestWobble_13 (by decide) (fun c3 => ?_) (fun c3 => ?_)
      · replace h := ite_n c3 h
        refine g_iload_n dX1_greatestWobble_22 rfl 2 rfl ?_
        exact g_zret rfl rfl (pi_of h) dX1_greatestWobble_23
      · replace h := ite_p c3 h
        refine g_iinc (v := (y2 + (-1 : Int32))) (lv' := [(2, .int (y2 + (-1 : Int32))), (0, .ref 73), (1, .int y1)]) dX1_greatestWobble_16 2 rfl rfl (by decide) rfl ?_
        refine g_goto (tgt := 3) dX1_greatestWobble_19 (by decide) ?_
        refine g_sub [1, 2, 0] (lv' := [(0, .ref 73), (1, .int y1), (2, .int (y2 + (-1 : Int32)))]) rfl ?_
        exact ih _  _ h
set_option maxHeartbeats 4000000 in
set_option maxRecDepth 100000 in
theorem s_X1_greatestWobble {l : Launch} {B : BT} (hA : bA B = false) {d : Nat} {r : Int32} {M' : Mm} {x1 : Int32} {M : Mm}  (h : f_X1_greatestWobble x1 M = some (r, M')) : Con l B LY (d + 4) yX1_greatestWobble cX1_greatestWobble 3 (some .int) 0 0 [.ref 73, .int x1] 97 M (PI r M') := by
  refine con_of (by decide) (Nat.le_of_ble_eq_true rfl) ?_
  show GG l B LY (d + 4) yX1_greatestWobble cX1_greatestWobble 3 (some .int) 0 0 (PI r M') 97 0 0 0 [(0, .ref 73), (1, .int x1)] [] M
  rw [f_X1_greatestWobble] at h
  refine g_bipush (v := (nI 100)) dX1_greatestWobble_0 (by decide) ?_
  refine g_istore_n (lv' := [(2, .int (nI 100)), (0, .ref 73), (1, .int x1)]) dX1_greatestWobble_2 rfl (by decide) rfl ?_
  refine g_sub [1, 2, 0] (lv' := [(0, .ref 73), (1, .int x1), (2, .int (nI 100))]) rfl ?_
  refine sl_X1_greatestWobble_3 hA   _ _ _ h
theorem ck_X1_greatestWobble : CKV yX1_greatestWobble cX1_greatestWobble 3 (some .int) 1 := ⟨⟨by decide, by decide, by decide +kernel⟩, w_1092, w_78, ⟨w_1090, w_1091⟩, by decide⟩
theorem dX2_waysUnturned_0 : decode cX2_waysUnturned 0 = .ok (.iload_n 1, 1) := by decide +kernel
theorem dX2_waysUnturned_1 : decode cX2_waysUnturned 1 = .ok (.aload_n 0, 1) := by decide +kernel
theorem dX2_waysUnturned_2 : decode cX2_waysUnturned 2 = .ok (.getfield 15, 3) := by decide +kernel
theorem dX2_waysUnturned_5 : decode cX2_waysUnturned 5 = .ok (.if_icmp .lt 5, 3) := by decide +kernel
theorem dX2_waysUnturned_8 : decode cX2_waysUnturned 8 = .ok (.lconst 0, 1) := by decide +kernel
theorem dX2_waysUnturned_9 : decode cX2_waysUnturned 9 = .ok (.lreturn, 1) := by decide +kernel
theorem dX2_waysUnturned_10 : decode cX2_waysUnturned 10 = .ok (.lconst 1, 1) := by decide +kernel
theorem dX2_waysUnturned_11 : decode cX2_waysUnturned 11 = .ok (.lstore_n 2, 1) := by decide +kernel
theorem dX2_waysUnturned_12 : decode cX2_waysUnturned 12 = .ok (.iconst 0, 1) := by decide +kernel
theorem dX2_waysUnturned_13 : decode cX2_waysUnturned 13 = .ok (.istore 4, 2) := by decide +kernel
theorem dX2_waysUnturned_15 : decode cX2_waysUnturned 15 = .ok (.iload 4, 2) := by decide +kernel
theorem dX2_waysUnturned_17 : decode cX2_waysUnturned 17 = .ok (.aload_n 0, 1) := by decide +kernel
theorem dX2_waysUnturned_18 : decode cX2_waysUnturned 18 = .ok (.getfield 15, 3) := by decide +kernel
theorem dX2_waysUnturned_21 : decode cX2_waysUnturned 21 = .ok (.iconst 1, 1) := by decide +kernel
theorem dX2_waysUnturned_22 : decode cX2_waysUnturned 22 = .ok (.isub, 1) := by decide +kernel
theorem dX2_waysUnturned_23 : decode cX2_waysUnturned 23 = .ok (.if_icmp .ge 37, 3) := by decide +kernel
theorem dX2_waysUnturned_26 : decode cX2_waysUnturned 26 = .ok (.lload_n 2, 1) := by decide +kernel
theorem dX2_waysUnturned_27 : decode cX2_waysUnturned 27 = .ok (.iload 4, 2) := by decide +kernel
theorem dX2_waysUnturned_29 : decode cX2_waysUnturned 29 = .ok (.iload_n 1, 1) := by decide +kernel
theorem dX2_waysUnturned_30 : decode cX2_waysUnturned 30 = .ok (.if_icmp .ge 19, 3) := by decide +kernel
theorem dX2_waysUnturned_33 : decode cX2_waysUnturned 33 = .ok (.bipush 100, 2) := by decide +kernel
theorem dX2_waysUnturned_35 : decode cX2_waysUnturned 35 = .ok (.aload_n 0, 1) := by decide +kernel
theorem dX2_waysUnturned_36 : decode cX2_waysUnturned 36 = .ok (.getfield 21, 3) := by decide +kernel
theorem dX2_waysUnturned_39 : decode cX2_waysUnturned 39 = .ok (.iload 4, 2) := by decide +kernel
theorem dX2_waysUnturned_41 : decode cX2_waysUnturned 41 = .ok (.invokestatic 25, 3) := by decide +kernel
theorem dX2_waysUnturned_44 : decode cX2_waysUnturned 44 = .ok (.isub, 1) := by decide +kernel
theorem dX2_waysUnturned_45 : decode cX2_waysUnturned 45 = .ok (.i2l, 1) := by decide +kernel
theorem dX2_waysUnturned_46 : decode cX2_waysUnturned 46 = .ok (.goto 6, 3) := by decide +kernel
theorem dX2_waysUnturned_49 : decode cX2_waysUnturned 49 = .ok (.ldc2_w 29, 3) := by decide +kernel
theorem dX2_waysUnturned_52 : decode cX2_waysUnturned 52 = .ok (.lmul, 1) := by decide +kernel
theorem dX2_waysUnturned_53 : decode cX2_waysUnturned 53 = .ok (.lstore_n 2, 1) := by decide +kernel
theorem dX2_waysUnturned_54 : decode cX2_waysUnturned 54 = .ok (.iinc 4 1, 3) := by decide +kernel
theorem dX2_waysUnturned_57 : decode cX2_waysUnturned 57 = .ok (.goto (-42), 3) := by decide +kernel
theorem dX2_waysUnturned_60 : decode cX2_waysUnturned 60 = .ok (.lload_n 2, 1) := by decide +kernel
theorem dX2_waysUnturned_61 : decode cX2_waysUnturned 61 = .ok (.lreturn, 1) := by decide +kernel
def lp_X2_waysUnturned_15 (y0 : Nat) (y1 : Int32)  : Nat → Int64 → Int32 → Mm → Option (Int64 × Mm)
  | 0, _, _, _ => none
  | n + 1, y2, y4, M =>
    if ((M y0 9) - (nI 1)) ≤ y4 then (some (y2, M)) else (jn (fun (s1 : Int64) (M2 : Mm) => lp_X2_waysUnturned_15 y0 y1 n (y2 * s1) (y4 + (nI 1)) M2) fun j3 => if y1 ≤ y4 then (j3 (100 : Int64) M) else (bd (f_X9_at (y0 + 4) y4 M) fun v41_5 M41_4 => j3 ((nI 100) - v41_5).toInt64 M41_4))
def f_X2_waysUnturned (x0 : Nat) (x1 : Int32) (M : Mm) : Option (Int64 × Mm) :=
  if x1 < (M x0 9) then (lp_X2_waysUnturned_15 x0 x1  N0 (1 : Int64) (nI 0) M) else (some ((0 : Int64), M))
set_option maxHeartbeats 4000000 in
set_option maxRecDepth 100000 in
theorem sl_X2_waysUnturned_15 {l : Launch} {B : BT} (hA : bA B = false) {d : Nat} {r : Int64} {M' : Mm} {y0 : Nat} {y1 : Int32} (hy0 : LY y0 = .inl (0, fk0))   :
    ∀ (n : Nat) (y2 : Int64) (y4 : Int32) (M : Mm), lp_X2_waysUnturned_15 y0 y1 n y2 y4 M = some (r, M') → GG l B LY (d + 1) yX2_waysUnturned cX2_waysUnturned 5 (some .long) 0 0 (PL r M') 97 0 0 15 [(0, .ref y0), (1, .int y1), (2, .long y2), (4, .int y4)] [] M := by
  intro n
  induction n with
  | zero => intro y2 y4 M h; cases h
  | succ n ih =>
    intro y2 y4 M h
    rw [lp_X2_waysUnturned_15] at h
    refine g_iload dX2_waysUnturned_15 3 rfl ?_
    refine g_aload_n dX2_waysUnturned_17 rfl 0 rfl ?_
    refine m_geti (k := 9) okX0 hy0 rfl (by decide) w_134 rfl dX2_waysUnturned_18 ?_
    refine g_iconst (v := (nI 1)) dX2_waysUnturned_21 (by decide) ?_
    refine g_isub dX2_waysUnturned_22 ?_
    refine g_icmp_ge (tgt := 60) dX2_waysUnturned_23 (by decide) (fun c7 => ?_) (fun c7 => ?_)
    · replace h := ite_p c7 h
      refine g_lload_n dX2_waysUnturned_60 rfl 2 rfl ?_
      exact g_lret rfl (pl_of h) dX2_waysUnturned_61
    · replace h := ite_n c7 h
      refine g_lload_n dX2_waysUnturned_26 rfl 2 rfl ?_
      refine g_iload dX2_waysUnturned_27 3 rfl ?_
      refine g_iload_n dX2_waysUnturned_29 rfl 1 rfl ?_
      obtain ⟨j3, ej3, h⟩ := jn_e h
      have hj3 : ∀ (s1 : Int64) (M2 : Mm), j3 s1 M2 = some (r, M') → GG l B LY (d + 1) yX2_waysUnturned cX2_waysUnturned 5 (some .long) 0 0 (PL r M') 97 0 0 52 [(0, .ref y0), (1, .int y1), (4, .int y4)] [.long s1, .long y2] M2 := by
        intro s1 M2 h
        rw [ej3] at h
        refine g_lmul dX2_waysUnturned_52 ?_
        refine g_lstore_n (lv' := [(2, .long (y2 * s1)), (0, .ref y0), (1, .int y1), (4, .int y4)]) dX2_waysUnturned_53 rfl (by decide) rfl ?_
        refine g_iinc (v := (y4 + (nI 1))) (lv' := [(4, .int (y4 + (nI 1))), (2, .long (y2 * s1)), (0, .ref y0), (1, .int y1)]) dX2_waysUnturned_54 3 rfl rfl (by decide) rfl ?_
        refine g_goto (tgt := 15) dX2_waysUnturned_57 (by decide) ?_
        refine g_sub [2, 3, 1, 0] (lv' := [(0, .ref y0), (1, .int y1), (2, .long (y2 * s1)), (4, .int (y4 + (nI 1)))]) rfl ?_
        exact ih _ _  _ h
      refine g_icmp_ge (tgt := 49) dX2_waysUnturned_30 (by decide) (fun c6 => ?_) (fun c6 => ?_)
      · replace h := ite_p c6 h
        refine g_ldc2 (v := 100) w_895 dX2_waysUnturned_49 ?_
        refine g_sub [0, 1, 3] (lv' := [(0, .ref y0), (1, .int y1), (4, .int y4)]) rfl ?_
        exact hj3 _ _ h
      · replace h := ite_n c6 h
        refine g_bipush (v := (nI 100)) dX2_waysUnturned_33 (by decide) ?_
        refine g_aload_n dX2_waysUnturned_35 rfl 0 rfl ?_
        refine m_getr (k := 3) okX0 hy0 rfl (by decide) w_112 rfl dX2_waysUnturned_36 ?_
        refine g_iload dX2_waysUnturned_39 3 rfl ?_
        obtain ⟨v41_5, M41_4, eM41_4, h⟩ := bd_e h
        refine m_callNi (As := [.ref (y0 + 4), .int y4]) (st := [.int (nI 100), .long y2]) (s_X9_at (d := d + 0) hA (al_of (aX0_4 hy0)) eM41_4) ck_X9_at (host := "StillYard") (List.mem_of_getElem? (i := 22) rfl) rfl (Nat.le_of_ble_eq_true rfl) dX2_waysUnturned_41 ?_
        refine g_isub dX2_waysUnturned_44 ?_
        refine g_i2l dX2_waysUnturned_45 ?_
        refine g_goto (tgt := 52) dX2_waysUnturned_46 (by decide) ?_
        refine g_sub [0, 1, 3] (lv' := [(0, .ref y0), (1, .int y1), (4, .int y4)]) rfl ?_
        exact hj3 _ _ h
set_option maxHeartbeats 4000000 in
set_option maxRecDepth 100000 in
theorem s_X2_waysUnturned {l : Launch} {B : BT} (hA : bA B = false) {d : Nat} {r : Int64} {M' : Mm} {x0 : Nat} {x1 : Int32} {M : Mm} (hx0 : LY x0 = .inl (0, fk0)) (h : f_X2_waysUnturned x0 x1 M = some (r, M')) : Con l B LY (d + 1) yX2_waysUnturned cX2_waysUnturned 5 (some .long) 0 0 [.ref x0, .int x1] 97 M (PL r M') := by
  refine con_of (by decide) (Nat.le_of_ble_eq_true rfl) ?_
  show GG l B LY (d + 1) yX2_waysUnturned cX2_waysUnturned 5 (some .long) 0 0 (PL r M') 97 0 0 0 [(0, .ref x0), (1, .int x1)] [] M
  rw [f_X2_waysUnturned] at h
  refine g_iload_n dX2_waysUnturned_0 rfl 1 rfl ?_
  refine g_aload_n dX2_waysUnturned_1 rfl 0 rfl ?_
  refine m_geti (k := 9) okX0 hx0 rfl (by decide) w_134 rfl dX2_waysUnturned_2 ?_
  refine g_icmp_lt (tgt := 10) dX2_waysUnturned_5 (by decide) (fun c8 => ?_) (fun c8 => ?_)
  · replace h := ite_p c8 h
    refine g_lconst (v := 1) dX2_waysUnturned_10 (by decide) ?_
    refine g_lstore_n (lv' := [(2, .long (1 : Int64)), (0, .ref x0), (1, .int x1)]) dX2_waysUnturned_11 rfl (by decide) rfl ?_
    refine g_iconst (v := (nI 0)) dX2_waysUnturned_12 (by decide) ?_
    refine g_istore (lv' := [(4, .int (nI 0)), (2, .long (1 : Int64)), (0, .ref x0), (1, .int x1)]) dX2_waysUnturned_13 (by decide) rfl ?_
    refine g_sub [2, 3, 1, 0] (lv' := [(0, .ref x0), (1, .int x1), (2, .long (1 : Int64)), (4, .int (nI 0))]) rfl ?_
    refine sl_X2_waysUnturned_15 hA hx0  _ _ _ _ h
  · replace h := ite_n c8 h
    refine g_lconst (v := 0) dX2_waysUnturned_8 (by decide) ?_
    exact g_lret rfl (pl_of h) dX2_waysUnturned_9
theorem ck_X2_waysUnturned : CKS yX2_waysUnturned cX2_waysUnturned 5 (some .long) 2 := ⟨⟨by decide, by decide, by decide +kernel⟩, w_893, w_87, w_892, by decide⟩
theorem dX2_allWays_0 : decode cX2_allWays 0 = .ok (.aload_n 0, 1) := by decide +kernel
theorem dX2_allWays_1 : decode cX2_allWays 1 = .ok (.iconst 0, 1) := by decide +kernel
theorem dX2_allWays_2 : decode cX2_allWays 2 = .ok (.invokestatic 9, 3) := by decide +kernel
theorem dX2_allWays_5 : decode cX2_allWays 5 = .ok (.lreturn, 1) := by decide +kernel
def f_X2_allWays (x0 : Nat) (M : Mm) : Option (Int64 × Mm) :=
  bd (f_X2_waysUnturned x0 (nI 0) M) fun v2_2 M2_1 => some (v2_2, M2_1)
set_option maxHeartbeats 4000000 in
set_option maxRecDepth 100000 in
theorem s_X2_allWays {l : Launch} {B : BT} (hA : bA B = false) {d : Nat} {r : Int64} {M' : Mm} {x0 : Nat} {M : Mm} (hx0 : LY x0 = .inl (0, fk0)) (h : f_X2_allWays x0 M = some (r, M')) : Con l B LY (d + 2) yX2_allWays cX2_allWays 1 (some .long) 0 0 [.ref x0] 97 M (PL r M') := by
  refine con_of (by decide) (Nat.le_of_ble_eq_true rfl) ?_
  show GG l B LY (d + 2) yX2_allWays cX2_allWays 1 (some .long) 0 0 (PL r M') 97 0 0 0 [(0, .ref x0)] [] M
  rw [f_X2_allWays] at h
  refine g_aload_n dX2_allWays_0 rfl 0 rfl ?_
  refine g_iconst (v := (nI 0)) dX2_allWays_1 (by decide) ?_
  obtain ⟨v2_2, M2_1, eM2_1, h⟩ := bd_e h
  refine m_callSl (As := [.ref x0, .int (nI 0)]) (st := []) (s_X2_waysUnturned (d := d + 0) hA hx0 eM2_1) ck_X2_waysUnturned w_891 rfl (Nat.le_of_ble_eq_true rfl) dX2_allWays_2 ?_
  exact g_lret rfl (pl_of h) dX2_allWays_5
theorem ck_X2_allWays : CKS yX2_allWays cX2_allWays 1 (some .long) 1 := ⟨⟨by decide, by decide, by decide +kernel⟩, w_902, w_87, w_901, by decide⟩
theorem dX2_waysToTurn_0 : decode cX2_waysToTurn 0 = .ok (.aload_n 0, 1) := by decide +kernel
theorem dX2_waysToTurn_1 : decode cX2_waysToTurn 1 = .ok (.iload_n 1, 1) := by decide +kernel
theorem dX2_waysToTurn_2 : decode cX2_waysToTurn 2 = .ok (.invokestatic 9, 3) := by decide +kernel
theorem dX2_waysToTurn_5 : decode cX2_waysToTurn 5 = .ok (.aload_n 0, 1) := by decide +kernel
theorem dX2_waysToTurn_6 : decode cX2_waysToTurn 6 = .ok (.iload_n 1, 1) := by decide +kernel
theorem dX2_waysToTurn_7 : decode cX2_waysToTurn 7 = .ok (.iconst 1, 1) := by decide +kernel
theorem dX2_waysToTurn_8 : decode cX2_waysToTurn 8 = .ok (.iadd, 1) := by decide +kernel
theorem dX2_waysToTurn_9 : decode cX2_waysToTurn 9 = .ok (.invokestatic 9, 3) := by decide +kernel
theorem dX2_waysToTurn_12 : decode cX2_waysToTurn 12 = .ok (.lsub, 1) := by decide +kernel
theorem dX2_waysToTurn_13 : decode cX2_waysToTurn 13 = .ok (.lreturn, 1) := by decide +kernel
def f_X2_waysToTurn (x0 : Nat) (x1 : Int32) (M : Mm) : Option (Int64 × Mm) :=
  bd (f_X2_waysUnturned x0 x1 M) fun v2_2 M2_1 => bd (f_X2_waysUnturned x0 (x1 + (nI 1)) M2_1) fun v9_4 M9_3 => some ((v2_2 - v9_4), M9_3)
set_option maxHeartbeats 4000000 in
set_option maxRecDepth 100000 in
theorem s_X2_waysToTurn {l : Launch} {B : BT} (hA : bA B = false) {d : Nat} {r : Int64} {M' : Mm} {x0 : Nat} {x1 : Int32} {M : Mm} (hx0 : LY x0 = .inl (0, fk0)) (h : f_X2_waysToTurn x0 x1 M = some (r, M')) : Con l B LY (d + 2) yX2_waysToTurn cX2_waysToTurn 2 (some .long) 0 0 [.ref x0, .int x1] 97 M (PL r M') := by
  refine con_of (by decide) (Nat.le_of_ble_eq_true rfl) ?_
  show GG l B LY (d + 2) yX2_waysToTurn cX2_waysToTurn 2 (some .long) 0 0 (PL r M') 97 0 0 0 [(0, .ref x0), (1, .int x1)] [] M
  rw [f_X2_waysToTurn] at h
  refine g_aload_n dX2_waysToTurn_0 rfl 0 rfl ?_
  refine g_iload_n dX2_waysToTurn_1 rfl 1 rfl ?_
  obtain ⟨v2_2, M2_1, eM2_1, h⟩ := bd_e h
  refine m_callSl (As := [.ref x0, .int x1]) (st := []) (s_X2_waysUnturned (d := d + 0) hA hx0 eM2_1) ck_X2_waysUnturned w_891 rfl (Nat.le_of_ble_eq_true rfl) dX2_waysToTurn_2 ?_
  refine g_aload_n dX2_waysToTurn_5 rfl 0 rfl ?_
  refine g_iload_n dX2_waysToTurn_6 rfl 1 rfl ?_
  refine g_iconst (v := (nI 1)) dX2_waysToTurn_7 (by decide) ?_
  refine g_iadd dX2_waysToTurn_8 ?_
  obtain ⟨v9_4, M9_3, eM9_3, h⟩ := bd_e h
  refine m_callSl (As := [.ref x0, .int (x1 + (nI 1))]) (st := [.long v2_2]) (s_X2_waysUnturned (d := d + 0) hA hx0 eM9_3) ck_X2_waysUnturned w_891 rfl (Nat.le_of_ble_eq_true rfl) dX2_waysToTurn_9 ?_
  refine g_lsub dX2_waysToTurn_12 ?_
  exact g_lret rfl (pl_of h) dX2_waysToTurn_13
theorem ck_X2_waysToTurn : CKS yX2_waysToTurn cX2_waysToTurn 2 (some .long) 2 := ⟨⟨by decide, by decide, by decide +kernel⟩, w_890, w_87, w_889, by decide⟩
theorem dX2_reached_0 : decode cX2_reached 0 = .ok (.aload_n 0, 1) := by decide +kernel
theorem dX2_reached_1 : decode cX2_reached 1 = .ok (.getfield 31, 3) := by decide +kernel
theorem dX2_reached_4 : decode cX2_reached 4 = .ok (.iload_n 2, 1) := by decide +kernel
theorem dX2_reached_5 : decode cX2_reached 5 = .ok (.iload_n 3, 1) := by decide +kernel
theorem dX2_reached_6 : decode cX2_reached 6 = .ok (.aload_n 0, 1) := by decide +kernel
theorem dX2_reached_7 : decode cX2_reached 7 = .ok (.iload_n 1, 1) := by decide +kernel
theorem dX2_reached_8 : decode cX2_reached 8 = .ok (.iconst 1, 1) := by decide +kernel
theorem dX2_reached_9 : decode cX2_reached 9 = .ok (.invokevirtual 34, 3) := by decide +kernel
theorem dX2_reached_12 : decode cX2_reached 12 = .ok (.invokestatic 38, 3) := by decide +kernel
theorem dX2_reached_15 : decode cX2_reached 15 = .ok (.iadd, 1) := by decide +kernel
theorem dX2_reached_16 : decode cX2_reached 16 = .ok (.invokestatic 41, 3) := by decide +kernel
theorem dX2_reached_19 : decode cX2_reached 19 = .ok (.ireturn, 1) := by decide +kernel
def f_X2_reached (x0 : Nat) (x1 : Int32) (x2 : Int32) (x3 : Int32) (M : Mm) : Option (Int32 × Mm) :=
  bd (f_X0_trait x0 x1 (nI 1) M) fun v9_2 M9_1 => bd (f_X9_by x3 v9_2 M9_1) fun v12_4 M12_3 => some ((if (x2 + v12_4) < (M x0 6) then (x2 + v12_4) else (M x0 6)), M12_3)
set_option maxHeartbeats 4000000 in
set_option maxRecDepth 100000 in
theorem s_X2_reached {l : Launch} {B : BT} (hA : bA B = false) {d : Nat} {r : Int32} {M' : Mm} {x0 : Nat} {x1 : Int32} {x2 : Int32} {x3 : Int32} {M : Mm} (hx0 : LY x0 = .inl (0, fk0)) (h : f_X2_reached x0 x1 x2 x3 M = some (r, M')) : Con l B LY (d + 1) yX2_reached cX2_reached 4 (some .int) 0 0 [.ref x0, .int x1, .int x2, .int x3] 97 M (PI r M') := by
  refine con_of (by decide) (Nat.le_of_ble_eq_true rfl) ?_
  show GG l B LY (d + 1) yX2_reached cX2_reached 4 (some .int) 0 0 (PI r M') 97 0 0 0 [(0, .ref x0), (1, .int x1), (2, .int x2), (3, .int x3)] [] M
  rw [f_X2_reached] at h
  refine g_aload_n dX2_reached_0 rfl 0 rfl ?_
  refine m_geti (k := 6) okX0 hx0 rfl (by decide) w_123 rfl dX2_reached_1 ?_
  refine g_iload_n dX2_reached_4 rfl 2 rfl ?_
  refine g_iload_n dX2_reached_5 rfl 3 rfl ?_
  refine g_aload_n dX2_reached_6 rfl 0 rfl ?_
  refine g_iload_n dX2_reached_7 rfl 1 rfl ?_
  refine g_iconst (v := (nI 1)) dX2_reached_8 (by decide) ?_
  obtain ⟨v9_2, M9_1, eM9_1, h⟩ := bd_e h
  refine m_callVi (As := [.int x1, .int (nI 1)]) (st := [.int x3, .int x2, .int (M x0 6)]) (s_X0_trait (d := d + 0) hA hx0 eM9_1) hx0 okX0 ck_X0_trait w_918 rfl (Nat.le_of_ble_eq_true rfl) dX2_reached_9 ?_
  obtain ⟨v12_4, M12_3, eM12_3, h⟩ := bd_e h
  refine m_callNi (As := [.int x3, .int v9_2]) (st := [.int x2, .int (M x0 6)]) (s_X9_by (d := d + 0) hA  eM12_3) ck_X9_by (host := "StillYard") (List.mem_of_getElem? (i := 24) rfl) rfl (Nat.le_of_ble_eq_true rfl) dX2_reached_12 ?_
  refine g_iadd dX2_reached_15 ?_
  refine m_mmin (st := []) w_926 w_927 w_86 w_928 (Nat.le_of_ble_eq_true rfl) dX2_reached_16 ?_
  exact g_zret rfl rfl (pi_of h) dX2_reached_19
theorem ck_X2_reached : CKS yX2_reached cX2_reached 4 (some .int) 4 := ⟨⟨by decide, by decide, by decide +kernel⟩, w_924, w_87, w_923, by decide⟩
theorem dX9_leftOver_0 : decode cX9_leftOver 0 = .ok (.iload_n 1, 1) := by decide +kernel
theorem dX9_leftOver_1 : decode cX9_leftOver 1 = .ok (.ifCond .le 9, 3) := by decide +kernel
theorem dX9_leftOver_4 : decode cX9_leftOver 4 = .ok (.iload_n 0, 1) := by decide +kernel
theorem dX9_leftOver_5 : decode cX9_leftOver 5 = .ok (.iload_n 1, 1) := by decide +kernel
theorem dX9_leftOver_6 : decode cX9_leftOver 6 = .ok (.irem, 1) := by decide +kernel
theorem dX9_leftOver_7 : decode cX9_leftOver 7 = .ok (.goto 4, 3) := by decide +kernel
theorem dX9_leftOver_10 : decode cX9_leftOver 10 = .ok (.iconst 0, 1) := by decide +kernel
theorem dX9_leftOver_11 : decode cX9_leftOver 11 = .ok (.ireturn, 1) := by decide +kernel
def f_X9_leftOver (x0 : Int32) (x1 : Int32) (M : Mm) : Option (Int32 × Mm) :=
  if x1 ≤ 0 then (some ((nI 0), M)) else (gd (nzi x1) <| some ((x0 - x0 / x1 * x1), M))
set_option maxHeartbeats 4000000 in
set_option maxRecDepth 100000 in
theorem s_X9_leftOver {l : Launch} {B : BT} (hA : bA B = false) {d : Nat} {r : Int32} {M' : Mm} {x0 : Int32} {x1 : Int32} {M : Mm}  (h : f_X9_leftOver x0 x1 M = some (r, M')) : Con l B LY (d + 0) yX9_leftOver cX9_leftOver 2 (some .int) 0 0 [.int x0, .int x1] 97 M (PI r M') := by
  refine con_of (by decide) (Nat.le_of_ble_eq_true rfl) ?_
  show GG l B LY (d + 0) yX9_leftOver cX9_leftOver 2 (some .int) 0 0 (PI r M') 97 0 0 0 [(0, .int x0), (1, .int x1)] [] M
  rw [f_X9_leftOver] at h
  refine g_iload_n dX9_leftOver_0 rfl 1 rfl ?_
  refine g_if_le (tgt := 10) dX9_leftOver_1 (by decide) (fun c1 => ?_) (fun c1 => ?_)
  · replace h := ite_p c1 h
    refine g_iconst (v := (nI 0)) dX9_leftOver_10 (by decide) ?_
    exact g_zret rfl rfl (pi_of h) dX9_leftOver_11
  · replace h := ite_n c1 h
    refine g_iload_n dX9_leftOver_4 rfl 0 rfl ?_
    refine g_iload_n dX9_leftOver_5 rfl 1 rfl ?_
    obtain ⟨hz, h⟩ := gd_s h
    refine g_irem dX9_leftOver_6 (nzi_s hz) ?_
    refine g_goto (tgt := 11) dX9_leftOver_7 (by decide) ?_
    exact g_zret rfl rfl (pi_of h) dX9_leftOver_11
theorem ck_X9_leftOver : CKS yX9_leftOver cX9_leftOver 2 (some .int) 2 := ⟨⟨by decide, by decide, by decide +kernel⟩, w_921, w_72, w_920, by decide⟩
theorem dX2_isShown_0 : decode cX2_isShown 0 = .ok (.aload_n 0, 1) := by decide +kernel
theorem dX2_isShown_1 : decode cX2_isShown 1 = .ok (.iload_n 1, 1) := by decide +kernel
theorem dX2_isShown_2 : decode cX2_isShown 2 = .ok (.iconst 1, 1) := by decide +kernel
theorem dX2_isShown_3 : decode cX2_isShown 3 = .ok (.invokevirtual 34, 3) := by decide +kernel
theorem dX2_isShown_6 : decode cX2_isShown 6 = .ok (.istore 5, 2) := by decide +kernel
theorem dX2_isShown_8 : decode cX2_isShown 8 = .ok (.iload 4, 2) := by decide +kernel
theorem dX2_isShown_10 : decode cX2_isShown 10 = .ok (.iload 5, 2) := by decide +kernel
theorem dX2_isShown_12 : decode cX2_isShown 12 = .ok (.invokestatic 46, 3) := by decide +kernel
theorem dX2_isShown_15 : decode cX2_isShown 15 = .ok (.istore 6, 2) := by decide +kernel
theorem dX2_isShown_17 : decode cX2_isShown 17 = .ok (.aload_n 0, 1) := by decide +kernel
theorem dX2_isShown_18 : decode cX2_isShown 18 = .ok (.iload_n 1, 1) := by decide +kernel
theorem dX2_isShown_19 : decode cX2_isShown 19 = .ok (.iload_n 2, 1) := by decide +kernel
theorem dX2_isShown_20 : decode cX2_isShown 20 = .ok (.iload 4, 2) := by decide +kernel
theorem dX2_isShown_22 : decode cX2_isShown 22 = .ok (.invokestatic 49, 3) := by decide +kernel
theorem dX2_isShown_25 : decode cX2_isShown 25 = .ok (.istore 7, 2) := by decide +kernel
theorem dX2_isShown_27 : decode cX2_isShown 27 = .ok (.iload 4, 2) := by decide +kernel
theorem dX2_isShown_29 : decode cX2_isShown 29 = .ok (.iload_n 3, 1) := by decide +kernel
theorem dX2_isShown_30 : decode cX2_isShown 30 = .ok (.if_icmp .ge 17, 3) := by decide +kernel
theorem dX2_isShown_33 : decode cX2_isShown 33 = .ok (.iload 6, 2) := by decide +kernel
theorem dX2_isShown_35 : decode cX2_isShown 35 = .ok (.ifCond .eq 12, 3) := by decide +kernel
theorem dX2_isShown_38 : decode cX2_isShown 38 = .ok (.iload 7, 2) := by decide +kernel
theorem dX2_isShown_40 : decode cX2_isShown 40 = .ok (.aload_n 0, 1) := by decide +kernel
theorem dX2_isShown_41 : decode cX2_isShown 41 = .ok (.getfield 31, 3) := by decide +kernel
theorem dX2_isShown_44 : decode cX2_isShown 44 = .ok (.if_icmp .lt 5, 3) := by decide +kernel
theorem dX2_isShown_47 : decode cX2_isShown 47 = .ok (.iconst 0, 1) := by decide +kernel
theorem dX2_isShown_48 : decode cX2_isShown 48 = .ok (.ireturn, 1) := by decide +kernel
theorem dX2_isShown_49 : decode cX2_isShown 49 = .ok (.iload 6, 2) := by decide +kernel
theorem dX2_isShown_51 : decode cX2_isShown 51 = .ok (.bipush 100, 2) := by decide +kernel
theorem dX2_isShown_53 : decode cX2_isShown 53 = .ok (.imul, 1) := by decide +kernel
theorem dX2_isShown_54 : decode cX2_isShown 54 = .ok (.iload 5, 2) := by decide +kernel
theorem dX2_isShown_56 : decode cX2_isShown 56 = .ok (.invokestatic 38, 3) := by decide +kernel
theorem dX2_isShown_59 : decode cX2_isShown 59 = .ok (.aload_n 0, 1) := by decide +kernel
theorem dX2_isShown_60 : decode cX2_isShown 60 = .ok (.getfield 53, 3) := by decide +kernel
theorem dX2_isShown_63 : decode cX2_isShown 63 = .ok (.aload_n 0, 1) := by decide +kernel
theorem dX2_isShown_64 : decode cX2_isShown 64 = .ok (.getfield 31, 3) := by decide +kernel
theorem dX2_isShown_67 : decode cX2_isShown 67 = .ok (.iadd, 1) := by decide +kernel
theorem dX2_isShown_68 : decode cX2_isShown 68 = .ok (.iload 7, 2) := by decide +kernel
theorem dX2_isShown_70 : decode cX2_isShown 70 = .ok (.isub, 1) := by decide +kernel
theorem dX2_isShown_71 : decode cX2_isShown 71 = .ok (.if_icmp .lt 7, 3) := by decide +kernel
theorem dX2_isShown_74 : decode cX2_isShown 74 = .ok (.iconst 1, 1) := by decide +kernel
theorem dX2_isShown_75 : decode cX2_isShown 75 = .ok (.goto 4, 3) := by decide +kernel
theorem dX2_isShown_78 : decode cX2_isShown 78 = .ok (.iconst 0, 1) := by decide +kernel
theorem dX2_isShown_79 : decode cX2_isShown 79 = .ok (.ireturn, 1) := by decide +kernel
def f_X2_isShown (x0 : Nat) (x1 : Int32) (x2 : Int32) (x3 : Int32) (x4 : Int32) (M : Mm) : Option (Int32 × Mm) :=
  bd (f_X0_trait x0 x1 (nI 1) M) fun v3_2 M3_1 => bd (f_X9_leftOver x4 v3_2 M3_1) fun v12_4 M12_3 => bd (f_X2_reached x0 x1 x2 x4 M12_3) fun v22_6 M22_5 => if x3 ≤ x4 then (some ((nI 0), M22_5)) else (if v12_4 = 0 then (some ((nI 0), M22_5)) else (if v22_6 < (M22_5 x0 6) then (bd (f_X9_by (v12_4 * (nI 100)) v3_2 M22_5) fun v56_8 M56_7 => if v56_8 < (((M56_7 x0 12) + (M56_7 x0 6)) - v22_6) then (some ((nI 0), M56_7)) else (some ((nI 1), M56_7))) else (some ((nI 0), M22_5))))
set_option maxHeartbeats 4000000 in
set_option maxRecDepth 100000 in
theorem s_X2_isShown {l : Launch} {B : BT} (hA : bA B = false) {d : Nat} {r : Int32} {M' : Mm} {x0 : Nat} {x1 : Int32} {x2 : Int32} {x3 : Int32} {x4 : Int32} {M : Mm} (hx0 : LY x0 = .inl (0, fk0)) (h : f_X2_isShown x0 x1 x2 x3 x4 M = some (r, M')) : Con l B LY (d + 2) yX2_isShown cX2_isShown 8 (some .boolean) 0 0 [.ref x0, .int x1, .int x2, .int x3, .int x4] 97 M (PI r M') := by
  refine con_of (by decide) (Nat.le_of_ble_eq_true rfl) ?_
  show GG l B LY (d + 2) yX2_isShown cX2_isShown 8 (some .boolean) 0 0 (PI r M') 97 0 0 0 [(0, .ref x0), (1, .int x1), (2, .int x2), (3, .int x3), (4, .int x4)] [] M
  rw [f_X2_isShown] at h
  refine g_aload_n dX2_isShown_0 rfl 0 rfl ?_
  refine g_iload_n dX2_isShown_1 rfl 1 rfl ?_
  refine g_iconst (v := (nI 1)) dX2_isShown_2 (by decide) ?_
  obtain ⟨v3_2, M3_1, eM3_1, h⟩ := bd_e h
  refine m_callVi (As := [.int x1, .int (nI 1)]) (st := []) (s_X0_trait (d := d + 1) hA hx0 eM3_1) hx0 okX0 ck_X0_trait w_918 rfl (Nat.le_of_ble_eq_true rfl) dX2_isShown_3 ?_
  refine g_istore (lv' := [(5, .int v3_2), (0, .ref x0), (1, .int x1), (2, .int x2), (3, .int x3), (4, .int x4)]) dX2_isShown_6 (by decide) rfl ?_
  refine g_iload dX2_isShown_8 5 rfl ?_
  refine g_iload dX2_isShown_10 0 rfl ?_
  obtain ⟨v12_4, M12_3, eM12_3, h⟩ := bd_e h
  refine m_callNi (As := [.int x4, .int v3_2]) (st := []) (s_X9_leftOver (d := d + 1) hA  eM12_3) ck_X9_leftOver (host := "StillYard") (List.mem_of_getElem? (i := 23) rfl) rfl (Nat.le_of_ble_eq_true rfl) dX2_isShown_12 ?_
  refine g_istore (lv' := [(6, .int v12_4), (5, .int v3_2), (0, .ref x0), (1, .int x1), (2, .int x2), (3, .int x3), (4, .int x4)]) dX2_isShown_15 (by decide) rfl ?_
  refine g_aload_n dX2_isShown_17 rfl 2 rfl ?_
  refine g_iload_n dX2_isShown_18 rfl 3 rfl ?_
  refine g_iload_n dX2_isShown_19 rfl 4 rfl ?_
  refine g_iload dX2_isShown_20 6 rfl ?_
  obtain ⟨v22_6, M22_5, eM22_5, h⟩ := bd_e h
  refine m_callSi (As := [.ref x0, .int x1, .int x2, .int x4]) (st := []) (s_X2_reached (d := d + 0) hA hx0 eM22_5) ck_X2_reached w_922 rfl (Nat.le_of_ble_eq_true rfl) dX2_isShown_22 ?_
  refine g_istore (lv' := [(7, .int v22_6), (6, .int v12_4), (5, .int v3_2), (0, .ref x0), (1, .int x1), (2, .int x2), (3, .int x3), (4, .int x4)]) dX2_isShown_25 (by decide) rfl ?_
  refine g_iload dX2_isShown_27 7 rfl ?_
  refine g_iload_n dX2_isShown_29 rfl 6 rfl ?_
  refine g_icmp_ge (tgt := 47) dX2_isShown_30 (by decide) (fun c12 => ?_) (fun c12 => ?_)
  · replace h := ite_p c12 h
    refine g_iconst (v := (nI 0)) dX2_isShown_47 (by decide) ?_
    exact g_zret rfl rfl (pi_of h) dX2_isShown_48
  · replace h := ite_n c12 h
    refine g_iload dX2_isShown_33 1 rfl ?_
    refine g_if_eq (tgt := 47) dX2_isShown_35 (by decide) (fun c11 => ?_) (fun c11 => ?_)
    · replace h := ite_p c11 h
      refine g_iconst (v := (nI 0)) dX2_isShown_47 (by decide) ?_
      exact g_zret rfl rfl (pi_of h) dX2_isShown_48
    · replace h := ite_n c11 h
      refine g_iload dX2_isShown_38 0 rfl ?_
      refine g_aload_n dX2_isShown_40 rfl 3 rfl ?_
      refine m_geti (k := 6) okX0 hx0 rfl (by decide) w_123 rfl dX2_isShown_41 ?_
      refine g_icmp_lt (tgt := 49) dX2_isShown_44 (by decide) (fun c10 => ?_) (fun c10 => ?_)
      · replace h := ite_p c10 h
        refine g_iload dX2_isShown_49 1 rfl ?_
        refine g_bipush (v := (nI 100)) dX2_isShown_51 (by decide) ?_
        refine g_imul dX2_isShown_53 ?_
        refine g_iload dX2_isShown_54 2 rfl ?_
        obtain ⟨v56_8, M56_7, eM56_7, h⟩ := bd_e h
        refine m_callNi (As := [.int (v12_4 * (nI 100)), .int v3_2]) (st := []) (s_X9_by (d := d + 1) hA  eM56_7) ck_X9_by (host := "StillYard") (List.mem_of_getElem? (i := 24) rfl) rfl (Nat.le_of_ble_eq_true rfl) dX2_isShown_56 ?_
        refine g_aload_n dX2_isShown_59 rfl 3 rfl ?_
        refine m_geti (k := 12) okX0 hx0 rfl (by decide) w_143 rfl dX2_isShown_60 ?_
        refine g_aload_n dX2_isShown_63 rfl 3 rfl ?_
        refine m_geti (k := 6) okX0 hx0 rfl (by decide) w_123 rfl dX2_isShown_64 ?_
        refine g_iadd dX2_isShown_67 ?_
        refine g_iload dX2_isShown_68 0 rfl ?_
        refine g_isub dX2_isShown_70 ?_
        refine g_icmp_lt (tgt := 78) dX2_isShown_71 (by decide) (fun c9 => ?_) (fun c9 => ?_)
        · replace h := ite_p c9 h
          refine g_iconst (v := (nI 0)) dX2_isShown_78 (by decide) ?_
          exact g_zret rfl rfl (pi_of h) dX2_isShown_79
        · replace h := ite_n c9 h
          refine g_iconst (v := (nI 1)) dX2_isShown_74 (by decide) ?_
          refine g_goto (tgt := 79) dX2_isShown_75 (by decide) ?_
          exact g_zret rfl rfl (pi_of h) dX2_isShown_79
      · replace h := ite_n c10 h
        refine g_iconst (v := (nI 0)) dX2_isShown_47 (by decide) ?_
        exact g_zret rfl rfl (pi_of h) dX2_isShown_48
theorem ck_X2_isShown : CKS yX2_isShown cX2_isShown 8 (some .boolean) 5 := ⟨⟨by decide, by decide, by decide +kernel⟩, w_917, w_87, w_916, by decide⟩
theorem dX2_seenWays_0 : decode cX2_seenWays 0 = .ok (.lconst 0, 1) := by decide +kernel
theorem dX2_seenWays_1 : decode cX2_seenWays 1 = .ok (.lstore 4, 2) := by decide +kernel
theorem dX2_seenWays_3 : decode cX2_seenWays 3 = .ok (.iconst 0, 1) := by decide +kernel
theorem dX2_seenWays_4 : decode cX2_seenWays 4 = .ok (.istore 6, 2) := by decide +kernel
theorem dX2_seenWays_6 : decode cX2_seenWays 6 = .ok (.iload 6, 2) := by decide +kernel
theorem dX2_seenWays_8 : decode cX2_seenWays 8 = .ok (.aload_n 0, 1) := by decide +kernel
theorem dX2_seenWays_9 : decode cX2_seenWays 9 = .ok (.getfield 15, 3) := by decide +kernel
theorem dX2_seenWays_12 : decode cX2_seenWays 12 = .ok (.if_icmp .ge 44, 3) := by decide +kernel
theorem dX2_seenWays_15 : decode cX2_seenWays 15 = .ok (.aload_n 0, 1) := by decide +kernel
theorem dX2_seenWays_16 : decode cX2_seenWays 16 = .ok (.iload_n 1, 1) := by decide +kernel
theorem dX2_seenWays_17 : decode cX2_seenWays 17 = .ok (.iload_n 2, 1) := by decide +kernel
theorem dX2_seenWays_18 : decode cX2_seenWays 18 = .ok (.iload_n 3, 1) := by decide +kernel
theorem dX2_seenWays_19 : decode cX2_seenWays 19 = .ok (.aload_n 0, 1) := by decide +kernel
theorem dX2_seenWays_20 : decode cX2_seenWays 20 = .ok (.iload 6, 2) := by decide +kernel
theorem dX2_seenWays_22 : decode cX2_seenWays 22 = .ok (.invokevirtual 56, 3) := by decide +kernel
theorem dX2_seenWays_25 : decode cX2_seenWays 25 = .ok (.invokestatic 60, 3) := by decide +kernel
theorem dX2_seenWays_28 : decode cX2_seenWays 28 = .ok (.ifCond .eq 22, 3) := by decide +kernel
theorem dX2_seenWays_31 : decode cX2_seenWays 31 = .ok (.lload 4, 2) := by decide +kernel
theorem dX2_seenWays_33 : decode cX2_seenWays 33 = .ok (.aload_n 0, 1) := by decide +kernel
theorem dX2_seenWays_34 : decode cX2_seenWays 34 = .ok (.iload 6, 2) := by decide +kernel
theorem dX2_seenWays_36 : decode cX2_seenWays 36 = .ok (.invokestatic 64, 3) := by decide +kernel
theorem dX2_seenWays_39 : decode cX2_seenWays 39 = .ok (.aload_n 0, 1) := by decide +kernel
theorem dX2_seenWays_40 : decode cX2_seenWays 40 = .ok (.iload_n 1, 1) := by decide +kernel
theorem dX2_seenWays_41 : decode cX2_seenWays 41 = .ok (.iconst 2, 1) := by decide +kernel
theorem dX2_seenWays_42 : decode cX2_seenWays 42 = .ok (.invokevirtual 34, 3) := by decide +kernel
theorem dX2_seenWays_45 : decode cX2_seenWays 45 = .ok (.i2l, 1) := by decide +kernel
theorem dX2_seenWays_46 : decode cX2_seenWays 46 = .ok (.lmul, 1) := by decide +kernel
theorem dX2_seenWays_47 : decode cX2_seenWays 47 = .ok (.ladd, 1) := by decide +kernel
theorem dX2_seenWays_48 : decode cX2_seenWays 48 = .ok (.lstore 4, 2) := by decide +kernel
theorem dX2_seenWays_50 : decode cX2_seenWays 50 = .ok (.iinc 6 1, 3) := by decide +kernel
theorem dX2_seenWays_53 : decode cX2_seenWays 53 = .ok (.goto (-47), 3) := by decide +kernel
theorem dX2_seenWays_56 : decode cX2_seenWays 56 = .ok (.lload 4, 2) := by decide +kernel
theorem dX2_seenWays_58 : decode cX2_seenWays 58 = .ok (.lreturn, 1) := by decide +kernel
def lp_X2_seenWays_6 (y0 : Nat) (y1 : Int32) (y2 : Int32) (y3 : Int32)  : Nat → Int64 → Int32 → Mm → Option (Int64 × Mm)
  | 0, _, _, _ => none
  | n + 1, y4, y6, M =>
    if (M y0 9) ≤ y6 then (some (y4, M)) else (bd (f_X0_endOf y0 y6 M) fun v22_2 M22_1 => bd (f_X2_isShown y0 y1 y2 y3 v22_2 M22_1) fun v25_4 M25_3 => jn (fun (u5 : Int64) (M6 : Mm) => lp_X2_seenWays_6 y0 y1 y2 y3 n u5 (y6 + (nI 1)) M6) fun j7 => if v25_4 = 0 then (j7 y4 M25_3) else (bd (f_X2_waysToTurn y0 y6 M25_3) fun v36_9 M36_8 => bd (f_X0_trait y0 y1 (nI 2) M36_8) fun v42_11 M42_10 => lt ((y4 + (v36_9 * v42_11.toInt64))) fun t12 => j7 t12 M42_10))
def f_X2_seenWays (x0 : Nat) (x1 : Int32) (x2 : Int32) (x3 : Int32) (M : Mm) : Option (Int64 × Mm) :=
  lp_X2_seenWays_6 x0 x1 x2 x3  N0 (0 : Int64) (nI 0) M
set_option maxHeartbeats 4000000 in
set_option maxRecDepth 100000 in
theorem sl_X2_seenWays_6 {l : Launch} {B : BT} (hA : bA B = false) {d : Nat} {r : Int64} {M' : Mm} {y0 : Nat} {y1 : Int32} {y2 : Int32} {y3 : Int32} (hy0 : LY y0 = .inl (0, fk0))   :
    ∀ (n : Nat) (y4 : Int64) (y6 : Int32) (M : Mm), lp_X2_seenWays_6 y0 y1 y2 y3 n y4 y6 M = some (r, M') → GG l B LY (d + 3) yX2_seenWays cX2_seenWays 7 (some .long) 0 0 (PL r M') 97 0 0 6 [(0, .ref y0), (1, .int y1), (2, .int y2), (3, .int y3), (4, .long y4), (6, .int y6)] [] M := by
  intro n
  induction n with
  | zero => intro y4 y6 M h; cases h
  | succ n ih =>
    intro y4 y6 M h
    rw [lp_X2_seenWays_6] at h
    refine g_iload dX2_seenWays_6 5 rfl ?_
    refine g_aload_n dX2_seenWays_8 rfl 0 rfl ?_
    refine m_geti (k := 9) okX0 hy0 rfl (by decide) w_134 rfl dX2_seenWays_9 ?_
    refine g_icmp_ge (tgt := 56) dX2_seenWays_12 (by decide) (fun c14 => ?_) (fun c14 => ?_)
    · replace h := ite_p c14 h
      refine g_lload dX2_seenWays_56 4 rfl ?_
      exact g_lret rfl (pl_of h) dX2_seenWays_58
    · replace h := ite_n c14 h
      refine g_aload_n dX2_seenWays_15 rfl 0 rfl ?_
      refine g_iload_n dX2_seenWays_16 rfl 1 rfl ?_
      refine g_iload_n dX2_seenWays_17 rfl 2 rfl ?_
      refine g_iload_n dX2_seenWays_18 rfl 3 rfl ?_
      refine g_aload_n dX2_seenWays_19 rfl 0 rfl ?_
      refine g_iload dX2_seenWays_20 5 rfl ?_
      obtain ⟨v22_2, M22_1, eM22_1, h⟩ := bd_e h
      refine m_callVi (As := [.int y6]) (st := [.int y3, .int y2, .int y1, .ref y0]) (s_X0_endOf (d := d + 2) hA hy0 eM22_1) hy0 okX0 ck_X0_endOf w_914 rfl (Nat.le_of_ble_eq_true rfl) dX2_seenWays_22 ?_
      obtain ⟨v25_4, M25_3, eM25_3, h⟩ := bd_e h
      refine m_callSi (As := [.ref y0, .int y1, .int y2, .int y3, .int v22_2]) (st := []) (s_X2_isShown (d := d + 0) hA hy0 eM25_3) ck_X2_isShown w_915 rfl (Nat.le_of_ble_eq_true rfl) dX2_seenWays_25 ?_
      obtain ⟨j7, ej7, h⟩ := jn_e h
      have hj7 : ∀ (u5 : Int64) (M6 : Mm), j7 u5 M6 = some (r, M') → GG l B LY (d + 3) yX2_seenWays cX2_seenWays 7 (some .long) 0 0 (PL r M') 97 0 0 50 [(0, .ref y0), (1, .int y1), (2, .int y2), (3, .int y3), (4, .long u5), (6, .int y6)] [] M6 := by
        intro u5 M6 h
        rw [ej7] at h
        refine g_iinc (v := (y6 + (nI 1))) (lv' := [(6, .int (y6 + (nI 1))), (0, .ref y0), (1, .int y1), (2, .int y2), (3, .int y3), (4, .long u5)]) dX2_seenWays_50 5 rfl rfl (by decide) rfl ?_
        refine g_goto (tgt := 6) dX2_seenWays_53 (by decide) ?_
        refine g_sub [1, 2, 3, 4, 5, 0] (lv' := [(0, .ref y0), (1, .int y1), (2, .int y2), (3, .int y3), (4, .long u5), (6, .int (y6 + (nI 1)))]) rfl ?_
        exact ih _ _  _ h
      refine g_if_eq (tgt := 50) dX2_seenWays_28 (by decide) (fun c13 => ?_) (fun c13 => ?_)
      · replace h := ite_p c13 h
        refine g_sub [0, 1, 2, 3, 4, 5] (lv' := [(0, .ref y0), (1, .int y1), (2, .int y2), (3, .int y3), (4, .long y4), (6, .int y6)]) rfl ?_
        exact hj7 _ _ h
      · replace h := ite_n c13 h
        refine g_lload dX2_seenWays_31 4 rfl ?_
        refine g_aload_n dX2_seenWays_33 rfl 0 rfl ?_
        refine g_iload dX2_seenWays_34 5 rfl ?_
        obtain ⟨v36_9, M36_8, eM36_8, h⟩ := bd_e h
        refine m_callSl (As := [.ref y0, .int y6]) (st := [.long y4]) (s_X2_waysToTurn (d := d + 0) hA hy0 eM36_8) ck_X2_waysToTurn w_929 rfl (Nat.le_of_ble_eq_true rfl) dX2_seenWays_36 ?_
        refine g_aload_n dX2_seenWays_39 rfl 0 rfl ?_
        refine g_iload_n dX2_seenWays_40 rfl 1 rfl ?_
        refine g_iconst (v := (nI 2)) dX2_seenWays_41 (by decide) ?_
        obtain ⟨v42_11, M42_10, eM42_10, h⟩ := bd_e h
        refine m_callVi (As := [.int y1, .int (nI 2)]) (st := [.long v36_9, .long y4]) (s_X0_trait (d := d + 2) hA hy0 eM42_10) hy0 okX0 ck_X0_trait w_918 rfl (Nat.le_of_ble_eq_true rfl) dX2_seenWays_42 ?_
        refine g_i2l dX2_seenWays_45 ?_
        refine g_lmul dX2_seenWays_46 ?_
        refine g_ladd dX2_seenWays_47 ?_
        obtain ⟨t12, et12, h⟩ := lt_e h
        refine g_cutl et12 ?_
        refine g_lstore (lv' := [(4, .long t12), (0, .ref y0), (1, .int y1), (2, .int y2), (3, .int y3), (6, .int y6)]) dX2_seenWays_48 (by decide) rfl ?_
        refine g_sub [1, 2, 3, 4, 0, 5] (lv' := [(0, .ref y0), (1, .int y1), (2, .int y2), (3, .int y3), (4, .long t12), (6, .int y6)]) rfl ?_
        exact hj7 _ _ h
set_option maxHeartbeats 4000000 in
set_option maxRecDepth 100000 in
theorem s_X2_seenWays {l : Launch} {B : BT} (hA : bA B = false) {d : Nat} {r : Int64} {M' : Mm} {x0 : Nat} {x1 : Int32} {x2 : Int32} {x3 : Int32} {M : Mm} (hx0 : LY x0 = .inl (0, fk0)) (h : f_X2_seenWays x0 x1 x2 x3 M = some (r, M')) : Con l B LY (d + 3) yX2_seenWays cX2_seenWays 7 (some .long) 0 0 [.ref x0, .int x1, .int x2, .int x3] 97 M (PL r M') := by
  refine con_of (by decide) (Nat.le_of_ble_eq_true rfl) ?_
  show GG l B LY (d + 3) yX2_seenWays cX2_seenWays 7 (some .long) 0 0 (PL r M') 97 0 0 0 [(0, .ref x0), (1, .int x1), (2, .int x2), (3, .int x3)] [] M
  rw [f_X2_seenWays] at h
  refine g_lconst (v := 0) dX2_seenWays_0 (by decide) ?_
  refine g_lstore (lv' := [(4, .long (0 : Int64)), (0, .ref x0), (1, .int x1), (2, .int x2), (3, .int x3)]) dX2_seenWays_1 (by decide) rfl ?_
  refine g_iconst (v := (nI 0)) dX2_seenWays_3 (by decide) ?_
  refine g_istore (lv' := [(6, .int (nI 0)), (4, .long (0 : Int64)), (0, .ref x0), (1, .int x1), (2, .int x2), (3, .int x3)]) dX2_seenWays_4 (by decide) rfl ?_
  refine g_sub [2, 3, 4, 5, 1, 0] (lv' := [(0, .ref x0), (1, .int x1), (2, .int x2), (3, .int x3), (4, .long (0 : Int64)), (6, .int (nI 0))]) rfl ?_
  refine sl_X2_seenWays_6 hA hx0  _ _ _ _ h
theorem ck_X2_seenWays : CKS yX2_seenWays cX2_seenWays 7 (some .long) 4 := ⟨⟨by decide, by decide, by decide +kernel⟩, w_913, w_87, w_912, by decide⟩
theorem dX2_gainedIf_0 : decode cX2_gainedIf 0 = .ok (.iload 5, 2) := by decide +kernel
theorem dX2_gainedIf_2 : decode cX2_gainedIf 2 = .ok (.ifCond .ne 25, 3) := by decide +kernel
theorem dX2_gainedIf_5 : decode cX2_gainedIf 5 = .ok (.aload_n 0, 1) := by decide +kernel
theorem dX2_gainedIf_6 : decode cX2_gainedIf 6 = .ok (.iload_n 1, 1) := by decide +kernel
theorem dX2_gainedIf_7 : decode cX2_gainedIf 7 = .ok (.iload_n 2, 1) := by decide +kernel
theorem dX2_gainedIf_8 : decode cX2_gainedIf 8 = .ok (.iload_n 3, 1) := by decide +kernel
theorem dX2_gainedIf_9 : decode cX2_gainedIf 9 = .ok (.iload 4, 2) := by decide +kernel
theorem dX2_gainedIf_11 : decode cX2_gainedIf 11 = .ok (.invokestatic 60, 3) := by decide +kernel
theorem dX2_gainedIf_14 : decode cX2_gainedIf 14 = .ok (.ifCond .eq 13, 3) := by decide +kernel
theorem dX2_gainedIf_17 : decode cX2_gainedIf 17 = .ok (.aload_n 0, 1) := by decide +kernel
theorem dX2_gainedIf_18 : decode cX2_gainedIf 18 = .ok (.iload_n 1, 1) := by decide +kernel
theorem dX2_gainedIf_19 : decode cX2_gainedIf 19 = .ok (.iconst 2, 1) := by decide +kernel
theorem dX2_gainedIf_20 : decode cX2_gainedIf 20 = .ok (.invokevirtual 34, 3) := by decide +kernel
theorem dX2_gainedIf_23 : decode cX2_gainedIf 23 = .ok (.i2l, 1) := by decide +kernel
theorem dX2_gainedIf_24 : decode cX2_gainedIf 24 = .ok (.goto 4, 3) := by decide +kernel
theorem dX2_gainedIf_27 : decode cX2_gainedIf 27 = .ok (.lconst 0, 1) := by decide +kernel
theorem dX2_gainedIf_28 : decode cX2_gainedIf 28 = .ok (.lstore 6, 2) := by decide +kernel
theorem dX2_gainedIf_30 : decode cX2_gainedIf 30 = .ok (.aload_n 0, 1) := by decide +kernel
theorem dX2_gainedIf_31 : decode cX2_gainedIf 31 = .ok (.iload_n 1, 1) := by decide +kernel
theorem dX2_gainedIf_32 : decode cX2_gainedIf 32 = .ok (.iload_n 2, 1) := by decide +kernel
theorem dX2_gainedIf_33 : decode cX2_gainedIf 33 = .ok (.iload_n 3, 1) := by decide +kernel
theorem dX2_gainedIf_34 : decode cX2_gainedIf 34 = .ok (.iload 4, 2) := by decide +kernel
theorem dX2_gainedIf_36 : decode cX2_gainedIf 36 = .ok (.invokestatic 41, 3) := by decide +kernel
theorem dX2_gainedIf_39 : decode cX2_gainedIf 39 = .ok (.invokestatic 49, 3) := by decide +kernel
theorem dX2_gainedIf_42 : decode cX2_gainedIf 42 = .ok (.istore 8, 2) := by decide +kernel
theorem dX2_gainedIf_44 : decode cX2_gainedIf 44 = .ok (.ldc2_w 29, 3) := by decide +kernel
theorem dX2_gainedIf_47 : decode cX2_gainedIf 47 = .ok (.lload 6, 2) := by decide +kernel
theorem dX2_gainedIf_49 : decode cX2_gainedIf 49 = .ok (.lsub, 1) := by decide +kernel
theorem dX2_gainedIf_50 : decode cX2_gainedIf 50 = .ok (.iload 8, 2) := by decide +kernel
theorem dX2_gainedIf_52 : decode cX2_gainedIf 52 = .ok (.i2l, 1) := by decide +kernel
theorem dX2_gainedIf_53 : decode cX2_gainedIf 53 = .ok (.lmul, 1) := by decide +kernel
theorem dX2_gainedIf_54 : decode cX2_gainedIf 54 = .ok (.ldc2_w 29, 3) := by decide +kernel
theorem dX2_gainedIf_57 : decode cX2_gainedIf 57 = .ok (.iload_n 2, 1) := by decide +kernel
theorem dX2_gainedIf_58 : decode cX2_gainedIf 58 = .ok (.i2l, 1) := by decide +kernel
theorem dX2_gainedIf_59 : decode cX2_gainedIf 59 = .ok (.lmul, 1) := by decide +kernel
theorem dX2_gainedIf_60 : decode cX2_gainedIf 60 = .ok (.lsub, 1) := by decide +kernel
theorem dX2_gainedIf_61 : decode cX2_gainedIf 61 = .ok (.lreturn, 1) := by decide +kernel
def f_X2_gainedIf (x0 : Nat) (x1 : Int32) (x2 : Int32) (x3 : Int32) (x4 : Int32) (x5 : Int32) (M : Mm) : Option (Int64 × Mm) :=
  jn (fun (s1 : Int64) (M2 : Mm) => bd (f_X2_reached x0 x1 x2 (if x4 < x3 then x4 else x3) M2) fun v39_5 M39_4 => some (((((100 : Int64) - s1) * v39_5.toInt64) - ((100 : Int64) * x2.toInt64)), M39_4)) fun j3 => jn (fun (M6 : Mm) => j3 (0 : Int64) M6) fun j7 => if x5 = 0 then (bd (f_X2_isShown x0 x1 x2 x3 x4 M) fun v11_9 M11_8 => if v11_9 = 0 then (j7  M11_8) else (bd (f_X0_trait x0 x1 (nI 2) M11_8) fun v20_11 M20_10 => j3 v20_11.toInt64 M20_10)) else (j7  M)
set_option maxHeartbeats 4000000 in
set_option maxRecDepth 100000 in
theorem s_X2_gainedIf {l : Launch} {B : BT} (hA : bA B = false) {d : Nat} {r : Int64} {M' : Mm} {x0 : Nat} {x1 : Int32} {x2 : Int32} {x3 : Int32} {x4 : Int32} {x5 : Int32} {M : Mm} (hx0 : LY x0 = .inl (0, fk0)) (h : f_X2_gainedIf x0 x1 x2 x3 x4 x5 M = some (r, M')) : Con l B LY (d + 3) yX2_gainedIf cX2_gainedIf 9 (some .long) 0 0 [.ref x0, .int x1, .int x2, .int x3, .int x4, .int x5] 97 M (PL r M') := by
  refine con_of (by decide) (Nat.le_of_ble_eq_true rfl) ?_
  show GG l B LY (d + 3) yX2_gainedIf cX2_gainedIf 9 (some .long) 0 0 (PL r M') 97 0 0 0 [(0, .ref x0), (1, .int x1), (2, .int x2), (3, .int x3), (4, .int x4), (5, .int x5)] [] M
  rw [f_X2_gainedIf] at h
  refine g_iload dX2_gainedIf_0 5 rfl ?_
  obtain ⟨j3, ej3, h⟩ := jn_e h
  have hj3 : ∀ (s1 : Int64) (M2 : Mm), j3 s1 M2 = some (r, M') → GG l B LY (d + 3) yX2_gainedIf cX2_gainedIf 9 (some .long) 0 0 (PL r M') 97 0 0 28 [(0, .ref x0), (1, .int x1), (2, .int x2), (3, .int x3), (4, .int x4)] [.long s1] M2 := by
    intro s1 M2 h
    rw [ej3] at h
    refine g_lstore (lv' := [(6, .long s1), (0, .ref x0), (1, .int x1), (2, .int x2), (3, .int x3), (4, .int x4)]) dX2_gainedIf_28 (by decide) rfl ?_
    refine g_aload_n dX2_gainedIf_30 rfl 1 rfl ?_
    refine g_iload_n dX2_gainedIf_31 rfl 2 rfl ?_
    refine g_iload_n dX2_gainedIf_32 rfl 3 rfl ?_
    refine g_iload_n dX2_gainedIf_33 rfl 4 rfl ?_
    refine g_iload dX2_gainedIf_34 5 rfl ?_
    refine m_mmin (st := [.int x2, .int x1, .ref x0]) w_926 w_927 w_86 w_928 (Nat.le_of_ble_eq_true rfl) dX2_gainedIf_36 ?_
    obtain ⟨v39_5, M39_4, eM39_4, h⟩ := bd_e h
    refine m_callSi (As := [.ref x0, .int x1, .int x2, .int (if x4 < x3 then x4 else x3)]) (st := []) (s_X2_reached (d := d + 1) hA hx0 eM39_4) ck_X2_reached w_922 rfl (Nat.le_of_ble_eq_true rfl) dX2_gainedIf_39 ?_
    refine g_istore (lv' := [(8, .int v39_5), (6, .long s1), (0, .ref x0), (1, .int x1), (2, .int x2), (3, .int x3), (4, .int x4)]) dX2_gainedIf_42 (by decide) rfl ?_
    refine g_ldc2 (v := 100) w_895 dX2_gainedIf_44 ?_
    refine g_lload dX2_gainedIf_47 1 rfl ?_
    refine g_lsub dX2_gainedIf_49 ?_
    refine g_iload dX2_gainedIf_50 0 rfl ?_
    refine g_i2l dX2_gainedIf_52 ?_
    refine g_lmul dX2_gainedIf_53 ?_
    refine g_ldc2 (v := 100) w_895 dX2_gainedIf_54 ?_
    refine g_iload_n dX2_gainedIf_57 rfl 4 rfl ?_
    refine g_i2l dX2_gainedIf_58 ?_
    refine g_lmul dX2_gainedIf_59 ?_
    refine g_lsub dX2_gainedIf_60 ?_
    exact g_lret rfl (pl_of h) dX2_gainedIf_61
  obtain ⟨j7, ej7, h⟩ := jn_e h
  have hj7 : ∀ (M6 : Mm), j7 M6 = some (r, M') → GG l B LY (d + 3) yX2_gainedIf cX2_gainedIf 9 (some .long) 0 0 (PL r M') 97 0 0 27 [(0, .ref x0), (1, .int x1), (2, .int x2), (3, .int x3), (4, .int x4)] [] M6 := by
    intro M6 h
    rw [ej7] at h
    refine g_lconst (v := 0) dX2_gainedIf_27 (by decide) ?_
    refine g_sub [0, 1, 2, 3, 4] (lv' := [(0, .ref x0), (1, .int x1), (2, .int x2), (3, .int x3), (4, .int x4)]) rfl ?_
    exact hj3 _ _ h
  refine g_if_ne (tgt := 27) dX2_gainedIf_2 (by decide) (fun c13 => ?_) (fun c13 => ?_)
  · replace h := ite_n c13 h
    refine g_sub [0, 1, 2, 3, 4] (lv' := [(0, .ref x0), (1, .int x1), (2, .int x2), (3, .int x3), (4, .int x4)]) rfl ?_
    exact hj7  _ h
  · replace h := ite_p c13 h
    refine g_aload_n dX2_gainedIf_5 rfl 0 rfl ?_
    refine g_iload_n dX2_gainedIf_6 rfl 1 rfl ?_
    refine g_iload_n dX2_gainedIf_7 rfl 2 rfl ?_
    refine g_iload_n dX2_gainedIf_8 rfl 3 rfl ?_
    refine g_iload dX2_gainedIf_9 4 rfl ?_
    obtain ⟨v11_9, M11_8, eM11_8, h⟩ := bd_e h
    refine m_callSi (As := [.ref x0, .int x1, .int x2, .int x3, .int x4]) (st := []) (s_X2_isShown (d := d + 0) hA hx0 eM11_8) ck_X2_isShown w_915 rfl (Nat.le_of_ble_eq_true rfl) dX2_gainedIf_11 ?_
    refine g_if_eq (tgt := 27) dX2_gainedIf_14 (by decide) (fun c12 => ?_) (fun c12 => ?_)
    · replace h := ite_p c12 h
      refine g_sub [0, 1, 2, 3, 4] (lv' := [(0, .ref x0), (1, .int x1), (2, .int x2), (3, .int x3), (4, .int x4)]) rfl ?_
      exact hj7  _ h
    · replace h := ite_n c12 h
      refine g_aload_n dX2_gainedIf_17 rfl 0 rfl ?_
      refine g_iload_n dX2_gainedIf_18 rfl 1 rfl ?_
      refine g_iconst (v := (nI 2)) dX2_gainedIf_19 (by decide) ?_
      obtain ⟨v20_11, M20_10, eM20_10, h⟩ := bd_e h
      refine m_callVi (As := [.int x1, .int (nI 2)]) (st := []) (s_X0_trait (d := d + 2) hA hx0 eM20_10) hx0 okX0 ck_X0_trait w_918 rfl (Nat.le_of_ble_eq_true rfl) dX2_gainedIf_20 ?_
      refine g_i2l dX2_gainedIf_23 ?_
      refine g_goto (tgt := 28) dX2_gainedIf_24 (by decide) ?_
      refine g_sub [0, 1, 2, 3, 4] (lv' := [(0, .ref x0), (1, .int x1), (2, .int x2), (3, .int x3), (4, .int x4)]) rfl ?_
      exact hj3 _ _ h
theorem ck_X2_gainedIf : CKS yX2_gainedIf cX2_gainedIf 9 (some .long) 6 := ⟨⟨by decide, by decide, by decide +kernel⟩, w_940, w_87, w_939, by decide⟩
theorem dX2_gained_0 : decode cX2_gained 0 = .ok (.lconst 0, 1) := by decide +kernel
theorem dX2_gained_1 : decode cX2_gained 1 = .ok (.lstore 5, 2) := by decide +kernel
theorem dX2_gained_3 : decode cX2_gained 3 = .ok (.iconst 0, 1) := by decide +kernel
theorem dX2_gained_4 : decode cX2_gained 4 = .ok (.istore 7, 2) := by decide +kernel
theorem dX2_gained_6 : decode cX2_gained 6 = .ok (.iload 7, 2) := by decide +kernel
theorem dX2_gained_8 : decode cX2_gained 8 = .ok (.aload_n 0, 1) := by decide +kernel
theorem dX2_gained_9 : decode cX2_gained 9 = .ok (.getfield 15, 3) := by decide +kernel
theorem dX2_gained_12 : decode cX2_gained 12 = .ok (.if_icmp .ge 36, 3) := by decide +kernel
theorem dX2_gained_15 : decode cX2_gained 15 = .ok (.lload 5, 2) := by decide +kernel
theorem dX2_gained_17 : decode cX2_gained 17 = .ok (.aload_n 0, 1) := by decide +kernel
theorem dX2_gained_18 : decode cX2_gained 18 = .ok (.iload 7, 2) := by decide +kernel
theorem dX2_gained_20 : decode cX2_gained 20 = .ok (.invokestatic 64, 3) := by decide +kernel
theorem dX2_gained_23 : decode cX2_gained 23 = .ok (.aload_n 0, 1) := by decide +kernel
theorem dX2_gained_24 : decode cX2_gained 24 = .ok (.iload_n 1, 1) := by decide +kernel
theorem dX2_gained_25 : decode cX2_gained 25 = .ok (.iload_n 2, 1) := by decide +kernel
theorem dX2_gained_26 : decode cX2_gained 26 = .ok (.iload_n 3, 1) := by decide +kernel
theorem dX2_gained_27 : decode cX2_gained 27 = .ok (.aload_n 0, 1) := by decide +kernel
theorem dX2_gained_28 : decode cX2_gained 28 = .ok (.iload 7, 2) := by decide +kernel
theorem dX2_gained_30 : decode cX2_gained 30 = .ok (.invokevirtual 56, 3) := by decide +kernel
theorem dX2_gained_33 : decode cX2_gained 33 = .ok (.iload 4, 2) := by decide +kernel
theorem dX2_gained_35 : decode cX2_gained 35 = .ok (.invokestatic 67, 3) := by decide +kernel
theorem dX2_gained_38 : decode cX2_gained 38 = .ok (.lmul, 1) := by decide +kernel
theorem dX2_gained_39 : decode cX2_gained 39 = .ok (.ladd, 1) := by decide +kernel
theorem dX2_gained_40 : decode cX2_gained 40 = .ok (.lstore 5, 2) := by decide +kernel
theorem dX2_gained_42 : decode cX2_gained 42 = .ok (.iinc 7 1, 3) := by decide +kernel
theorem dX2_gained_45 : decode cX2_gained 45 = .ok (.goto (-39), 3) := by decide +kernel
theorem dX2_gained_48 : decode cX2_gained 48 = .ok (.lload 5, 2) := by decide +kernel
theorem dX2_gained_50 : decode cX2_gained 50 = .ok (.lreturn, 1) := by decide +kernel
def lp_X2_gained_6 (y0 : Nat) (y1 : Int32) (y2 : Int32) (y3 : Int32) (y4 : Int32)  : Nat → Int64 → Int32 → Mm → Option (Int64 × Mm)
  | 0, _, _, _ => none
  | n + 1, y5, y7, M =>
    if (M y0 9) ≤ y7 then (some (y5, M)) else (bd (f_X2_waysToTurn y0 y7 M) fun v20_2 M20_1 => bd (f_X0_endOf y0 y7 M20_1) fun v30_4 M30_3 => bd (f_X2_gainedIf y0 y1 y2 y3 v30_4 y4 M30_3) fun v35_6 M35_5 => lp_X2_gained_6 y0 y1 y2 y3 y4 n (y5 + (v20_2 * v35_6)) (y7 + (nI 1)) M35_5)
def f_X2_gained (x0 : Nat) (x1 : Int32) (x2 : Int32) (x3 : Int32) (x4 : Int32) (M : Mm) : Option (Int64 × Mm) :=
  lp_X2_gained_6 x0 x1 x2 x3 x4  N0 (0 : Int64) (nI 0) M
set_option maxHeartbeats 4000000 in
set_option maxRecDepth 100000 in
theorem sl_X2_gained_6 {l : Launch} {B : BT} (hA : bA B = false) {d : Nat} {r : Int64} {M' : Mm} {y0 : Nat} {y1 : Int32} {y2 : Int32} {y3 : Int32} {y4 : Int32} (hy0 : LY y0 = .inl (0, fk0))   :
    ∀ (n : Nat) (y5 : Int64) (y7 : Int32) (M : Mm), lp_X2_gained_6 y0 y1 y2 y3 y4 n y5 y7 M = some (r, M') → GG l B LY (d + 4) yX2_gained cX2_gained 8 (some .long) 0 0 (PL r M') 97 0 0 6 [(0, .ref y0), (1, .int y1), (2, .int y2), (3, .int y3), (4, .int y4), (5, .long y5), (7, .int y7)] [] M := by
  intro n
  induction n with
  | zero => intro y5 y7 M h; cases h
  | succ n ih =>
    intro y5 y7 M h
    rw [lp_X2_gained_6] at h
    refine g_iload dX2_gained_6 6 rfl ?_
    refine g_aload_n dX2_gained_8 rfl 0 rfl ?_
    refine m_geti (k := 9) okX0 hy0 rfl (by decide) w_134 rfl dX2_gained_9 ?_
    refine g_icmp_ge (tgt := 48) dX2_gained_12 (by decide) (fun c7 => ?_) (fun c7 => ?_)
    · replace h := ite_p c7 h
      refine g_lload dX2_gained_48 5 rfl ?_
      exact g_lret rfl (pl_of h) dX2_gained_50
    · replace h := ite_n c7 h
      refine g_lload dX2_gained_15 5 rfl ?_
      refine g_aload_n dX2_gained_17 rfl 0 rfl ?_
      refine g_iload dX2_gained_18 6 rfl ?_
      obtain ⟨v20_2, M20_1, eM20_1, h⟩ := bd_e h
      refine m_callSl (As := [.ref y0, .int y7]) (st := [.long y5]) (s_X2_waysToTurn (d := d + 1) hA hy0 eM20_1) ck_X2_waysToTurn w_929 rfl (Nat.le_of_ble_eq_true rfl) dX2_gained_20 ?_
      refine g_aload_n dX2_gained_23 rfl 0 rfl ?_
      refine g_iload_n dX2_gained_24 rfl 1 rfl ?_
      refine g_iload_n dX2_gained_25 rfl 2 rfl ?_
      refine g_iload_n dX2_gained_26 rfl 3 rfl ?_
      refine g_aload_n dX2_gained_27 rfl 0 rfl ?_
      refine g_iload dX2_gained_28 6 rfl ?_
      obtain ⟨v30_4, M30_3, eM30_3, h⟩ := bd_e h
      refine m_callVi (As := [.int y7]) (st := [.int y3, .int y2, .int y1, .ref y0, .long v20_2, .long y5]) (s_X0_endOf (d := d + 3) hA hy0 eM30_3) hy0 okX0 ck_X0_endOf w_914 rfl (Nat.le_of_ble_eq_true rfl) dX2_gained_30 ?_
      refine g_iload dX2_gained_33 4 rfl ?_
      obtain ⟨v35_6, M35_5, eM35_5, h⟩ := bd_e h
      refine m_callSl (As := [.ref y0, .int y1, .int y2, .int y3, .int v30_4, .int y4]) (st := [.long v20_2, .long y5]) (s_X2_gainedIf (d := d + 0) hA hy0 eM35_5) ck_X2_gainedIf w_938 rfl (Nat.le_of_ble_eq_true rfl) dX2_gained_35 ?_
      refine g_lmul dX2_gained_38 ?_
      refine g_ladd dX2_gained_39 ?_
      refine g_lstore (lv' := [(5, .long (y5 + (v20_2 * v35_6))), (0, .ref y0), (1, .int y1), (2, .int y2), (3, .int y3), (4, .int y4), (7, .int y7)]) dX2_gained_40 (by decide) rfl ?_
      refine g_iinc (v := (y7 + (nI 1))) (lv' := [(7, .int (y7 + (nI 1))), (5, .long (y5 + (v20_2 * v35_6))), (0, .ref y0), (1, .int y1), (2, .int y2), (3, .int y3), (4, .int y4)]) dX2_gained_42 6 rfl rfl (by decide) rfl ?_
      refine g_goto (tgt := 6) dX2_gained_45 (by decide) ?_
      refine g_sub [2, 3, 4, 5, 6, 1, 0] (lv' := [(0, .ref y0), (1, .int y1), (2, .int y2), (3, .int y3), (4, .int y4), (5, .long (y5 + (v20_2 * v35_6))), (7, .int (y7 + (nI 1)))]) rfl ?_
      exact ih _ _  _ h
set_option maxHeartbeats 4000000 in
set_option maxRecDepth 100000 in
theorem s_X2_gained {l : Launch} {B : BT} (hA : bA B = false) {d : Nat} {r : Int64} {M' : Mm} {x0 : Nat} {x1 : Int32} {x2 : Int32} {x3 : Int32} {x4 : Int32} {M : Mm} (hx0 : LY x0 = .inl (0, fk0)) (h : f_X2_gained x0 x1 x2 x3 x4 M = some (r, M')) : Con l B LY (d + 4) yX2_gained cX2_gained 8 (some .long) 0 0 [.ref x0, .int x1, .int x2, .int x3, .int x4] 97 M (PL r M') := by
  refine con_of (by decide) (Nat.le_of_ble_eq_true rfl) ?_
  show GG l B LY (d + 4) yX2_gained cX2_gained 8 (some .long) 0 0 (PL r M') 97 0 0 0 [(0, .ref x0), (1, .int x1), (2, .int x2), (3, .int x3), (4, .int x4)] [] M
  rw [f_X2_gained] at h
  refine g_lconst (v := 0) dX2_gained_0 (by decide) ?_
  refine g_lstore (lv' := [(5, .long (0 : Int64)), (0, .ref x0), (1, .int x1), (2, .int x2), (3, .int x3), (4, .int x4)]) dX2_gained_1 (by decide) rfl ?_
  refine g_iconst (v := (nI 0)) dX2_gained_3 (by decide) ?_
  refine g_istore (lv' := [(7, .int (nI 0)), (5, .long (0 : Int64)), (0, .ref x0), (1, .int x1), (2, .int x2), (3, .int x3), (4, .int x4)]) dX2_gained_4 (by decide) rfl ?_
  refine g_sub [2, 3, 4, 5, 6, 1, 0] (lv' := [(0, .ref x0), (1, .int x1), (2, .int x2), (3, .int x3), (4, .int x4), (5, .long (0 : Int64)), (7, .int (nI 0))]) rfl ?_
  refine sl_X2_gained_6 hA hx0  _ _ _ _ h
theorem ck_X2_gained : CKS yX2_gained cX2_gained 8 (some .long) 5 := ⟨⟨by decide, by decide, by decide +kernel⟩, w_937, w_87, w_936, by decide⟩
theorem dX2_bestStand_0 : decode cX2_bestStand 0 = .ok (.iconst 0, 1) := by decide +kernel
theorem dX2_bestStand_1 : decode cX2_bestStand 1 = .ok (.istore 4, 2) := by decide +kernel
theorem dX2_bestStand_3 : decode cX2_bestStand 3 = .ok (.aload_n 0, 1) := by decide +kernel
theorem dX2_bestStand_4 : decode cX2_bestStand 4 = .ok (.iload_n 1, 1) := by decide +kernel
theorem dX2_bestStand_5 : decode cX2_bestStand 5 = .ok (.iload_n 2, 1) := by decide +kernel
theorem dX2_bestStand_6 : decode cX2_bestStand 6 = .ok (.iconst 0, 1) := by decide +kernel
theorem dX2_bestStand_7 : decode cX2_bestStand 7 = .ok (.iload_n 3, 1) := by decide +kernel
theorem dX2_bestStand_8 : decode cX2_bestStand 8 = .ok (.invokestatic 71, 3) := by decide +kernel
theorem dX2_bestStand_11 : decode cX2_bestStand 11 = .ok (.lstore 5, 2) := by decide +kernel
theorem dX2_bestStand_13 : decode cX2_bestStand 13 = .ok (.aload_n 0, 1) := by decide +kernel
theorem dX2_bestStand_14 : decode cX2_bestStand 14 = .ok (.invokevirtual 75, 3) := by decide +kernel
theorem dX2_bestStand_17 : decode cX2_bestStand 17 = .ok (.istore 7, 2) := by decide +kernel
theorem dX2_bestStand_19 : decode cX2_bestStand 19 = .ok (.iconst 1, 1) := by decide +kernel
theorem dX2_bestStand_20 : decode cX2_bestStand 20 = .ok (.istore 8, 2) := by decide +kernel
theorem dX2_bestStand_22 : decode cX2_bestStand 22 = .ok (.iload 8, 2) := by decide +kernel
theorem dX2_bestStand_24 : decode cX2_bestStand 24 = .ok (.iload 7, 2) := by decide +kernel
theorem dX2_bestStand_26 : decode cX2_bestStand 26 = .ok (.if_icmp .gt 36, 3) := by decide +kernel
theorem dX2_bestStand_29 : decode cX2_bestStand 29 = .ok (.aload_n 0, 1) := by decide +kernel
theorem dX2_bestStand_30 : decode cX2_bestStand 30 = .ok (.iload_n 1, 1) := by decide +kernel
theorem dX2_bestStand_31 : decode cX2_bestStand 31 = .ok (.iload_n 2, 1) := by decide +kernel
theorem dX2_bestStand_32 : decode cX2_bestStand 32 = .ok (.iload 8, 2) := by decide +kernel
theorem dX2_bestStand_34 : decode cX2_bestStand 34 = .ok (.iload_n 3, 1) := by decide +kernel
theorem dX2_bestStand_35 : decode cX2_bestStand 35 = .ok (.invokestatic 71, 3) := by decide +kernel
theorem dX2_bestStand_38 : decode cX2_bestStand 38 = .ok (.lstore 9, 2) := by decide +kernel
theorem dX2_bestStand_40 : decode cX2_bestStand 40 = .ok (.lload 9, 2) := by decide +kernel
theorem dX2_bestStand_42 : decode cX2_bestStand 42 = .ok (.lload 5, 2) := by decide +kernel
theorem dX2_bestStand_44 : decode cX2_bestStand 44 = .ok (.lcmp, 1) := by decide +kernel
theorem dX2_bestStand_45 : decode cX2_bestStand 45 = .ok (.ifCond .le 11, 3) := by decide +kernel
theorem dX2_bestStand_48 : decode cX2_bestStand 48 = .ok (.lload 9, 2) := by decide +kernel
theorem dX2_bestStand_50 : decode cX2_bestStand 50 = .ok (.lstore 5, 2) := by decide +kernel
theorem dX2_bestStand_52 : decode cX2_bestStand 52 = .ok (.iload 8, 2) := by decide +kernel
theorem dX2_bestStand_54 : decode cX2_bestStand 54 = .ok (.istore 4, 2) := by decide +kernel
theorem dX2_bestStand_56 : decode cX2_bestStand 56 = .ok (.iinc 8 1, 3) := by decide +kernel
theorem dX2_bestStand_59 : decode cX2_bestStand 59 = .ok (.goto (-37), 3) := by decide +kernel
theorem dX2_bestStand_62 : decode cX2_bestStand 62 = .ok (.iload 4, 2) := by decide +kernel
theorem dX2_bestStand_64 : decode cX2_bestStand 64 = .ok (.ireturn, 1) := by decide +kernel
def lp_X2_bestStand_22 (y0 : Nat) (y1 : Int32) (y2 : Int32) (y3 : Int32) (y7 : Int32)  : Nat → Int32 → Int64 → Int32 → Mm → Option (Int32 × Mm)
  | 0, _, _, _, _ => none
  | n + 1, y4, y5, y8, M =>
    if y7 < y8 then (some (y4, M)) else (bd (f_X2_gained y0 y1 y2 y8 y3 M) fun v35_6 M35_5 => jn (fun (u7 : Int32) (u8 : Int64) (M9 : Mm) => lp_X2_bestStand_22 y0 y1 y2 y3 y7 n u7 u8 (y8 + (nI 1)) M9) fun j10 => if (lg_cmp v35_6 y5) ≤ 0 then (j10 y4 y5 M35_5) else (j10 y8 v35_6 M35_5))
def f_X2_bestStand (x0 : Nat) (x1 : Int32) (x2 : Int32) (x3 : Int32) (M : Mm) : Option (Int32 × Mm) :=
  bd (f_X2_gained x0 x1 x2 (nI 0) x3 M) fun v8_2 M8_1 => bd (f_X0_verseTenths x0 M8_1) fun v14_4 M14_3 => lp_X2_bestStand_22 x0 x1 x2 x3 v14_4  N0 (nI 0) v8_2 (nI 1) M14_3
set_option maxHeartbeats 4000000 in
set_option maxRecDepth 100000 in
theorem sl_X2_bestStand_22 {l : Launch} {B : BT} (hA : bA B = false) {d : Nat} {r : Int32} {M' : Mm} {y0 : Nat} {y1 : Int32} {y2 : Int32} {y3 : Int32} {y7 : Int32} (hy0 : LY y0 = .inl (0, fk0))   :
    ∀ (n : Nat) (y4 : Int32) (y5 : Int64) (y8 : Int32) (M : Mm), lp_X2_bestStand_22 y0 y1 y2 y3 y7 n y4 y5 y8 M = some (r, M') → GG l B LY (d + 5) yX2_bestStand cX2_bestStand 11 (some .int) 0 0 (PI r M') 97 0 0 22 [(0, .ref y0), (1, .int y1), (2, .int y2), (3, .int y3), (4, .int y4), (5, .long y5), (7, .int y7), (8, .int y8)] [] M := by
  intro n
  induction n with
  | zero => intro y4 y5 y8 M h; cases h
  | succ n ih =>
    intro y4 y5 y8 M h
    rw [lp_X2_bestStand_22] at h
    refine g_iload dX2_bestStand_22 7 rfl ?_
    refine g_iload dX2_bestStand_24 6 rfl ?_
    refine g_icmp_gt (tgt := 62) dX2_bestStand_26 (by decide) (fun c12 => ?_) (fun c12 => ?_)
    · replace h := ite_p c12 h
      refine g_iload dX2_bestStand_62 4 rfl ?_
      exact g_zret rfl rfl (pi_of h) dX2_bestStand_64
    · replace h := ite_n c12 h
      refine g_aload_n dX2_bestStand_29 rfl 0 rfl ?_
      refine g_iload_n dX2_bestStand_30 rfl 1 rfl ?_
      refine g_iload_n dX2_bestStand_31 rfl 2 rfl ?_
      refine g_iload dX2_bestStand_32 7 rfl ?_
      refine g_iload_n dX2_bestStand_34 rfl 3 rfl ?_
      obtain ⟨v35_6, M35_5, eM35_5, h⟩ := bd_e h
      refine m_callSl (As := [.ref y0, .int y1, .int y2, .int y8, .int y3]) (st := []) (s_X2_gained (d := d + 0) hA hy0 eM35_5) ck_X2_gained w_948 rfl (Nat.le_of_ble_eq_true rfl) dX2_bestStand_35 ?_
      refine g_lstore (lv' := [(9, .long v35_6), (0, .ref y0), (1, .int y1), (2, .int y2), (3, .int y3), (4, .int y4), (5, .long y5), (7, .int y7), (8, .int y8)]) dX2_bestStand_38 (by decide) rfl ?_
      refine g_lload dX2_bestStand_40 0 rfl ?_
      refine g_lload dX2_bestStand_42 6 rfl ?_
      refine g_lcmp dX2_bestStand_44 ?_
      obtain ⟨j10, ej10, h⟩ := jn_e h
      have hj10 : ∀ (u7 : Int32) (u8 : Int64) (M9 : Mm), j10 u7 u8 M9 = some (r, M') → GG l B LY (d + 5) yX2_bestStand cX2_bestStand 11 (some .int) 0 0 (PI r M') 97 0 0 56 [(0, .ref y0), (1, .int y1), (2, .int y2), (3, .int y3), (4, .int u7), (5, .long u8), (7, .int y7), (8, .int y8)] [] M9 := by
        intro u7 u8 M9 h
        rw [ej10] at h
        refine g_iinc (v := (y8 + (nI 1))) (lv' := [(8, .int (y8 + (nI 1))), (0, .ref y0), (1, .int y1), (2, .int y2), (3, .int y3), (4, .int u7), (5, .long u8), (7, .int y7)]) dX2_bestStand_56 7 rfl rfl (by decide) rfl ?_
        refine g_goto (tgt := 22) dX2_bestStand_59 (by decide) ?_
        refine g_sub [1, 2, 3, 4, 5, 6, 7, 0] (lv' := [(0, .ref y0), (1, .int y1), (2, .int y2), (3, .int y3), (4, .int u7), (5, .long u8), (7, .int y7), (8, .int (y8 + (nI 1)))]) rfl ?_
        exact ih _ _ _  _ h
      refine g_if_le (tgt := 56) dX2_bestStand_45 (by decide) (fun c11 => ?_) (fun c11 => ?_)
      · replace h := ite_p c11 h
        refine g_sub [1, 2, 3, 4, 5, 6, 7, 8] (lv' := [(0, .ref y0), (1, .int y1), (2, .int y2), (3, .int y3), (4, .int y4), (5, .long y5), (7, .int y7), (8, .int y8)]) rfl ?_
        exact hj10 _ _ _ h
      · replace h := ite_n c11 h
        refine g_lload dX2_bestStand_48 0 rfl ?_
        refine g_lstore (lv' := [(5, .long v35_6), (9, .long v35_6), (0, .ref y0), (1, .int y1), (2, .int y2), (3, .int y3), (4, .int y4), (7, .int y7), (8, .int y8)]) dX2_bestStand_50 (by decide) rfl ?_
        refine g_iload dX2_bestStand_52 8 rfl ?_
        refine g_istore (lv' := [(4, .int y8), (5, .long v35_6), (9, .long v35_6), (0, .ref y0), (1, .int y1), (2, .int y2), (3, .int y3), (7, .int y7), (8, .int y8)]) dX2_bestStand_54 (by decide) rfl ?_
        refine g_sub [3, 4, 5, 6, 0, 1, 7, 8] (lv' := [(0, .ref y0), (1, .int y1), (2, .int y2), (3, .int y3), (4, .int y8), (5, .long v35_6), (7, .int y7), (8, .int y8)]) rfl ?_
        exact hj10 _ _ _ h
set_option maxHeartbeats 4000000 in
set_option maxRecDepth 100000 in
theorem s_X2_bestStand {l : Launch} {B : BT} (hA : bA B = false) {d : Nat} {r : Int32} {M' : Mm} {x0 : Nat} {x1 : Int32} {x2 : Int32} {x3 : Int32} {M : Mm} (hx0 : LY x0 = .inl (0, fk0)) (h : f_X2_bestStand x0 x1 x2 x3 M = some (r, M')) : Con l B LY (d + 5) yX2_bestStand cX2_bestStand 11 (some .int) 0 0 [.ref x0, .int x1, .int x2, .int x3] 97 M (PI r M') := by
  refine con_of (by decide) (Nat.le_of_ble_eq_true rfl) ?_
  show GG l B LY (d + 5) yX2_bestStand cX2_bestStand 11 (some .int) 0 0 (PI r M') 97 0 0 0 [(0, .ref x0), (1, .int x1), (2, .int x2), (3, .int x3)] [] M
  rw [f_X2_bestStand] at h
  refine g_iconst (v := (nI 0)) dX2_bestStand_0 (by decide) ?_
  refine g_istore (lv' := [(4, .int (nI 0)), (0, .ref x0), (1, .int x1), (2, .int x2), (3, .int x3)]) dX2_bestStand_1 (by decide) rfl ?_
  refine g_aload_n dX2_bestStand_3 rfl 1 rfl ?_
  refine g_iload_n dX2_bestStand_4 rfl 2 rfl ?_
  refine g_iload_n dX2_bestStand_5 rfl 3 rfl ?_
  refine g_iconst (v := (nI 0)) dX2_bestStand_6 (by decide) ?_
  refine g_iload_n dX2_bestStand_7 rfl 4 rfl ?_
  obtain ⟨v8_2, M8_1, eM8_1, h⟩ := bd_e h
  refine m_callSl (As := [.ref x0, .int x1, .int x2, .int (nI 0), .int x3]) (st := []) (s_X2_gained (d := d + 0) hA hx0 eM8_1) ck_X2_gained w_948 rfl (Nat.le_of_ble_eq_true rfl) dX2_bestStand_8 ?_
  refine g_lstore (lv' := [(5, .long v8_2), (4, .int (nI 0)), (0, .ref x0), (1, .int x1), (2, .int x2), (3, .int x3)]) dX2_bestStand_11 (by decide) rfl ?_
  refine g_aload_n dX2_bestStand_13 rfl 2 rfl ?_
  obtain ⟨v14_4, M14_3, eM14_3, h⟩ := bd_e h
  refine m_callVi (As := []) (st := []) (s_X0_verseTenths (d := d + 3) hA hx0 eM14_3) hx0 okX0 ck_X0_verseTenths w_949 rfl (Nat.le_of_ble_eq_true rfl) dX2_bestStand_14 ?_
  refine g_istore (lv' := [(7, .int v14_4), (5, .long v8_2), (4, .int (nI 0)), (0, .ref x0), (1, .int x1), (2, .int x2), (3, .int x3)]) dX2_bestStand_17 (by decide) rfl ?_
  refine g_iconst (v := (nI 1)) dX2_bestStand_19 (by decide) ?_
  refine g_istore (lv' := [(8, .int (nI 1)), (7, .int v14_4), (5, .long v8_2), (4, .int (nI 0)), (0, .ref x0), (1, .int x1), (2, .int x2), (3, .int x3)]) dX2_bestStand_20 (by decide) rfl ?_
  refine g_sub [4, 5, 6, 7, 3, 2, 1, 0] (lv' := [(0, .ref x0), (1, .int x1), (2, .int x2), (3, .int x3), (4, .int (nI 0)), (5, .long v8_2), (7, .int v14_4), (8, .int (nI 1))]) rfl ?_
  refine sl_X2_bestStand_22 hA hx0  _ _ _ _ _ h
theorem ck_X2_bestStand : CKS yX2_bestStand cX2_bestStand 11 (some .int) 4 := ⟨⟨by decide, by decide, by decide +kernel⟩, w_947, w_87, w_946, by decide⟩
theorem dX2_isRest_0 : decode cX2_isRest 0 = .ok (.aload_n 0, 1) := by decide +kernel
theorem dX2_isRest_1 : decode cX2_isRest 1 = .ok (.iload_n 3, 1) := by decide +kernel
theorem dX2_isRest_2 : decode cX2_isRest 2 = .ok (.invokevirtual 56, 3) := by decide +kernel
theorem dX2_isRest_5 : decode cX2_isRest 5 = .ok (.istore 5, 2) := by decide +kernel
theorem dX2_isRest_7 : decode cX2_isRest 7 = .ok (.aload_n 0, 1) := by decide +kernel
theorem dX2_isRest_8 : decode cX2_isRest 8 = .ok (.iload 4, 2) := by decide +kernel
theorem dX2_isRest_10 : decode cX2_isRest 10 = .ok (.invokevirtual 56, 3) := by decide +kernel
theorem dX2_isRest_13 : decode cX2_isRest 13 = .ok (.istore 6, 2) := by decide +kernel
theorem dX2_isRest_15 : decode cX2_isRest 15 = .ok (.aload_n 0, 1) := by decide +kernel
theorem dX2_isRest_16 : decode cX2_isRest 16 = .ok (.iload_n 1, 1) := by decide +kernel
theorem dX2_isRest_17 : decode cX2_isRest 17 = .ok (.iload_n 2, 1) := by decide +kernel
theorem dX2_isRest_18 : decode cX2_isRest 18 = .ok (.iload 6, 2) := by decide +kernel
theorem dX2_isRest_20 : decode cX2_isRest 20 = .ok (.iload 5, 2) := by decide +kernel
theorem dX2_isRest_22 : decode cX2_isRest 22 = .ok (.iconst 0, 1) := by decide +kernel
theorem dX2_isRest_23 : decode cX2_isRest 23 = .ok (.invokestatic 67, 3) := by decide +kernel
theorem dX2_isRest_26 : decode cX2_isRest 26 = .ok (.lstore 7, 2) := by decide +kernel
theorem dX2_isRest_28 : decode cX2_isRest 28 = .ok (.iconst 0, 1) := by decide +kernel
theorem dX2_isRest_29 : decode cX2_isRest 29 = .ok (.istore 9, 2) := by decide +kernel
theorem dX2_isRest_31 : decode cX2_isRest 31 = .ok (.iload 9, 2) := by decide +kernel
theorem dX2_isRest_33 : decode cX2_isRest 33 = .ok (.aload_n 0, 1) := by decide +kernel
theorem dX2_isRest_34 : decode cX2_isRest 34 = .ok (.getfield 15, 3) := by decide +kernel
theorem dX2_isRest_37 : decode cX2_isRest 37 = .ok (.if_icmp .ge 53, 3) := by decide +kernel
theorem dX2_isRest_40 : decode cX2_isRest 40 = .ok (.aload_n 0, 1) := by decide +kernel
theorem dX2_isRest_41 : decode cX2_isRest 41 = .ok (.iload 9, 2) := by decide +kernel
theorem dX2_isRest_43 : decode cX2_isRest 43 = .ok (.invokevirtual 56, 3) := by decide +kernel
theorem dX2_isRest_46 : decode cX2_isRest 46 = .ok (.istore 10, 2) := by decide +kernel
theorem dX2_isRest_48 : decode cX2_isRest 48 = .ok (.aload_n 0, 1) := by decide +kernel
theorem dX2_isRest_49 : decode cX2_isRest 49 = .ok (.iload_n 1, 1) := by decide +kernel
theorem dX2_isRest_50 : decode cX2_isRest 50 = .ok (.iload_n 2, 1) := by decide +kernel
theorem dX2_isRest_51 : decode cX2_isRest 51 = .ok (.iload 10, 2) := by decide +kernel
theorem dX2_isRest_53 : decode cX2_isRest 53 = .ok (.iload 5, 2) := by decide +kernel
theorem dX2_isRest_55 : decode cX2_isRest 55 = .ok (.iconst 0, 1) := by decide +kernel
theorem dX2_isRest_56 : decode cX2_isRest 56 = .ok (.invokestatic 67, 3) := by decide +kernel
theorem dX2_isRest_59 : decode cX2_isRest 59 = .ok (.lload 7, 2) := by decide +kernel
theorem dX2_isRest_61 : decode cX2_isRest 61 = .ok (.lcmp, 1) := by decide +kernel
theorem dX2_isRest_62 : decode cX2_isRest 62 = .ok (.ifCond .gt 20, 3) := by decide +kernel
theorem dX2_isRest_65 : decode cX2_isRest 65 = .ok (.aload_n 0, 1) := by decide +kernel
theorem dX2_isRest_66 : decode cX2_isRest 66 = .ok (.iload_n 1, 1) := by decide +kernel
theorem dX2_isRest_67 : decode cX2_isRest 67 = .ok (.iload_n 2, 1) := by decide +kernel
theorem dX2_isRest_68 : decode cX2_isRest 68 = .ok (.iload 6, 2) := by decide +kernel
theorem dX2_isRest_70 : decode cX2_isRest 70 = .ok (.iload 10, 2) := by decide +kernel
theorem dX2_isRest_72 : decode cX2_isRest 72 = .ok (.iconst 0, 1) := by decide +kernel
theorem dX2_isRest_73 : decode cX2_isRest 73 = .ok (.invokestatic 67, 3) := by decide +kernel
theorem dX2_isRest_76 : decode cX2_isRest 76 = .ok (.lload 7, 2) := by decide +kernel
theorem dX2_isRest_78 : decode cX2_isRest 78 = .ok (.lcmp, 1) := by decide +kernel
theorem dX2_isRest_79 : decode cX2_isRest 79 = .ok (.ifCond .ge 5, 3) := by decide +kernel
theorem dX2_isRest_82 : decode cX2_isRest 82 = .ok (.iconst 0, 1) := by decide +kernel
theorem dX2_isRest_83 : decode cX2_isRest 83 = .ok (.ireturn, 1) := by decide +kernel
theorem dX2_isRest_84 : decode cX2_isRest 84 = .ok (.iinc 9 1, 3) := by decide +kernel
theorem dX2_isRest_87 : decode cX2_isRest 87 = .ok (.goto (-56), 3) := by decide +kernel
theorem dX2_isRest_90 : decode cX2_isRest 90 = .ok (.iconst 1, 1) := by decide +kernel
theorem dX2_isRest_91 : decode cX2_isRest 91 = .ok (.ireturn, 1) := by decide +kernel
def lp_X2_isRest_31 (y0 : Nat) (y1 : Int32) (y2 : Int32) (y5 : Int32) (y6 : Int32) (y7 : Int64)  : Nat → Int32 → Mm → Option (Int32 × Mm)
  | 0, _, _ => none
  | n + 1, y9, M =>
    if (M y0 9) ≤ y9 then (some ((nI 1), M)) else (bd (f_X0_endOf y0 y9 M) fun v43_8 M43_7 => bd (f_X2_gainedIf y0 y1 y2 v43_8 y5 (nI 0) M43_7) fun v56_10 M56_9 => if 0 < (lg_cmp v56_10 y7) then (some ((nI 0), M56_9)) else (bd (f_X2_gainedIf y0 y1 y2 y6 v43_8 (nI 0) M56_9) fun v73_12 M73_11 => if 0 ≤ (lg_cmp v73_12 y7) then (lp_X2_isRest_31 y0 y1 y2 y5 y6 y7 n (y9 + (nI 1)) M73_11) else (some ((nI 0), M73_11))))
def f_X2_isRest (x0 : Nat) (x1 : Int32) (x2 : Int32) (x3 : Int32) (x4 : Int32) (M : Mm) : Option (Int32 × Mm) :=
  bd (f_X0_endOf x0 x3 M) fun v2_2 M2_1 => bd (f_X0_endOf x0 x4 M2_1) fun v10_4 M10_3 => bd (f_X2_gainedIf x0 x1 x2 v10_4 v2_2 (nI 0) M10_3) fun v23_6 M23_5 => lp_X2_isRest_31 x0 x1 x2 v2_2 v10_4 v23_6  N0 (nI 0) M23_5
set_option maxHeartbeats 4000000 in
set_option maxRecDepth 100000 in
theorem sl_X2_isRest_31 {l : Launch} {B : BT} (hA : bA B = false) {d : Nat} {r : Int32} {M' : Mm} {y0 : Nat} {y1 : Int32} {y2 : Int32} {y5 : Int32} {y6 : Int32} {y7 : Int64} (hy0 : LY y0 = .inl (0, fk0))   :
    ∀ (n : Nat) (y9 : Int32) (M : Mm), lp_X2_isRest_31 y0 y1 y2 y5 y6 y7 n y9 M = some (r, M') → GG l B LY (d + 4) yX2_isRest cX2_isRest 11 (some .boolean) 0 0 (PI r M') 97 0 0 31 [(0, .ref y0), (1, .int y1), (2, .int y2), (5, .int y5), (6, .int y6), (7, .long y7), (9, .int y9)] [] M := by
  intro n
  induction n with
  | zero => intro y9 M h; cases h
  | succ n ih =>
    intro y9 M h
    rw [lp_X2_isRest_31] at h
    refine g_iload dX2_isRest_31 6 rfl ?_
    refine g_aload_n dX2_isRest_33 rfl 0 rfl ?_
    refine m_geti (k := 9) okX0 hy0 rfl (by decide) w_134 rfl dX2_isRest_34 ?_
    refine g_icmp_ge (tgt := 90) dX2_isRest_37 (by decide) (fun c15 => ?_) (fun c15 => ?_)
    · replace h := ite_p c15 h
      refine g_iconst (v := (nI 1)) dX2_isRest_90 (by decide) ?_
      exact g_zret rfl rfl (pi_of h) dX2_isRest_91
    · replace h := ite_n c15 h
      refine g_aload_n dX2_isRest_40 rfl 0 rfl ?_
      refine g_iload dX2_isRest_41 6 rfl ?_
      obtain ⟨v43_8, M43_7, eM43_7, h⟩ := bd_e h
      refine m_callVi (As := [.int y9]) (st := []) (s_X0_endOf (d := d + 3) hA hy0 eM43_7) hy0 okX0 ck_X0_endOf w_914 rfl (Nat.le_of_ble_eq_true rfl) dX2_isRest_43 ?_
      refine g_istore (lv' := [(10, .int v43_8), (0, .ref y0), (1, .int y1), (2, .int y2), (5, .int y5), (6, .int y6), (7, .long y7), (9, .int y9)]) dX2_isRest_46 (by decide) rfl ?_
      refine g_aload_n dX2_isRest_48 rfl 1 rfl ?_
      refine g_iload_n dX2_isRest_49 rfl 2 rfl ?_
      refine g_iload_n dX2_isRest_50 rfl 3 rfl ?_
      refine g_iload dX2_isRest_51 0 rfl ?_
      refine g_iload dX2_isRest_53 4 rfl ?_
      refine g_iconst (v := (nI 0)) dX2_isRest_55 (by decide) ?_
      obtain ⟨v56_10, M56_9, eM56_9, h⟩ := bd_e h
      refine m_callSl (As := [.ref y0, .int y1, .int y2, .int v43_8, .int y5, .int (nI 0)]) (st := []) (s_X2_gainedIf (d := d + 0) hA hy0 eM56_9) ck_X2_gainedIf w_938 rfl (Nat.le_of_ble_eq_true rfl) dX2_isRest_56 ?_
      refine g_lload dX2_isRest_59 6 rfl ?_
      refine g_lcmp dX2_isRest_61 ?_
      refine g_if_gt (tgt := 82) dX2_isRest_62 (by decide) (fun c14 => ?_) (fun c14 => ?_)
      · replace h := ite_p c14 h
        refine g_iconst (v := (nI 0)) dX2_isRest_82 (by decide) ?_
        exact g_zret rfl rfl (pi_of h) dX2_isRest_83
      · replace h := ite_n c14 h
        refine g_aload_n dX2_isRest_65 rfl 1 rfl ?_
        refine g_iload_n dX2_isRest_66 rfl 2 rfl ?_
        refine g_iload_n dX2_isRest_67 rfl 3 rfl ?_
        refine g_iload dX2_isRest_68 5 rfl ?_
        refine g_iload dX2_isRest_70 0 rfl ?_
        refine g_iconst (v := (nI 0)) dX2_isRest_72 (by decide) ?_
        obtain ⟨v73_12, M73_11, eM73_11, h⟩ := bd_e h
        refine m_callSl (As := [.ref y0, .int y1, .int y2, .int y6, .int v43_8, .int (nI 0)]) (st := []) (s_X2_gainedIf (d := d + 0) hA hy0 eM73_11) ck_X2_gainedIf w_938 rfl (Nat.le_of_ble_eq_true rfl) dX2_isRest_73 ?_
        refine g_lload dX2_isRest_76 6 rfl ?_
        refine g_lcmp dX2_isRest_78 ?_
        refine g_if_ge (tgt := 84) dX2_isRest_79 (by decide) (fun c13 => ?_) (fun c13 => ?_)
        · replace h := ite_p c13 h
          refine g_iinc (v := (y9 + (nI 1))) (lv' := [(9, .int (y9 + (nI 1))), (10, .int v43_8), (0, .ref y0), (1, .int y1), (2, .int y2), (5, .int y5), (6, .int y6), (7, .long y7)]) dX2_isRest_84 7 rfl rfl (by decide) rfl ?_
          refine g_goto (tgt := 31) dX2_isRest_87 (by decide) ?_
          refine g_sub [2, 3, 4, 5, 6, 7, 0] (lv' := [(0, .ref y0), (1, .int y1), (2, .int y2), (5, .int y5), (6, .int y6), (7, .long y7), (9, .int (y9 + (nI 1)))]) rfl ?_
          exact ih _  _ h
        · replace h := ite_n c13 h
          refine g_iconst (v := (nI 0)) dX2_isRest_82 (by decide) ?_
          exact g_zret rfl rfl (pi_of h) dX2_isRest_83
set_option maxHeartbeats 4000000 in
set_option maxRecDepth 100000 in
theorem s_X2_isRest {l : Launch} {B : BT} (hA : bA B = false) {d : Nat} {r : Int32} {M' : Mm} {x0 : Nat} {x1 : Int32} {x2 : Int32} {x3 : Int32} {x4 : Int32} {M : Mm} (hx0 : LY x0 = .inl (0, fk0)) (h : f_X2_isRest x0 x1 x2 x3 x4 M = some (r, M')) : Con l B LY (d + 4) yX2_isRest cX2_isRest 11 (some .boolean) 0 0 [.ref x0, .int x1, .int x2, .int x3, .int x4] 97 M (PI r M') := by
  refine con_of (by decide) (Nat.le_of_ble_eq_true rfl) ?_
  show GG l B LY (d + 4) yX2_isRest cX2_isRest 11 (some .boolean) 0 0 (PI r M') 97 0 0 0 [(0, .ref x0), (1, .int x1), (2, .int x2), (3, .int x3), (4, .int x4)] [] M
  rw [f_X2_isRest] at h
  refine g_aload_n dX2_isRest_0 rfl 0 rfl ?_
  refine g_iload_n dX2_isRest_1 rfl 3 rfl ?_
  obtain ⟨v2_2, M2_1, eM2_1, h⟩ := bd_e h
  refine m_callVi (As := [.int x3]) (st := []) (s_X0_endOf (d := d + 3) hA hx0 eM2_1) hx0 okX0 ck_X0_endOf w_914 rfl (Nat.le_of_ble_eq_true rfl) dX2_isRest_2 ?_
  refine g_istore (lv' := [(5, .int v2_2), (0, .ref x0), (1, .int x1), (2, .int x2), (3, .int x3), (4, .int x4)]) dX2_isRest_5 (by decide) rfl ?_
  refine g_aload_n dX2_isRest_7 rfl 1 rfl ?_
  refine g_iload dX2_isRest_8 5 rfl ?_
  obtain ⟨v10_4, M10_3, eM10_3, h⟩ := bd_e h
  refine m_callVi (As := [.int x4]) (st := []) (s_X0_endOf (d := d + 3) hA hx0 eM10_3) hx0 okX0 ck_X0_endOf w_914 rfl (Nat.le_of_ble_eq_true rfl) dX2_isRest_10 ?_
  refine g_istore (lv' := [(6, .int v10_4), (5, .int v2_2), (0, .ref x0), (1, .int x1), (2, .int x2), (3, .int x3), (4, .int x4)]) dX2_isRest_13 (by decide) rfl ?_
  refine g_aload_n dX2_isRest_15 rfl 2 rfl ?_
  refine g_iload_n dX2_isRest_16 rfl 3 rfl ?_
  refine g_iload_n dX2_isRest_17 rfl 4 rfl ?_
  refine g_iload dX2_isRest_18 0 rfl ?_
  refine g_iload dX2_isRest_20 1 rfl ?_
  refine g_iconst (v := (nI 0)) dX2_isRest_22 (by decide) ?_
  obtain ⟨v23_6, M23_5, eM23_5, h⟩ := bd_e h
  refine m_callSl (As := [.ref x0, .int x1, .int x2, .int v10_4, .int v2_2, .int (nI 0)]) (st := []) (s_X2_gainedIf (d := d + 0) hA hx0 eM23_5) ck_X2_gainedIf w_938 rfl (Nat.le_of_ble_eq_true rfl) dX2_isRest_23 ?_
  refine g_lstore (lv' := [(7, .long v23_6), (6, .int v10_4), (5, .int v2_2), (0, .ref x0), (1, .int x1), (2, .int x2), (3, .int x3), (4, .int x4)]) dX2_isRest_26 (by decide) rfl ?_
  refine g_iconst (v := (nI 0)) dX2_isRest_28 (by decide) ?_
  refine g_istore (lv' := [(9, .int (nI 0)), (7, .long v23_6), (6, .int v10_4), (5, .int v2_2), (0, .ref x0), (1, .int x1), (2, .int x2), (3, .int x3), (4, .int x4)]) dX2_isRest_29 (by decide) rfl ?_
  refine g_sub [4, 5, 6, 3, 2, 1, 0] (lv' := [(0, .ref x0), (1, .int x1), (2, .int x2), (5, .int v2_2), (6, .int v10_4), (7, .long v23_6), (9, .int (nI 0))]) rfl ?_
  refine sl_X2_isRest_31 hA hx0  _ _ _ h
theorem ck_X2_isRest : CKS yX2_isRest cX2_isRest 11 (some .boolean) 5 := ⟨⟨by decide, by decide, by decide +kernel⟩, w_963, w_87, w_962, by decide⟩
theorem dX2_countRests_0 : decode cX2_countRests 0 = .ok (.iconst 0, 1) := by decide +kernel
theorem dX2_countRests_1 : decode cX2_countRests 1 = .ok (.istore_n 3, 1) := by decide +kernel
theorem dX2_countRests_2 : decode cX2_countRests 2 = .ok (.iconst 0, 1) := by decide +kernel
theorem dX2_countRests_3 : decode cX2_countRests 3 = .ok (.istore 4, 2) := by decide +kernel
theorem dX2_countRests_5 : decode cX2_countRests 5 = .ok (.iload 4, 2) := by decide +kernel
theorem dX2_countRests_7 : decode cX2_countRests 7 = .ok (.aload_n 0, 1) := by decide +kernel
theorem dX2_countRests_8 : decode cX2_countRests 8 = .ok (.getfield 15, 3) := by decide +kernel
theorem dX2_countRests_11 : decode cX2_countRests 11 = .ok (.if_icmp .ge 43, 3) := by decide +kernel
theorem dX2_countRests_14 : decode cX2_countRests 14 = .ok (.iconst 0, 1) := by decide +kernel
theorem dX2_countRests_15 : decode cX2_countRests 15 = .ok (.istore 5, 2) := by decide +kernel
theorem dX2_countRests_17 : decode cX2_countRests 17 = .ok (.iload 5, 2) := by decide +kernel
theorem dX2_countRests_19 : decode cX2_countRests 19 = .ok (.aload_n 0, 1) := by decide +kernel
theorem dX2_countRests_20 : decode cX2_countRests 20 = .ok (.getfield 15, 3) := by decide +kernel
theorem dX2_countRests_23 : decode cX2_countRests 23 = .ok (.if_icmp .ge 25, 3) := by decide +kernel
theorem dX2_countRests_26 : decode cX2_countRests 26 = .ok (.aload_n 0, 1) := by decide +kernel
theorem dX2_countRests_27 : decode cX2_countRests 27 = .ok (.iload_n 1, 1) := by decide +kernel
theorem dX2_countRests_28 : decode cX2_countRests 28 = .ok (.iload_n 2, 1) := by decide +kernel
theorem dX2_countRests_29 : decode cX2_countRests 29 = .ok (.iload 4, 2) := by decide +kernel
theorem dX2_countRests_31 : decode cX2_countRests 31 = .ok (.iload 5, 2) := by decide +kernel
theorem dX2_countRests_33 : decode cX2_countRests 33 = .ok (.invokestatic 79, 3) := by decide +kernel
theorem dX2_countRests_36 : decode cX2_countRests 36 = .ok (.ifCond .eq 6, 3) := by decide +kernel
theorem dX2_countRests_39 : decode cX2_countRests 39 = .ok (.iinc 3 1, 3) := by decide +kernel
theorem dX2_countRests_42 : decode cX2_countRests 42 = .ok (.iinc 5 1, 3) := by decide +kernel
theorem dX2_countRests_45 : decode cX2_countRests 45 = .ok (.goto (-28), 3) := by decide +kernel
theorem dX2_countRests_48 : decode cX2_countRests 48 = .ok (.iinc 4 1, 3) := by decide +kernel
theorem dX2_countRests_51 : decode cX2_countRests 51 = .ok (.goto (-46), 3) := by decide +kernel
theorem dX2_countRests_54 : decode cX2_countRests 54 = .ok (.iload_n 3, 1) := by decide +kernel
theorem dX2_countRests_55 : decode cX2_countRests 55 = .ok (.ireturn, 1) := by decide +kernel
def lp_X2_countRests_17 (y0 : Nat) (y1 : Int32) (y2 : Int32) (y4 : Int32) (k48 : Int32 → Mm → Option (Int32 × Mm)) : Nat → Int32 → Int32 → Mm → Option (Int32 × Mm)
  | 0, _, _, _ => none
  | n + 1, y3, y5, M =>
    if (M y0 9) ≤ y5 then (k48 y3 M) else (bd (f_X2_isRest y0 y1 y2 y4 y5 M) fun v33_2 M33_1 => jn (fun (u3 : Int32) (M4 : Mm) => lp_X2_countRests_17 y0 y1 y2 y4 k48 n u3 (y5 + (nI 1)) M4) fun j5 => if v33_2 = 0 then (j5 y3 M33_1) else (j5 (y3 + (nI 1)) M33_1))
def lp_X2_countRests_5 (y0 : Nat) (y1 : Int32) (y2 : Int32)  : Nat → Int32 → Int32 → Mm → Option (Int32 × Mm)
  | 0, _, _, _ => none
  | n + 1, y3, y4, M =>
    if (M y0 9) ≤ y4 then (some (y3, M)) else (lp_X2_countRests_17 y0 y1 y2 y4 (fun (u8 : Int32) (M9 : Mm) => lp_X2_countRests_5 y0 y1 y2 n u8 (y4 + (nI 1)) M9) N0 y3 (nI 0) M)
def f_X2_countRests (x0 : Nat) (x1 : Int32) (x2 : Int32) (M : Mm) : Option (Int32 × Mm) :=
  lp_X2_countRests_5 x0 x1 x2  N0 (nI 0) (nI 0) M
set_option maxHeartbeats 4000000 in
set_option maxRecDepth 100000 in
theorem sl_X2_countRests_17 {l : Launch} {B : BT} (hA : bA B = false) {d : Nat} {r : Int32} {M' : Mm} {y0 : Nat} {y1 : Int32} {y2 : Int32} {y4 : Int32} (hy0 : LY y0 = .inl (0, fk0)) {k48 : Int32 → Mm → Option (Int32 × Mm)} (hk48 : ∀ (z3 : Int32) (M9 : Mm), k48 z3 M9 = some (r, M') → GG l B LY (d + 5) yX2_countRests cX2_countRests 6 (some .int) 0 0 (PI r M') 97 0 0 48 [(0, .ref y0), (1, .int y1), (2, .int y2), (3, .int z3), (4, .int y4)] [] M9) :
    ∀ (n : Nat) (y3 : Int32) (y5 : Int32) (M : Mm), lp_X2_countRests_17 y0 y1 y2 y4 k48 n y3 y5 M = some (r, M') → GG l B LY (d + 5) yX2_countRests cX2_countRests 6 (some .int) 0 0 (PI r M') 97 0 0 17 [(0, .ref y0), (1, .int y1), (2, .int y2), (3, .int y3), (4, .int y4), (5, .int y5)] [] M := by
  intro n
  induction n with
  | zero => intro y3 y5 M h; cases h
  | succ n ih =>
    intro y3 y5 M h
    rw [lp_X2_countRests_17] at h
    refine g_iload dX2_countRests_17 5 rfl ?_
    refine g_aload_n dX2_countRests_19 rfl 0 rfl ?_
    refine m_geti (k := 9) okX0 hy0 rfl (by decide) w_134 rfl dX2_countRests_20 ?_
    refine g_icmp_ge (tgt := 48) dX2_countRests_23 (by decide) (fun c7 => ?_) (fun c7 => ?_)
    · replace h := ite_p c7 h
      refine g_sub [0, 1, 2, 3, 4] (lv' := [(0, .ref y0), (1, .int y1), (2, .int y2), (3, .int y3), (4, .int y4)]) rfl ?_
      exact hk48 _ _ h
    · replace h := ite_n c7 h
      refine g_aload_n dX2_countRests_26 rfl 0 rfl ?_
      refine g_iload_n dX2_countRests_27 rfl 1 rfl ?_
      refine g_iload_n dX2_countRests_28 rfl 2 rfl ?_
      refine g_iload dX2_countRests_29 4 rfl ?_
      refine g_iload dX2_countRests_31 5 rfl ?_
      obtain ⟨v33_2, M33_1, eM33_1, h⟩ := bd_e h
      refine m_callSi (As := [.ref y0, .int y1, .int y2, .int y4, .int y5]) (st := []) (s_X2_isRest (d := d + 0) hA hy0 eM33_1) ck_X2_isRest w_961 rfl (Nat.le_of_ble_eq_true rfl) dX2_countRests_33 ?_
      obtain ⟨j5, ej5, h⟩ := jn_e h
      have hj5 : ∀ (u3 : Int32) (M4 : Mm), j5 u3 M4 = some (r, M') → GG l B LY (d + 5) yX2_countRests cX2_countRests 6 (some .int) 0 0 (PI r M') 97 0 0 42 [(0, .ref y0), (1, .int y1), (2, .int y2), (3, .int u3), (4, .int y4), (5, .int y5)] [] M4 := by
        intro u3 M4 h
        rw [ej5] at h
        refine g_iinc (v := (y5 + (nI 1))) (lv' := [(5, .int (y5 + (nI 1))), (0, .ref y0), (1, .int y1), (2, .int y2), (3, .int u3), (4, .int y4)]) dX2_countRests_42 5 rfl rfl (by decide) rfl ?_
        refine g_goto (tgt := 17) dX2_countRests_45 (by decide) ?_
        refine g_sub [1, 2, 3, 4, 5, 0] (lv' := [(0, .ref y0), (1, .int y1), (2, .int y2), (3, .int u3), (4, .int y4), (5, .int (y5 + (nI 1)))]) rfl ?_
        exact ih _ _  _ h
      refine g_if_eq (tgt := 42) dX2_countRests_36 (by decide) (fun c6 => ?_) (fun c6 => ?_)
      · replace h := ite_p c6 h
        refine g_sub [0, 1, 2, 3, 4, 5] (lv' := [(0, .ref y0), (1, .int y1), (2, .int y2), (3, .int y3), (4, .int y4), (5, .int y5)]) rfl ?_
        exact hj5 _ _ h
      · replace h := ite_n c6 h
        refine g_iinc (v := (y3 + (nI 1))) (lv' := [(3, .int (y3 + (nI 1))), (0, .ref y0), (1, .int y1), (2, .int y2), (4, .int y4), (5, .int y5)]) dX2_countRests_39 3 rfl rfl (by decide) rfl ?_
        refine g_sub [1, 2, 3, 0, 4, 5] (lv' := [(0, .ref y0), (1, .int y1), (2, .int y2), (3, .int (y3 + (nI 1))), (4, .int y4), (5, .int y5)]) rfl ?_
        exact hj5 _ _ h
set_option maxHeartbeats 4000000 in
set_option maxRecDepth 100000 in
theorem sl_X2_countRests_5 {l : Launch} {B : BT} (hA : bA B = false) {d : Nat} {r : Int32} {M' : Mm} {y0 : Nat} {y1 : Int32} {y2 : Int32} (hy0 : LY y0 = .inl (0, fk0))   :
    ∀ (n : Nat) (y3 : Int32) (y4 : Int32) (M : Mm), lp_X2_countRests_5 y0 y1 y2 n y3 y4 M = some (r, M') → GG l B LY (d + 5) yX2_countRests cX2_countRests 6 (some .int) 0 0 (PI r M') 97 0 0 5 [(0, .ref y0), (1, .int y1), (2, .int y2), (3, .int y3), (4, .int y4)] [] M := by
  intro n
  induction n with
  | zero => intro y3 y4 M h; cases h
  | succ n ih =>
    intro y3 y4 M h
    rw [lp_X2_countRests_5] at h
    refine g_iload dX2_countRests_5 4 rfl ?_
    refine g_aload_n dX2_countRests_7 rfl 0 rfl ?_
    refine m_geti (k := 9) okX0 hy0 rfl (by decide) w_134 rfl dX2_countRests_8 ?_
    refine g_icmp_ge (tgt := 54) dX2_countRests_11 (by decide) (fun c10 => ?_) (fun c10 => ?_)
    · replace h := ite_p c10 h
      refine g_iload_n dX2_countRests_54 rfl 3 rfl ?_
      exact g_zret rfl rfl (pi_of h) dX2_countRests_55
    · replace h := ite_n c10 h
      refine g_iconst (v := (nI 0)) dX2_countRests_14 (by decide) ?_
      refine g_istore (lv' := [(5, .int (nI 0)), (0, .ref y0), (1, .int y1), (2, .int y2), (3, .int y3), (4, .int y4)]) dX2_countRests_15 (by decide) rfl ?_
      refine g_sub [1, 2, 3, 4, 5, 0] (lv' := [(0, .ref y0), (1, .int y1), (2, .int y2), (3, .int y3), (4, .int y4), (5, .int (nI 0))]) rfl ?_
      refine sl_X2_countRests_17 hA hy0 ?_ _ _ _ _ h
      · intro u8 M9 h
        refine g_iinc (v := (y4 + (nI 1))) (lv' := [(4, .int (y4 + (nI 1))), (0, .ref y0), (1, .int y1), (2, .int y2), (3, .int u8)]) dX2_countRests_48 4 rfl rfl (by decide) rfl ?_
        refine g_goto (tgt := 5) dX2_countRests_51 (by decide) ?_
        refine g_sub [1, 2, 3, 4, 0] (lv' := [(0, .ref y0), (1, .int y1), (2, .int y2), (3, .int u8), (4, .int (y4 + (nI 1)))]) rfl ?_
        exact ih _ _  _ h
set_option maxHeartbeats 4000000 in
set_option maxRecDepth 100000 in
theorem s_X2_countRests {l : Launch} {B : BT} (hA : bA B = false) {d : Nat} {r : Int32} {M' : Mm} {x0 : Nat} {x1 : Int32} {x2 : Int32} {M : Mm} (hx0 : LY x0 = .inl (0, fk0)) (h : f_X2_countRests x0 x1 x2 M = some (r, M')) : Con l B LY (d + 5) yX2_countRests cX2_countRests 6 (some .int) 0 0 [.ref x0, .int x1, .int x2] 97 M (PI r M') := by
  refine con_of (by decide) (Nat.le_of_ble_eq_true rfl) ?_
  show GG l B LY (d + 5) yX2_countRests cX2_countRests 6 (some .int) 0 0 (PI r M') 97 0 0 0 [(0, .ref x0), (1, .int x1), (2, .int x2)] [] M
  rw [f_X2_countRests] at h
  refine g_iconst (v := (nI 0)) dX2_countRests_0 (by decide) ?_
  refine g_istore_n (lv' := [(3, .int (nI 0)), (0, .ref x0), (1, .int x1), (2, .int x2)]) dX2_countRests_1 rfl (by decide) rfl ?_
  refine g_iconst (v := (nI 0)) dX2_countRests_2 (by decide) ?_
  refine g_istore (lv' := [(4, .int (nI 0)), (3, .int (nI 0)), (0, .ref x0), (1, .int x1), (2, .int x2)]) dX2_countRests_3 (by decide) rfl ?_
  refine g_sub [2, 3, 4, 1, 0] (lv' := [(0, .ref x0), (1, .int x1), (2, .int x2), (3, .int (nI 0)), (4, .int (nI 0))]) rfl ?_
  refine sl_X2_countRests_5 hA hx0  _ _ _ _ h
theorem ck_X2_countRests : CKS yX2_countRests cX2_countRests 6 (some .int) 3 := ⟨⟨by decide, by decide, by decide +kernel⟩, w_960, w_87, w_959, by decide⟩
theorem dX2_restAt_0 : decode cX2_restAt 0 = .ok (.iconst 0, 1) := by decide +kernel
theorem dX2_restAt_1 : decode cX2_restAt 1 = .ok (.istore 4, 2) := by decide +kernel
theorem dX2_restAt_3 : decode cX2_restAt 3 = .ok (.iconst 0, 1) := by decide +kernel
theorem dX2_restAt_4 : decode cX2_restAt 4 = .ok (.istore 5, 2) := by decide +kernel
theorem dX2_restAt_6 : decode cX2_restAt 6 = .ok (.iload 5, 2) := by decide +kernel
theorem dX2_restAt_8 : decode cX2_restAt 8 = .ok (.aload_n 0, 1) := by decide +kernel
theorem dX2_restAt_9 : decode cX2_restAt 9 = .ok (.getfield 15, 3) := by decide +kernel
theorem dX2_restAt_12 : decode cX2_restAt 12 = .ok (.if_icmp .ge 58, 3) := by decide +kernel
theorem dX2_restAt_15 : decode cX2_restAt 15 = .ok (.iconst 0, 1) := by decide +kernel
theorem dX2_restAt_16 : decode cX2_restAt 16 = .ok (.istore 6, 2) := by decide +kernel
theorem dX2_restAt_18 : decode cX2_restAt 18 = .ok (.iload 6, 2) := by decide +kernel
theorem dX2_restAt_20 : decode cX2_restAt 20 = .ok (.aload_n 0, 1) := by decide +kernel
theorem dX2_restAt_21 : decode cX2_restAt 21 = .ok (.getfield 15, 3) := by decide +kernel
theorem dX2_restAt_24 : decode cX2_restAt 24 = .ok (.if_icmp .ge 40, 3) := by decide +kernel
theorem dX2_restAt_27 : decode cX2_restAt 27 = .ok (.aload_n 0, 1) := by decide +kernel
theorem dX2_restAt_28 : decode cX2_restAt 28 = .ok (.iload_n 1, 1) := by decide +kernel
theorem dX2_restAt_29 : decode cX2_restAt 29 = .ok (.iload_n 2, 1) := by decide +kernel
theorem dX2_restAt_30 : decode cX2_restAt 30 = .ok (.iload 5, 2) := by decide +kernel
theorem dX2_restAt_32 : decode cX2_restAt 32 = .ok (.iload 6, 2) := by decide +kernel
theorem dX2_restAt_34 : decode cX2_restAt 34 = .ok (.invokestatic 79, 3) := by decide +kernel
theorem dX2_restAt_37 : decode cX2_restAt 37 = .ok (.ifCond .eq 21, 3) := by decide +kernel
theorem dX2_restAt_40 : decode cX2_restAt 40 = .ok (.iload 4, 2) := by decide +kernel
theorem dX2_restAt_42 : decode cX2_restAt 42 = .ok (.iload_n 3, 1) := by decide +kernel
theorem dX2_restAt_43 : decode cX2_restAt 43 = .ok (.if_icmp .ne 12, 3) := by decide +kernel
theorem dX2_restAt_46 : decode cX2_restAt 46 = .ok (.iload 5, 2) := by decide +kernel
theorem dX2_restAt_48 : decode cX2_restAt 48 = .ok (.bipush 10, 2) := by decide +kernel
theorem dX2_restAt_50 : decode cX2_restAt 50 = .ok (.imul, 1) := by decide +kernel
theorem dX2_restAt_51 : decode cX2_restAt 51 = .ok (.iload 6, 2) := by decide +kernel
theorem dX2_restAt_53 : decode cX2_restAt 53 = .ok (.iadd, 1) := by decide +kernel
theorem dX2_restAt_54 : decode cX2_restAt 54 = .ok (.ireturn, 1) := by decide +kernel
theorem dX2_restAt_55 : decode cX2_restAt 55 = .ok (.iinc 4 1, 3) := by decide +kernel
theorem dX2_restAt_58 : decode cX2_restAt 58 = .ok (.iinc 6 1, 3) := by decide +kernel
theorem dX2_restAt_61 : decode cX2_restAt 61 = .ok (.goto (-43), 3) := by decide +kernel
theorem dX2_restAt_64 : decode cX2_restAt 64 = .ok (.iinc 5 1, 3) := by decide +kernel
theorem dX2_restAt_67 : decode cX2_restAt 67 = .ok (.goto (-61), 3) := by decide +kernel
theorem dX2_restAt_70 : decode cX2_restAt 70 = .ok (.iconst (-1), 1) := by decide +kernel
theorem dX2_restAt_71 : decode cX2_restAt 71 = .ok (.ireturn, 1) := by decide +kernel
def lp_X2_restAt_18 (y0 : Nat) (y1 : Int32) (y2 : Int32) (y3 : Int32) (y5 : Int32) (k46 : Int32 → Mm → Option (Int32 × Mm)) (k64 : Int32 → Mm → Option (Int32 × Mm)) : Nat → Int32 → Int32 → Mm → Option (Int32 × Mm)
  | 0, _, _, _ => none
  | n + 1, y4, y6, M =>
    if (M y0 9) ≤ y6 then (k64 y4 M) else (bd (f_X2_isRest y0 y1 y2 y5 y6 M) fun v34_2 M34_1 => jn (fun (u3 : Int32) (M4 : Mm) => lp_X2_restAt_18 y0 y1 y2 y3 y5 k46 k64 n u3 (y6 + (nI 1)) M4) fun j5 => if v34_2 = 0 then (j5 y4 M34_1) else (if y4 = y3 then (k46 y6 M34_1) else (j5 (y4 + (nI 1)) M34_1)))
def lp_X2_restAt_6 (y0 : Nat) (y1 : Int32) (y2 : Int32) (y3 : Int32) (k46 : Int32 → Int32 → Mm → Option (Int32 × Mm)) : Nat → Int32 → Int32 → Mm → Option (Int32 × Mm)
  | 0, _, _, _ => none
  | n + 1, y4, y5, M =>
    if (M y0 9) ≤ y5 then (some ((-1 : Int32), M)) else (lp_X2_restAt_18 y0 y1 y2 y3 y5 (fun (u9 : Int32) (M10 : Mm) => k46 y5 u9 M10) (fun (u11 : Int32) (M12 : Mm) => lp_X2_restAt_6 y0 y1 y2 y3 k46 n u11 (y5 + (nI 1)) M12) N0 y4 (nI 0) M)
def f_X2_restAt (x0 : Nat) (x1 : Int32) (x2 : Int32) (x3 : Int32) (M : Mm) : Option (Int32 × Mm) :=
  lp_X2_restAt_6 x0 x1 x2 x3 (fun (u14 : Int32) (u15 : Int32) (M16 : Mm) => some (((u14 * (nI 10)) + u15), M16)) N0 (nI 0) (nI 0) M
set_option maxHeartbeats 4000000 in
set_option maxRecDepth 100000 in
theorem sl_X2_restAt_18 {l : Launch} {B : BT} (hA : bA B = false) {d : Nat} {r : Int32} {M' : Mm} {y0 : Nat} {y1 : Int32} {y2 : Int32} {y3 : Int32} {y5 : Int32} (hy0 : LY y0 = .inl (0, fk0)) {k46 : Int32 → Mm → Option (Int32 × Mm)} {k64 : Int32 → Mm → Option (Int32 × Mm)} (hk46 : ∀ (z6 : Int32) (M9 : Mm), k46 z6 M9 = some (r, M') → GG l B LY (d + 5) yX2_restAt cX2_restAt 7 (some .int) 0 0 (PI r M') 97 0 0 46 [(5, .int y5), (6, .int z6)] [] M9) (hk64 : ∀ (z4 : Int32) (M9 : Mm), k64 z4 M9 = some (r, M') → GG l B LY (d + 5) yX2_restAt cX2_restAt 7 (some .int) 0 0 (PI r M') 97 0 0 64 [(0, .ref y0), (1, .int y1), (2, .int y2), (3, .int y3), (4, .int z4), (5, .int y5)] [] M9) :
    ∀ (n : Nat) (y4 : Int32) (y6 : Int32) (M : Mm), lp_X2_restAt_18 y0 y1 y2 y3 y5 k46 k64 n y4 y6 M = some (r, M') → GG l B LY (d + 5) yX2_restAt cX2_restAt 7 (some .int) 0 0 (PI r M') 97 0 0 18 [(0, .ref y0), (1, .int y1), (2, .int y2), (3, .int y3), (4, .int y4), (5, .int y5), (6, .int y6)] [] M := by
  intro n
  induction n with
  | zero => intro y4 y6 M h; cases h
  | succ n ih =>
    intro y4 y6 M h
    rw [lp_X2_restAt_18] at h
    refine g_iload dX2_restAt_18 6 rfl ?_
    refine g_aload_n dX2_restAt_20 rfl 0 rfl ?_
    refine m_geti (k := 9) okX0 hy0 rfl (by decide) w_134 rfl dX2_restAt_21 ?_
    refine g_icmp_ge (tgt := 64) dX2_restAt_24 (by decide) (fun c8 => ?_) (fun c8 => ?_)
    · replace h := ite_p c8 h
      refine g_sub [0, 1, 2, 3, 4, 5] (lv' := [(0, .ref y0), (1, .int y1), (2, .int y2), (3, .int y3), (4, .int y4), (5, .int y5)]) rfl ?_
      exact hk64 _ _ h
    · replace h := ite_n c8 h
      refine g_aload_n dX2_restAt_27 rfl 0 rfl ?_
      refine g_iload_n dX2_restAt_28 rfl 1 rfl ?_
      refine g_iload_n dX2_restAt_29 rfl 2 rfl ?_
      refine g_iload dX2_restAt_30 5 rfl ?_
      refine g_iload dX2_restAt_32 6 rfl ?_
      obtain ⟨v34_2, M34_1, eM34_1, h⟩ := bd_e h
      refine m_callSi (As := [.ref y0, .int y1, .int y2, .int y5, .int y6]) (st := []) (s_X2_isRest (d := d + 0) hA hy0 eM34_1) ck_X2_isRest w_961 rfl (Nat.le_of_ble_eq_true rfl) dX2_restAt_34 ?_
      obtain ⟨j5, ej5, h⟩ := jn_e h
      have hj5 : ∀ (u3 : Int32) (M4 : Mm), j5 u3 M4 = some (r, M') → GG l B LY (d + 5) yX2_restAt cX2_restAt 7 (some .int) 0 0 (PI r M') 97 0 0 58 [(0, .ref y0), (1, .int y1), (2, .int y2), (3, .int y3), (4, .int u3), (5, .int y5), (6, .int y6)] [] M4 := by
        intro u3 M4 h
        rw [ej5] at h
        refine g_iinc (v := (y6 + (nI 1))) (lv' := [(6, .int (y6 + (nI 1))), (0, .ref y0), (1, .int y1), (2, .int y2), (3, .int y3), (4, .int u3), (5, .int y5)]) dX2_restAt_58 6 rfl rfl (by decide) rfl ?_
        refine g_goto (tgt := 18) dX2_restAt_61 (by decide) ?_
        refine g_sub [1, 2, 3, 4, 5, 6, 0] (lv' := [(0, .ref y0), (1, .int y1), (2, .int y2), (3, .int y3), (4, .int u3), (5, .int y5), (6, .int (y6 + (nI 1)))]) rfl ?_
        exact ih _ _  _ h
      refine g_if_eq (tgt := 58) dX2_restAt_37 (by decide) (fun c7 => ?_) (fun c7 => ?_)
      · replace h := ite_p c7 h
        refine g_sub [0, 1, 2, 3, 4, 5, 6] (lv' := [(0, .ref y0), (1, .int y1), (2, .int y2), (3, .int y3), (4, .int y4), (5, .int y5), (6, .int y6)]) rfl ?_
        exact hj5 _ _ h
      · replace h := ite_n c7 h
        refine g_iload dX2_restAt_40 4 rfl ?_
        refine g_iload_n dX2_restAt_42 rfl 3 rfl ?_
        refine g_icmp_ne (tgt := 55) dX2_restAt_43 (by decide) (fun c6 => ?_) (fun c6 => ?_)
        · replace h := ite_n c6 h
          refine g_iinc (v := (y4 + (nI 1))) (lv' := [(4, .int (y4 + (nI 1))), (0, .ref y0), (1, .int y1), (2, .int y2), (3, .int y3), (5, .int y5), (6, .int y6)]) dX2_restAt_55 4 rfl rfl (by decide) rfl ?_
          refine g_sub [1, 2, 3, 4, 0, 5, 6] (lv' := [(0, .ref y0), (1, .int y1), (2, .int y2), (3, .int y3), (4, .int (y4 + (nI 1))), (5, .int y5), (6, .int y6)]) rfl ?_
          exact hj5 _ _ h
        · replace h := ite_p c6 h
          refine g_sub [5, 6] (lv' := [(5, .int y5), (6, .int y6)]) rfl ?_
          exact hk46 _ _ h
set_option maxHeartbeats 4000000 in
set_option maxRecDepth 100000 in
theorem sl_X2_restAt_6 {l : Launch} {B : BT} (hA : bA B = false) {d : Nat} {r : Int32} {M' : Mm} {y0 : Nat} {y1 : Int32} {y2 : Int32} {y3 : Int32} (hy0 : LY y0 = .inl (0, fk0)) {k46 : Int32 → Int32 → Mm → Option (Int32 × Mm)} (hk46 : ∀ (z5 : Int32) (z6 : Int32) (M9 : Mm), k46 z5 z6 M9 = some (r, M') → GG l B LY (d + 5) yX2_restAt cX2_restAt 7 (some .int) 0 0 (PI r M') 97 0 0 46 [(5, .int z5), (6, .int z6)] [] M9) :
    ∀ (n : Nat) (y4 : Int32) (y5 : Int32) (M : Mm), lp_X2_restAt_6 y0 y1 y2 y3 k46 n y4 y5 M = some (r, M') → GG l B LY (d + 5) yX2_restAt cX2_restAt 7 (some .int) 0 0 (PI r M') 97 0 0 6 [(0, .ref y0), (1, .int y1), (2, .int y2), (3, .int y3), (4, .int y4), (5, .int y5)] [] M := by
  intro n
  induction n with
  | zero => intro y4 y5 M h; cases h
  | succ n ih =>
    intro y4 y5 M h
    rw [lp_X2_restAt_6] at h
    refine g_iload dX2_restAt_6 5 rfl ?_
    refine g_aload_n dX2_restAt_8 rfl 0 rfl ?_
    refine m_geti (k := 9) okX0 hy0 rfl (by decide) w_134 rfl dX2_restAt_9 ?_
    refine g_icmp_ge (tgt := 70) dX2_restAt_12 (by decide) (fun c13 => ?_) (fun c13 => ?_)
    · replace h := ite_p c13 h
      refine g_iconst (v := (-1 : Int32)) dX2_restAt_70 (by decide) ?_
      exact g_zret rfl rfl (pi_of h) dX2_restAt_71
    · replace h := ite_n c13 h
      refine g_iconst (v := (nI 0)) dX2_restAt_15 (by decide) ?_
      refine g_istore (lv' := [(6, .int (nI 0)), (0, .ref y0), (1, .int y1), (2, .int y2), (3, .int y3), (4, .int y4), (5, .int y5)]) dX2_restAt_16 (by decide) rfl ?_
      refine g_sub [1, 2, 3, 4, 5, 6, 0] (lv' := [(0, .ref y0), (1, .int y1), (2, .int y2), (3, .int y3), (4, .int y4), (5, .int y5), (6, .int (nI 0))]) rfl ?_
      refine sl_X2_restAt_18 hA hy0 ?_ ?_ _ _ _ _ h
      · intro u9 M10 h
        refine g_sub [0, 1] (lv' := [(5, .int y5), (6, .int u9)]) rfl ?_
        exact hk46 _ _ _ h
      · intro u11 M12 h
        refine g_iinc (v := (y5 + (nI 1))) (lv' := [(5, .int (y5 + (nI 1))), (0, .ref y0), (1, .int y1), (2, .int y2), (3, .int y3), (4, .int u11)]) dX2_restAt_64 5 rfl rfl (by decide) rfl ?_
        refine g_goto (tgt := 6) dX2_restAt_67 (by decide) ?_
        refine g_sub [1, 2, 3, 4, 5, 0] (lv' := [(0, .ref y0), (1, .int y1), (2, .int y2), (3, .int y3), (4, .int u11), (5, .int (y5 + (nI 1)))]) rfl ?_
        exact ih _ _  _ h
set_option maxHeartbeats 4000000 in
set_option maxRecDepth 100000 in
theorem s_X2_restAt {l : Launch} {B : BT} (hA : bA B = false) {d : Nat} {r : Int32} {M' : Mm} {x0 : Nat} {x1 : Int32} {x2 : Int32} {x3 : Int32} {M : Mm} (hx0 : LY x0 = .inl (0, fk0)) (h : f_X2_restAt x0 x1 x2 x3 M = some (r, M')) : Con l B LY (d + 5) yX2_restAt cX2_restAt 7 (some .int) 0 0 [.ref x0, .int x1, .int x2, .int x3] 97 M (PI r M') := by
  refine con_of (by decide) (Nat.le_of_ble_eq_true rfl) ?_
  show GG l B LY (d + 5) yX2_restAt cX2_restAt 7 (some .int) 0 0 (PI r M') 97 0 0 0 [(0, .ref x0), (1, .int x1), (2, .int x2), (3, .int x3)] [] M
  rw [f_X2_restAt] at h
  refine g_iconst (v := (nI 0)) dX2_restAt_0 (by decide) ?_
  refine g_istore (lv' := [(4, .int (nI 0)), (0, .ref x0), (1, .int x1), (2, .int x2), (3, .int x3)]) dX2_restAt_1 (by decide) rfl ?_
  refine g_iconst (v := (nI 0)) dX2_restAt_3 (by decide) ?_
  refine g_istore (lv' := [(5, .int (nI 0)), (4, .int (nI 0)), (0, .ref x0), (1, .int x1), (2, .int x2), (3, .int x3)]) dX2_restAt_4 (by decide) rfl ?_
  refine g_sub [2, 3, 4, 5, 1, 0] (lv' := [(0, .ref x0), (1, .int x1), (2, .int x2), (3, .int x3), (4, .int (nI 0)), (5, .int (nI 0))]) rfl ?_
  refine sl_X2_restAt_6 hA hx0 ?_ _ _ _ _ h
  · intro u14 u15 M16 h
    refine g_iload dX2_restAt_46 0 rfl ?_
    refine g_bipush (v := (nI 10)) dX2_restAt_48 (by decide) ?_
    refine g_imul dX2_restAt_50 ?_
    refine g_iload dX2_restAt_51 1 rfl ?_
    refine g_iadd dX2_restAt_53 ?_
    exact g_zret rfl rfl (pi_of h) dX2_restAt_54
theorem ck_X2_restAt : CKS yX2_restAt cX2_restAt 7 (some .int) 4 := ⟨⟨by decide, by decide, by decide +kernel⟩, w_970, w_87, w_969, by decide⟩
theorem dJ6_bitCount_0f7a4_0 : decode cJ6_bitCount_0f7a4 0 = .ok (.iload_n 0, 1) := by decide +kernel
theorem dJ6_bitCount_0f7a4_1 : decode cJ6_bitCount_0f7a4 1 = .ok (.iload_n 0, 1) := by decide +kernel
theorem dJ6_bitCount_0f7a4_2 : decode cJ6_bitCount_0f7a4 2 = .ok (.iconst 1, 1) := by decide +kernel
theorem dJ6_bitCount_0f7a4_3 : decode cJ6_bitCount_0f7a4 3 = .ok (.iushr, 1) := by decide +kernel
theorem dJ6_bitCount_0f7a4_4 : decode cJ6_bitCount_0f7a4 4 = .ok (.ldc_w 265, 3) := by decide +kernel
theorem dJ6_bitCount_0f7a4_7 : decode cJ6_bitCount_0f7a4 7 = .ok (.iand, 1) := by decide +kernel
theorem dJ6_bitCount_0f7a4_8 : decode cJ6_bitCount_0f7a4 8 = .ok (.isub, 1) := by decide +kernel
theorem dJ6_bitCount_0f7a4_9 : decode cJ6_bitCount_0f7a4 9 = .ok (.istore_n 0, 1) := by decide +kernel
theorem dJ6_bitCount_0f7a4_10 : decode cJ6_bitCount_0f7a4 10 = .ok (.iload_n 0, 1) := by decide +kernel
theorem dJ6_bitCount_0f7a4_11 : decode cJ6_bitCount_0f7a4 11 = .ok (.ldc_w 266, 3) := by decide +kernel
theorem dJ6_bitCount_0f7a4_14 : decode cJ6_bitCount_0f7a4 14 = .ok (.iand, 1) := by decide +kernel
theorem dJ6_bitCount_0f7a4_15 : decode cJ6_bitCount_0f7a4 15 = .ok (.iload_n 0, 1) := by decide +kernel
theorem dJ6_bitCount_0f7a4_16 : decode cJ6_bitCount_0f7a4 16 = .ok (.iconst 2, 1) := by decide +kernel
theorem dJ6_bitCount_0f7a4_17 : decode cJ6_bitCount_0f7a4 17 = .ok (.iushr, 1) := by decide +kernel
theorem dJ6_bitCount_0f7a4_18 : decode cJ6_bitCount_0f7a4 18 = .ok (.ldc_w 266, 3) := by decide +kernel
theorem dJ6_bitCount_0f7a4_21 : decode cJ6_bitCount_0f7a4 21 = .ok (.iand, 1) := by decide +kernel
theorem dJ6_bitCount_0f7a4_22 : decode cJ6_bitCount_0f7a4 22 = .ok (.iadd, 1) := by decide +kernel
theorem dJ6_bitCount_0f7a4_23 : decode cJ6_bitCount_0f7a4 23 = .ok (.istore_n 0, 1) := by decide +kernel
theorem dJ6_bitCount_0f7a4_24 : decode cJ6_bitCount_0f7a4 24 = .ok (.iload_n 0, 1) := by decide +kernel
theorem dJ6_bitCount_0f7a4_25 : decode cJ6_bitCount_0f7a4 25 = .ok (.iload_n 0, 1) := by decide +kernel
theorem dJ6_bitCount_0f7a4_26 : decode cJ6_bitCount_0f7a4 26 = .ok (.iconst 4, 1) := by decide +kernel
theorem dJ6_bitCount_0f7a4_27 : decode cJ6_bitCount_0f7a4 27 = .ok (.iushr, 1) := by decide +kernel
theorem dJ6_bitCount_0f7a4_28 : decode cJ6_bitCount_0f7a4 28 = .ok (.iadd, 1) := by decide +kernel
theorem dJ6_bitCount_0f7a4_29 : decode cJ6_bitCount_0f7a4 29 = .ok (.ldc_w 267, 3) := by decide +kernel
theorem dJ6_bitCount_0f7a4_32 : decode cJ6_bitCount_0f7a4 32 = .ok (.iand, 1) := by decide +kernel
theorem dJ6_bitCount_0f7a4_33 : decode cJ6_bitCount_0f7a4 33 = .ok (.istore_n 0, 1) := by decide +kernel
theorem dJ6_bitCount_0f7a4_34 : decode cJ6_bitCount_0f7a4 34 = .ok (.iload_n 0, 1) := by decide +kernel
theorem dJ6_bitCount_0f7a4_35 : decode cJ6_bitCount_0f7a4 35 = .ok (.iload_n 0, 1) := by decide +kernel
theorem dJ6_bitCount_0f7a4_36 : decode cJ6_bitCount_0f7a4 36 = .ok (.bipush 8, 2) := by decide +kernel
theorem dJ6_bitCount_0f7a4_38 : decode cJ6_bitCount_0f7a4 38 = .ok (.iushr, 1) := by decide +kernel
theorem dJ6_bitCount_0f7a4_39 : decode cJ6_bitCount_0f7a4 39 = .ok (.iadd, 1) := by decide +kernel
theorem dJ6_bitCount_0f7a4_40 : decode cJ6_bitCount_0f7a4 40 = .ok (.istore_n 0, 1) := by decide +kernel
theorem dJ6_bitCount_0f7a4_41 : decode cJ6_bitCount_0f7a4 41 = .ok (.iload_n 0, 1) := by decide +kernel
theorem dJ6_bitCount_0f7a4_42 : decode cJ6_bitCount_0f7a4 42 = .ok (.iload_n 0, 1) := by decide +kernel
theorem dJ6_bitCount_0f7a4_43 : decode cJ6_bitCount_0f7a4 43 = .ok (.bipush 16, 2) := by decide +kernel
theorem dJ6_bitCount_0f7a4_45 : decode cJ6_bitCount_0f7a4 45 = .ok (.iushr, 1) := by decide +kernel
theorem dJ6_bitCount_0f7a4_46 : decode cJ6_bitCount_0f7a4 46 = .ok (.iadd, 1) := by decide +kernel
theorem dJ6_bitCount_0f7a4_47 : decode cJ6_bitCount_0f7a4 47 = .ok (.istore_n 0, 1) := by decide +kernel
theorem dJ6_bitCount_0f7a4_48 : decode cJ6_bitCount_0f7a4 48 = .ok (.iload_n 0, 1) := by decide +kernel
theorem dJ6_bitCount_0f7a4_49 : decode cJ6_bitCount_0f7a4 49 = .ok (.bipush 63, 2) := by decide +kernel
theorem dJ6_bitCount_0f7a4_51 : decode cJ6_bitCount_0f7a4 51 = .ok (.iand, 1) := by decide +kernel
theorem dJ6_bitCount_0f7a4_52 : decode cJ6_bitCount_0f7a4 52 = .ok (.ireturn, 1) := by decide +kernel
def f_J6_bitCount_0f7a4 (x0 : Int32) (M : Mm) : Option (Int32 × Mm) :=
  lt ((x0 - ((x0.toUInt32 >>> ((nI 1).toUInt32 &&& Int32.toUInt32 31)).toInt32 &&& (nI 1431655765)))) fun t1 => lt (((t1 &&& (nI 858993459)) + ((t1.toUInt32 >>> ((nI 2).toUInt32 &&& Int32.toUInt32 31)).toInt32 &&& (nI 858993459)))) fun t2 => lt (((t2 + (t2.toUInt32 >>> ((nI 4).toUInt32 &&& Int32.toUInt32 31)).toInt32) &&& (nI 252645135))) fun t3 => lt ((t3 + (t3.toUInt32 >>> ((nI 8).toUInt32 &&& Int32.toUInt32 31)).toInt32)) fun t4 => lt ((t4 + (t4.toUInt32 >>> ((nI 16).toUInt32 &&& Int32.toUInt32 31)).toInt32)) fun t5 => some ((t5 &&& (nI 63)), M)
set_option maxHeartbeats 4000000 in
set_option maxRecDepth 100000 in
theorem s_J6_bitCount_0f7a4 {l : Launch} {B : BT} (hA : bA B = false) {d : Nat} {r : Int32} {M' : Mm} {x0 : Int32} {M : Mm}  (h : f_J6_bitCount_0f7a4 x0 M = some (r, M')) : Con l B LY (d + 0) yJ6_bitCount_0f7a4 cJ6_bitCount_0f7a4 1 (some .int) 0 0 [.int x0] 97 M (PI r M') := by
  refine con_of (by decide) (Nat.le_of_ble_eq_true rfl) ?_
  show GG l B LY (d + 0) yJ6_bitCount_0f7a4 cJ6_bitCount_0f7a4 1 (some .int) 0 0 (PI r M') 97 0 0 0 [(0, .int x0)] [] M
  rw [f_J6_bitCount_0f7a4] at h
  refine g_iload_n dJ6_bitCount_0f7a4_0 rfl 0 rfl ?_
  refine g_iload_n dJ6_bitCount_0f7a4_1 rfl 0 rfl ?_
  refine g_iconst (v := (nI 1)) dJ6_bitCount_0f7a4_2 (by decide) ?_
  refine g_iushr dJ6_bitCount_0f7a4_3 ?_
  refine g_ldcw (v := (nI 1431655765)) w_983 dJ6_bitCount_0f7a4_4 ?_
  refine g_iand dJ6_bitCount_0f7a4_7 ?_
  refine g_isub dJ6_bitCount_0f7a4_8 ?_
  obtain ⟨t1, et1, h⟩ := lt_e h
  refine g_cuti et1 ?_
  refine g_istore_n (lv' := [(0, .int t1)]) dJ6_bitCount_0f7a4_9 rfl (by decide) rfl ?_
  refine g_iload_n dJ6_bitCount_0f7a4_10 rfl 0 rfl ?_
  refine g_ldcw (v := (nI 858993459)) w_984 dJ6_bitCount_0f7a4_11 ?_
  refine g_iand dJ6_bitCount_0f7a4_14 ?_
  refine g_iload_n dJ6_bitCount_0f7a4_15 rfl 0 rfl ?_
  refine g_iconst (v := (nI 2)) dJ6_bitCount_0f7a4_16 (by decide) ?_
  refine g_iushr dJ6_bitCount_0f7a4_17 ?_
  refine g_ldcw (v := (nI 858993459)) w_984 dJ6_bitCount_0f7a4_18 ?_
  refine g_iand dJ6_bitCount_0f7a4_21 ?_
  refine g_iadd dJ6_bitCount_0f7a4_22 ?_
  obtain ⟨t2, et2, h⟩ := lt_e h
  refine g_cuti et2 ?_
  refine g_istore_n (lv' := [(0, .int t2)]) dJ6_bitCount_0f7a4_23 rfl (by decide) rfl ?_
  refine g_iload_n dJ6_bitCount_0f7a4_24 rfl 0 rfl ?_
  refine g_iload_n dJ6_bitCount_0f7a4_25 rfl 0 rfl ?_
  refine g_iconst (v := (nI 4)) dJ6_bitCount_0f7a4_26 (by decide) ?_
  refine g_iushr dJ6_bitCount_0f7a4_27 ?_
  refine g_iadd dJ6_bitCount_0f7a4_28 ?_
  refine g_ldcw (v := (nI 252645135)) w_985 dJ6_bitCount_0f7a4_29 ?_
  refine g_iand dJ6_bitCount_0f7a4_32 ?_
  obtain ⟨t3, et3, h⟩ := lt_e h
  refine g_cuti et3 ?_
  refine g_istore_n (lv' := [(0, .int t3)]) dJ6_bitCount_0f7a4_33 rfl (by decide) rfl ?_
  refine g_iload_n dJ6_bitCount_0f7a4_34 rfl 0 rfl ?_
  refine g_iload_n dJ6_bitCount_0f7a4_35 rfl 0 rfl ?_
  refine g_bipush (v := (nI 8)) dJ6_bitCount_0f7a4_36 (by decide) ?_
  refine g_iushr dJ6_bitCount_0f7a4_38 ?_
  refine g_iadd dJ6_bitCount_0f7a4_39 ?_
  obtain ⟨t4, et4, h⟩ := lt_e h
  refine g_cuti et4 ?_
  refine g_istore_n (lv' := [(0, .int t4)]) dJ6_bitCount_0f7a4_40 rfl (by decide) rfl ?_
  refine g_iload_n dJ6_bitCount_0f7a4_41 rfl 0 rfl ?_
  refine g_iload_n dJ6_bitCount_0f7a4_42 rfl 0 rfl ?_
  refine g_bipush (v := (nI 16)) dJ6_bitCount_0f7a4_43 (by decide) ?_
  refine g_iushr dJ6_bitCount_0f7a4_45 ?_
  refine g_iadd dJ6_bitCount_0f7a4_46 ?_
  obtain ⟨t5, et5, h⟩ := lt_e h
  refine g_cuti et5 ?_
  refine g_istore_n (lv' := [(0, .int t5)]) dJ6_bitCount_0f7a4_47 rfl (by decide) rfl ?_
  refine g_iload_n dJ6_bitCount_0f7a4_48 rfl 0 rfl ?_
  refine g_bipush (v := (nI 63)) dJ6_bitCount_0f7a4_49 (by decide) ?_
  refine g_iand dJ6_bitCount_0f7a4_51 ?_
  exact g_zret rfl rfl (pi_of h) dJ6_bitCount_0f7a4_52
theorem ck_J6_bitCount_0f7a4 : CKS yJ6_bitCount_0f7a4 cJ6_bitCount_0f7a4 1 (some .int) 1 := ⟨⟨by decide, by decide, by decide +kernel⟩, w_982, w_88, w_981, by decide⟩
theorem dX2_riskTogether_0 : decode cX2_riskTogether 0 = .ok (.lconst 0, 1) := by decide +kernel
theorem dX2_riskTogether_1 : decode cX2_riskTogether 1 = .ok (.lstore_n 3, 1) := by decide +kernel
theorem dX2_riskTogether_2 : decode cX2_riskTogether 2 = .ok (.iconst 0, 1) := by decide +kernel
theorem dX2_riskTogether_3 : decode cX2_riskTogether 3 = .ok (.istore 5, 2) := by decide +kernel
theorem dX2_riskTogether_5 : decode cX2_riskTogether 5 = .ok (.iload 5, 2) := by decide +kernel
theorem dX2_riskTogether_7 : decode cX2_riskTogether 7 = .ok (.aload_n 0, 1) := by decide +kernel
theorem dX2_riskTogether_8 : decode cX2_riskTogether 8 = .ok (.getfield 85, 3) := by decide +kernel
theorem dX2_riskTogether_11 : decode cX2_riskTogether 11 = .ok (.if_icmp .ge 43, 3) := by decide +kernel
theorem dX2_riskTogether_14 : decode cX2_riskTogether 14 = .ok (.iload_n 2, 1) := by decide +kernel
theorem dX2_riskTogether_15 : decode cX2_riskTogether 15 = .ok (.iload 5, 2) := by decide +kernel
theorem dX2_riskTogether_17 : decode cX2_riskTogether 17 = .ok (.ishr, 1) := by decide +kernel
theorem dX2_riskTogether_18 : decode cX2_riskTogether 18 = .ok (.iconst 1, 1) := by decide +kernel
theorem dX2_riskTogether_19 : decode cX2_riskTogether 19 = .ok (.iand, 1) := by decide +kernel
theorem dX2_riskTogether_20 : decode cX2_riskTogether 20 = .ok (.iconst 1, 1) := by decide +kernel
theorem dX2_riskTogether_21 : decode cX2_riskTogether 21 = .ok (.if_icmp .ne 27, 3) := by decide +kernel
theorem dX2_riskTogether_24 : decode cX2_riskTogether 24 = .ok (.lload_n 3, 1) := by decide +kernel
theorem dX2_riskTogether_25 : decode cX2_riskTogether 25 = .ok (.aload_n 0, 1) := by decide +kernel
theorem dX2_riskTogether_26 : decode cX2_riskTogether 26 = .ok (.iload 5, 2) := by decide +kernel
theorem dX2_riskTogether_28 : decode cX2_riskTogether 28 = .ok (.aload_n 1, 1) := by decide +kernel
theorem dX2_riskTogether_29 : decode cX2_riskTogether 29 = .ok (.getfield 99, 3) := by decide +kernel
theorem dX2_riskTogether_32 : decode cX2_riskTogether 32 = .ok (.iload 5, 2) := by decide +kernel
theorem dX2_riskTogether_34 : decode cX2_riskTogether 34 = .ok (.invokestatic 25, 3) := by decide +kernel
theorem dX2_riskTogether_37 : decode cX2_riskTogether 37 = .ok (.aload_n 0, 1) := by decide +kernel
theorem dX2_riskTogether_38 : decode cX2_riskTogether 38 = .ok (.iload 5, 2) := by decide +kernel
theorem dX2_riskTogether_40 : decode cX2_riskTogether 40 = .ok (.invokevirtual 104, 3) := by decide +kernel
theorem dX2_riskTogether_43 : decode cX2_riskTogether 43 = .ok (.invokestatic 107, 3) := by decide +kernel
theorem dX2_riskTogether_46 : decode cX2_riskTogether 46 = .ok (.ladd, 1) := by decide +kernel
theorem dX2_riskTogether_47 : decode cX2_riskTogether 47 = .ok (.lstore_n 3, 1) := by decide +kernel
theorem dX2_riskTogether_48 : decode cX2_riskTogether 48 = .ok (.iinc 5 1, 3) := by decide +kernel
theorem dX2_riskTogether_51 : decode cX2_riskTogether 51 = .ok (.goto (-46), 3) := by decide +kernel
theorem dX2_riskTogether_54 : decode cX2_riskTogether 54 = .ok (.lload_n 3, 1) := by decide +kernel
theorem dX2_riskTogether_55 : decode cX2_riskTogether 55 = .ok (.lreturn, 1) := by decide +kernel
def lp_X2_riskTogether_5 (y0 : Nat) (y1 : Nat) (y2 : Int32)  : Nat → Int64 → Int32 → Mm → Option (Int64 × Mm)
  | 0, _, _, _ => none
  | n + 1, y3, y5, M =>
    if (M y0 14) ≤ y5 then (some (y3, M)) else (jn (fun (u1 : Int64) (M2 : Mm) => lp_X2_riskTogether_5 y0 y1 y2 n u1 (y5 + (nI 1)) M2) fun j3 => if ((y2 >>> (y5 &&& 31)) &&& (nI 1)) = (nI 1) then (bd (f_X9_at (y1 + 1) y5 M) fun v34_5 M34_4 => bd (f_X0_tenthsMeant y0 y5 M34_4) fun v40_7 M40_6 => bd (f_X2_seenWays y0 y5 v34_5 v40_7 M40_6) fun v43_9 M43_8 => j3 (y3 + v43_9) M43_8) else (j3 y3 M))
def f_X2_riskTogether (x0 : Nat) (x1 : Nat) (x2 : Int32) (M : Mm) : Option (Int64 × Mm) :=
  lp_X2_riskTogether_5 x0 x1 x2  N0 (0 : Int64) (nI 0) M
set_option maxHeartbeats 4000000 in
set_option maxRecDepth 100000 in
theorem sl_X2_riskTogether_5 {l : Launch} {B : BT} (hA : bA B = false) {d : Nat} {r : Int64} {M' : Mm} {y0 : Nat} {y1 : Nat} {y2 : Int32} (hy0 : LY y0 = .inl (0, fk0)) (hy1 : LY y1 = .inl (3, fk3))   :
    ∀ (n : Nat) (y3 : Int64) (y5 : Int32) (M : Mm), lp_X2_riskTogether_5 y0 y1 y2 n y3 y5 M = some (r, M') → GG l B LY (d + 4) yX2_riskTogether cX2_riskTogether 6 (some .long) 0 0 (PL r M') 97 0 0 5 [(0, .ref y0), (1, .ref y1), (2, .int y2), (3, .long y3), (5, .int y5)] [] M := by
  intro n
  induction n with
  | zero => intro y3 y5 M h; cases h
  | succ n ih =>
    intro y3 y5 M h
    rw [lp_X2_riskTogether_5] at h
    refine g_iload dX2_riskTogether_5 4 rfl ?_
    refine g_aload_n dX2_riskTogether_7 rfl 0 rfl ?_
    refine m_geti (k := 14) okX0 hy0 rfl (by decide) w_156 rfl dX2_riskTogether_8 ?_
    refine g_icmp_ge (tgt := 54) dX2_riskTogether_11 (by decide) (fun c11 => ?_) (fun c11 => ?_)
    · replace h := ite_p c11 h
      refine g_lload_n dX2_riskTogether_54 rfl 3 rfl ?_
      exact g_lret rfl (pl_of h) dX2_riskTogether_55
    · replace h := ite_n c11 h
      refine g_iload_n dX2_riskTogether_14 rfl 2 rfl ?_
      refine g_iload dX2_riskTogether_15 4 rfl ?_
      refine g_ishr dX2_riskTogether_17 ?_
      refine g_iconst (v := (nI 1)) dX2_riskTogether_18 (by decide) ?_
      refine g_iand dX2_riskTogether_19 ?_
      refine g_iconst (v := (nI 1)) dX2_riskTogether_20 (by decide) ?_
      obtain ⟨j3, ej3, h⟩ := jn_e h
      have hj3 : ∀ (u1 : Int64) (M2 : Mm), j3 u1 M2 = some (r, M') → GG l B LY (d + 4) yX2_riskTogether cX2_riskTogether 6 (some .long) 0 0 (PL r M') 97 0 0 48 [(0, .ref y0), (1, .ref y1), (2, .int y2), (3, .long u1), (5, .int y5)] [] M2 := by
        intro u1 M2 h
        rw [ej3] at h
        refine g_iinc (v := (y5 + (nI 1))) (lv' := [(5, .int (y5 + (nI 1))), (0, .ref y0), (1, .ref y1), (2, .int y2), (3, .long u1)]) dX2_riskTogether_48 4 rfl rfl (by decide) rfl ?_
        refine g_goto (tgt := 5) dX2_riskTogether_51 (by decide) ?_
        refine g_sub [1, 2, 3, 4, 0] (lv' := [(0, .ref y0), (1, .ref y1), (2, .int y2), (3, .long u1), (5, .int (y5 + (nI 1)))]) rfl ?_
        exact ih _ _  _ h
      refine g_icmp_ne (tgt := 48) dX2_riskTogether_21 (by decide) (fun c10 => ?_) (fun c10 => ?_)
      · replace h := ite_n c10 h
        refine g_sub [0, 1, 2, 3, 4] (lv' := [(0, .ref y0), (1, .ref y1), (2, .int y2), (3, .long y3), (5, .int y5)]) rfl ?_
        exact hj3 _ _ h
      · replace h := ite_p c10 h
        refine g_lload_n dX2_riskTogether_24 rfl 3 rfl ?_
        refine g_aload_n dX2_riskTogether_25 rfl 0 rfl ?_
        refine g_iload dX2_riskTogether_26 4 rfl ?_
        refine g_aload_n dX2_riskTogether_28 rfl 1 rfl ?_
        refine m_getr (k := 0) okX3 hy1 rfl (by decide) w_262 rfl dX2_riskTogether_29 ?_
        refine g_iload dX2_riskTogether_32 4 rfl ?_
        obtain ⟨v34_5, M34_4, eM34_4, h⟩ := bd_e h
        refine m_callNi (As := [.ref (y1 + 1), .int y5]) (st := [.int y5, .ref y0, .long y3]) (s_X9_at (d := d + 3) hA (al_of (aX3_1 hy1)) eM34_4) ck_X9_at (host := "StillYard") (List.mem_of_getElem? (i := 22) rfl) rfl (Nat.le_of_ble_eq_true rfl) dX2_riskTogether_34 ?_
        refine g_aload_n dX2_riskTogether_37 rfl 0 rfl ?_
        refine g_iload dX2_riskTogether_38 4 rfl ?_
        obtain ⟨v40_7, M40_6, eM40_6, h⟩ := bd_e h
        refine m_callVi (As := [.int y5]) (st := [.int v34_5, .int y5, .ref y0, .long y3]) (s_X0_tenthsMeant (d := d + 1) hA hy0 eM40_6) hy0 okX0 ck_X0_tenthsMeant w_989 rfl (Nat.le_of_ble_eq_true rfl) dX2_riskTogether_40 ?_
        obtain ⟨v43_9, M43_8, eM43_8, h⟩ := bd_e h
        refine m_callSl (As := [.ref y0, .int y5, .int v34_5, .int v40_7]) (st := [.long y3]) (s_X2_seenWays (d := d + 0) hA hy0 eM43_8) ck_X2_seenWays w_995 rfl (Nat.le_of_ble_eq_true rfl) dX2_riskTogether_43 ?_
        refine g_ladd dX2_riskTogether_46 ?_
        refine g_lstore_n (lv' := [(3, .long (y3 + v43_9)), (0, .ref y0), (1, .ref y1), (2, .int y2), (5, .int y5)]) dX2_riskTogether_47 rfl (by decide) rfl ?_
        refine g_sub [1, 2, 3, 0, 4] (lv' := [(0, .ref y0), (1, .ref y1), (2, .int y2), (3, .long (y3 + v43_9)), (5, .int y5)]) rfl ?_
        exact hj3 _ _ h
set_option maxHeartbeats 4000000 in
set_option maxRecDepth 100000 in
theorem s_X2_riskTogether {l : Launch} {B : BT} (hA : bA B = false) {d : Nat} {r : Int64} {M' : Mm} {x0 : Nat} {x1 : Nat} {x2 : Int32} {M : Mm} (hx0 : LY x0 = .inl (0, fk0)) (hx1 : LY x1 = .inl (3, fk3)) (h : f_X2_riskTogether x0 x1 x2 M = some (r, M')) : Con l B LY (d + 4) yX2_riskTogether cX2_riskTogether 6 (some .long) 0 0 [.ref x0, .ref x1, .int x2] 97 M (PL r M') := by
  refine con_of (by decide) (Nat.le_of_ble_eq_true rfl) ?_
  show GG l B LY (d + 4) yX2_riskTogether cX2_riskTogether 6 (some .long) 0 0 (PL r M') 97 0 0 0 [(0, .ref x0), (1, .ref x1), (2, .int x2)] [] M
  rw [f_X2_riskTogether] at h
  refine g_lconst (v := 0) dX2_riskTogether_0 (by decide) ?_
  refine g_lstore_n (lv' := [(3, .long (0 : Int64)), (0, .ref x0), (1, .ref x1), (2, .int x2)]) dX2_riskTogether_1 rfl (by decide) rfl ?_
  refine g_iconst (v := (nI 0)) dX2_riskTogether_2 (by decide) ?_
  refine g_istore (lv' := [(5, .int (nI 0)), (3, .long (0 : Int64)), (0, .ref x0), (1, .ref x1), (2, .int x2)]) dX2_riskTogether_3 (by decide) rfl ?_
  refine g_sub [2, 3, 4, 1, 0] (lv' := [(0, .ref x0), (1, .ref x1), (2, .int x2), (3, .long (0 : Int64)), (5, .int (nI 0))]) rfl ?_
  refine sl_X2_riskTogether_5 hA hx0 hx1  _ _ _ _ h
theorem ck_X2_riskTogether : CKS yX2_riskTogether cX2_riskTogether 6 (some .long) 3 := ⟨⟨by decide, by decide, by decide +kernel⟩, w_988, w_87, w_987, by decide⟩
theorem dX2_watched_0 : decode cX2_watched 0 = .ok (.aload_n 0, 1) := by decide +kernel
theorem dX2_watched_1 : decode cX2_watched 1 = .ok (.invokevirtual 82, 3) := by decide +kernel
theorem dX2_watched_4 : decode cX2_watched 4 = .ok (.aload_n 0, 1) := by decide +kernel
theorem dX2_watched_5 : decode cX2_watched 5 = .ok (.getfield 85, 3) := by decide +kernel
theorem dX2_watched_8 : decode cX2_watched 8 = .ok (.invokestatic 41, 3) := by decide +kernel
theorem dX2_watched_11 : decode cX2_watched 11 = .ok (.istore_n 2, 1) := by decide +kernel
theorem dX2_watched_12 : decode cX2_watched 12 = .ok (.iconst 1, 1) := by decide +kernel
theorem dX2_watched_13 : decode cX2_watched 13 = .ok (.aload_n 0, 1) := by decide +kernel
theorem dX2_watched_14 : decode cX2_watched 14 = .ok (.getfield 85, 3) := by decide +kernel
theorem dX2_watched_17 : decode cX2_watched 17 = .ok (.ishl, 1) := by decide +kernel
theorem dX2_watched_18 : decode cX2_watched 18 = .ok (.istore_n 3, 1) := by decide +kernel
theorem dX2_watched_19 : decode cX2_watched 19 = .ok (.iconst 0, 1) := by decide +kernel
theorem dX2_watched_20 : decode cX2_watched 20 = .ok (.istore 4, 2) := by decide +kernel
theorem dX2_watched_22 : decode cX2_watched 22 = .ok (.ldc2_w 88, 3) := by decide +kernel
theorem dX2_watched_25 : decode cX2_watched 25 = .ok (.lstore 5, 2) := by decide +kernel
theorem dX2_watched_27 : decode cX2_watched 27 = .ok (.iconst 0, 1) := by decide +kernel
theorem dX2_watched_28 : decode cX2_watched 28 = .ok (.istore 7, 2) := by decide +kernel
theorem dX2_watched_30 : decode cX2_watched 30 = .ok (.iload 7, 2) := by decide +kernel
theorem dX2_watched_32 : decode cX2_watched 32 = .ok (.iload_n 3, 1) := by decide +kernel
theorem dX2_watched_33 : decode cX2_watched 33 = .ok (.if_icmp .ge 43, 3) := by decide +kernel
theorem dX2_watched_36 : decode cX2_watched 36 = .ok (.iload 7, 2) := by decide +kernel
theorem dX2_watched_38 : decode cX2_watched 38 = .ok (.invokestatic 90, 3) := by decide +kernel
theorem dX2_watched_41 : decode cX2_watched 41 = .ok (.iload_n 2, 1) := by decide +kernel
theorem dX2_watched_42 : decode cX2_watched 42 = .ok (.if_icmp .ne 28, 3) := by decide +kernel
theorem dX2_watched_45 : decode cX2_watched 45 = .ok (.aload_n 0, 1) := by decide +kernel
theorem dX2_watched_46 : decode cX2_watched 46 = .ok (.aload_n 1, 1) := by decide +kernel
theorem dX2_watched_47 : decode cX2_watched 47 = .ok (.iload 7, 2) := by decide +kernel
theorem dX2_watched_49 : decode cX2_watched 49 = .ok (.invokestatic 95, 3) := by decide +kernel
theorem dX2_watched_52 : decode cX2_watched 52 = .ok (.lstore 8, 2) := by decide +kernel
theorem dX2_watched_54 : decode cX2_watched 54 = .ok (.lload 8, 2) := by decide +kernel
theorem dX2_watched_56 : decode cX2_watched 56 = .ok (.lload 5, 2) := by decide +kernel
theorem dX2_watched_58 : decode cX2_watched 58 = .ok (.lcmp, 1) := by decide +kernel
theorem dX2_watched_59 : decode cX2_watched 59 = .ok (.ifCond .le 11, 3) := by decide +kernel
theorem dX2_watched_62 : decode cX2_watched 62 = .ok (.lload 8, 2) := by decide +kernel
theorem dX2_watched_64 : decode cX2_watched 64 = .ok (.lstore 5, 2) := by decide +kernel
theorem dX2_watched_66 : decode cX2_watched 66 = .ok (.iload 7, 2) := by decide +kernel
theorem dX2_watched_68 : decode cX2_watched 68 = .ok (.istore 4, 2) := by decide +kernel
theorem dX2_watched_70 : decode cX2_watched 70 = .ok (.iinc 7 1, 3) := by decide +kernel
theorem dX2_watched_73 : decode cX2_watched 73 = .ok (.goto (-43), 3) := by decide +kernel
theorem dX2_watched_76 : decode cX2_watched 76 = .ok (.iload 4, 2) := by decide +kernel
theorem dX2_watched_78 : decode cX2_watched 78 = .ok (.ireturn, 1) := by decide +kernel
def lp_X2_watched_30 (y0 : Nat) (y1 : Nat) (y2 : Int32) (y3 : Int32)  : Nat → Int32 → Int64 → Int32 → Mm → Option (Int32 × Mm)
  | 0, _, _, _, _ => none
  | n + 1, y4, y5, y7, M =>
    if y3 ≤ y7 then (some (y4, M)) else (bd (f_J6_bitCount_0f7a4 y7 M) fun v38_6 M38_5 => jn (fun (u7 : Int32) (u8 : Int64) (M9 : Mm) => lp_X2_watched_30 y0 y1 y2 y3 n u7 u8 (y7 + (nI 1)) M9) fun j10 => if v38_6 = y2 then (bd (f_X2_riskTogether y0 y1 y7 M38_5) fun v49_12 M49_11 => if (lg_cmp v49_12 y5) ≤ 0 then (j10 y4 y5 M49_11) else (j10 y7 v49_12 M49_11)) else (j10 y4 y5 M38_5))
def f_X2_watched (x0 : Nat) (x1 : Nat) (M : Mm) : Option (Int32 × Mm) :=
  bd (f_X0_eyes x0 M) fun v1_2 M1_1 => lt ((if (M1_1 x0 14) < v1_2 then (M1_1 x0 14) else v1_2)) fun t3 => lt (((nI 1) <<< ((M1_1 x0 14) &&& 31))) fun t4 => lp_X2_watched_30 x0 x1 t3 t4  N0 (nI 0) (-1 : Int64) (nI 0) M1_1
set_option maxHeartbeats 4000000 in
set_option maxRecDepth 100000 in
theorem sl_X2_watched_30 {l : Launch} {B : BT} (hA : bA B = false) {d : Nat} {r : Int32} {M' : Mm} {y0 : Nat} {y1 : Nat} {y2 : Int32} {y3 : Int32} (hy0 : LY y0 = .inl (0, fk0)) (hy1 : LY y1 = .inl (3, fk3))   :
    ∀ (n : Nat) (y4 : Int32) (y5 : Int64) (y7 : Int32) (M : Mm), lp_X2_watched_30 y0 y1 y2 y3 n y4 y5 y7 M = some (r, M') → GG l B LY (d + 5) yX2_watched cX2_watched 10 (some .int) 0 0 (PI r M') 97 0 0 30 [(0, .ref y0), (1, .ref y1), (2, .int y2), (3, .int y3), (4, .int y4), (5, .long y5), (7, .int y7)] [] M := by
  intro n
  induction n with
  | zero => intro y4 y5 y7 M h; cases h
  | succ n ih =>
    intro y4 y5 y7 M h
    rw [lp_X2_watched_30] at h
    refine g_iload dX2_watched_30 6 rfl ?_
    refine g_iload_n dX2_watched_32 rfl 3 rfl ?_
    refine g_icmp_ge (tgt := 76) dX2_watched_33 (by decide) (fun c15 => ?_) (fun c15 => ?_)
    · replace h := ite_p c15 h
      refine g_iload dX2_watched_76 4 rfl ?_
      exact g_zret rfl rfl (pi_of h) dX2_watched_78
    · replace h := ite_n c15 h
      refine g_iload dX2_watched_36 6 rfl ?_
      obtain ⟨v38_6, M38_5, eM38_5, h⟩ := bd_e h
      refine m_callSi (As := [.int y7]) (st := []) (s_J6_bitCount_0f7a4 (d := d + 4) hA  eM38_5) ck_J6_bitCount_0f7a4 w_980 rfl (Nat.le_of_ble_eq_true rfl) dX2_watched_38 ?_
      refine g_iload_n dX2_watched_41 rfl 2 rfl ?_
      obtain ⟨j10, ej10, h⟩ := jn_e h
      have hj10 : ∀ (u7 : Int32) (u8 : Int64) (M9 : Mm), j10 u7 u8 M9 = some (r, M') → GG l B LY (d + 5) yX2_watched cX2_watched 10 (some .int) 0 0 (PI r M') 97 0 0 70 [(0, .ref y0), (1, .ref y1), (2, .int y2), (3, .int y3), (4, .int u7), (5, .long u8), (7, .int y7)] [] M9 := by
        intro u7 u8 M9 h
        rw [ej10] at h
        refine g_iinc (v := (y7 + (nI 1))) (lv' := [(7, .int (y7 + (nI 1))), (0, .ref y0), (1, .ref y1), (2, .int y2), (3, .int y3), (4, .int u7), (5, .long u8)]) dX2_watched_70 6 rfl rfl (by decide) rfl ?_
        refine g_goto (tgt := 30) dX2_watched_73 (by decide) ?_
        refine g_sub [1, 2, 3, 4, 5, 6, 0] (lv' := [(0, .ref y0), (1, .ref y1), (2, .int y2), (3, .int y3), (4, .int u7), (5, .long u8), (7, .int (y7 + (nI 1)))]) rfl ?_
        exact ih _ _ _  _ h
      refine g_icmp_ne (tgt := 70) dX2_watched_42 (by decide) (fun c14 => ?_) (fun c14 => ?_)
      · replace h := ite_n c14 h
        refine g_sub [0, 1, 2, 3, 4, 5, 6] (lv' := [(0, .ref y0), (1, .ref y1), (2, .int y2), (3, .int y3), (4, .int y4), (5, .long y5), (7, .int y7)]) rfl ?_
        exact hj10 _ _ _ h
      · replace h := ite_p c14 h
        refine g_aload_n dX2_watched_45 rfl 0 rfl ?_
        refine g_aload_n dX2_watched_46 rfl 1 rfl ?_
        refine g_iload dX2_watched_47 6 rfl ?_
        obtain ⟨v49_12, M49_11, eM49_11, h⟩ := bd_e h
        refine m_callSl (As := [.ref y0, .ref y1, .int y7]) (st := []) (s_X2_riskTogether (d := d + 0) hA hy0 hy1 eM49_11) ck_X2_riskTogether w_986 rfl (Nat.le_of_ble_eq_true rfl) dX2_watched_49 ?_
        refine g_lstore (lv' := [(8, .long v49_12), (0, .ref y0), (1, .ref y1), (2, .int y2), (3, .int y3), (4, .int y4), (5, .long y5), (7, .int y7)]) dX2_watched_52 (by decide) rfl ?_
        refine g_lload dX2_watched_54 0 rfl ?_
        refine g_lload dX2_watched_56 6 rfl ?_
        refine g_lcmp dX2_watched_58 ?_
        refine g_if_le (tgt := 70) dX2_watched_59 (by decide) (fun c13 => ?_) (fun c13 => ?_)
        · replace h := ite_p c13 h
          refine g_sub [1, 2, 3, 4, 5, 6, 7] (lv' := [(0, .ref y0), (1, .ref y1), (2, .int y2), (3, .int y3), (4, .int y4), (5, .long y5), (7, .int y7)]) rfl ?_
          exact hj10 _ _ _ h
        · replace h := ite_n c13 h
          refine g_lload dX2_watched_62 0 rfl ?_
          refine g_lstore (lv' := [(5, .long v49_12), (8, .long v49_12), (0, .ref y0), (1, .ref y1), (2, .int y2), (3, .int y3), (4, .int y4), (7, .int y7)]) dX2_watched_64 (by decide) rfl ?_
          refine g_iload dX2_watched_66 7 rfl ?_
          refine g_istore (lv' := [(4, .int y7), (5, .long v49_12), (8, .long v49_12), (0, .ref y0), (1, .ref y1), (2, .int y2), (3, .int y3), (7, .int y7)]) dX2_watched_68 (by decide) rfl ?_
          refine g_sub [3, 4, 5, 6, 0, 1, 7] (lv' := [(0, .ref y0), (1, .ref y1), (2, .int y2), (3, .int y3), (4, .int y7), (5, .long v49_12), (7, .int y7)]) rfl ?_
          exact hj10 _ _ _ h
set_option maxHeartbeats 4000000 in
set_option maxRecDepth 100000 in
theorem s_X2_watched {l : Launch} {B : BT} (hA : bA B = false) {d : Nat} {r : Int32} {M' : Mm} {x0 : Nat} {x1 : Nat} {M : Mm} (hx0 : LY x0 = .inl (0, fk0)) (hx1 : LY x1 = .inl (3, fk3)) (h : f_X2_watched x0 x1 M = some (r, M')) : Con l B LY (d + 5) yX2_watched cX2_watched 10 (some .int) 0 0 [.ref x0, .ref x1] 97 M (PI r M') := by
  refine con_of (by decide) (Nat.le_of_ble_eq_true rfl) ?_
  show GG l B LY (d + 5) yX2_watched cX2_watched 10 (some .int) 0 0 (PI r M') 97 0 0 0 [(0, .ref x0), (1, .ref x1)] [] M
  rw [f_X2_watched] at h
  refine g_aload_n dX2_watched_0 rfl 0 rfl ?_
  obtain ⟨v1_2, M1_1, eM1_1, h⟩ := bd_e h
  refine m_callVi (As := []) (st := []) (s_X0_eyes (d := d + 3) hA hx0 eM1_1) hx0 okX0 ck_X0_eyes w_978 rfl (Nat.le_of_ble_eq_true rfl) dX2_watched_1 ?_
  refine g_aload_n dX2_watched_4 rfl 0 rfl ?_
  refine m_geti (k := 14) okX0 hx0 rfl (by decide) w_156 rfl dX2_watched_5 ?_
  refine m_mmin (st := []) w_926 w_927 w_86 w_928 (Nat.le_of_ble_eq_true rfl) dX2_watched_8 ?_
  obtain ⟨t3, et3, h⟩ := lt_e h
  refine g_cuti et3 ?_
  refine g_istore_n (lv' := [(2, .int t3), (0, .ref x0), (1, .ref x1)]) dX2_watched_11 rfl (by decide) rfl ?_
  refine g_iconst (v := (nI 1)) dX2_watched_12 (by decide) ?_
  refine g_aload_n dX2_watched_13 rfl 1 rfl ?_
  refine m_geti (k := 14) okX0 hx0 rfl (by decide) w_156 rfl dX2_watched_14 ?_
  refine g_ishl dX2_watched_17 ?_
  obtain ⟨t4, et4, h⟩ := lt_e h
  refine g_cuti et4 ?_
  refine g_istore_n (lv' := [(3, .int t4), (2, .int t3), (0, .ref x0), (1, .ref x1)]) dX2_watched_18 rfl (by decide) rfl ?_
  refine g_iconst (v := (nI 0)) dX2_watched_19 (by decide) ?_
  refine g_istore (lv' := [(4, .int (nI 0)), (3, .int t4), (2, .int t3), (0, .ref x0), (1, .ref x1)]) dX2_watched_20 (by decide) rfl ?_
  refine g_ldc2 (v := (-1)) w_979 dX2_watched_22 ?_
  refine g_lstore (lv' := [(5, .long (-1 : Int64)), (4, .int (nI 0)), (3, .int t4), (2, .int t3), (0, .ref x0), (1, .ref x1)]) dX2_watched_25 (by decide) rfl ?_
  refine g_iconst (v := (nI 0)) dX2_watched_27 (by decide) ?_
  refine g_istore (lv' := [(7, .int (nI 0)), (5, .long (-1 : Int64)), (4, .int (nI 0)), (3, .int t4), (2, .int t3), (0, .ref x0), (1, .ref x1)]) dX2_watched_28 (by decide) rfl ?_
  refine g_sub [5, 6, 4, 3, 2, 1, 0] (lv' := [(0, .ref x0), (1, .ref x1), (2, .int t3), (3, .int t4), (4, .int (nI 0)), (5, .long (-1 : Int64)), (7, .int (nI 0))]) rfl ?_
  refine sl_X2_watched_30 hA hx0 hx1  _ _ _ _ _ h
theorem ck_X2_watched : CKS yX2_watched cX2_watched 10 (some .int) 2 := ⟨⟨by decide, by decide, by decide +kernel⟩, w_977, w_87, w_976, by decide⟩
