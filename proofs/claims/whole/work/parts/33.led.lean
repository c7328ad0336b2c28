/-! LED: the one that throws. Written by wip/programs/gen_led.py. -/
theorem g_widen {l : Launch} {B : BT} {Ly : Nat → Kd} {d mc ms n cells slots pc : Nat} {my : MethodName} {cc : ByteArray} {nL : Nat} {ret : Option FieldType} {Po : Option Value → Nat → Mm → Prop} {lv : List (Nat × Value)} {st : List Value} {M : Mm} {k n' : Nat} (h1 : cells ≤ k) (h2 : slots ≤ n') (kk : GG l B Ly d my cc nL ret mc ms Po n k n' pc lv st M) : GG l B Ly d my cc nL ret mc ms Po n cells slots pc lv st M := by
  intro p e s m args below meth c H locs ls F S P V Z hl
  exact W.widen (k := k) (n := n') h1 h2 (kk p e s m args below meth c H locs ls F S P V Z hl)

theorem w_277 : (Jvm.Cond.fieldLink "StillYard" (366 : Nat) "StillYard$Play" "order" "[I") ∈ lw_big := big_at 277 (by decide +kernel) (by decide +kernel)
theorem w_1262 : (Jvm.Cond.methodLink "StillYard" (363 : Nat) ({ cls := "StillYard$Play", name := "orderAll", desc := "(LStillYard$Game;)V" } : Jvm.MethodName)) ∈ lw_big := big_at 1262 (by decide +kernel) (by decide +kernel)
theorem dX9_led_0 : decode cX9_led 0 = .ok (.iload_n 1, 1) := by decide +kernel
theorem dX9_led_1 : decode cX9_led 1 = .ok (.ifCond .lt 14, 3) := by decide +kernel
theorem dX9_led_4 : decode cX9_led 4 = .ok (.iload_n 1, 1) := by decide +kernel
theorem dX9_led_5 : decode cX9_led 5 = .ok (.aload_n 0, 1) := by decide +kernel
theorem dX9_led_6 : decode cX9_led 6 = .ok (.getfield 10, 3) := by decide +kernel
theorem dX9_led_9 : decode cX9_led 9 = .ok (.getfield 111, 3) := by decide +kernel
theorem dX9_led_12 : decode cX9_led 12 = .ok (.if_icmp .lt 11, 3) := by decide +kernel
theorem dX9_led_15 : decode cX9_led 15 = .ok (.new 360, 3) := by decide +kernel
theorem dX9_led_18 : decode cX9_led 18 = .ok (.dup, 1) := by decide +kernel
theorem dX9_led_19 : decode cX9_led 19 = .ok (.invokespecial 362, 3) := by decide +kernel
theorem dX9_led_22 : decode cX9_led 22 = .ok (.athrow, 1) := by decide +kernel
theorem dX9_led_23 : decode cX9_led 23 = .ok (.aload_n 0, 1) := by decide +kernel
theorem dX9_led_24 : decode cX9_led 24 = .ok (.getfield 38, 3) := by decide +kernel
theorem dX9_led_27 : decode cX9_led 27 = .ok (.aload_n 0, 1) := by decide +kernel
theorem dX9_led_28 : decode cX9_led 28 = .ok (.getfield 10, 3) := by decide +kernel
theorem dX9_led_31 : decode cX9_led 31 = .ok (.invokevirtual 363, 3) := by decide +kernel
theorem dX9_led_34 : decode cX9_led 34 = .ok (.aload_n 0, 1) := by decide +kernel
theorem dX9_led_35 : decode cX9_led 35 = .ok (.getfield 38, 3) := by decide +kernel
theorem dX9_led_38 : decode cX9_led 38 = .ok (.getfield 366, 3) := by decide +kernel
theorem dX9_led_41 : decode cX9_led 41 = .ok (.iload_n 1, 1) := by decide +kernel
theorem dX9_led_42 : decode cX9_led 42 = .ok (.invokestatic 166, 3) := by decide +kernel
theorem dX9_led_45 : decode cX9_led 45 = .ok (.ireturn, 1) := by decide +kernel
theorem dL_led_0 : decode cL_led 0 = .ok (.aload_n 2, 1) := by decide +kernel
theorem dL_led_1 : decode cL_led 1 = .ok (.iconst 0, 1) := by decide +kernel
theorem dL_led_2 : decode cL_led 2 = .ok (.aload_n 0, 1) := by decide +kernel
theorem dL_led_3 : decode cL_led 3 = .ok (.iload_n 1, 1) := by decide +kernel
theorem dL_led_4 : decode cL_led 4 = .ok (.invokevirtual 7, 3) := by decide +kernel
theorem dL_led_7 : decode cL_led 7 = .ok (.i2l, 1) := by decide +kernel
theorem dL_led_8 : decode cL_led 8 = .ok (.lastore, 1) := by decide +kernel
theorem dL_led_9 : decode cL_led 9 = .ok (.goto 6, 3) := by decide +kernel
theorem dL_led_12 : decode cL_led 12 = .ok (.astore_n 3, 1) := by decide +kernel
theorem dL_led_13 : decode cL_led 13 = .ok (.iconst 1, 1) := by decide +kernel
theorem dL_led_14 : decode cL_led 14 = .ok (.ireturn, 1) := by decide +kernel
theorem dL_led_15 : decode cL_led 15 = .ok (.iconst 0, 1) := by decide +kernel
theorem dL_led_16 : decode cL_led 16 = .ok (.ireturn, 1) := by decide +kernel
/-- led where it answers -/
def f_X9_led (x1 : Int32) (M : Mm) : Option (Int32 × Mm) :=
  jn (fun (M1 : Mm) => none) fun j2 => if x1 < 0 then (j2  M) else (bg (M 0 8) fun g3 => if x1 < (M g3 14) then (bg (M 0 8) fun g4 => bv (f_X3_orderAll 20 g4 M) fun M31_5 => bd (f_X9_at 29 x1 M31_5) fun v42_8 M42_7 => some (v42_8, M42_7)) else (j2  M))
set_option maxHeartbeats 4000000 in
set_option maxRecDepth 100000 in
theorem sg_X9_led {l : Launch} {B : BT} (hA : bA B = false) {d : Nat} {r : Int32} {M' : Mm} {x1 : Int32} {M : Mm} (h : f_X9_led x1 M = some (r, M')) : GG l B LY (d + 2) yX9_led cX9_led 2 (some .int) 1 6 (PI r M') 97 0 0 0 [(0, .ref 0), (1, .int x1)] [] M := by
  rw [f_X9_led] at h
  refine g_iload_n dX9_led_0 rfl 1 rfl ?_
  obtain ⟨j2, ej2, h⟩ := jn_e h
  have hj2 : ∀ (M1 : Mm), j2 M1 = some (r, M') → GG l B LY (d + 2) yX9_led cX9_led 2 (some .int) 1 6 (PI r M') 97 0 0 15 [] [] M1 := by
    intro M1 h
    rw [ej2] at h
    cases h
  refine g_if_lt (tgt := 15) dX9_led_1 (by decide) (fun c10 => ?_) (fun c10 => ?_)
  · replace h := ite_p c10 h
    refine g_sub [] (lv' := []) rfl ?_
    exact hj2  _ h
  · replace h := ite_n c10 h
    refine g_iload_n dX9_led_4 rfl 1 rfl ?_
    refine g_aload_n dX9_led_5 rfl 0 rfl ?_
    obtain ⟨g3, eg3, hg3, h⟩ := bg_e h
    refine m_getm (k := 8) okX9 rfl rfl (by decide) w_421 rfl dX9_led_6 eg3 hg3 ?_
    refine m_geti (k := 14) okX0 hg3 rfl (by decide) w_152 rfl dX9_led_9 ?_
    refine g_icmp_lt (tgt := 23) dX9_led_12 (by decide) (fun c9 => ?_) (fun c9 => ?_)
    · replace h := ite_p c9 h
      refine g_aload_n dX9_led_23 rfl 0 rfl ?_
      refine m_geta (k := 2) okX9 rfl rfl (by decide) w_415 rfl dX9_led_24 ?_
      refine g_aload_n dX9_led_27 rfl 0 rfl ?_
      obtain ⟨g4, eg4, hg4, h⟩ := bg_e h
      refine m_getm (k := 8) okX9 rfl rfl (by decide) w_421 rfl dX9_led_28 eg4 hg4 ?_
      obtain ⟨M31_5, eM31_5, h⟩ := bv_e h
      refine m_callVv (hcs := ⟨by decide, by decide⟩) (As := [.ref g4]) (st := []) (s_X3_orderAll (d := d + 0) hA rfl hg4 eM31_5) rfl okX3 ck_X3_orderAll w_1262 rfl (Nat.le_of_ble_eq_true rfl) dX9_led_31 ?_
      refine g_aload_n dX9_led_34 rfl 0 rfl ?_
      refine m_geta (k := 2) okX9 rfl rfl (by decide) w_415 rfl dX9_led_35 ?_
      refine m_getr (k := 8) okX3 rfl rfl (by decide) w_277 rfl dX9_led_38 ?_
      refine g_iload_n dX9_led_41 rfl 1 rfl ?_
      obtain ⟨v42_8, M42_7, eM42_7, h⟩ := bd_e h
      refine m_callSi (hcs := ⟨by decide, by decide⟩) (As := [.ref 29, .int x1]) (st := []) (s_X9_at (d := d + 1) hA (al_of rfl) eM42_7) ck_X9_at w_605 rfl (Nat.le_of_ble_eq_true rfl) dX9_led_42 ?_
      refine g_widen (k := 1) (n' := 6) (by decide) (by decide) ?_
      exact g_zret rfl rfl (pi_of h) dX9_led_45
    · replace h := ite_n c9 h
      refine g_sub [] (lv' := []) rfl ?_
      exact hj2  _ h
abbrev NSE : String := "java/util/NoSuchElementException"
abbrev nseN : List String := ["java/lang/RuntimeException", "java/lang/Exception"]
/-- where a word of the throw is known from -/
def ledw (w : Cond) : Bool := decide (w ∈ lw_tbl) && (goodWord w || decide (w ∈ castq.map (fun q => Cond.castable q.1 q.2)) || decide (w ∈ declq.map Cond.declares))
theorem led_words : (vx_at0 "StillYard" 362 NSE nseN).all ledw = true := by decide +kernel
theorem led_good : ∀ w ∈ Cond.classLink "StillYard" 360 NSE :: Cond.initialized NSE :: vx_at0 "StillYard" 362 NSE nseN, vx_ot w = true := by
  have h : (Cond.classLink "StillYard" 360 NSE :: Cond.initialized NSE :: vx_at0 "StillYard" 362 NSE nseN).all vx_ot = true := by decide +kernel
  exact List.all_eq_true.mp h
theorem led_at {B : BT} {s : State} {H : Heap} {args : Array Value} (hts : ∀ w ∈ lw_big, w.before args s = true) (S : SK B s H) : ∀ w ∈ vx_at0 "StillYard" 362 NSE nseN, w.before args s = true := by
  intro w hw
  have h := List.all_eq_true.mp led_words w hw
  simp only [ledw, Bool.and_eq_true, Bool.or_eq_true, decide_eq_true_eq] at h
  obtain ⟨h1, (h2 | h2) | h2⟩ := h
  · exact hts w (big_of h1 h2)
  · obtain ⟨q, hq, rfl⟩ := List.mem_map.mp h2
    exact va_Nw.use rfl (S.2.2.2.2.2.2.2.2.1 q hq)
  · obtain ⟨y, hy, rfl⟩ := List.mem_map.mp h2
    exact va_Nw.use rfl (S.2.2.2.2.2.2.2.2.2.1 y hy)
/-- led answers -/
theorem led_ok {l : Launch} {B : BT} (hA : bA B = false) {d : Nat} {r : Int32} {M' : Mm} {x1 : Int32} {M : Mm} (h : f_X9_led x1 M = some (r, M')) : vx_Met l yX9_led (wsO yX9_led cX9_led 2 (some .int)) (rmd (d + 6) 1 6) (va_Pc [.ref (ad B 0), .int x1] (fun U => bB B ≤ U.heap.size ∧ SW B LY 97 M U)) (QQ B LY (PI r M')) (fun _ _ _ => False) 1 6 (Af B) := by
  refine vx_ofW (cc := cX9_led) (maxL := 2) (ret := some .int) (by decide) rfl ?_
  intro p e s m args below meth c s₁ X hml ht hv
  obtain ⟨rfl, hsz, hP, hK, hz⟩ := hv
  have hts := atoms_spec (ws := wsO yX9_led cX9_led 2 (some .int)) X.pre
  rw [lg_entry_eq]
  have hl := lv_entry [.ref (ad B 0), .int x1] (n := 2) (Nat.le_of_ble_eq_true rfl)
  exact vx_ret (sg_X9_led (l := l) hA (d := d + 4) h p e s m _ below meth c s.heap [] _ ⟨X.exec, X.bytes, hml, findClass_of_methodNamed X.named, fun w hw => hts w (List.mem_cons_of_mem _ hw), X.returns, X.notSynchronized, fun h => (name_of_methodNamed X.named X.method).1.trans h⟩ hK hP va_S.rf ⟨hsz, hz⟩ hl)
def ledX (B : BT) (M : Mm) : String → State → State → Prop := fun E st t => E = NSE ∧ va_P (bD B) classes (wz B LY 97 M) t.heap ∧ va_F (Af B) st t
/-- led throws -/
theorem led_no {l : Launch} (hst : l.stackTraces = false) {B : BT} (hA : bA B = false) {d : Nat} {x1 : Int32} {M : Mm} (h : x1 < 0 ∨ ∃ g, M 0 8 = nI g ∧ LY g = .inl (0, fk0) ∧ ¬ x1 < M g 14) : vx_Met l yX9_led (wsO yX9_led cX9_led 2 (some .int)) (rmd (d + 6) 1 6) (va_Pc [.ref (ad B 0), .int x1] (fun U => bB B ≤ U.heap.size ∧ SW B LY 97 M U)) (fun _ _ _ _ => False) (ledX B M) 1 6 (Af B) := by
  refine vx_ofW (cc := cX9_led) (maxL := 2) (ret := some .int) (by decide) rfl ?_
  intro p e s m args below meth c s₁ X hml ht hv
  obtain ⟨rfl, hsz, hP, hK, hz⟩ := hv
  have hts0 := atoms_spec (ws := wsO yX9_led cX9_led 2 (some .int)) X.pre
  have hts : ∀ w ∈ lw_big, w.before _ s = true := fun w hw => hts0 w (List.mem_cons_of_mem _ hw)
  have hown : s.vm.findClass "StillYard" = some m.cls := findClass_of_methodNamed X.named
  rw [lg_entry_eq]
  have hl := lv_entry [.ref (ad B 0), .int x1] (n := 2) (Nat.le_of_ble_eq_true rfl)
  generalize (lg_sl [.ref (ad B 0), .int x1] ++ List.replicate (2 - (lg_sl [.ref (ad B 0), .int x1]).length) Slot.unset).toArray = ls at hl ⊢
  have hl : lv_has ls 2 [(0, .ref (ad B 0)), (1, .int x1)] := hl
  have V : va_S (Af B) s.heap s.heap [] := va_S.rf
  have fin : W p l e (rmd (d + 6) 1 6) s m #[Value.ref (ad B 0), Value.int x1] below meth c s.heap [] 0 0 (vx_MQ below (fun _ _ _ _ => False) (ledX B M) #[Value.ref (ad B 0), Value.int x1] s 1 6 (Af B)) (F0 m 15 ls []) := by
    refine vx_throw0 X.exec X.bytes hst (own := "StillYard") (cls := NSE) (names := nseN) (ik := 360) (ic := 362) (A := Af B) hown (by decide +kernel) (by decide +kernel) (hts _ (big_at 1201 (by decide +kernel) (by decide +kernel))) (hts _ (big_at 92 (by decide +kernel) (by decide +kernel))) (led_at hts hK) led_good hK.2.2.2.2.2.2.1 hK.2.2.2.2.2.2.2.1 V (hl.1.trans hml.symm) dX9_led_15 dX9_led_18 dX9_led_19 dX9_led_22 (fun x hx => absurd (ht x hx) id) (by show 2 + 3 < d + 6; omega) (by show 0 + (13 * (2 + 1) + 42) ≤ 35 * (d + 6) + 34; omega) (Nat.le_refl _) (Nat.le_refl _) X.notSynchronized (fun t ha h1 h2 => ?_) (fun z hz => by cases hz) (Nat.le_refl _) (Nat.le_refl _)
    exact ⟨rfl, hP.kept (fun k x hx => h2 x.1 (hP k x hx).lt), h1, fun q h3 _ => h2 q h3⟩
  refine lv_iload_n X.exec X.bytes dX9_led_0 rfl (lv_at hl 1 rfl) ?_
  refine lv_if_lt (tgt := 15) X.exec X.bytes dX9_led_1 (by decide) (fun _ => fin) (fun c1 => ?_)
  rcases h with h | ⟨g, eg, hg, hn⟩
  · exact absurd h c1
  refine lv_iload_n X.exec X.bytes dX9_led_4 rfl (lv_at hl 1 rfl) ?_
  refine lv_aload_n X.exec X.bytes dX9_led_5 rfl (lv_at hl 0 rfl) ?_
  have e1 : (fvals B (M 0) 0 0 fk9)[8]? = some (.ref (ad B g)) := by
    have h1 := fvals_get B (M 0) 0 fk9 0 8 (1, 0) rfl
    rw [h1]
    show some (if M 0 8 = 0 then _ else _) = _
    have := LY_o hg
    rw [eg, if_neg (nI_ne0 (LY_pos hg) (by omega)), nI_clamp (by omega)]
  refine va_get X.exec X.bytes hts okX9.2.1 hown hK.1 hP 0 (wz_obj (by decide) rfl) okX9.1 8 (by decide) (hts _ (big_at 421 (by decide +kernel) (by decide +kernel))) (fun _ h => h) e1 dX9_led_6 ?_
  have e2 : (fvals B (M g) g 0 fk0)[14]? = some (.int (M g 14)) := fvals_get B (M g) g fk0 0 14 (0, 0) rfl
  refine va_get X.exec X.bytes hts okX0.2.1 hown hK.1 hP g (wz_obj (LY_o hg) hg) okX0.1 14 (by decide) (hts _ (big_at 152 (by decide +kernel) (by decide +kernel))) (fun _ h => h) e2 dX9_led_9 ?_
  exact lv_icmp_lt (tgt := 23) X.exec X.bytes dX9_led_12 (by decide) (fun c2 => absurd c2 hn) (fun _ => fin)
/-! the law's helper: it catches -/
def f_L_led (x1 : Int32) (M : Mm) : Option (Int32 × Mm) :=
  if x1 < 0 then some (1, M) else bg (M 0 8) fun g => if x1 < M g 14 then bd (f_X9_led x1 M) fun v M1 => some (0, mset M1 96 0 v) else some (1, M)
def ledH : List (Nat × Nat × Nat × Nat) := [(0, 9, 12, 13)]
def wsH : List Cond := Cond.codeWith yL_led cL_led 4 (some .int) ledH :: lw_big
theorem vrun_k {p : Program} {l : Launch} {B : BT} {M : Mm} {e : Env} {R : Room} {s : State} {m : MethodId} {args : Array Value} {below : List Frame} {meth : Method} {c : Code} {H : Heap} {locs : List Loc} {cells slots mc' ms' pc : Nat} {ls : Array Slot} {st0 rest : List Value} {Q : State → Prop}
    (hr : vx_Run p l e R s m args below meth c H locs cells slots mc' ms' (F0 m pc ls st0) rest (fun _ _ _ => False) (ledX B M) (Af B)) (hS : va_S (Af B) s.heap H locs)
    (kx : ∀ (ce : Cell) (q9 : Addr) (H1 : Heap) (locs1 : List Loc), va_P (bD B) classes (wz B LY 97 M) H1 → va_S (Af B) s.heap H1 locs1 → H1[q9]? = some ce → ce.vm = .none → s.vm.findClass NSE = some ce.cls → vx_W p l e R s m args below meth c H1 locs1 (cells + mc') (slots + ms') Q (F0 m pc ls rest) q9) :
    W p l e R s m args below meth c H locs cells slots Q (F0 m pc ls st0) := by
  intro T hT X
  rcases hr T hT X with ⟨v, st₀, t, T', L, h0, X', hL, e1, e2, hf, st⟩ | ⟨q, st₀, t, T', L, E, ce, h0, X', hL, e1, e2, ⟨rfl, hP, hF⟩, hce, hcv, hcl, st⟩
  · exact absurd hf id
  · obtain ⟨hz, hk⟩ := hF
    rw [h0] at hz hk
    obtain ⟨t2, a1, b1⟩ := kx ce q T'.heap (locs ++ L) (by rw [e1]; exact hP) ⟨Nat.le_trans hS.1 (by rw [e1]; exact hz), fun q h1 h2 => by rw [e1, hk q (Nat.lt_of_lt_of_le h1 hS.1) h2]; exact hS.2.1 q h1 h2, fun q hq => by
      rcases List.mem_append.mp hq with h | h
      · exact hS.2.2 q h
      · exact hL q h⟩ (by rw [e1]; exact hce) hcv hcl T' rfl X'
    exact ⟨t2, st.trans a1, b1⟩
theorem vrun_o {p : Program} {l : Launch} {B : BT} {e : Env} {R : Room} {s : State} {m : MethodId} {args : Array Value} {below : List Frame} {meth : Method} {c : Code} {H : Heap} {locs : List Loc} {cells slots mc' ms' pc : Nat} {ls : Array Slot} {st0 rest : List Value} {a : Array Value} {Q : State → Prop} {Po' : Option Value → Nat → Mm → Prop}
    (hr : vx_Run p l e R s m args below meth c H locs cells slots mc' ms' (F0 m pc ls st0) rest (QQ B LY Po' a) (fun _ _ _ => False) (Af B)) (hS : va_S (Af B) s.heap H locs)
    (kk : ∀ (v : Option Value) (n' : Nat) (M' : Mm) (H1 : Heap) (locs1 : List Loc), Po' v n' M' → va_P (bD B) classes (wz B LY n' M') H1 → va_S (Af B) s.heap H1 locs1 → (bA B = true → H1.size = bB B + n') → W p l e R s m args below meth c H1 locs1 (cells + mc') (slots + ms') Q (F0 m (pc + 3) ls ((v.map (cv B)).toList ++ rest))) :
    W p l e R s m args below meth c H locs cells slots Q (F0 m pc ls st0) := by
  refine run_k (Po' := Po') (a := a) (fun T hT X => ?_) hS kk
  rcases hr T hT X with h | ⟨q, st₀, t, T', L, E, ce, h0, X', hL, e1, e2, hf, -⟩
  · exact h
  · exact absurd hf id
set_option maxHeartbeats 4000000 in
theorem s_L_led {l : Launch} (hst : l.stackTraces = false) {B : BT} (hA : bA B = false) {d : Nat} {r : Int32} {M' : Mm} {x1 : Int32} {M : Mm} (h : f_L_led x1 M = some (r, M')) : Met l yL_led wsH (rmd (d + 7) 1 6) (va_Pc [.ref (ad B 0), .int x1, .ref (ad B 96)] (fun U => bB B ≤ U.heap.size ∧ SW B LY 97 M U)) (QQ B LY (PI r M')) 1 6 (Af B) := by
  refine va_MetW (cc := cL_led) (maxL := 4) (ret := some .int) (hh := ledH) (by decide) rfl ?_
  intro p e s m args below meth c s₁ X hml hv
  obtain ⟨rfl, hsz, hP, hK, hz⟩ := hv
  have hts0 := atoms_spec (ws := wsH) X.pre
  have hts : ∀ w ∈ lw_big, w.before _ s = true := fun w hw => hts0 w (List.mem_cons_of_mem _ hw)
  have hown : s.vm.findClass "StillYardLaw" = some m.cls := findClass_of_methodNamed X.named
  have htab : c.exceptionTable.toList = tableOf ledH := vx_table (x := yL_led) X (hts0 _ List.mem_cons_self)
  rw [lg_entry_eq]
  have hl := lv_entry [.ref (ad B 0), .int x1, .ref (ad B 96)] (n := 4) (Nat.le_of_ble_eq_true rfl)
  generalize (lg_sl [.ref (ad B 0), .int x1, .ref (ad B 96)] ++ List.replicate (4 - (lg_sl [.ref (ad B 0), .int x1, .ref (ad B 96)]).length) Slot.unset).toArray = ls at hl ⊢
  have hl : lv_has ls 4 [(0, .ref (ad B 0)), (1, .int x1), (2, .ref (ad B 96))] := hl
  have V : va_S (Af B) s.heap s.heap [] := va_S.rf
  refine lv_aload_n X.exec X.bytes dL_led_0 rfl (lv_at hl 2 rfl) ?_
  refine lv_iconst (v := 0) X.exec X.bytes dL_led_1 (by decide) ?_
  refine lv_aload_n X.exec X.bytes dL_led_2 rfl (lv_at hl 0 rfl) ?_
  refine lv_iload_n X.exec X.bytes dL_led_3 rfl (lv_at hl 1 rfl) ?_
  have hcw : CallW (rmd (d + 7) 1 6) s ([.ref (ad B 0), .int x1, .ref (ad B 96)] : List Value).toArray "StillYardLaw" "StillYard" 7 yX9_led cX9_led 2 (some .int) (wsO yX9_led cX9_led 2 (some .int)) (rmd (d + 6) 1 6) 1 6 1 :=
    ⟨callB_of 1 hts (good_wsO (fun _ h => h) (big_at 1200 (by decide +kernel) (by decide +kernel))) rfl rfl rfl (hts _ (big_at 72 (by decide +kernel) (by decide +kernel))) (hts _ (big_at 1197 (by decide +kernel) (by decide +kernel))) ⟨by decide, by decide, by decide +kernel⟩ (rm_ok (by decide)), hts _ (big_at 1198 (by decide +kernel) (by decide +kernel)), hts _ (big_at 1199 (by decide +kernel) (by decide +kernel))⟩
  have hpre : ∀ av : List Value, (∃ cellB : Cell, s.heap[ad B 0]? = some cellB ∧ cellB.vm.isStatics = false ∧ s.vm.findClass "StillYard" = some cellB.cls) := fun _ => va_recv hK.1 hP okX9.1 (wz_obj (by decide) rfl)
  have thr : (x1 < 0 ∨ ∃ g, M 0 8 = nI g ∧ LY g = .inl (0, fk0) ∧ ¬ x1 < M g 14) → r = 1 → M' = M → W p l e (rmd (d + 7) 1 6) s m #[Value.ref (ad B 0), Value.int x1, Value.ref (ad B 96)] below meth c s.heap [] 0 0 (MQ below (QQ B LY (PI r M')) #[Value.ref (ad B 0), Value.int x1, Value.ref (ad B 96)] s 1 6 (Af B)) (F0 m 4 ls [.int x1, .ref (ad B 0), .int 0, .ref (ad B 96)]) := by
    intro hc hr hM
    subst hr; subst hM
    have hrun := vx_runV (As := [.int x1]) (rest := [.int 0, .ref (ad B 96)]) (b := ad B 0) (g := F0 m 4 ls [.int x1, .ref (ad B 0), .int 0, .ref (ad B 96)]) (H := s.heap) (locs := []) (cells := 0) (slots := 0) (meth := meth) (below := below) (e := e) (l := l) (nL := 4) (cc := cL_led) ⟨X.exec, X.bytes, hml, hown, hts⟩ (led_no hst hA (d := d) hc) hcw
      ⟨blind _ _, hpre [], fun U hU hW => pre_at _ hK hP V ⟨hsz, hz⟩ hU hW⟩ rfl rfl hl.1 rfl (F0_room (Nat.le_of_ble_eq_true rfl)) dL_led_4 ⟨Nat.le_refl _, Nat.le_refl _⟩
    refine vrun_k hrun V (fun ce q9 H1 locs1 P1 V1 h1 h2 h3 => ?_)
    refine vx_catch hown [] ⟨0, 9, 12, 13⟩ [] (by rw [htab]; rfl) (fun z hz => by cases hz) rfl (by decide) (hts _ (big_at 1196 (by decide +kernel) (by decide +kernel))) (va_Nw.use rfl (hK.2.2.2.2.2.2.2.2.1 (NSE, NSE) (by decide))) h1 h2 h3 ?_
    refine lv_astore_n (lv' := [(3, .ref q9), (0, .ref (ad B 0)), (1, .int x1), (2, .ref (ad B 96))]) X.exec X.bytes dL_led_12 rfl hl (by decide) rfl (fun ls hl => ?_)
    refine lv_iconst (v := 1) X.exec X.bytes dL_led_13 (by decide) ?_
    exact W.zret X.exec X.bytes X.returns rfl (fun t ht hW => g_end (g := F0 m 0 ls []) (v := some (.int 1)) ⟨rfl, rfl, rfl⟩ hK P1 V1 ⟨hsz, fun z => by rw [hA] at z; cases z⟩ ht hW _) V1.2.2 dL_led_14 X.notSynchronized
  rw [f_L_led] at h
  by_cases c1 : x1 < 0
  · replace h := ite_p c1 h
    cases h
    exact thr (Or.inl c1) rfl rfl
  replace h := ite_n c1 h
  obtain ⟨g, eg, hg, h⟩ := bg_e h
  by_cases c2 : x1 < M g 14
  rotate_left
  · replace h := ite_n c2 h
    cases h
    exact thr (Or.inr ⟨g, eg, hg, c2⟩) rfl rfl
  replace h := ite_p c2 h
  obtain ⟨v, M1, e1, h⟩ := bd_e h
  have hrun := vx_runV (As := [.int x1]) (rest := [.int 0, .ref (ad B 96)]) (b := ad B 0) (g := F0 m 4 ls [.int x1, .ref (ad B 0), .int 0, .ref (ad B 96)]) (H := s.heap) (locs := []) (cells := 0) (slots := 0) (meth := meth) (below := below) (e := e) (l := l) (nL := 4) (cc := cL_led) ⟨X.exec, X.bytes, hml, hown, hts⟩ (led_ok (l := l) hA (d := d) e1) hcw
    ⟨blind _ _, hpre [], fun U hU hW => pre_at _ hK hP V ⟨hsz, hz⟩ hU hW⟩ rfl rfl hl.1 rfl (F0_room (Nat.le_of_ble_eq_true rfl)) dL_led_4 ⟨Nat.le_refl _, Nat.le_refl _⟩
  refine vrun_o hrun V (fun v' n' M2 H1 locs1 hp P1 V1 Z1 => ?_)
  obtain ⟨rfl, rfl, rfl⟩ := hp
  refine lv_i2l X.exec X.bytes dL_led_7 rfl ?_
  refine va_last X.exec X.bytes hK.1 P1 (wz_D (by decide)) V1 96 2 (wz_row (by decide) (t := 2) (len := 1) rfl) rfl (i := 0) (inb_vp rfl) dL_led_8 (fun H2 locs2 P2 D2 V2 => ?_)
  have e3 : (wz B LY 97 M2).set 96 (ad B 96, .inl (bC B 2, (1, .inr (.inl (vp_updL (fun i => (M2 96 i).toInt64) (0 : Int32).toNatClampNeg v.toInt64))))) = wz B LY 97 (mset M2 96 0 v) := by
    rw [← wz_set (M := M2) (M' := mset M2 96 0 v) (q := 96) (fun a h => mset_off M2 0 v h), mset_same, cellE_a (t := 2) (n := 1) _ rfl]
    congr 5
    show Sum.inr (Sum.inl (vp_updL (fun i => (M2 96 i).toInt64) 0 v.toInt64)) = Sum.inr (Sum.inl (fun i => (upd (M2 96) 0 v i).toInt64))
    congr 2
    funext j
    by_cases hj : j = 0
    · subst hj; simp [vp_updL, upd]
    · simp [vp_updL, upd, hj]
  have P3 : va_P (bD B) classes (wz B LY 97 (mset M2 96 0 v)) H2 := by rw [← e3]; exact P2
  refine lv_goto (tgt := 15) X.exec X.bytes dL_led_9 (by decide) ?_
  refine lv_iconst (v := 0) X.exec X.bytes dL_led_15 (by decide) ?_
  exact W.zret X.exec X.bytes X.returns rfl (fun t ht hW => g_end (g := F0 m 0 ls []) (v := some (.int 0)) (pi_of h) hK P3 V2 ⟨hsz, fun z => by rw [hA] at z; cases z⟩ ht hW _) V2.2.2 dL_led_16 X.notSynchronized
theorem m_led {l : Launch} {B : BT} {d cells slots pc : Nat} {Po : Option Value → Nat → Mm → Prop} {lv : List (Nat × Value)} {st : List Value} {M M1 : Mm} {x1 r : Int32} (hl0 : l.stackTraces = false) (hA : bA B = false) (h : f_L_led x1 M = some (r, M1)) (hcs : cells + 1 ≤ 601024 ∧ slots + 6 ≤ 7293033) (hst : (st.map fun v => v.category).sum ≤ 8) (hd : decode cL_law pc = .ok (.invokestatic 201, 3))
    (kk : GG l B LY (d + 14) yL_law cL_law 7 (some .boolean) 601024 7293033 Po 97 (cells + 1) (slots + 6) (pc + 3) lv (.int r :: st) M1) : GG l B LY (d + 14) yL_law cL_law 7 (some .boolean) 601024 7293033 Po 97 cells slots pc lv (.ref 96 :: .int x1 :: .ref 0 :: st) M := by
  intro p e s m args below meth c H locs ls F S P V Z hl
  have hts := F.2.2.2.2.1
  have hcw : vx_CSW (rmd (d + 14) 601024 7293033) s args "StillYardLaw" 201 yL_led cL_led 4 (some .int) ledH wsH (rmd (d + 7) 1 6) 1 6 3 := by
    refine ⟨⟨rfl, rfl, ?_, ?_, fun w hw => ?_, List.mem_cons_self⟩, hts _ (big_at 1195 (by decide +kernel) (by decide +kernel)), hts _ (big_at 71 (by decide +kernel) (by decide +kernel)), ⟨by decide, by decide⟩, ?_, hts _ (big_at 1193 (by decide +kernel) (by decide +kernel)), hts _ (big_at 1194 (by decide +kernel) (by decide +kernel))⟩
    · show d + 7 + 1 ≤ d + 14; omega
    · show 8 + (4 + 11) + (35 * (d + 7) + 34) ≤ 35 * (d + 14) + 34; omega
    · rcases List.mem_cons.mp hw with rfl | hw
      · exact fun a' U hW => word_at hW (Or.inl rfl) (hts _ (big_at 1195 (by decide +kernel) (by decide +kernel)))
      · exact fun a' U hW => word_at hW (big_good hw) (hts _ hw)
    · intro sig hsg
      have h2 : (parseMethodDescriptor yL_led.desc).map (fun d => d.parameters.length) = some 3 := by decide +kernel
      rw [hsg] at h2
      exact (Option.some.inj h2).symm
  have hrun := vx_runSW (As := [.ref (ad B 0), .int x1, .ref (ad B 96)]) (rest := st.map (cv B)) (g := F0 m pc ls ((.ref 96 :: .int x1 :: .ref 0 :: st).map (cv B))) (H := H) (locs := locs) (cells := cells) (slots := slots) (meth := meth) (below := below) (e := e) (l := l) (nL := 7) (cc := cL_law) ⟨F.1, F.2.1, F.2.2.1, F.2.2.2.1, hts⟩ (s_L_led hl0 hA (d := d) h) hcw
    ⟨blind _ _, fun U hU hW => pre_at _ S P V Z hU hW⟩ rfl rfl hl.1 rfl (F0_room (by rw [cats_cv]; exact hst)) hd ⟨hcs.1, hcs.2⟩
  refine run_k hrun V (fun v n' M' H1 locs1 hp P1 V1 Z1 => ?_)
  obtain ⟨rfl, rfl, rfl⟩ := hp
  exact kk p e s m args below meth c H1 locs1 ls F S P1 V1 ⟨Z.1, Z1⟩ hl
