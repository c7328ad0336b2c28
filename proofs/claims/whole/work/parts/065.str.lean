/-! THE TEXTS: length() and charAt(k) of the constants, walked by hand. Written by wip/programs/str_part.py. -/
theorem dJ0_length_8abf5_0 : decode cJ0_length_8abf5 0 = .ok (.aload_n 0, 1) := by decide +kernel
theorem dJ0_length_8abf5_1 : decode cJ0_length_8abf5 1 = .ok (.getfield 9, 3) := by decide +kernel
theorem dJ0_length_8abf5_4 : decode cJ0_length_8abf5 4 = .ok (.arraylength, 1) := by decide +kernel
theorem dJ0_length_8abf5_5 : decode cJ0_length_8abf5 5 = .ok (.aload_n 0, 1) := by decide +kernel
theorem dJ0_length_8abf5_6 : decode cJ0_length_8abf5 6 = .ok (.invokevirtual 335, 3) := by decide +kernel
theorem dJ0_length_8abf5_9 : decode cJ0_length_8abf5 9 = .ok (.ishr, 1) := by decide +kernel
theorem dJ0_length_8abf5_10 : decode cJ0_length_8abf5 10 = .ok (.ireturn, 1) := by decide +kernel
theorem dJ0_charAt_5068e_0 : decode cJ0_charAt_5068e 0 = .ok (.aload_n 0, 1) := by decide +kernel
theorem dJ0_charAt_5068e_1 : decode cJ0_charAt_5068e 1 = .ok (.invokevirtual 492, 3) := by decide +kernel
theorem dJ0_charAt_5068e_4 : decode cJ0_charAt_5068e 4 = .ok (.ifCond .eq 12, 3) := by decide +kernel
theorem dJ0_charAt_5068e_7 : decode cJ0_charAt_5068e 7 = .ok (.aload_n 0, 1) := by decide +kernel
theorem dJ0_charAt_5068e_8 : decode cJ0_charAt_5068e 8 = .ok (.getfield 9, 3) := by decide +kernel
theorem dJ0_charAt_5068e_11 : decode cJ0_charAt_5068e 11 = .ok (.iload_n 1, 1) := by decide +kernel
theorem dJ0_charAt_5068e_12 : decode cJ0_charAt_5068e 12 = .ok (.invokestatic 495, 3) := by decide +kernel
theorem dJ0_charAt_5068e_15 : decode cJ0_charAt_5068e 15 = .ok (.ireturn, 1) := by decide +kernel
theorem dJ0_charAt_5068e_16 : decode cJ0_charAt_5068e 16 = .ok (.aload_n 0, 1) := by decide +kernel
theorem dJ0_charAt_5068e_17 : decode cJ0_charAt_5068e 17 = .ok (.getfield 9, 3) := by decide +kernel
theorem dJ0_charAt_5068e_20 : decode cJ0_charAt_5068e 20 = .ok (.iload_n 1, 1) := by decide +kernel
theorem dJ0_charAt_5068e_21 : decode cJ0_charAt_5068e 21 = .ok (.invokestatic 498, 3) := by decide +kernel
theorem dJ0_charAt_5068e_24 : decode cJ0_charAt_5068e 24 = .ok (.ireturn, 1) := by decide +kernel
theorem dJ0_coder_7d493_0 : decode cJ0_coder_7d493 0 = .ok (.getstatic 38, 3) := by decide +kernel
theorem dJ0_coder_7d493_3 : decode cJ0_coder_7d493 3 = .ok (.ifCond .eq 10, 3) := by decide +kernel
theorem dJ0_coder_7d493_6 : decode cJ0_coder_7d493 6 = .ok (.aload_n 0, 1) := by decide +kernel
theorem dJ0_coder_7d493_7 : decode cJ0_coder_7d493 7 = .ok (.getfield 15, 3) := by decide +kernel
theorem dJ0_coder_7d493_10 : decode cJ0_coder_7d493 10 = .ok (.goto 4, 3) := by decide +kernel
theorem dJ0_coder_7d493_13 : decode cJ0_coder_7d493 13 = .ok (.iconst 1, 1) := by decide +kernel
theorem dJ0_coder_7d493_14 : decode cJ0_coder_7d493 14 = .ok (.ireturn, 1) := by decide +kernel
theorem dJ0_isLatin1_aae02_0 : decode cJ0_isLatin1_aae02 0 = .ok (.getstatic 38, 3) := by decide +kernel
theorem dJ0_isLatin1_aae02_3 : decode cJ0_isLatin1_aae02 3 = .ok (.ifCond .eq 14, 3) := by decide +kernel
theorem dJ0_isLatin1_aae02_6 : decode cJ0_isLatin1_aae02 6 = .ok (.aload_n 0, 1) := by decide +kernel
theorem dJ0_isLatin1_aae02_7 : decode cJ0_isLatin1_aae02 7 = .ok (.getfield 15, 3) := by decide +kernel
theorem dJ0_isLatin1_aae02_10 : decode cJ0_isLatin1_aae02 10 = .ok (.ifCond .ne 7, 3) := by decide +kernel
theorem dJ0_isLatin1_aae02_13 : decode cJ0_isLatin1_aae02 13 = .ok (.iconst 1, 1) := by decide +kernel
theorem dJ0_isLatin1_aae02_14 : decode cJ0_isLatin1_aae02 14 = .ok (.goto 4, 3) := by decide +kernel
theorem dJ0_isLatin1_aae02_17 : decode cJ0_isLatin1_aae02 17 = .ok (.iconst 0, 1) := by decide +kernel
theorem dJ0_isLatin1_aae02_18 : decode cJ0_isLatin1_aae02 18 = .ok (.ireturn, 1) := by decide +kernel
theorem dJ0_checkIndex_df160_0 : decode cJ0_checkIndex_df160 0 = .ok (.iload_n 0, 1) := by decide +kernel
theorem dJ0_checkIndex_df160_1 : decode cJ0_checkIndex_df160 1 = .ok (.iload_n 1, 1) := by decide +kernel
theorem dJ0_checkIndex_df160_2 : decode cJ0_checkIndex_df160 2 = .ok (.getstatic 1053, 3) := by decide +kernel
theorem dJ0_checkIndex_df160_5 : decode cJ0_checkIndex_df160 5 = .ok (.invokestatic 1059, 3) := by decide +kernel
theorem dJ0_checkIndex_df160_8 : decode cJ0_checkIndex_df160 8 = .ok (.pop, 1) := by decide +kernel
theorem dJ0_checkIndex_df160_9 : decode cJ0_checkIndex_df160 9 = .ok (.return_, 1) := by decide +kernel
theorem dJ1_charAt_3b067_0 : decode cJ1_charAt_3b067 0 = .ok (.iload_n 1, 1) := by decide +kernel
theorem dJ1_charAt_3b067_1 : decode cJ1_charAt_3b067 1 = .ok (.aload_n 0, 1) := by decide +kernel
theorem dJ1_charAt_3b067_2 : decode cJ1_charAt_3b067 2 = .ok (.arraylength, 1) := by decide +kernel
theorem dJ1_charAt_3b067_3 : decode cJ1_charAt_3b067 3 = .ok (.invokestatic 9, 3) := by decide +kernel
theorem dJ1_charAt_3b067_6 : decode cJ1_charAt_3b067 6 = .ok (.aload_n 0, 1) := by decide +kernel
theorem dJ1_charAt_3b067_7 : decode cJ1_charAt_3b067 7 = .ok (.iload_n 1, 1) := by decide +kernel
theorem dJ1_charAt_3b067_8 : decode cJ1_charAt_3b067 8 = .ok (.baload, 1) := by decide +kernel
theorem dJ1_charAt_3b067_9 : decode cJ1_charAt_3b067 9 = .ok (.sipush 255, 3) := by decide +kernel
theorem dJ1_charAt_3b067_12 : decode cJ1_charAt_3b067 12 = .ok (.iand, 1) := by decide +kernel
theorem dJ1_charAt_3b067_13 : decode cJ1_charAt_3b067 13 = .ok (.i2c, 1) := by decide +kernel
theorem dJ1_charAt_3b067_14 : decode cJ1_charAt_3b067 14 = .ok (.ireturn, 1) := by decide +kernel
theorem dJ3_checkIndex_8e157_0 : decode cJ3_checkIndex_8e157 0 = .ok (.iload_n 0, 1) := by decide +kernel
theorem dJ3_checkIndex_8e157_1 : decode cJ3_checkIndex_8e157 1 = .ok (.ifCond .lt 8, 3) := by decide +kernel
theorem dJ3_checkIndex_8e157_4 : decode cJ3_checkIndex_8e157 4 = .ok (.iload_n 0, 1) := by decide +kernel
theorem dJ3_checkIndex_8e157_5 : decode cJ3_checkIndex_8e157 5 = .ok (.iload_n 1, 1) := by decide +kernel
theorem dJ3_checkIndex_8e157_6 : decode cJ3_checkIndex_8e157 6 = .ok (.if_icmp .lt 10, 3) := by decide +kernel
theorem dJ3_checkIndex_8e157_9 : decode cJ3_checkIndex_8e157 9 = .ok (.aload_n 2, 1) := by decide +kernel
theorem dJ3_checkIndex_8e157_10 : decode cJ3_checkIndex_8e157 10 = .ok (.iload_n 0, 1) := by decide +kernel
theorem dJ3_checkIndex_8e157_11 : decode cJ3_checkIndex_8e157 11 = .ok (.iload_n 1, 1) := by decide +kernel
theorem dJ3_checkIndex_8e157_12 : decode cJ3_checkIndex_8e157 12 = .ok (.invokestatic 95, 3) := by decide +kernel
theorem dJ3_checkIndex_8e157_15 : decode cJ3_checkIndex_8e157 15 = .ok (.athrow, 1) := by decide +kernel
theorem dJ3_checkIndex_8e157_16 : decode cJ3_checkIndex_8e157 16 = .ok (.iload_n 0, 1) := by decide +kernel
theorem dJ3_checkIndex_8e157_17 : decode cJ3_checkIndex_8e157 17 = .ok (.ireturn, 1) := by decide +kernel
theorem ad_s (B : BT) (i : Nat) : ad B (1000 + i) = bS B i := by rw [ad, if_neg (by omega), Nat.add_sub_cancel_left]
def slen (i : Nat) : Int32 := nI (stB i).length >>> ((0 : Int32) &&& 31)
def schar (i k : Nat) : Int32 := ((((stB i).getD k 0) &&& 255).toUInt32 % 65536).toInt32
theorem ck_J0_length_8abf5 : CKV yJ0_length_8abf5 cJ0_length_8abf5 1 (some .int) 0 := ⟨⟨by decide, by decide, by decide +kernel⟩, (big_at 506 (by decide +kernel) (by decide +kernel)), (big_at 82 (by decide +kernel) (by decide +kernel)), ⟨(big_at 504 (by decide +kernel) (by decide +kernel)), (big_at 505 (by decide +kernel) (by decide +kernel))⟩, by decide⟩
theorem ck_J0_charAt_5068e : CKV yJ0_charAt_5068e cJ0_charAt_5068e 2 (some .char) 1 := ⟨⟨by decide, by decide, by decide +kernel⟩, (big_at 516 (by decide +kernel) (by decide +kernel)), (big_at 82 (by decide +kernel) (by decide +kernel)), ⟨(big_at 514 (by decide +kernel) (by decide +kernel)), (big_at 515 (by decide +kernel) (by decide +kernel))⟩, by decide⟩
theorem ck_J0_coder_7d493 : CKV yJ0_coder_7d493 cJ0_coder_7d493 1 (some .byte) 0 := ⟨⟨by decide, by decide, by decide +kernel⟩, (big_at 510 (by decide +kernel) (by decide +kernel)), (big_at 82 (by decide +kernel) (by decide +kernel)), ⟨(big_at 508 (by decide +kernel) (by decide +kernel)), (big_at 509 (by decide +kernel) (by decide +kernel))⟩, by decide⟩
theorem ck_J0_isLatin1_aae02 : CKV yJ0_isLatin1_aae02 cJ0_isLatin1_aae02 1 (some .boolean) 0 := ⟨⟨by decide, by decide, by decide +kernel⟩, (big_at 520 (by decide +kernel) (by decide +kernel)), (big_at 82 (by decide +kernel) (by decide +kernel)), ⟨(big_at 518 (by decide +kernel) (by decide +kernel)), (big_at 519 (by decide +kernel) (by decide +kernel))⟩, by decide⟩
theorem ck_J0_checkIndex_df160 : CKS yJ0_checkIndex_df160 cJ0_checkIndex_df160 2 none 2 := ⟨⟨by decide, by decide, by decide +kernel⟩, (big_at 526 (by decide +kernel) (by decide +kernel)), (big_at 82 (by decide +kernel) (by decide +kernel)), (big_at 525 (by decide +kernel) (by decide +kernel)), by decide⟩
theorem ck_J1_charAt_3b067 : CKS yJ1_charAt_3b067 cJ1_charAt_3b067 2 (some .char) 2 := ⟨⟨by decide, by decide, by decide +kernel⟩, (big_at 523 (by decide +kernel) (by decide +kernel)), (big_at 83 (by decide +kernel) (by decide +kernel)), (big_at 522 (by decide +kernel) (by decide +kernel)), by decide⟩
theorem ck_J3_checkIndex_8e157 : CKS yJ3_checkIndex_8e157 cJ3_checkIndex_8e157 3 (some .int) 3 := ⟨⟨by decide, by decide, by decide +kernel⟩, (big_at 531 (by decide +kernel) (by decide +kernel)), (big_at 84 (by decide +kernel) (by decide +kernel)), (big_at 530 (by decide +kernel) (by decide +kernel)), by decide⟩
section Str
variable {l : Launch} {B : BT} {Ly : Nat → Kd} {d n : Nat} {M : Mm}
/-- a contract on the values themselves -/
def MetR (l : Launch) (B : BT) (Ly : Nat → Kd) (d : Nat) (y : MethodName) (cc : ByteArray) (nL : Nat) (ret : Option FieldType) (av : List Value) (n : Nat) (M : Mm) (Po : Option Value → Nat → Mm → Prop) : Prop :=
  Met l y (wsO y cc nL ret) (rmd d 0 0) (va_Pc av (fun U => bB B ≤ U.heap.size ∧ SW B Ly n M U)) (QQ B Ly Po) 0 0 (Af B)
theorem ent {y : MethodName} {cc : ByteArray} {nL : Nat} {ret : Option FieldType} {av : List Value} {Po : Option Value → Nat → Mm → Prop} (hy : plainName y.cls = true) (hn : (lg_sl av).length ≤ nL)
    (h : ∀ (p : Program) (e : Env) (s : State) (m : MethodId) (args : Array Value) (below : List Frame) (meth : Method) (c : Code) (ls : Array Slot), Fx p s m args meth c y cc nL ret → SK B s s.heap → va_P (bD B) classes (wz B Ly n M) s.heap → (bB B ≤ s.heap.size ∧ (bA B = true → s.heap.size = bB B + n)) → lv_has ls nL (lv_args 0 av) →
      W p l e (rmd d 0 0) s m args below meth c s.heap [] 0 0 (MQ below (QQ B Ly Po) args s 0 0 (Af B)) (F0 m 0 ls [])) : MetR l B Ly d y cc nL ret av n M Po := by
  refine Met.ofW (cc := cc) (maxL := nL) (ret := ret) hy rfl ?_
  intro p e s m args below meth c s₁ X hml hv
  obtain ⟨rfl, hsz, hP, hK, hz⟩ := hv
  have hts := atoms_spec (ws := wsO y cc nL ret) X.pre
  rw [lg_entry_eq]
  have hl := lv_entry av (n := nL) hn
  exact h p e s m _ below meth c _ ⟨X.exec, X.bytes, hml, findClass_of_methodNamed X.named, fun w hw => hts w (List.mem_cons_of_mem _ hw), X.returns, X.notSynchronized, fun h => (name_of_methodNamed X.named X.method).1.trans h⟩ hK hP ⟨hsz, hz⟩ hl
theorem rawS {p : Program} {e : Env} {s : State} {m : MethodId} {args : Array Value} {below : List Frame} {meth : Method} {c : Code} {H : Heap} {locs : List Loc} {ls : Array Slot} {my y : MethodName} {cc bytes : ByteArray} {nL nL' na i pc : Nat} {ret ret' : Option FieldType} {As rest : List Value} {Po' : Option Value → Nat → Mm → Prop} {Q : State → Prop}
    (F : Fx p s m args meth c my cc nL ret) (S : SK B s s.heap) (P : va_P (bD B) classes (wz B Ly n M) H) (V : va_S (Af B) s.heap H locs) (Z : bB B ≤ s.heap.size ∧ (bA B = true → H.size = bB B + n)) (hls : ls.size = nL) (hc : MetR l B Ly d y bytes nL' ret' As n M Po') (ck : CKS y bytes nL' ret' na) (hlink : Cond.methodLink my.cls i y ∈ lw_big) (hn : As.length = na) (hst : (rest.map fun v => v.category).sum ≤ 8) (hd : decode cc pc = .ok (.invokestatic i, 3))
    (kk : ∀ (v : Option Value) (n' : Nat) (M' : Mm) (H1 : Heap) (locs1 : List Loc), Po' v n' M' → va_P (bD B) classes (wz B Ly n' M') H1 → va_S (Af B) s.heap H1 locs1 → (bA B = true → H1.size = bB B + n') → W p l e (rmd (d + 1) 0 0) s m args below meth c H1 locs1 0 0 Q (F0 m (pc + 3) ls ((v.map (cv B)).toList ++ rest))) :
    W p l e (rmd (d + 1) 0 0) s m args below meth c H locs 0 0 Q (F0 m pc ls (As.reverse ++ rest)) := by
  have hts := F.2.2.2.2.1
  have hcw : CallB (rmd (d + 1) 0 0) s args my.cls i y bytes nL' ret' (wsO y bytes nL' ret') (rmd d 0 0) 0 0 na ∧ (Cond.static y).before args s = true :=
    ⟨callB_of na hts (good_wsO (fun _ h => h) ck.2.1) rfl rfl rfl (hts _ ck.2.2.1) (hts _ hlink) ck.1 (rm_ok ck.2.2.2.2), hts _ ck.2.2.2.1⟩
  have hrun := va_runS (As := As) (rest := rest) (g := F0 m pc ls (As.reverse ++ rest)) (H := H) (locs := locs) (cells := 0) (slots := 0) (meth := meth) (below := below) (e := e) (l := l) ⟨F.1, F.2.1, F.2.2.1, F.2.2.2.1, hts⟩ hc hcw
    ⟨blind _ _, fun U hU hW => pre_at _ S P V Z hU hW⟩ rfl hn hls rfl (F0_room hst) hd ⟨Nat.le_refl _, Nat.le_refl _⟩
  exact run_k hrun V kk
theorem rawV {p : Program} {e : Env} {s : State} {m : MethodId} {args : Array Value} {below : List Frame} {meth : Method} {c : Code} {H : Heap} {locs : List Loc} {ls : Array Slot} {my y : MethodName} {cc bytes : ByteArray} {nL nL' na i pc b : Nat} {ret ret' : Option FieldType} {As rest : List Value} {Po' : Option Value → Nat → Mm → Prop} {Q : State → Prop}
    (F : Fx p s m args meth c my cc nL ret) (S : SK B s s.heap) (P : va_P (bD B) classes (wz B Ly n M) H) (V : va_S (Af B) s.heap H locs) (Z : bB B ≤ s.heap.size ∧ (bA B = true → H.size = bB B + n)) (hls : ls.size = nL) (hb : ∃ cellB : Cell, H[b]? = some cellB ∧ cellB.vm.isStatics = false ∧ s.vm.findClass y.cls = some cellB.cls) (hc : MetR l B Ly d y bytes nL' ret' (.ref b :: As) n M Po') (ck : CKV y bytes nL' ret' na) (hlink : Cond.methodLink my.cls i y ∈ lw_big) (hn : As.length = na) (hst : (rest.map fun v => v.category).sum ≤ 8) (hd : decode cc pc = .ok (.invokevirtual i, 3))
    (kk : ∀ (v : Option Value) (n' : Nat) (M' : Mm) (H1 : Heap) (locs1 : List Loc), Po' v n' M' → va_P (bD B) classes (wz B Ly n' M') H1 → va_S (Af B) s.heap H1 locs1 → (bA B = true → H1.size = bB B + n') → W p l e (rmd (d + 1) 0 0) s m args below meth c H1 locs1 0 0 Q (F0 m (pc + 3) ls ((v.map (cv B)).toList ++ rest))) :
    W p l e (rmd (d + 1) 0 0) s m args below meth c H locs 0 0 Q (F0 m pc ls (As.reverse ++ .ref b :: rest)) := by
  have hts := F.2.2.2.2.1
  have hcw : CallW (rmd (d + 1) 0 0) s args my.cls y.cls i y bytes nL' ret' (wsO y bytes nL' ret') (rmd d 0 0) 0 0 na :=
    ⟨callB_of na hts (good_wsO (fun _ h => h) ck.2.1) rfl rfl rfl (hts _ ck.2.2.1) (hts _ hlink) ck.1 (rm_ok ck.2.2.2.2), hts _ ck.2.2.2.1.1, hts _ ck.2.2.2.1.2⟩
  have hrun := va_runV (As := As) (rest := rest) (b := b) (g := F0 m pc ls (As.reverse ++ .ref b :: rest)) (H := H) (locs := locs) (cells := 0) (slots := 0) (meth := meth) (below := below) (e := e) (l := l) ⟨F.1, F.2.1, F.2.2.1, F.2.2.2.1, hts⟩ hc hcw
    ⟨blind _ _, hb, fun U hU hW => pre_at _ S P V Z hU hW⟩ rfl hn hls rfl (F0_room hst) hd ⟨Nat.le_refl _, Nat.le_refl _⟩
  exact run_k hrun V kk
def PJ (r : Option Value) (n : Nat) (M : Mm) : Option Value → Nat → Mm → Prop := fun v n' M' => v = r ∧ n' = n ∧ M' = M
theorem s_J3_checkIndex {i k : Int32} {v : Value} (hv : v = .null ∨ ∃ t, v = .ref t) (h0 : ¬ i < 0) (h1 : i < k) : MetR l B Ly d yJ3_checkIndex_8e157 cJ3_checkIndex_8e157 3 (some .int) [.int i, .int k, v] n M (PJ (some (.int i)) n M) := by
  refine ent (by decide) (by rcases hv with rfl | ⟨t, rfl⟩ <;> exact Nat.le_refl _) ?_
  intro p e s m args below meth c ls F S P Z hl
  have V : va_S (Af B) s.heap s.heap [] := va_S.rf
  refine lv_iload_n F.1 F.2.1 dJ3_checkIndex_8e157_0 rfl (lv_at hl 0 rfl) ?_
  refine lv_if_lt (tgt := 9) F.1 F.2.1 dJ3_checkIndex_8e157_1 (by decide) (fun z => absurd z h0) (fun _ => ?_)
  refine lv_iload_n F.1 F.2.1 dJ3_checkIndex_8e157_4 rfl (lv_at hl 0 rfl) ?_
  refine lv_iload_n F.1 F.2.1 dJ3_checkIndex_8e157_5 rfl (lv_at hl 1 rfl) ?_
  refine lv_icmp_lt (tgt := 16) F.1 F.2.1 dJ3_checkIndex_8e157_6 (by decide) (fun _ => ?_) (fun z => absurd h1 z)
  refine lv_iload_n F.1 F.2.1 dJ3_checkIndex_8e157_16 rfl (lv_at hl 0 rfl) ?_
  exact W.zret F.1 F.2.1 F.2.2.2.2.2.1 rfl (fun t ht hW => g_end (g := F0 m 0 ls []) (v := some (.int i)) (Po := PJ (some (.int i)) n M) ⟨rfl, rfl, rfl⟩ S P V Z ht hW args) V.2.2 dJ3_checkIndex_8e157_17 F.2.2.2.2.2.2.1
theorem s_J0_checkIndex {i k : Int32} (h0 : ¬ i < 0) (h1 : i < k) : MetR l B Ly (d + 1) yJ0_checkIndex_df160 cJ0_checkIndex_df160 2 none [.int i, .int k] n M (PJ none n M) := by
  refine ent (by decide) (Nat.le_of_ble_eq_true rfl) ?_
  intro p e s m args below meth c ls F S P Z hl
  have V : va_S (Af B) s.heap s.heap [] := va_S.rf
  have hl : lv_has ls 2 [(0, .int i), (1, .int k)] := hl
  have go : ∀ v : Value, (v = .null ∨ ∃ t, v = .ref t) → va_Z "jdk/internal/util/Preconditions" "SIOOBE_FORMATTER" "Ljava/util/function/BiFunction;" v (Af B) s s.heap → W p l e (rmd (d + 1) 0 0) s m args below meth c s.heap [] 0 0 (MQ below (QQ B Ly (PJ none n M)) args s 0 0 (Af B)) (F0 m 0 ls []) := by
    intro v hv hZ
    refine lv_iload_n F.1 F.2.1 dJ0_checkIndex_df160_0 rfl (lv_at hl 0 rfl) ?_
    refine lv_iload_n F.1 F.2.1 dJ0_checkIndex_df160_1 rfl (lv_at hl 1 rfl) ?_
    refine va_gets F.1 F.2.1 hZ V F.2.2.2.1 (F.2.2.2.2.1 _ (big_at 527 (by decide +kernel) (by decide +kernel))) (fun _ h => h) dJ0_checkIndex_df160_2 ?_
    refine rawS (As := [.int i, .int k, v]) (rest := []) F S P V Z hl.1 (s_J3_checkIndex hv h0 h1) ck_J3_checkIndex_8e157 (big_at 529 (by decide +kernel) (by decide +kernel)) rfl (Nat.zero_le _) dJ0_checkIndex_df160_5 (fun v' n' M' H1 locs1 hp P1 V1 Z1 => ?_)
    obtain ⟨rfl, rfl, rfl⟩ := hp
    refine lv_pop F.1 F.2.1 dJ0_checkIndex_df160_8 rfl ?_
    exact W.vret F.1 F.2.1 F.2.2.2.2.2.1 (fun t ht hW => g_end (g := F0 m 0 ls []) (v := none) (Po := PJ none n' M') ⟨rfl, rfl, rfl⟩ S P1 V1 ⟨Z.1, Z1⟩ ht hW args) V1.2.2 dJ0_checkIndex_df160_9 F.2.2.2.2.2.2.1
  rcases S.2.2.2.2.2.1 with hZ | ⟨t, hZ⟩
  · exact go .null (Or.inl rfl) hZ
  · exact go (.ref t) (Or.inr ⟨t, rfl⟩) hZ
theorem s_J1_charAt {j k : Nat} {i : Int32} (hj : j < 46) (hi : i.toNatClampNeg = k) (hin : inb i (stB j).length = true) : MetR l B Ly (d + 2) yJ1_charAt_3b067 cJ1_charAt_3b067 2 (some .char) [.ref (bV B j), .int i] n M (PJ (some (.int (schar j k))) n M) := by
  refine ent (by decide) (Nat.le_of_ble_eq_true rfl) ?_
  intro p e s m args below meth c ls F S P Z hl
  have V : va_S (Af B) s.heap s.heap [] := va_S.rf
  have hl : lv_has ls 2 [(0, .ref (bV B j)), (1, .int i)] := hl
  have hvp := inb_vp hin
  have hz : 0 ≤ i.toInt ∧ i.toInt < (stB j).length := by simpa [inb] using hin
  have hlen : (stB j).length < 2 ^ 31 := (by decide +kernel : ∀ j, j < 46 → (stB j).length < 2 ^ 31) j hj
  refine lv_iload_n F.1 F.2.1 dJ1_charAt_3b067_0 rfl (lv_at hl 1 rfl) ?_
  refine lv_aload_n F.1 F.2.1 dJ1_charAt_3b067_1 rfl (lv_at hl 0 rfl) ?_
  refine va_tlen F.1 F.2.1 (S.2.2.1 j hj).2.2.2 V rfl dJ1_charAt_3b067_2 ?_
  refine rawS (As := [.int i, .int (nI (stB j).length)]) (rest := []) F S P V Z hl.1 (s_J0_checkIndex (fun q => hvp (Or.inl q)) (Int32.lt_iff_toInt_lt.mpr (by rw [nI_toInt hlen]; exact hz.2))) ck_J0_checkIndex_df160 (big_at 524 (by decide +kernel) (by decide +kernel)) rfl (Nat.zero_le _) dJ1_charAt_3b067_3 (fun v' n' M' H1 locs1 hp P1 V1 Z1 => ?_)
  obtain ⟨rfl, rfl, rfl⟩ := hp
  refine lv_aload_n F.1 F.2.1 dJ1_charAt_3b067_6 rfl (lv_at hl 0 rfl) ?_
  refine lv_iload_n F.1 F.2.1 dJ1_charAt_3b067_7 rfl (lv_at hl 1 rfl) ?_
  refine va_tb F.1 F.2.1 (S.2.2.1 j hj).2.2.2 V1 hvp rfl dJ1_charAt_3b067_8 ?_
  refine lv_sipush (v := 255) F.1 F.2.1 dJ1_charAt_3b067_9 (by decide) ?_
  refine lv_iand F.1 F.2.1 dJ1_charAt_3b067_12 ?_
  refine lv_i2c F.1 F.2.1 dJ1_charAt_3b067_13 rfl ?_
  rw [hi]
  exact W.zret F.1 F.2.1 F.2.2.2.2.2.1 (pk_nc _) (fun t ht hW => g_end (g := F0 m 0 ls []) (v := some (.int (schar j k))) (Po := PJ (some (.int (schar j k))) n' M') ⟨rfl, rfl, rfl⟩ S P1 V1 ⟨Z.1, Z1⟩ ht hW args) V1.2.2 dJ1_charAt_3b067_14 F.2.2.2.2.2.2.1
theorem s_J0_isLatin1 {j : Nat} (hj : j < 46) : MetR l B Ly d yJ0_isLatin1_aae02 cJ0_isLatin1_aae02 1 (some .boolean) [.ref (bS B j)] n M (PJ (some (.int 1)) n M) := by
  refine ent (by decide) (Nat.le_of_ble_eq_true rfl) ?_
  intro p e s m args below meth c ls F S P Z hl
  have V : va_S (Af B) s.heap s.heap [] := va_S.rf
  have hl : lv_has ls 1 [(0, .ref (bS B j))] := hl
  refine va_gets F.1 F.2.1 S.2.2.2.2.1 V F.2.2.2.1 (F.2.2.2.2.1 _ (big_at 511 (by decide +kernel) (by decide +kernel))) (fun _ h => h) dJ0_isLatin1_aae02_0 ?_
  refine lv_if_eq (tgt := 17) F.1 F.2.1 dJ0_isLatin1_aae02_3 (by decide) (fun z => absurd z (by decide)) (fun _ => ?_)
  refine lv_aload_n F.1 F.2.1 dJ0_isLatin1_aae02_6 rfl (lv_at hl 0 rfl) ?_
  refine vk_getf F.1 F.2.1 (S.2.2.1 j hj).2.1 V F.2.2.2.1 (F.2.2.2.2.1 _ (big_at 1869 (by decide +kernel) (by decide +kernel))) (fun _ h => h) dJ0_isLatin1_aae02_7 ?_
  refine lv_if_ne (tgt := 17) F.1 F.2.1 dJ0_isLatin1_aae02_10 (by decide) (fun z => absurd rfl z) (fun _ => ?_)
  refine lv_iconst (v := 1) F.1 F.2.1 dJ0_isLatin1_aae02_13 (by decide) ?_
  refine lv_goto (tgt := 18) F.1 F.2.1 dJ0_isLatin1_aae02_14 (by decide) ?_
  exact W.zret F.1 F.2.1 F.2.2.2.2.2.1 rfl (fun t ht hW => g_end (g := F0 m 0 ls []) (v := some (.int 1)) (Po := PJ (some (.int 1)) n M) ⟨rfl, rfl, rfl⟩ S P V Z ht hW args) V.2.2 dJ0_isLatin1_aae02_18 F.2.2.2.2.2.2.1
theorem s_J0_coder {j : Nat} (hj : j < 46) : MetR l B Ly d yJ0_coder_7d493 cJ0_coder_7d493 1 (some .byte) [.ref (bS B j)] n M (PJ (some (.int 0)) n M) := by
  refine ent (by decide) (Nat.le_of_ble_eq_true rfl) ?_
  intro p e s m args below meth c ls F S P Z hl
  have V : va_S (Af B) s.heap s.heap [] := va_S.rf
  have hl : lv_has ls 1 [(0, .ref (bS B j))] := hl
  refine va_gets F.1 F.2.1 S.2.2.2.2.1 V F.2.2.2.1 (F.2.2.2.2.1 _ (big_at 511 (by decide +kernel) (by decide +kernel))) (fun _ h => h) dJ0_coder_7d493_0 ?_
  refine lv_if_eq (tgt := 13) F.1 F.2.1 dJ0_coder_7d493_3 (by decide) (fun z => absurd z (by decide)) (fun _ => ?_)
  refine lv_aload_n F.1 F.2.1 dJ0_coder_7d493_6 rfl (lv_at hl 0 rfl) ?_
  refine vk_getf F.1 F.2.1 (S.2.2.1 j hj).2.1 V F.2.2.2.1 (F.2.2.2.2.1 _ (big_at 1869 (by decide +kernel) (by decide +kernel))) (fun _ h => h) dJ0_coder_7d493_7 ?_
  refine lv_goto (tgt := 14) F.1 F.2.1 dJ0_coder_7d493_10 (by decide) ?_
  exact W.zret F.1 F.2.1 F.2.2.2.2.2.1 rfl (fun t ht hW => g_end (g := F0 m 0 ls []) (v := some (.int 0)) (Po := PJ (some (.int 0)) n M) ⟨rfl, rfl, rfl⟩ S P V Z ht hW args) V.2.2 dJ0_coder_7d493_14 F.2.2.2.2.2.2.1
theorem str_recv {j : Nat} (hj : j < 46) {s : State} {H : Heap} {locs : List Loc} (S : SK B s s.heap) (V : va_S (Af B) s.heap H locs) : ∃ cell : Cell, H[bS B j]? = some cell ∧ cell.vm.isStatics = false ∧ s.vm.findClass "java/lang/String" = some cell.cls := by
  obtain ⟨cell, h1, h2, h3, -⟩ := (S.2.2.1 j hj).1.kept V.2.1
  exact ⟨cell, h1, h2, h3⟩
theorem s_length {j : Nat} (hj : j < 46) : MetR l B Ly (d + 1) yJ0_length_8abf5 cJ0_length_8abf5 1 (some .int) [.ref (bS B j)] n M (PJ (some (.int (slen j))) n M) := by
  refine ent (by decide) (Nat.le_of_ble_eq_true rfl) ?_
  intro p e s m args below meth c ls F S P Z hl
  have V : va_S (Af B) s.heap s.heap [] := va_S.rf
  have hl : lv_has ls 1 [(0, .ref (bS B j))] := hl
  refine lv_aload_n F.1 F.2.1 dJ0_length_8abf5_0 rfl (lv_at hl 0 rfl) ?_
  refine vk_getf F.1 F.2.1 (S.2.2.1 j hj).2.2.1 V F.2.2.2.1 (F.2.2.2.2.1 _ (big_at 1868 (by decide +kernel) (by decide +kernel))) (fun _ h => h) dJ0_length_8abf5_1 ?_
  refine va_tlen F.1 F.2.1 (S.2.2.1 j hj).2.2.2 V rfl dJ0_length_8abf5_4 ?_
  refine lv_aload_n F.1 F.2.1 dJ0_length_8abf5_5 rfl (lv_at hl 0 rfl) ?_
  refine rawV (As := []) (b := bS B j) F S P V Z hl.1 (str_recv hj S V) (s_J0_coder hj) ck_J0_coder_7d493 (big_at 507 (by decide +kernel) (by decide +kernel)) rfl (Nat.le_of_ble_eq_true rfl) dJ0_length_8abf5_6 (fun v' n' M' H1 locs1 hp P1 V1 Z1 => ?_)
  obtain ⟨rfl, rfl, rfl⟩ := hp
  refine lv_ishr F.1 F.2.1 dJ0_length_8abf5_9 ?_
  exact W.zret F.1 F.2.1 F.2.2.2.2.2.1 rfl (fun t ht hW => g_end (g := F0 m 0 ls []) (v := some (.int (slen j))) (Po := PJ (some (.int (slen j))) n' M') ⟨rfl, rfl, rfl⟩ S P1 V1 ⟨Z.1, Z1⟩ ht hW args) V1.2.2 dJ0_length_8abf5_10 F.2.2.2.2.2.2.1
theorem s_charAt {j k : Nat} {i : Int32} (hj : j < 46) (hi : i.toNatClampNeg = k) (hin : inb i (stB j).length = true) : MetR l B Ly (d + 3) yJ0_charAt_5068e cJ0_charAt_5068e 2 (some .char) [.ref (bS B j), .int i] n M (PJ (some (.int (schar j k))) n M) := by
  refine ent (by decide) (Nat.le_of_ble_eq_true rfl) ?_
  intro p e s m args below meth c ls F S P Z hl
  have V : va_S (Af B) s.heap s.heap [] := va_S.rf
  have hl : lv_has ls 2 [(0, .ref (bS B j)), (1, .int i)] := hl
  refine lv_aload_n F.1 F.2.1 dJ0_charAt_5068e_0 rfl (lv_at hl 0 rfl) ?_
  refine rawV (As := []) (b := bS B j) F S P V Z hl.1 (str_recv hj S V) (s_J0_isLatin1 hj) ck_J0_isLatin1_aae02 (big_at 517 (by decide +kernel) (by decide +kernel)) rfl (Nat.le_of_ble_eq_true rfl) dJ0_charAt_5068e_1 (fun v' n' M' H1 locs1 hp P1 V1 Z1 => ?_)
  obtain ⟨rfl, rfl, rfl⟩ := hp
  refine lv_if_eq (tgt := 16) F.1 F.2.1 dJ0_charAt_5068e_4 (by decide) (fun z => absurd z (by decide)) (fun _ => ?_)
  refine lv_aload_n F.1 F.2.1 dJ0_charAt_5068e_7 rfl (lv_at hl 0 rfl) ?_
  refine vk_getf F.1 F.2.1 (S.2.2.1 j hj).2.2.1 V1 F.2.2.2.1 (F.2.2.2.2.1 _ (big_at 1868 (by decide +kernel) (by decide +kernel))) (fun _ h => h) dJ0_charAt_5068e_8 ?_
  refine lv_iload_n F.1 F.2.1 dJ0_charAt_5068e_11 rfl (lv_at hl 1 rfl) ?_
  refine rawS (As := [.ref (bV B j), .int i]) (rest := []) F S P1 V1 ⟨Z.1, Z1⟩ hl.1 (s_J1_charAt hj hi hin) ck_J1_charAt_3b067 (big_at 521 (by decide +kernel) (by decide +kernel)) rfl (Nat.zero_le _) dJ0_charAt_5068e_12 (fun v2 n2 M2 H2 locs2 hp2 P2 V2 Z2 => ?_)
  obtain ⟨rfl, rfl, rfl⟩ := hp2
  exact W.zret F.1 F.2.1 F.2.2.2.2.2.1 (pk_nc _) (fun t ht hW => g_end (g := F0 m 0 ls []) (v := some (.int (schar j k))) (Po := PJ (some (.int (schar j k))) n2 M2) ⟨rfl, rfl, rfl⟩ S P2 V2 ⟨Z.1, Z2⟩ ht hW args) V2.2.2 dJ0_charAt_5068e_15 F.2.2.2.2.2.2.1
variable {my : MethodName} {cc : ByteArray} {nL : Nat} {ret : Option FieldType} {Po : Option Value → Nat → Mm → Prop} {pc : Nat} {lv : List (Nat × Value)} {st : List Value}
theorem m_slen {j i : Nat} (hj : j < 46) (hlink : Cond.methodLink my.cls i yJ0_length_8abf5 ∈ lw_big) (hd : decode cc pc = .ok (.invokevirtual i, 3)) (kk : GG l B LY (d + 3) my cc nL ret 0 0 Po 97 0 0 (pc + 3) lv (.int (slen j) :: st) M) (hst : (st.map fun v => v.category).sum ≤ 8 := by exact Nat.le_of_ble_eq_true rfl) : GG l B LY (d + 3) my cc nL ret 0 0 Po 97 0 0 pc lv (.ref (1000 + j) :: st) M := by
  intro p e s m args below meth c H locs ls F S P V Z hl
  show W p l e (rmd (d + 3) 0 0) s m args below meth c H locs 0 0 _ (F0 m pc ls (.ref (ad B (1000 + j)) :: st.map (cv B)))
  rw [ad_s]
  refine rawV (As := []) (b := bS B j) F S P V Z hl.1 (str_recv hj S V) (s_length (d := d + 1) hj) ck_J0_length_8abf5 hlink rfl (by rw [cats_cv]; exact hst) hd (fun v' n' M' H1 locs1 hp P1 V1 Z1 => ?_)
  obtain ⟨rfl, rfl, rfl⟩ := hp
  exact kk p e s m args below meth c H1 locs1 ls F S P1 V1 ⟨Z.1, Z1⟩ hl
theorem m_schar {j i : Nat} {x : Int32} (hj : j < 46) (hin : inb x (stB j).length = true) (hlink : Cond.methodLink my.cls i yJ0_charAt_5068e ∈ lw_big) (hd : decode cc pc = .ok (.invokevirtual i, 3)) (kk : GG l B LY (d + 4) my cc nL ret 0 0 Po 97 0 0 (pc + 3) lv (.int (schar j x.toNatClampNeg) :: st) M) (hst : (st.map fun v => v.category).sum ≤ 8 := by exact Nat.le_of_ble_eq_true rfl) : GG l B LY (d + 4) my cc nL ret 0 0 Po 97 0 0 pc lv (.int x :: .ref (1000 + j) :: st) M := by
  intro p e s m args below meth c H locs ls F S P V Z hl
  show W p l e (rmd (d + 4) 0 0) s m args below meth c H locs 0 0 _ (F0 m pc ls (.int x :: .ref (ad B (1000 + j)) :: st.map (cv B)))
  rw [ad_s]
  refine rawV (As := [.int x]) (b := bS B j) F S P V Z hl.1 (str_recv hj S V) (s_charAt (d := d) hj rfl hin) ck_J0_charAt_5068e hlink rfl (by rw [cats_cv]; exact hst) hd (fun v' n' M' H1 locs1 hp P1 V1 Z1 => ?_)
  obtain ⟨rfl, rfl, rfl⟩ := hp
  exact kk p e s m args below meth c H1 locs1 ls F S P1 V1 ⟨Z.1, Z1⟩ hl
end Str
