/-! THE WHOLE: the law's beginning, its loop, its end. -/
section Raw
variable {p : Program} {l : Launch} {e : Env} {R : Room} {s : State} {m : MethodId} {args : Array Value} {below : List Frame} {meth : Method} {c : Code} {H : Heap} {locs : List Loc} {cells slots : Nat} {Q : State → Prop} {my : MethodName} {cc : ByteArray} {nL : Nat} {ret : Option FieldType} {B : BT} {Ly : Nat → Kd} {n pc : Nat} {M : Mm} {ls : Array Slot} {st : List Value}
theorem r_new {ci N i : Nat} {C : String} {T : u_T} {fks : List Fk} (F : Fx p s m args meth c my cc nL ret) (S : SK B s s.heap) (P : va_P (bD B) classes (wz B Ly n M) H) (V : va_S (Af B) s.heap H locs) (hsz : H.size = bB B + n) (hN : n < 1000) (hcl : classes[ci]? = some (C, T, N)) (hin : ∀ w ∈ u_ws C T N, w ∈ lw_big) (ty : Nat → FieldType) (hty : ∀ k, k < N → parseFieldDescriptor (T k).2.2.1 = some (ty k)) (hL : Ly n = .inl (ci, fks)) (hdf : ∀ j, j < N → ∃ f, fks[j]? = some f ∧ dfb f (ty j) = true) (hz : ∀ k, M n k = 0)
    (hcw : Cond.classLink my.cls i C ∈ lw_big) (hiw : Cond.instantiable C N ∈ lw_big) (hini : Cond.initialized C ∈ lw_big) (hc : cells + 1 ≤ R.cells) (hs : slots + N ≤ R.slots) (hd : decode cc pc = .ok (.new i, 3))
    (kk : ∀ H1 : Heap, va_P (bD B) classes (wz B Ly (n + 1) M) H1 → va_S (Af B) s.heap H1 locs → H1.size = bB B + (n + 1) → W p l e R s m args below meth c H1 locs (cells + 1) (slots + N) Q (F0 m (pc + 3) ls (.ref (ad B n) :: st))) : W p l e R s m args below meth c H locs cells slots Q (F0 m pc ls st) := by
  have hts := F.2.2.2.2.1
  have hKn := S.1.1 ci _ hcl
  refine W.newcK F.1 F.2.1 F.2.2.2.1 (hts _ hcw) (hts _ hiw) (hts _ hini) rfl hd hc hs hKn.2.1 hsz fun H1 kC hkC e1 z1 o1 => ?_
  have o2 : ∀ q, q < H.size → H1[q]? = H[q]? := fun q h => o1 q (by rw [← hsz]; exact h)
  have P1 : va_P (bD B) classes (wz B Ly (n + 1) M) H1 := by
    rw [wz_push]
    refine (P.kept (fun k x hx => o2 x.1 (P k x hx).lt)).app (fun k x hx => ?_)
    have hz1 : k < 1 := (List.getElem?_eq_some_iff.mp hx).1
    rw [show k = 0 by omega] at hx
    cases hx
    rw [cellE_o _ hL, ad_lt B hN]
    refine ⟨_, hcl, (u_born ty hts hin hKn hkC e1 hty).to (fun j hj => ?_)⟩
    obtain ⟨f, hf, hb⟩ := hdf j hj
    have hg := fvals_get B (M n) n fks 0 j f hf
    rw [Nat.zero_add] at hg
    show _ = (fvals B (M n) n 0 fks).getD j .null
    rw [List.getD_eq_getElem?_getD, hg]
    exact fval_def hb (hz j)
  have := kk H1 P1 (grown V (by rw [z1, hsz]; omega) o2) (by rw [z1]; omega)
  rw [ad_lt B hN] at this
  exact this
theorem r_newlong {len : Nat} {x : Int32} (F : Fx p s m args meth c my cc nL ret) (S : SK B s s.heap) (P : va_P (bD B) classes (wz B Ly n M) H) (V : va_S (Af B) s.heap H locs) (hsz : H.size = bB B + n) (hN : n < 1000) (hL : Ly n = .inr (2, len)) (hz : ∀ k, M n k = 0) (haw : Cond.arrayClass .long ∈ lw_big) (hx0 : ¬ x < 0) (hx : x.toNatClampNeg = len) (hby : len * componentBytes .long ≤ 536870912) (hc : cells + 1 ≤ R.cells) (hs : slots + len ≤ R.slots) (hd : decode cc pc = .ok (.newarray .long, 2))
    (kk : ∀ H1 : Heap, va_P (bD B) classes (wz B Ly (n + 1) M) H1 → va_S (Af B) s.heap H1 locs → H1.size = bB B + (n + 1) → W p l e R s m args below meth c H1 locs (cells + 1) (slots + len) Q (F0 m (pc + 2) ls (.ref (ad B n) :: st))) : W p l e R s m args below meth c H locs cells slots Q (F0 m pc ls (.int x :: st)) := by
  have hts := F.2.2.2.2.1
  refine va_newaK F.1 F.2.1 (atype := .long) (hts _ haw) rfl hd rfl hx0 hx hby hc hs hsz fun H1 cA e1 z1 o1 hAr hNm => ?_
  have o2 : ∀ q, q < H.size → H1[q]? = H[q]? := fun q h => o1 q (by rw [← hsz]; exact h)
  have hrow : M n = fun _ => 0 := funext hz
  have h3 := (S.1.2 2 _ rfl).2
  have h4 : bC B 2 = cA := Option.some.inj (h3.symm.trans hNm)
  have P1 : va_P (bD B) classes (wz B Ly (n + 1) M) H1 := by
    rw [wz_push]
    refine (P.kept (fun k x hx => o2 x.1 (P k x hx).lt)).app (fun k x hx => ?_)
    have hz1 : k < 1 := (List.getElem?_eq_some_iff.mp hx).1
    rw [show k = 0 by omega] at hx
    cases hx
    rw [cellE_a _ hL, ad_lt B hN]
    show H1[bB B + n]? = some (vp_cell (bC B 2) (len, arc B (M n) n 2))
    rw [e1, h4, hrow]
    rfl
  have := kk H1 P1 (grown V (by rw [z1, hsz]; omega) o2) (by rw [z1]; omega)
  rw [ad_lt B hN] at this
  exact this
theorem r_callI {d : Nat} {y : MethodName} {bytes : ByteArray} {nL' mc' ms' na i q : Nat} {As : List Value} {n1 : Nat} {M1 : Mm} (F : Fx p s m args meth c my cc nL ret) (S : SK B s s.heap) (P : va_P (bD B) classes (wz B Ly n M) H) (V : va_S (Af B) s.heap H locs) (Z : bB B ≤ s.heap.size ∧ (bA B = true → H.size = bB B + n)) (hls : ls.size = nL) (hc : Con l B Ly d y bytes nL' none mc' ms' (.ref q :: As) n M (PN n1 M1)) (hnm : nmOK y na) (hcode : Cond.code y bytes nL' none ∈ lw_big) (hini : Cond.initialized y.cls ∈ lw_big) (hinst : Cond.instanceMethod y ∈ lw_big) (hnn : y.name = "<init>") (hR : (rmd d mc' ms').frames + 1 ≤ R.frames ∧ 8 + (nL' + 11) + (rmd d mc' ms').locals ≤ R.locals) (hlink : Cond.methodLink my.cls i y ∈ lw_big) (hn : As.length = na) (hst : (st.map fun v => v.category).sum ≤ 8) (hf : cells + mc' ≤ R.cells ∧ slots + ms' ≤ R.slots) (hd : decode cc pc = .ok (.invokespecial i, 3))
    (kk : ∀ (H1 : Heap) (locs1 : List Loc), va_P (bD B) classes (wz B Ly n1 M1) H1 → va_S (Af B) s.heap H1 locs1 → (bA B = true → H1.size = bB B + n1) → W p l e R s m args below meth c H1 locs1 (cells + mc') (slots + ms') Q (F0 m (pc + 3) ls st)) : W p l e R s m args below meth c H locs cells slots Q (F0 m pc ls ((As.map (cv B)).reverse ++ .ref (ad B q) :: st)) := by
  have hts := F.2.2.2.2.1
  have hcw : CallB R s args my.cls i y bytes nL' none (wsO y bytes nL' none) (rmd d mc' ms') mc' ms' na ∧ y.name = "<init>" ∧ (Cond.instanceMethod y).before args s = true :=
    ⟨callB_of na hts (good_wsO (fun _ h => h) hcode) rfl rfl rfl (hts _ hini) (hts _ hlink) hnm hR, hnn, hts _ hinst⟩
  have hrun := va_runI (As := As.map (cv B)) (rest := st) (b := ad B q) (g := F0 m pc ls ((As.map (cv B)).reverse ++ .ref (ad B q) :: st)) (H := H) (locs := locs) (cells := cells) (slots := slots) (meth := meth) (below := below) (e := e) (l := l) ⟨F.1, F.2.1, F.2.2.1, F.2.2.2.1, hts⟩ hc hcw
    ⟨blind _ _, fun U hU hW => pre_at _ S P V Z hU hW⟩ rfl (by rw [List.length_map]; exact hn) hls rfl (F0_room hst) hd hf
  refine run_k hrun V (fun v n' M' H1 locs1 hp P1 V1 Z1 => ?_)
  obtain ⟨rfl, rfl, rfl⟩ := hp
  exact kk H1 locs1 P1 V1 Z1
end Raw
/-- the law from its entry, if the functions of its loop come to true -/
theorem whole_from {p : Program} {e : Env} {s : State} {m : MethodId} {below : List Frame} {meth : Method} {c : Code} (l : Launch) (hflags : l.flags = flags0) {b L : Nat} {xs : Nat → Int32} (hL : L ≤ 3072) (C0 : lw_At p s m meth c b L xs) {M' : Mm} (h : lp_L_law_23 L xs 600 0 miE = some (1, M')) : W p l e room_1 s m #[Value.ref b] below meth c s.heap [] 0 0 (lw_Z below #[Value.ref b] s) (entryFrame m ([Value.ref b] : List Value).toArray 7) := by
  obtain ⟨hx, hb, hr, hml, hown, hts, hX, hbl, hlocks, hgv⟩ := C0
  obtain ⟨D, aS, aV, cA, hb46, hcA, hSK⟩ := law_start hL hts hgv hX hbl
  have hl0 : l.stackTraces = false := by
    rw [Launch.stackTraces, hflags]
    decide +kernel
  generalize hB1 : ((D, s.heap.size, aS, aV, cA, true, L, xs) : BT) = B1
  have S1 : SK B1 s s.heap := by rw [← hB1]; exact hSK true
  have hA1 : bA B1 = true := by rw [← hB1]; rfl
  have hbase : bB B1 = s.heap.size := by rw [← hB1]; rfl
  have F : Fx p s m #[Value.ref b] meth c yL_law cL_law 7 (some .boolean) := ⟨hx, hb, hml, hown, fun w hw => hts w (big_tbl hw), hr, hlocks, fun h => absurd h (by decide)⟩
  have V0 : va_S (Af B1) s.heap s.heap [] := va_S.rf
  have P0 : va_P (bD B1) classes (wz B1 LYc 0 mi_0) s.heap := fun k q hq => by simp [wz] at hq
  rw [lg_entry_eq]
  have hl := lv_entry ([.ref b]) (n := 7) (Nat.le_of_ble_eq_true rfl)
  generalize (lg_sl ([.ref b]) ++ List.replicate (7 - (lg_sl ([.ref b])).length) Slot.unset).toArray = ls at hl ⊢
  have hl : lv_has ls 7 [(0, .ref b)] := hl
  refine r_new (ci := 9) F S1 P0 V0 (by rw [hbase]; rfl) (by decide) rfl okX9.2.1 tyX9 tyX9_ok rfl dfX9 (fun _ => rfl) (big_at 93 (by decide +kernel) (by decide +kernel)) (big_at 94 (by decide +kernel) (by decide +kernel)) (big_at 72 (by decide +kernel) (by decide +kernel)) (Nat.le_of_ble_eq_true rfl) (Nat.le_of_ble_eq_true rfl) dL_law_0 (fun H1 P1 V1 z1 => ?_)
  refine lv_dup hx hb dL_law_3 rfl ?_
  refine r_callI (As := []) (q := 0) F S1 P1 V1 ⟨Nat.le_of_eq hbase, fun _ => z1⟩ hl.1 (i_X9_init_0 (d := 0) hA1) ⟨by decide, by decide, by decide +kernel⟩ (big_at 97 (by decide +kernel) (by decide +kernel)) (big_at 72 (by decide +kernel) (by decide +kernel)) (big_at 96 (by decide +kernel) (by decide +kernel)) rfl ⟨Nat.le_of_ble_eq_true rfl, Nat.le_of_ble_eq_true rfl⟩ (big_at 95 (by decide +kernel) (by decide +kernel)) rfl (Nat.le_of_ble_eq_true rfl) ⟨Nat.le_of_ble_eq_true rfl, Nat.le_of_ble_eq_true rfl⟩ dL_law_4 (fun H2 locs2 P2 V2 z2 => ?_)
  refine lv_astore_n (lv' := [(1, .ref (ad B1 0)), (0, .ref b)]) hx hb dL_law_7 rfl hl (by decide) rfl (fun ls hl => ?_)
  refine r_new (ci := 10) F S1 P2 V2 (z2 hA1) (by decide) rfl okX10.2.1 tyX10 tyX10_ok rfl dfX10 (fun _ => rfl) (big_at 1263 (by decide +kernel) (by decide +kernel)) (big_at 1264 (by decide +kernel) (by decide +kernel)) (big_at 81 (by decide +kernel) (by decide +kernel)) (Nat.le_of_ble_eq_true rfl) (Nat.le_of_ble_eq_true rfl) dL_law_8 (fun H3 P3 V3 z3 => ?_)
  refine lv_dup hx hb dL_law_11 rfl ?_
  refine r_callI (As := []) (q := 81) F S1 P3 V3 ⟨Nat.le_of_eq hbase, fun _ => z3⟩ hl.1 (i_X10_init_81 (d := 0) hA1) ⟨by decide, by decide, by decide +kernel⟩ (big_at 1267 (by decide +kernel) (by decide +kernel)) (big_at 81 (by decide +kernel) (by decide +kernel)) (big_at 1266 (by decide +kernel) (by decide +kernel)) rfl ⟨Nat.le_of_ble_eq_true rfl, Nat.le_of_ble_eq_true rfl⟩ (big_at 1265 (by decide +kernel) (by decide +kernel)) rfl (Nat.le_of_ble_eq_true rfl) ⟨Nat.le_of_ble_eq_true rfl, Nat.le_of_ble_eq_true rfl⟩ dL_law_12 (fun H4 locs4 P4 V4 z4 => ?_)
  refine lv_astore_n (lv' := [(2, .ref (ad B1 81)), (1, .ref (ad B1 0)), (0, .ref b)]) hx hb dL_law_15 rfl hl (by decide) rfl (fun ls hl => ?_)
  refine lv_iconst (v := 1) hx hb dL_law_16 (by decide) ?_
  refine r_newlong (len := 1) F S1 P4 V4 (z4 hA1) (by decide) rfl (fun _ => rfl) (big_at 1853 (by decide +kernel) (by decide +kernel)) (by decide) (by decide) (Nat.le_of_ble_eq_true rfl) (Nat.le_of_ble_eq_true rfl) (Nat.le_of_ble_eq_true rfl) dL_law_17 (fun H5 P5 V5 z5 => ?_)
  refine lv_astore_n (lv' := [(3, .ref (ad B1 96)), (2, .ref (ad B1 81)), (1, .ref (ad B1 0)), (0, .ref b)]) hx hb dL_law_19 rfl hl (by decide) rfl (fun ls hl => ?_)
  refine lv_iconst (v := 0) hx hb dL_law_20 (by decide) ?_
  refine lv_istore (lv' := [(4, .int 0), (3, .ref (ad B1 96)), (2, .ref (ad B1 81)), (1, .ref (ad B1 0)), (0, .ref b)]) hx hb dL_law_21 hl (by decide) rfl (fun ls hl => ?_)
  have hl : lv_has ls 7 [(0, .ref b), (1, .ref (ad B1 0)), (2, .ref (ad B1 81)), (3, .ref (ad B1 96)), (4, .int 0)] := lv_sub hl [4, 3, 2, 1, 0] rfl
  have P6 := conv (B := B1) (H := H5) (by rw [← hB1]; exact hcA) P5
  subst hB1
  have hb1 : ad ((D, s.heap.size, aS, aV, cA, false, L, xs) : BT) (1000 + 46) = b := by rw [ad_s]; exact hb46
  have G := sl_L_law_23 (l := l) hl0 (B := (D, s.heap.size, aS, aV, cA, false, L, xs)) rfl (d := 0) (r := 1) (M' := M') 600 0 miE (0 + 1 + 80 + 1 + 14 + 1) (0 + 14 + 1498 + 33 + 1540 + 1) (by decide) (by decide) h
  have G2 := G p e s m #[Value.ref b] below meth c H5 locs4 ls F (hSK false) P6 V5 ⟨Nat.le_refl _, fun z => by cases z⟩ (by
    show lv_has ls 7 [(0, .ref (ad _ (1000 + 46))), (1, .ref (ad _ 0)), (2, .ref (ad _ 81)), (3, .ref (ad _ 96)), (4, .int 0)]
    rw [hb1]
    exact hl)
  intro T hT X
  obtain ⟨t, a1, o, q1, q2, ⟨v, n', M2, q3, ⟨q4, q5, q6⟩, q7, q8⟩, Lc, ⟨f1, f2, f3⟩, hfree⟩ := G2 T hT X
  refine ⟨t, a1, o, q1, q2, ?_, f1, f2, f3.weaken (fun x hx hlt => absurd hlt (Nat.not_lt.mpr (hfree x hx))) (Nat.le_refl _) (Nat.le_refl _)⟩
  rw [q3, q4]
  rfl
