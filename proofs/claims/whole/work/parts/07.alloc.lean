/-! MAKING CELLS: the rules of constructors (bA B = true: the heap's size is known). -/
def dfb (f : Fk) (t : FieldType) : Bool := match f.1, t with
  | 0, .int => true
  | 0, .boolean => true
  | 1, .array _ => true
  | 1, .object _ => true
  | _, _ => false
theorem fval_def {B : BT} {f : Fk} {t : FieldType} {r : Nat → Int32} {q k : Nat} (h : dfb f t = true) (hz : r k = 0) : defaultValue t = fval B r q k f := by
  obtain ⟨a, b⟩ := f
  unfold dfb at h
  split at h
  · rename_i h1; simp only at h1; subst h1; simp [fval, hz]; rfl
  · rename_i h1; simp only at h1; subst h1; simp [fval, hz]; rfl
  · rename_i h1; simp only at h1; subst h1; simp [fval, hz]; rfl
  · rename_i h1; simp only at h1; subst h1; simp [fval, hz]; rfl
  · cases h
def PN (n1 : Nat) (M1 : Mm) : Option Value → Nat → Mm → Prop := fun v n' M' => v = none ∧ n' = n1 ∧ M' = M1
section Alloc
variable {l : Launch} {B : BT} {Ly : Nat → Kd} {d : Nat} {my : MethodName} {cc : ByteArray} {nL : Nat} {ret : Option FieldType} {mc ms : Nat} {Po : Option Value → Nat → Mm → Prop} {n cells slots pc : Nat} {lv : List (Nat × Value)} {st : List Value} {M M' : Mm}
theorem grown {H H1 : Heap} {s : State} {locs : List Loc} (V : va_S (Af B) s.heap H locs) (z1 : H.size ≤ H1.size) (o1 : ∀ q, q < H.size → H1[q]? = H[q]?) : va_S (Af B) s.heap H1 locs :=
  ⟨Nat.le_trans V.1 z1, fun q h1 h2 => (o1 q (Nat.lt_of_lt_of_le h1 V.1)).trans (V.2.1 q h1 h2), V.2.2⟩
theorem g_new {ci N i : Nat} {C : String} {T : u_T} {fks : List Fk} (hA : bA B = true) (hN : n < 1000) (hcl : classes[ci]? = some (C, T, N)) (hin : ∀ w ∈ u_ws C T N, w ∈ lw_big) (ty : Nat → FieldType) (hty : ∀ k, k < N → parseFieldDescriptor (T k).2.2.1 = some (ty k)) (hL : Ly n = .inl (ci, fks)) (hdf : ∀ j, j < N → ∃ f, fks[j]? = some f ∧ dfb f (ty j) = true) (hz : ∀ k, M n k = 0)
    (hcw : Cond.classLink my.cls i C ∈ lw_big) (hiw : Cond.instantiable C N ∈ lw_big) (hini : Cond.initialized C ∈ lw_big) (hc : cells + 1 ≤ mc) (hs : slots + N ≤ ms) (hd : decode cc pc = .ok (.new i, 3))
    (kk : GG l B Ly d my cc nL ret mc ms Po (n + 1) (cells + 1) (slots + N) (pc + 3) lv (.ref n :: st) M) : GG l B Ly d my cc nL ret mc ms Po n cells slots pc lv st M := by
  intro p e s m args below meth c H locs ls F S P V Z hl
  have hts := F.2.2.2.2.1
  have hKn := S.1.1 ci _ hcl
  have hsz := Z.2 hA
  refine W.newcK F.1 F.2.1 F.2.2.2.1 (hts _ hcw) (hts _ hiw) (hts _ hini) rfl hd hc hs hKn.2.1 hsz fun H1 kC hkC e1 z1 o1 => ?_
  have o2 : ∀ q, q < H.size → H1[q]? = H[q]? := fun q h => o1 q (by rw [← hsz]; exact h)
  have P1 : va_P (bD B) classes (wz B Ly (n + 1) M) H1 := by
    rw [wz_push]
    refine (P.kept (fun k x hx => o2 x.1 (P k x hx).lt)).app (fun k x hx => ?_)
    have hz1 : k < 1 := (List.getElem?_eq_some_iff.mp hx).1
    rw [show k = 0 by omega] at hx
    cases hx
    rw [cellE_o _ hL, ad_lt B hN]
    refine ⟨_, hcl, (u_born ty hts hin hKn hkC e1 hty).to (fun j hj => ?_)⟩
    obtain ⟨f, hf, hb⟩ := hdf j hj
    have hg := fvals_get B (M n) n fks 0 j f hf
    rw [Nat.zero_add] at hg
    show _ = (fvals B (M n) n 0 fks).getD j .null
    rw [List.getD_eq_getElem?_getD, hg]
    exact fval_def hb (hz j)
  have := kk p e s m args below meth c H1 locs ls F S P1 (grown V (by rw [z1, hsz]; omega) o2) ⟨Z.1, fun _ => by rw [z1]; omega⟩ hl
  simp only [List.map_cons, cv, ad_lt B hN] at this
  exact this
theorem g_newarr {t len : Nat} {x : Int32} {atype : ArrayType} {ty : FieldType} (hA : bA B = true) (hN : n < 1000) (hat : newarray.typeOf atype = ty) (ht : (t = 0 ∧ ty = .int) ∨ (t = 1 ∧ ty = .byte) ∨ (t = 2 ∧ ty = .long)) (hL : Ly n = .inr (t, len)) (hz : ∀ k, M n k = 0) (haw : Cond.arrayClass ty ∈ lw_big) (hx0 : ¬ x < 0) (hx : x.toNatClampNeg = len) (hby : len * componentBytes ty ≤ 536870912) (hc : cells + 1 ≤ mc) (hs : slots + len ≤ ms) (hd : decode cc pc = .ok (.newarray atype, 2))
    (kk : GG l B Ly d my cc nL ret mc ms Po (n + 1) (cells + 1) (slots + len) (pc + 2) lv (.ref n :: st) M) : GG l B Ly d my cc nL ret mc ms Po n cells slots pc lv (.int x :: st) M := by
  intro p e s m args below meth c H locs ls F S P V Z hl
  have hts := F.2.2.2.2.1
  have hsz := Z.2 hA
  subst hat
  refine va_newaK F.1 F.2.1 (hts _ haw) rfl hd rfl hx0 hx hby hc hs hsz fun H1 cA e1 z1 o1 hAr hNm => ?_
  have o2 : ∀ q, q < H.size → H1[q]? = H[q]? := fun q h => o1 q (by rw [← hsz]; exact h)
  have hrow : M n = fun _ => 0 := funext hz
  have hcell : vp_cell (bC B t) (len, arc B (M n) n t) = arrV cA len (fun _ => defaultValue (newarray.typeOf atype)) := by
    rcases ht with ⟨rfl, h2⟩ | ⟨rfl, h2⟩ | ⟨rfl, h2⟩
    · have h3 := (S.1.2 0 _ rfl).2
      rw [h2] at hNm ⊢
      have h4 : bC B 0 = cA := Option.some.inj (h3.symm.trans hNm)
      rw [hrow, h4]
      rfl
    · have h3 := (S.1.2 1 _ rfl).2
      rw [h2] at hNm ⊢
      have h4 : bC B 1 = cA := Option.some.inj (h3.symm.trans hNm)
      rw [hrow, h4]
      rfl
    · have h3 := (S.1.2 2 _ rfl).2
      rw [h2] at hNm ⊢
      have h4 : bC B 2 = cA := Option.some.inj (h3.symm.trans hNm)
      rw [hrow, h4]
      rfl
  have P1 : va_P (bD B) classes (wz B Ly (n + 1) M) H1 := by
    rw [wz_push]
    refine (P.kept (fun k x hx => o2 x.1 (P k x hx).lt)).app (fun k x hx => ?_)
    have hz1 : k < 1 := (List.getElem?_eq_some_iff.mp hx).1
    rw [show k = 0 by omega] at hx
    cases hx
    rw [cellE_a _ hL, ad_lt B hN]
    show H1[bB B + n]? = some (vp_cell (bC B t) (len, arc B (M n) n t))
    rw [hcell]
    exact e1
  have := kk p e s m args below meth c H1 locs ls F S P1 (grown V (by rw [z1, hsz]; omega) o2) ⟨Z.1, fun _ => by rw [z1]; omega⟩ hl
  simp only [List.map_cons, cv, ad_lt B hN] at this
  exact this
theorem g_anew {len i : Nat} {x : Int32} (hA : bA B = true) (hN : n < 1000) (hL : Ly n = .inr (3, len)) (hz : ∀ k, M n k = 0) (hcw : Cond.classLink my.cls i RPlay ∈ lw_big) (hx0 : ¬ x < 0) (hx : x.toNatClampNeg = len) (hby : len * 4 ≤ 536870912) (hc : cells + 1 ≤ mc) (hs : slots + len ≤ ms) (hd : decode cc pc = .ok (.anewarray i, 3))
    (kk : GG l B Ly d my cc nL ret mc ms Po (n + 1) (cells + 1) (slots + len) (pc + 3) lv (.ref n :: st) M) : GG l B Ly d my cc nL ret mc ms Po n cells slots pc lv (.int x :: st) M := by
  intro p e s m args below meth c H locs ls F S P V Z hl
  have hts := F.2.2.2.2.1
  have hsz := Z.2 hA
  subst hx
  refine W.anew F.1 F.2.1 F.2.2.2.1 (hts _ hcw) (va_AO.use S.2.2.2.2.2.2.2.2.2.2.1) rfl hd rfl hx0 hby hc hs fun cA kA comp f1 f2 f3 f4 => ?_
  generalize hH1 : H.push ({ cls := cA, slots := Array.replicate x.toNatClampNeg .null, vm := .none } : Cell) = H1
  have z1 : H1.size = H.size + 1 := by rw [← hH1, Array.size_push]
  have e1 : H1[H.size]? = some (arrV cA x.toNatClampNeg (fun _ => .null)) := by rw [← hH1, Array.getElem?_push_size, ← arrV_new]
  have o2 : ∀ q : Nat, q < H.size → H1[q]? = H[q]? := fun q hq => by rw [← hH1, Array.getElem?_push, if_neg (Nat.ne_of_lt hq)]
  obtain ⟨kA', comp', g1, g2, g3, g4⟩ := (S.1.2 3 _ rfl).2
  have h4 : bC B 3 = cA := Option.some.inj (g4.symm.trans f1)
  have P1 : va_P (bD B) classes (wz B Ly (n + 1) M) H1 := by
    rw [wz_push]
    refine (P.kept (fun k x hx => o2 x.1 (P k x hx).lt)).app (fun k x hx => ?_)
    have hz1 : k < 1 := (List.getElem?_eq_some_iff.mp hx).1
    rw [show k = 0 by omega] at hx
    cases hx
    rw [cellE_a _ hL, ad_lt B hN, h4]
    show H1[bB B + n]? = some (vp_cell cA (_, arc B (M n) n 3))
    rw [← hsz, e1]
    show _ = some (vp_cell cA (_, .inr (.inr (.inr (.inr fun i => if M n i = 0 then none else some (ad B (M n i).toNatClampNeg))))))
    rw [vp_cell_q]
    congr 2
    funext j
    simp [hz j, va_rf]
  have := kk p e s m args below meth c H1 locs ls F S P1 (grown V (by rw [z1]; omega) o2) ⟨Z.1, fun _ => by rw [z1, hsz]; omega⟩ hl
  simp only [List.map_cons, cv, ad_lt B hN] at this
  rw [hsz]
  exact this
theorem g_aast {q len v : Nat} {i : Int32} {fks : List Fk} (hA : bA B = true) (hN : n ≤ 1000) (hq : q < n) (hL : Ly q = .inr (3, len)) (hv : v < n) (hLv : Ly v = .inl (3, fks)) (h0 : 0 < v) (hi : vp_in i len) (hd : decode cc pc = .ok (.aastore, 1)) (hM : M' = mset M q i.toNatClampNeg (nI v))
    (kk : GG l B Ly d my cc nL ret mc ms Po n cells slots (pc + 1) lv st M') : GG l B Ly d my cc nL ret mc ms Po n cells slots pc lv (.ref v :: .int i :: .ref q :: st) M := by
  subst hM
  intro p e s m args below meth c H locs ls F S P V Z hl
  have ha := wz_row (B := B) (M := M) hq hL
  have hvv := wz_obj (B := B) (M := M) hv hLv
  have hD := wz_D (B := B) (Ly := Ly) (M := M) hN
  have hlt : i.toNatClampNeg < len := Nat.not_le.mp fun z => hi (Or.inr z)
  have hi0 : ¬ i < 0 := fun z => hi (Or.inl z)
  obtain ⟨r', hr', cellV, g1, g2, g3, -⟩ := P v _ hvv
  have hcls := (S.1.1 3 _ rfl).2
  obtain ⟨kA, comp, k1, k2, k3, -⟩ := (S.1.2 3 _ rfl).2
  have hcomp : comp = (bD B).1 3 := Option.some.inj (k3.symm.trans hcls.1)
  subst hcomp
  obtain ⟨kC, hkC, -⟩ := hcls.2
  refine W.aast F.1 F.2.1 (P q _ ha) (fun q h => by cases h) (fun h => by cases h) k1 k2 rfl hkC ⟨hi0, by show _ < (arrV _ _ _).slots.size; rw [arrV_size]; exact hlt⟩ g1 (fun q h => by rw [g3] at h; cases h) (by rw [g2]; exact hkC) (by rw [g2]; exact va_assign hcls) rfl rfl hd fun H1 e2 z oq => ?_
  have e3 : (wz B Ly n M).set q (ad B q, .inl (bC B 3, (len, arc B (upd (M q) i.toNatClampNeg (nI v)) q 3))) = wz B Ly n (mset M q i.toNatClampNeg (nI v)) := by
    rw [← wz_set (M := M) (M' := mset M q i.toNatClampNeg (nI v)) (q := q) (fun a h => mset_off M _ _ h), mset_same, cellE_a _ hL]
  have P1 := P.set (e := .inl (bC B 3, (len, arc B (upd (M q) i.toNatClampNeg (nI v)) q 3))) hD ha (by
    show H1[ad B q]? = some (vp_cell _ _)
    rw [e2]
    show some ((vp_cell (bC B 3) (len, .inr (.inr (.inr (.inr fun i => if M q i = 0 then none else some (ad B (M q i).toNatClampNeg)))))).setSlot _ _) = some (vp_cell (bC B 3) (len, .inr (.inr (.inr (.inr fun j => if upd (M q) i.toNatClampNeg (nI v) j = 0 then none else some (ad B (upd (M q) i.toNatClampNeg (nI v) j).toNatClampNeg))))))
    rw [vp_cell_q, vp_cell_q, arrV_store]
    congr 2
    funext j
    by_cases hj : j = i.toNatClampNeg
    · subst hj
      simp [updV, upd, va_rf, nI_ne0 h0 (by omega : v < 2 ^ 31), nI_clamp (by omega : v < 2 ^ 31)]
    · simp [updV, upd, hj]) oq
  rw [e3] at P1
  exact kk p e s m args below meth c H1 _ ls F S P1 (V.put z oq (hD.2 q _ ha)) ⟨Z.1, fun w => by rw [z]; exact Z.2 w⟩ hl
/-- Object's constructor -/
theorem g_objinit {q i : Nat} (hq : my.cls = my.cls) (hlink : Cond.methodLink my.cls i objectInit ∈ lw_big) (hinst : Cond.instanceMethod objectInit ∈ lw_big) (hcode : Cond.code objectInit ⟨#[0xb1]⟩ 1 none ∈ lw_big) (hst : (st.map fun v => v.category).sum ≤ 8) (hd : decode cc pc = .ok (.invokespecial i, 3))
    (kk : GG l B Ly (d + 1) my cc nL ret mc ms Po n cells slots (pc + 3) lv st M) : GG l B Ly (d + 1) my cc nL ret mc ms Po n cells slots pc lv (.ref q :: st) M := by
  intro p e s m args below meth c H locs ls F S P V Z hl
  have hts := F.2.2.2.2.1
  exact W.objInit F.1 F.2.1 F.2.2.2.1 (hts _ hlink) (hts _ hinst) (hts _ hcode) rfl (hl.1.trans F.2.2.1.symm) rfl hd (Nat.succ_le_succ (Nat.zero_le _)) (by rw [cats_cv]; show 2 * 0 + _ + 12 ≤ 35 * (d + 1) + 34; omega) (kk p e s m args below meth c H locs ls F S P V Z hl)
/-- a constructor of ours, by an ordinary link or a nest mate's -/
theorem g_callI {y : MethodName} {bytes : ByteArray} {nL' mc' ms' na i q : Nat} {As : List Value} {n1 : Nat} {M1 : Mm} (hc : Con l B Ly d y bytes nL' none mc' ms' (.ref q :: As) n M (PN n1 M1)) (hnm : nmOK y na) (hcode : Cond.code y bytes nL' none ∈ lw_big) (hini : Cond.initialized y.cls ∈ lw_big) (hinst : Cond.instanceMethod y ∈ lw_big) (hnn : y.name = "<init>") (hroom : nL' ≤ 16) (hlink : Cond.methodLink my.cls i y ∈ lw_big) (hn : As.length = na) (hst : (st.map fun v => v.category).sum ≤ 8) (hf : cells + mc' ≤ mc ∧ slots + ms' ≤ ms) (hd : decode cc pc = .ok (.invokespecial i, 3))
    (kk : GG l B Ly (d + 1) my cc nL ret mc ms Po n1 (cells + mc') (slots + ms') (pc + 3) lv st M1) : GG l B Ly (d + 1) my cc nL ret mc ms Po n cells slots pc lv (As.reverse ++ .ref q :: st) M := by
  intro p e s m args below meth c H locs ls F S P V Z hl
  have hts := F.2.2.2.2.1
  have hcw : CallB (rmd (d + 1) mc ms) s args my.cls i y bytes nL' none (wsO y bytes nL' none) (rmd d mc' ms') mc' ms' na ∧ y.name = "<init>" ∧ (Cond.instanceMethod y).before args s = true :=
    ⟨callB_of na hts (good_wsO (fun _ h => h) hcode) rfl rfl rfl (hts _ hini) (hts _ hlink) hnm (rm_ok hroom), hnn, hts _ hinst⟩
  have hrun := va_runI (As := As.map (cv B)) (rest := st.map (cv B)) (b := ad B q) (g := F0 m pc ls ((As.reverse ++ .ref q :: st).map (cv B))) (H := H) (locs := locs) (cells := cells) (slots := slots) (meth := meth) (below := below) (e := e) (l := l) ⟨F.1, F.2.1, F.2.2.1, F.2.2.2.1, hts⟩ hc hcw
    ⟨blind _ _, fun U hU hW => pre_at _ S P V Z hU hW⟩ rfl (by rw [List.length_map]; exact hn) hl.1 (by show (As.reverse ++ .ref q :: st).map (cv B) = _; rw [List.map_append, List.map_reverse]; rfl) (F0_room (by rw [cats_cv]; exact hst)) hd hf
  refine run_k hrun V (fun v n' M' H1 locs1 hp P1 V1 Z1 => ?_)
  obtain ⟨rfl, rfl, rfl⟩ := hp
  exact kk p e s m args below meth c H1 locs1 ls F S P1 V1 ⟨Z.1, Z1⟩ hl
theorem g_callIN {y : MethodName} {bytes : ByteArray} {nL' mc' ms' na i q : Nat} {host : String} {As : List Value} {n1 : Nat} {M1 : Mm} (hc : Con l B Ly d y bytes nL' none mc' ms' (.ref q :: As) n M (PN n1 M1)) (hnm : nmOK y na) (hcode : Cond.code y bytes nL' none ∈ lw_big) (hini : Cond.initialized y.cls ∈ lw_big) (hinst : Cond.instanceMethod y ∈ lw_big) (hnn : y.name = "<init>") (hroom : nL' ≤ 16) (hlink : (my.cls, i, y, host) ∈ nestq) (hn : As.length = na) (hst : (st.map fun v => v.category).sum ≤ 8) (hf : cells + mc' ≤ mc ∧ slots + ms' ≤ ms) (hd : decode cc pc = .ok (.invokespecial i, 3))
    (kk : GG l B Ly (d + 1) my cc nL ret mc ms Po n1 (cells + mc') (slots + ms') (pc + 3) lv st M1) : GG l B Ly (d + 1) my cc nL ret mc ms Po n cells slots pc lv (As.reverse ++ .ref q :: st) M := by
  intro p e s m args below meth c H locs ls F S P V Z hl
  have hts := F.2.2.2.2.1
  have hcw : va_CN (rmd (d + 1) mc ms) s args my.cls i y host bytes nL' none (wsO y bytes nL' none) (rmd d mc' ms') mc' ms' na ∧ y.name = "<init>" ∧ (Cond.instanceMethod y).before args s = true :=
    ⟨va_cnB na hts (good_wsO (fun _ h => h) hcode) rfl rfl rfl (S.2.1 _ hlink) (hts _ hini) hnm (rm_ok hroom), hnn, hts _ hinst⟩
  have hrun := va_runIN (As := As.map (cv B)) (rest := st.map (cv B)) (b := ad B q) (g := F0 m pc ls ((As.reverse ++ .ref q :: st).map (cv B))) (H := H) (locs := locs) (cells := cells) (slots := slots) (meth := meth) (below := below) (e := e) (l := l) ⟨F.1, F.2.1, F.2.2.1, F.2.2.2.1, hts⟩ hc hcw
    ⟨blind _ _, fun U hU hW => pre_at _ S P V Z hU hW⟩ rfl (by rw [List.length_map]; exact hn) hl.1 (by show (As.reverse ++ .ref q :: st).map (cv B) = _; rw [List.map_append, List.map_reverse]; rfl) (F0_room (by rw [cats_cv]; exact hst)) hd hf
  refine run_k hrun V (fun v n' M' H1 locs1 hp P1 V1 Z1 => ?_)
  obtain ⟨rfl, rfl, rfl⟩ := hp
  exact kk p e s m args below meth c H1 locs1 ls F S P1 V1 ⟨Z.1, Z1⟩ hl
end Alloc
