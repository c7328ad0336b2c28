/-! RULES OF THE MEMORY: fields, arrays, making, answers. -/
/-- a class's tables -/
def clsOK (ci : Nat) (C : String) (T : u_T) (N : Nat) : Prop := classes[ci]? = some (C, T, N) ∧ (∀ w ∈ u_ws C T N, w ∈ lw_big) ∧ ∃ ty : Nat → FieldType, (∀ k, k < N → parseFieldDescriptor (T k).2.2.1 = some (ty k)) ∧ (∀ a, a < N → ∀ b, b < N → a ≠ b → (T a).2.1 ≠ (T b).2.1)
section Heap
variable {l : Launch} {B : BT} {Ly : Nat → Kd} {d : Nat} {my : MethodName} {cc : ByteArray} {nL : Nat} {ret : Option FieldType} {mc ms : Nat} {Po : Option Value → Nat → Mm → Prop} {n cells slots pc : Nat} {lv : List (Nat × Value)} {st : List Value} {M : Mm}
theorem wz_put {q k ci : Nat} {fks : List Fk} {z : Fk} (hL : Ly q = .inl (ci, fks)) (hf : fks[k]? = some z) (v : Int32) : (wz B Ly n M).set q (ad B q, .inr (ci, (fvals B (M q) q 0 fks).set k (fval B (upd (M q) k v) q k z))) = wz B Ly n (mset M q k v) := by
  rw [← wz_set (M := M) (M' := mset M q k v) (q := q) (fun a h => mset_off M k v h), mset_same, cellE_o _ hL]
  have := fvals_set B (M q) q v fks 0 k z hf
  rw [Nat.zero_add] at this
  rw [this]
theorem wz_arr {q k len : Nat} {t : Nat} (ht : t = 0 ∨ t = 1) (hL : Ly q = .inr (t, len)) (v : Int32) : (wz B Ly n M).set q (ad B q, .inl (bC B t, (len, .inl (upd (M q) k v)))) = wz B Ly n (mset M q k v) := by
  rw [← wz_set (M := M) (M' := mset M q k v) (q := q) (fun a h => mset_off M k v h), mset_same, cellE_a _ hL]
  rcases ht with rfl | rfl <;> rfl
theorem wz_obj {q ci : Nat} {fks : List Fk} (hq : q < n) (hL : Ly q = .inl (ci, fks)) : (wz B Ly n M)[q]? = some (ad B q, .inr (ci, fvals B (M q) q 0 fks)) := by rw [wz_get hq, cellE_o _ hL]
theorem wz_row {q t len : Nat} (hq : q < n) (hL : Ly q = .inr (t, len)) : (wz B Ly n M)[q]? = some (ad B q, .inl (bC B t, (len, arc B (M q) q t))) := by rw [wz_get hq, cellE_a _ hL]
/-- getfield -/
theorem g_getv {ci : Nat} {C : String} {T : u_T} {N q k i : Nat} {fks : List Fk} {z : Fk} {v : Value} (hc : clsOK ci C T N) (hq : q < n) (hL : Ly q = .inl (ci, fks)) (hf : fks[k]? = some z) (hk : k < N) (hw : Cond.fieldLink my.cls i C (T k).2.1 (T k).2.2.1 ∈ lw_big) (hr : (T k).1 = C) (hd : decode cc pc = .ok (.getfield i, 3)) (hv : fval B (M q) q k z = cv B v)
    (kk : GG l B Ly d my cc nL ret mc ms Po n cells slots (pc + 3) lv (v :: st) M) : GG l B Ly d my cc nL ret mc ms Po n cells slots pc lv (.ref q :: st) M := by
  intro p e s m args below meth c H locs ls F S P V Z hl
  have hg := fvals_get B (M q) q fks 0 k z hf
  rw [Nat.zero_add, hv] at hg
  exact va_get F.1 F.2.1 F.2.2.2.2.1 hc.2.1 F.2.2.2.1 S.1 P q (wz_obj hq hL) hc.1 k hk (F.2.2.2.2.1 _ hw) (by rw [hr]; exact fun _ h => h) hg hd (kk p e s m args below meth c H locs ls F S P V Z hl)
theorem g_geti {ci : Nat} {C : String} {T : u_T} {N q k i z : Nat} {fks : List Fk} (hc : clsOK ci C T N) (hq : q < n) (hL : Ly q = .inl (ci, fks)) (hf : fks[k]? = some (0, z)) (hk : k < N) (hw : Cond.fieldLink my.cls i C (T k).2.1 (T k).2.2.1 ∈ lw_big) (hr : (T k).1 = C) (hd : decode cc pc = .ok (.getfield i, 3))
    (kk : GG l B Ly d my cc nL ret mc ms Po n cells slots (pc + 3) lv (.int (M q k) :: st) M) : GG l B Ly d my cc nL ret mc ms Po n cells slots pc lv (.ref q :: st) M :=
  g_getv hc hq hL hf hk hw hr hd rfl kk
theorem g_getr {ci : Nat} {C : String} {T : u_T} {N q k i z : Nat} {fks : List Fk} (hc : clsOK ci C T N) (hq : q < n) (hL : Ly q = .inl (ci, fks)) (hf : fks[k]? = some (2, z)) (hk : k < N) (hw : Cond.fieldLink my.cls i C (T k).2.1 (T k).2.2.1 ∈ lw_big) (hr : (T k).1 = C) (hd : decode cc pc = .ok (.getfield i, 3))
    (kk : GG l B Ly d my cc nL ret mc ms Po n cells slots (pc + 3) lv (.ref (q + z) :: st) M) : GG l B Ly d my cc nL ret mc ms Po n cells slots pc lv (.ref q :: st) M :=
  g_getv hc hq hL hf hk hw hr hd rfl kk
theorem g_geta {ci : Nat} {C : String} {T : u_T} {N q k i z : Nat} {fks : List Fk} (hc : clsOK ci C T N) (hq : q < n) (hL : Ly q = .inl (ci, fks)) (hf : fks[k]? = some (3, z)) (hk : k < N) (hw : Cond.fieldLink my.cls i C (T k).2.1 (T k).2.2.1 ∈ lw_big) (hr : (T k).1 = C) (hd : decode cc pc = .ok (.getfield i, 3))
    (kk : GG l B Ly d my cc nL ret mc ms Po n cells slots (pc + 3) lv (.ref z :: st) M) : GG l B Ly d my cc nL ret mc ms Po n cells slots pc lv (.ref q :: st) M :=
  g_getv hc hq hL hf hk hw hr hd rfl kk
theorem g_getm {ci : Nat} {C : String} {T : u_T} {N q k i z q' : Nat} {fks : List Fk} (hc : clsOK ci C T N) (hq : q < n) (hL : Ly q = .inl (ci, fks)) (hf : fks[k]? = some (1, z)) (hk : k < N) (hw : Cond.fieldLink my.cls i C (T k).2.1 (T k).2.2.1 ∈ lw_big) (hr : (T k).1 = C) (hd : decode cc pc = .ok (.getfield i, 3)) (hm : M q k = nI q') (h0 : 0 < q') (h1 : q' < 1000)
    (kk : GG l B Ly d my cc nL ret mc ms Po n cells slots (pc + 3) lv (.ref q' :: st) M) : GG l B Ly d my cc nL ret mc ms Po n cells slots pc lv (.ref q :: st) M := by
  refine g_getv hc hq hL hf hk hw hr hd ?_ kk
  show (if M q k = 0 then _ else _) = _
  rw [hm, if_neg (nI_ne0 h0 (by omega)), nI_clamp (by omega)]
  rfl
/-- putfield: the kit's row with the heap's size -/
theorem g_putv {ci : Nat} {C : String} {T : u_T} {N q k i : Nat} {fks : List Fk} {z : Fk} {v : Value} {x : Int32} {ty : FieldType} (hN : n ≤ 1000) (hc : clsOK ci C T N) (hq : q < n) (hL : Ly q = .inl (ci, fks)) (hf : fks[k]? = some z) (hk : k < N) (hw : Cond.fieldLink my.cls i C (T k).2.1 (T k).2.2.1 ∈ lw_big) (hr : (T k).1 = C)
    (hfin : (T k).2.2.2 = false ∨ ((T k).2.2.2 = true ∧ my.name = "<init>" ∧ (T k).1 = my.cls)) (hty : parseFieldDescriptor (T k).2.2.1 = some ty) (hv : fval B (upd (M q) k x) q k z = cv B v) (hn : narrow ty (cv B v) = cv B v) (hfit : fits ty (cv B v) = true) (hd : decode cc pc = .ok (.putfield i, 3))
    (kk : GG l B Ly d my cc nL ret mc ms Po n cells slots (pc + 3) lv st (mset M q k x)) : GG l B Ly d my cc nL ret mc ms Po n cells slots pc lv (v :: .ref q :: st) M := by
  intro p e s m args below meth c H locs ls F S P V Z hl
  have he := wz_obj (B := B) (M := M) hq hL
  have hD := wz_D (B := B) (Ly := Ly) (M := M) hN
  obtain ⟨hc1, hin, ty0, hty0, hnm⟩ := hc
  have hts := F.2.2.2.2.1
  have hK := S.1
  have hlen : k < (fvals B (M q) q 0 fks).length := by rw [fvals_len]; exact (List.getElem?_eq_some_iff.mp hf).1
  have hap := va_apart (own := my.cls) hts hin ty0 hty0 hnm hK hc1
  obtain ⟨r, h1, cell, q1, q2, q3, q4⟩ := P q _ he
  have hr' : r = (C, T, N) := Option.some.inj (h1.symm.trans hc1)
  subst hr'
  obtain ⟨hS, hfc, kC, hkC, hkind⟩ := hK.1 ci _ hc1
  obtain ⟨cf, kf, fi, f, hi, hsl⟩ := hS k hk
  have hlay := hts _ (hin _ (u_in_lay hk))
  have hst := (u_facts hfc hkC (u_lays hts hin hk) hi).1
  have hlink := hts _ hw
  have hsame : s.fieldFound? C (T k).2.1 (T k).2.2.1 = some (cf, kf, fi, f) := by rw [← hr]; exact hi
  have goal : ∀ (H' : Heap), H'[ad B q]? = some (cell.setSlot f.slot (cv B v)) → H'.size = H.size → (∀ a, a ≠ ad B q → H'[a]? = H[a]?) → W p l e (rmd d mc ms) s m args below meth c H' (locs ++ [⟨ad B q, f.slot⟩]) cells slots (MQ below (QQ B Ly Po) args s mc ms (Af B)) (F0 m (pc + 3) ls (st.map (cv B))) := by
    intro H' e1 e2 e3
    rw [hsl] at e1 ⊢
    have e4 : (wz B Ly n M).set q (ad B q, .inr (ci, (fvals B (M q) q 0 fks).set k (cv B v))) = wz B Ly n (mset M q k x) := by rw [← hv]; exact wz_put hL hf x
    have P' := P.set (e := .inr (ci, (fvals B (M q) q 0 fks).set k (cv B v))) hD he ⟨_, hc1, t_OB.to (V := updV (vp_V (fvals B (M q) q 0 fks)) k (cv B v)) ⟨_, e1, q2, q3, t_set q4 hap hk (cv B v)⟩ (fun j _ => vp_updV_set hlen (cv B v) j)⟩ e3
    rw [e4] at P'
    exact kk p e s m args below meth c H' _ ls F S P' (V.put e2 e3 (hD.2 q _ he)) ⟨Z.1, fun z => by rw [e2]; exact Z.2 z⟩ hl
  rcases hfin with hfin | ⟨hfin, hin2, hdecl⟩
  · unfold u_lay at hlay
    rw [if_neg (by rw [hfin]; decide)] at hlay
    have h6 := u_store hfc hkC hkind hlay hi hty hn hfit
    exact W.putK F.1 F.2.1 (f := f) ⟨F.2.2.2.1, hlink, ⟨_, _, _, hsame⟩, hst⟩ (by rw [q2]; exact h6) q1 q3 (by rw [hsl]; exact k2_hasslot (q4 k hk)) rfl rfl hd goal
  · unfold u_lay at hlay
    rw [if_pos hfin] at hlay
    have hcf : m.cls = cf := by
      obtain ⟨_, _, c', _, _, _, -, -, hf', -, -, -, hown2, -⟩ := Cond.laysFinal_spec hlay
      have e1 : c' = cf := by have := hi.symm.trans hf'; simp at this; exact this.1.symm
      rw [hdecl] at hown2
      rw [← e1]; exact Option.some.inj (F.2.2.2.1.symm.trans hown2)
    have h6 := u_fits hfc hkC hkind (Or.inr hlay) hi hty hn hfit
    exact W.putFinK F.1 F.2.1 F.2.2.2.1 hlink hsame hst hcf (F.2.2.2.2.2.2.2 hin2) (by rw [q2]; exact h6) q1 q3 (by rw [hsl]; exact k2_hasslot (q4 k hk)) rfl rfl hd goal
/-- an int's field -/
theorem g_puti {ci : Nat} {C : String} {T : u_T} {N q k i z : Nat} {fks : List Fk} {x : Int32} (hN : n ≤ 1000) (hc : clsOK ci C T N) (hq : q < n) (hL : Ly q = .inl (ci, fks)) (hf : fks[k]? = some (0, z)) (hk : k < N) (hw : Cond.fieldLink my.cls i C (T k).2.1 (T k).2.2.1 ∈ lw_big) (hr : (T k).1 = C) (hfin : (T k).2.2.2 = false) (hty : parseFieldDescriptor (T k).2.2.1 = some .int) (hd : decode cc pc = .ok (.putfield i, 3))
    (kk : GG l B Ly d my cc nL ret mc ms Po n cells slots (pc + 3) lv st (mset M q k x)) : GG l B Ly d my cc nL ret mc ms Po n cells slots pc lv (.int x :: .ref q :: st) M :=
  g_putv hN hc hq hL hf hk hw hr (Or.inl hfin) hty (by simp [fval, upd, cv]) rfl rfl hd kk
/-- a boolean's field -/
theorem g_putz {ci : Nat} {C : String} {T : u_T} {N q k i z : Nat} {fks : List Fk} {x : Int32} (hN : n ≤ 1000) (hc : clsOK ci C T N) (hq : q < n) (hL : Ly q = .inl (ci, fks)) (hf : fks[k]? = some (0, z)) (hk : k < N) (hw : Cond.fieldLink my.cls i C (T k).2.1 (T k).2.2.1 ∈ lw_big) (hr : (T k).1 = C) (hfin : (T k).2.2.2 = false) (hty : parseFieldDescriptor (T k).2.2.1 = some .boolean) (hx : x = 0 ∨ x = 1) (hd : decode cc pc = .ok (.putfield i, 3))
    (kk : GG l B Ly d my cc nL ret mc ms Po n cells slots (pc + 3) lv st (mset M q k x)) : GG l B Ly d my cc nL ret mc ms Po n cells slots pc lv (.int x :: .ref q :: st) M :=
  g_putv hN hc hq hL hf hk hw hr (Or.inl hfin) hty (by simp [fval, upd, cv]) (by rcases hx with rfl | rfl <;> rfl) (by rcases hx with rfl | rfl <;> rfl) hd kk
/-- a reference's field -/
theorem g_putm {ci : Nat} {C : String} {T : u_T} {N q k i z q' : Nat} {fks : List Fk} {ty : FieldType} (hN : n ≤ 1000) (hc : clsOK ci C T N) (hq : q < n) (hL : Ly q = .inl (ci, fks)) (hf : fks[k]? = some (1, z)) (hk : k < N) (hw : Cond.fieldLink my.cls i C (T k).2.1 (T k).2.2.1 ∈ lw_big) (hr : (T k).1 = C)
    (hfin : (T k).2.2.2 = false ∨ ((T k).2.2.2 = true ∧ my.name = "<init>" ∧ (T k).1 = my.cls)) (hty : parseFieldDescriptor (T k).2.2.1 = some ty) (hs : (∃ s, ty = .object s) ∨ ∃ t, ty = .array t) (h0 : 0 < q') (h1 : q' < 1000) (hd : decode cc pc = .ok (.putfield i, 3))
    (kk : GG l B Ly d my cc nL ret mc ms Po n cells slots (pc + 3) lv st (mset M q k (nI q'))) : GG l B Ly d my cc nL ret mc ms Po n cells slots pc lv (.ref q' :: .ref q :: st) M := by
  refine g_putv hN hc hq hL hf hk hw hr hfin hty ?_ ?_ ?_ hd kk
  · show (if upd (M q) k (nI q') k = 0 then _ else _) = _
    rw [show upd (M q) k (nI q') k = nI q' by simp [upd], if_neg (nI_ne0 h0 (by omega)), nI_clamp (by omega)]
    rfl
  · rcases hs with ⟨z, rfl⟩ | ⟨z, rfl⟩ <;> rfl
  · rcases hs with ⟨z, rfl⟩ | ⟨z, rfl⟩ <;> rfl
/-- rows of ints and of bytes -/
theorem g_iald {q len : Nat} {i : Int32} (hq : q < n) (hL : Ly q = .inr (0, len)) (hin : vp_in i len) (hd : decode cc pc = .ok (.iaload, 1))
    (kk : GG l B Ly d my cc nL ret mc ms Po n cells slots (pc + 1) lv (.int (M q i.toNatClampNeg) :: st) M) : GG l B Ly d my cc nL ret mc ms Po n cells slots pc lv (.int i :: .ref q :: st) M := by
  intro p e s m args below meth c H locs ls F S P V Z hl
  exact va_iald F.1 F.2.1 S.1 P q 0 (wz_row hq hL) rfl hin hd (kk p e s m args below meth c H locs ls F S P V Z hl)
theorem g_bald {q len : Nat} {i : Int32} (hq : q < n) (hL : Ly q = .inr (1, len)) (hin : vp_in i len) (hd : decode cc pc = .ok (.baload, 1))
    (kk : GG l B Ly d my cc nL ret mc ms Po n cells slots (pc + 1) lv (.int (M q i.toNatClampNeg) :: st) M) : GG l B Ly d my cc nL ret mc ms Po n cells slots pc lv (.int i :: .ref q :: st) M := by
  intro p e s m args below meth c H locs ls F S P V Z hl
  exact va_bald F.1 F.2.1 S.1 P q 1 (wz_row hq hL) rfl hin hd (kk p e s m args below meth c H locs ls F S P V Z hl)
/-- marks: the cell's number by its place -/
theorem g_aald {q len : Nat} {i : Int32} (hq : q < n) (hL : Ly q = .inr (4, len)) (hin : vp_in i len) (hd : decode cc pc = .ok (.aaload, 1))
    (kk : GG l B Ly d my cc nL ret mc ms Po n cells slots (pc + 1) lv (.ref (q + 1 + 10 * i.toNatClampNeg) :: st) M) : GG l B Ly d my cc nL ret mc ms Po n cells slots pc lv (.int i :: .ref q :: st) M := by
  intro p e s m args below meth c H locs ls F S P V Z hl
  exact va_aldq F.1 F.2.1 S.1 P q 4 (wz_row hq hL) rfl hin hd (kk p e s m args below meth c H locs ls F S P V Z hl)
theorem g_alen {q t len : Nat} {v : Int32} (hq : q < n) (hL : Ly q = .inr (t, len)) (ht : t < 5) (hv : nI len = v) (hd : decode cc pc = .ok (.arraylength, 1))
    (kk : GG l B Ly d my cc nL ret mc ms Po n cells slots (pc + 1) lv (.int v :: st) M) : GG l B Ly d my cc nL ret mc ms Po n cells slots pc lv (.ref q :: st) M := by
  intro p e s m args below meth c H locs ls F S P V Z hl
  have h : ∃ ty, (tysB B)[t]? = some (bC B t, ty) := by
    match t, ht with
    | 0, _ => exact ⟨_, rfl⟩
    | 1, _ => exact ⟨_, rfl⟩
    | 2, _ => exact ⟨_, rfl⟩
    | 3, _ => exact ⟨_, rfl⟩
    | 4, _ => exact ⟨_, rfl⟩
  obtain ⟨ty, hty⟩ := h
  exact va_alen F.1 F.2.1 S.1 P q t (wz_row hq hL) hty hv hd (kk p e s m args below meth c H locs ls F S P V Z hl)
theorem g_iast {q len : Nat} {i x : Int32} (hN : n ≤ 1000) (hA : bA B = false) (hq : q < n) (hL : Ly q = .inr (0, len)) (hin : vp_in i len) (hd : decode cc pc = .ok (.iastore, 1))
    (kk : GG l B Ly d my cc nL ret mc ms Po n cells slots (pc + 1) lv st (mset M q i.toNatClampNeg x)) : GG l B Ly d my cc nL ret mc ms Po n cells slots pc lv (.int x :: .int i :: .ref q :: st) M := by
  intro p e s m args below meth c H locs ls F S P V Z hl
  refine va_iast F.1 F.2.1 S.1 P (wz_D hN) V q 0 (wz_row hq hL) rfl hin hd (fun H1 locs1 P1 D1 V1 => ?_)
  rw [wz_arr (Or.inl rfl) hL] at P1
  exact kk p e s m args below meth c H1 locs1 ls F S P1 V1 ⟨Z.1, fun z => by rw [hA] at z; cases z⟩ hl
theorem g_bast {q len : Nat} {i x : Int32} (hN : n ≤ 1000) (hA : bA B = false) (hq : q < n) (hL : Ly q = .inr (1, len)) (hin : vp_in i len) (hd : decode cc pc = .ok (.bastore, 1))
    (kk : GG l B Ly d my cc nL ret mc ms Po n cells slots (pc + 1) lv st (mset M q i.toNatClampNeg (vp_nar .byte x))) : GG l B Ly d my cc nL ret mc ms Po n cells slots pc lv (.int x :: .int i :: .ref q :: st) M := by
  intro p e s m args below meth c H locs ls F S P V Z hl
  refine va_bast F.1 F.2.1 S.1 P (wz_D hN) V q 1 (wz_row hq hL) rfl hin hd (fun H1 locs1 P1 D1 V1 => ?_)
  rw [wz_arr (Or.inr rfl) hL] at P1
  exact kk p e s m args below meth c H1 locs1 ls F S P1 V1 ⟨Z.1, fun z => by rw [hA] at z; cases z⟩ hl
/-- answers -/
theorem g_end {g : JFrame} {v : Option Value} {H : Heap} {s t : State} {locs : List Loc} (hpo : Po v n M) (S : SK B s s.heap) (P : va_P (bD B) classes (wz B Ly n M) H) (V : va_S (Af B) s.heap H locs) (Z : bB B ≤ s.heap.size ∧ (bA B = true → H.size = bB B + n)) (ht : t.heap = H) (hW : s.WarmedH t.vm) (args : Array Value) : QQ B Ly Po args s (.returned (v.map (cv B))) t := by
  refine ⟨v, n, M, rfl, hpo, ⟨by rw [ht]; exact P, ?_, fun z => by rw [ht]; exact Z.2 z⟩, V.F ht⟩
  exact (S.warm hW).kept (fun a h1 h2 => by rw [ht]; exact V.2.1 a h1 h2)
theorem g_zret {v : Int32} {ty : FieldType} (hr : ret = some ty) (hn : narrow ty (.int v) = .int v) (hpo : Po (some (.int v)) n M) (hd : decode cc pc = .ok (.ireturn, 1)) : GG l B Ly d my cc nL ret cells slots Po n cells slots pc lv [.int v] M := by
  intro p e s m args below meth c H locs ls F S P V Z hl
  exact W.zret F.1 F.2.1 (F.2.2.2.2.2.1.trans hr) hn (fun t ht hW => g_end (g := F0 m pc ls []) (v := some (.int v)) hpo S P V Z ht hW args) V.2.2 hd (F.2.2.2.2.2.2.1)
theorem g_lret {v : Int64} (hr : ret = some .long) (hpo : Po (some (.long v)) n M) (hd : decode cc pc = .ok (.lreturn, 1)) : GG l B Ly d my cc nL ret cells slots Po n cells slots pc lv [.long v] M := by
  intro p e s m args below meth c H locs ls F S P V Z hl
  exact W.lret F.1 F.2.1 (F.2.2.2.2.2.1.trans hr) (fun t ht hW => g_end (g := F0 m pc ls []) (v := some (.long v)) hpo S P V Z ht hW args) V.2.2 hd (F.2.2.2.2.2.2.1)
theorem g_vret (hr : ret = none) (hpo : Po none n M) (hd : decode cc pc = .ok (.return_, 1)) : GG l B Ly d my cc nL ret cells slots Po n cells slots pc lv [] M := by
  intro p e s m args below meth c H locs ls F S P V Z hl
  exact W.vret F.1 F.2.1 (F.2.2.2.2.2.1.trans hr) (fun t ht hW => g_end (g := F0 m pc ls []) (v := none) hpo S P V Z ht hW args) V.2.2 hd (F.2.2.2.2.2.2.1)
/-! CALLS -/
theorem run_k {p : Program} {e : Env} {R : Room} {s : State} {m : MethodId} {args : Array Value} {below : List Frame} {meth : Method} {c : Code} {H : Heap} {locs : List Loc} {cells slots mc' ms' pc : Nat} {ls : Array Slot} {st0 rest : List Value} {a : Array Value} {Q : State → Prop} {Po' : Option Value → Nat → Mm → Prop}
    (hr : va_Run p l e R s m args below meth c H locs cells slots mc' ms' (F0 m pc ls st0) rest (QQ B Ly Po' a) (Af B)) (hS : va_S (Af B) s.heap H locs)
    (kk : ∀ (v : Option Value) (n' : Nat) (M' : Mm) (H1 : Heap) (locs1 : List Loc), Po' v n' M' → va_P (bD B) classes (wz B Ly n' M') H1 → va_S (Af B) s.heap H1 locs1 → (bA B = true → H1.size = bB B + n') → W p l e R s m args below meth c H1 locs1 (cells + mc') (slots + ms') Q (F0 m (pc + 3) ls ((v.map (cv B)).toList ++ rest))) :
    W p l e R s m args below meth c H locs cells slots Q (F0 m pc ls st0) := by
  intro T hT X
  obtain ⟨v, st₀, t, T', L, h0, X', hL, e1, e2, ⟨v', n', M', hv, hp, ⟨hP, -, hz0⟩, hz, hk⟩, stp⟩ := hr T hT X
  cases hv
  rw [h0] at hz hk
  obtain ⟨t2, a1, b1⟩ := kk v' n' M' T'.heap (locs ++ L) hp (by rw [e1]; exact hP) ⟨Nat.le_trans hS.1 (by rw [e1]; exact hz), fun q h1 h2 => by rw [e1, hk q (Nat.lt_of_lt_of_le h1 hS.1) h2]; exact hS.2.1 q h1 h2, fun q hq => by
      rcases List.mem_append.mp hq with h | h
      · exact hS.2.2 q h
      · exact hL q h⟩ (fun z => by rw [e1]; exact hz0 z) T' rfl X'
  exact ⟨t2, stp t2 a1, b1⟩
theorem blind (av : List Value) (M : Mm) : FrameBlind (va_Pc av (fun U => bB B ≤ U.heap.size ∧ SW B Ly n M U)) := by
  intro a U g mk h
  obtain ⟨h1, h2, h3, h4, h5⟩ := h
  exact ⟨h1, h2, h3, SK.same (u := U) rfl h4, h5⟩
theorem pre_at {s U : State} {H : Heap} {locs : List Loc} (av : List Value) (S : SK B s s.heap) (P : va_P (bD B) classes (wz B Ly n M) H) (V : va_S (Af B) s.heap H locs) (Z : bB B ≤ s.heap.size ∧ (bA B = true → H.size = bB B + n)) (hU : U.heap = H) (hW : s.WarmedH U.vm) : va_Pc av (fun U => bB B ≤ U.heap.size ∧ SW B Ly n M U) av.toArray U := by
  refine ⟨rfl, by rw [hU]; exact Nat.le_trans Z.1 V.1, by rw [hU]; exact P, ?_, fun z => by rw [hU]; exact Z.2 z⟩
  exact (S.warm hW).kept (fun a h1 h2 => by rw [hU]; exact V.2.1 a h1 h2)
/-- what a call needs of the callee's name -/
def nmOK (y : MethodName) (na : Nat) : Prop := y.cls ≠ "java/lang/invoke/MethodHandle" ∧ y.cls ≠ "java/lang/invoke/VarHandle" ∧ (parseMethodDescriptor y.desc).map (fun d => d.parameters.length) = some na
theorem rm_ok {d nL' mc' ms' : Nat} (h : nL' ≤ 16) : (rmd d mc' ms').frames + 1 ≤ (rmd (d + 1) mc ms).frames ∧ 8 + (nL' + 11) + (rmd d mc' ms').locals ≤ (rmd (d + 1) mc ms).locals := by
  constructor
  · exact Nat.le_refl _
  · show 8 + (nL' + 11) + (35 * d + 34) ≤ 35 * (d + 1) + 34
    omega
theorem cats_cv (rest : List Value) : ((rest.map (cv B)).map fun v => v.category).sum = (rest.map fun v => v.category).sum := by
  rw [List.map_map]; congr 1; apply List.map_congr_left; intro v _; exact cv_cat B v
theorem F0_room {m : MethodId} {pc : Nat} {ls : Array Slot} {st : List Value} {k : Nat} (h : k ≤ 8) : 2 * (F0 m pc ls st).monitorRoom + k ≤ 8 := by
  show 2 * 0 + k ≤ 8
  omega
section Calls
variable {y : MethodName} {bytes : ByteArray} {nL' mc' ms' na i : Nat} {ret' : Option FieldType} {Po' : Option Value → Nat → Mm → Prop} {As st : List Value} {C : String} {q : Nat}
/-- invokevirtual on an object of a class of ours -/
theorem g_callV {ci N : Nat} {T : u_T} {fks : List Fk} (hc : Con l B Ly d y bytes nL' ret' mc' ms' (.ref q :: As) n M Po') (hq : q < n) (hL : Ly q = .inl (ci, fks)) (hcl : clsOK ci C T N) (hnm : nmOK y na) (hcode : Cond.code y bytes nL' ret' ∈ lw_big) (hini : Cond.initialized y.cls ∈ lw_big) (hlink : Cond.methodLink my.cls i y ∈ lw_big) (hinst : Cond.instanceMethod y ∈ lw_big) (hsel : Cond.selects C y y ∈ lw_big) (hn : As.length = na) (hroom : nL' ≤ 16) (hst : (st.map fun v => v.category).sum ≤ 8) (hf : cells + mc' ≤ mc ∧ slots + ms' ≤ ms) (hd : decode cc pc = .ok (.invokevirtual i, 3))
    (kk : ∀ (v : Option Value) (n' : Nat) (M' : Mm), Po' v n' M' → GG l B Ly (d + 1) my cc nL ret mc ms Po n' (cells + mc') (slots + ms') (pc + 3) lv (v.toList ++ st) M') : GG l B Ly (d + 1) my cc nL ret mc ms Po n cells slots pc lv (As.reverse ++ .ref q :: st) M := by
  intro p e s m args below meth c H locs ls F S P V Z hl
  have hts := F.2.2.2.2.1
  have hcw : CallW (rmd (d + 1) mc ms) s args my.cls C i y bytes nL' ret' (wsO y bytes nL' ret') (rmd d mc' ms') mc' ms' na :=
    ⟨callB_of na hts (good_wsO (fun _ h => h) hcode) rfl rfl rfl (hts _ hini) (hts _ hlink) hnm (rm_ok hroom), hts _ hinst, hts _ hsel⟩
  have hrun := va_runV (As := As.map (cv B)) (rest := st.map (cv B)) (b := ad B q) (g := F0 m pc ls ((As.reverse ++ .ref q :: st).map (cv B))) (H := H) (locs := locs) (cells := cells) (slots := slots) (meth := meth) (below := below) (e := e) (l := l) ⟨F.1, F.2.1, F.2.2.1, F.2.2.2.1, hts⟩ hc hcw
    ⟨blind _ _, va_recv S.1 P hcl.1 (wz_obj hq hL), fun U hU hW => pre_at _ S P V Z hU hW⟩ rfl (by rw [List.length_map]; exact hn) hl.1 (by show (As.reverse ++ .ref q :: st).map (cv B) = _; rw [List.map_append, List.map_reverse]; rfl) (F0_room (by rw [cats_cv]; exact hst)) hd hf
  refine run_k hrun V (fun v n' M' H1 locs1 hp P1 V1 Z1 => ?_)
  have := kk v n' M' hp p e s m args below meth c H1 locs1 ls F S P1 V1 ⟨Z.1, Z1⟩ hl
  rw [List.map_append] at this
  cases v <;> exact this
/-- invokestatic -/
theorem g_callS (hc : Con l B Ly d y bytes nL' ret' mc' ms' As n M Po') (hnm : nmOK y na) (hcode : Cond.code y bytes nL' ret' ∈ lw_big) (hini : Cond.initialized y.cls ∈ lw_big) (hlink : Cond.methodLink my.cls i y ∈ lw_big) (hstat : Cond.static y ∈ lw_big) (hn : As.length = na) (hroom : nL' ≤ 16) (hst : (st.map fun v => v.category).sum ≤ 8) (hf : cells + mc' ≤ mc ∧ slots + ms' ≤ ms) (hd : decode cc pc = .ok (.invokestatic i, 3))
    (kk : ∀ (v : Option Value) (n' : Nat) (M' : Mm), Po' v n' M' → GG l B Ly (d + 1) my cc nL ret mc ms Po n' (cells + mc') (slots + ms') (pc + 3) lv (v.toList ++ st) M') : GG l B Ly (d + 1) my cc nL ret mc ms Po n cells slots pc lv (As.reverse ++ st) M := by
  intro p e s m args below meth c H locs ls F S P V Z hl
  have hts := F.2.2.2.2.1
  have hcw : CallB (rmd (d + 1) mc ms) s args my.cls i y bytes nL' ret' (wsO y bytes nL' ret') (rmd d mc' ms') mc' ms' na ∧ (Cond.static y).before args s = true :=
    ⟨callB_of na hts (good_wsO (fun _ h => h) hcode) rfl rfl rfl (hts _ hini) (hts _ hlink) hnm (rm_ok hroom), hts _ hstat⟩
  have hrun := va_runS (As := As.map (cv B)) (rest := st.map (cv B)) (g := F0 m pc ls ((As.reverse ++ st).map (cv B))) (H := H) (locs := locs) (cells := cells) (slots := slots) (meth := meth) (below := below) (e := e) (l := l) ⟨F.1, F.2.1, F.2.2.1, F.2.2.2.1, hts⟩ hc hcw
    ⟨blind _ _, fun U hU hW => pre_at _ S P V Z hU hW⟩ rfl (by rw [List.length_map]; exact hn) hl.1 (by show (As.reverse ++ st).map (cv B) = _; rw [List.map_append, List.map_reverse]) (F0_room (by rw [cats_cv]; exact hst)) hd hf
  refine run_k hrun V (fun v n' M' H1 locs1 hp P1 V1 Z1 => ?_)
  have := kk v n' M' hp p e s m args below meth c H1 locs1 ls F S P1 V1 ⟨Z.1, Z1⟩ hl
  rw [List.map_append] at this
  cases v <;> exact this
/-- invokestatic of a nest mate's private method -/
theorem g_callSN {host : String} (hc : Con l B Ly d y bytes nL' ret' mc' ms' As n M Po') (hnm : nmOK y na) (hcode : Cond.code y bytes nL' ret' ∈ lw_big) (hini : Cond.initialized y.cls ∈ lw_big) (hlink : (my.cls, i, y, host) ∈ nestq) (hstat : Cond.static y ∈ lw_big) (hn : As.length = na) (hroom : nL' ≤ 16) (hst : (st.map fun v => v.category).sum ≤ 8) (hf : cells + mc' ≤ mc ∧ slots + ms' ≤ ms) (hd : decode cc pc = .ok (.invokestatic i, 3))
    (kk : ∀ (v : Option Value) (n' : Nat) (M' : Mm), Po' v n' M' → GG l B Ly (d + 1) my cc nL ret mc ms Po n' (cells + mc') (slots + ms') (pc + 3) lv (v.toList ++ st) M') : GG l B Ly (d + 1) my cc nL ret mc ms Po n cells slots pc lv (As.reverse ++ st) M := by
  intro p e s m args below meth c H locs ls F S P V Z hl
  have hts := F.2.2.2.2.1
  have hcw : va_CN (rmd (d + 1) mc ms) s args my.cls i y host bytes nL' ret' (wsO y bytes nL' ret') (rmd d mc' ms') mc' ms' na ∧ (Cond.static y).before args s = true ∧ True :=
    ⟨va_cnB na hts (good_wsO (fun _ h => h) hcode) rfl rfl rfl (S.2.1 _ hlink) (hts _ hini) hnm (rm_ok hroom), hts _ hstat, trivial⟩
  have hrun := va_runSN (As := As.map (cv B)) (rest := st.map (cv B)) (g := F0 m pc ls ((As.reverse ++ st).map (cv B))) (H := H) (locs := locs) (cells := cells) (slots := slots) (meth := meth) (below := below) (e := e) (l := l) ⟨F.1, F.2.1, F.2.2.1, F.2.2.2.1, hts⟩ hc hcw
    ⟨blind _ _, fun U hU hW => pre_at _ S P V Z hU hW⟩ rfl (by rw [List.length_map]; exact hn) hl.1 (by show (As.reverse ++ st).map (cv B) = _; rw [List.map_append, List.map_reverse]) (F0_room (by rw [cats_cv]; exact hst)) hd hf
  refine run_k hrun V (fun v n' M' H1 locs1 hp P1 V1 Z1 => ?_)
  have := kk v n' M' hp p e s m args below meth c H1 locs1 ls F S P1 V1 ⟨Z.1, Z1⟩ hl
  rw [List.map_append] at this
  cases v <;> exact this
end Calls
end Heap
