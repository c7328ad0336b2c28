/-! LAY, HEARD. -/
def S1 (G at_ : Nat → Nat) (l x c : Nat) : Nat := if G (56 + c) = l ∧ at_ c < x ∧ Ld G l x = 0 then 1 else 0
theorem Sm_add (f g : Nat → Nat) : ∀ n, Sm (fun k => f k + g k) n = Sm f n + Sm g n
  | 0 => rfl
  | n + 1 => by
    rw [Sm, Sm, Sm, Sm_add f g n]
    omega
theorem Sm_swap (f : Nat → Nat → Nat) (m : Nat) : ∀ n, Sm (fun i => Sm (fun c => f i c) m) n = Sm (fun c => Sm (fun i => f i c) n) m
  | 0 => by
    refine (Sm_zero (fun k hk => rfl)).symm
  | n + 1 => by
    rw [Sm, Sm_swap f m n, ← Sm_add]
    rfl
/-- the steps that are heard on a strip -/
def Sn (G at_ : Nat → Nat) (l a n : Nat) : Nat := Sm (fun i => Sm (fun c => S1 G at_ l (a + i) c) (G 95)) n
theorem S1_le (G at_ : Nat → Nat) (l x c : Nat) : S1 G at_ l x c ≤ 1 := by
  unfold S1
  split <;> omega
theorem Sn_le {G at_ : Nat → Nat} (W : GW G) (l a : Nat) {n : Nat} (hn : n ≤ 40) : Sn G at_ l a n ≤ 200 := by
  have hcr := W.creepers
  have h := Sm_le (f := fun i => Sm (fun c => S1 G at_ l (a + i) c) (G 95)) (b := 5) (n := n) (fun i _ => by
    have := Sm_le (f := fun c => S1 G at_ l (a + i) c) (b := 1) (n := G 95) (fun c _ => S1_le G at_ l (a + i) c)
    omega)
  unfold Sn
  omega
theorem c_before {M : Mm} {G : Nat → Nat} {g : Nat} {at_ : Nat → Nat} (C : CG M g G) (W : GW G) (ha : ∀ c, c < G 95 → M 21 c = nI (at_ c) ∧ at_ c < 100) {l x : Nat} (hl : l < 100) (hx : x < 100) (h0 : Ld G l x = 0) : f_X7_creepersBefore g 20 (nI l) (nI x) M = some (nI (Sm (fun c => S1 G at_ l x c) (G 95)), M) := by
  have hcr := W.creepers
  have hla := W.lanes
  unfold f_X7_creepersBefore
  refine lp0 (fun f i => lp_X7_creepersBefore_6 g 20 (nI l) (nI x) f (nI (Sm (fun c => S1 G at_ l x c) i)) (nI i) M) (G 95) (by omega) (fun f i hi => ?_) (fun f => ?_)
  · have ht := c_trait C W hi (show 0 < 7 by decide)
    rw [show 56 + 5 * 0 + i = 56 + i from by omega] at ht
    have hg := (W.crp i hi).1
    obtain ⟨h1, h2⟩ := ha i hi
    have k1 : f_X9_at (20 + 1) (nI i) M = some (nI (at_ i), M) := by
      rw [← h1]
      exact f_at (q := 21) (n := 5) rfl (by decide) (by omega)
    rw [lp_X7_creepersBefore_6, C.f14, if_neg (by rw [nle (by omega) (by omega)]; omega), ht, bds, Sm]
    simp only [jns]
    by_cases c1 : G (56 + i) = l
    · rw [if_pos (by rw [c1]), k1, bds]
      by_cases c2 : at_ i < x
      · have e : S1 G at_ l x i = 1 := if_pos ⟨c1, c2, h0⟩
        rw [if_neg (by rw [nle (by omega) (by omega)]; omega), nadd, nadd, e]
      · have e : S1 G at_ l x i = 0 := if_neg (fun z => c2 z.2.1)
        rw [if_pos (by rw [nle (by omega) (by omega)]; omega), nadd, e]
        rfl
    · have e : S1 G at_ l x i = 0 := if_neg (fun z => c1 z.1)
      rw [if_neg (by rw [neq (by omega) (by omega)]; exact c1), nadd, e]
      rfl
  · rw [lp_X7_creepersBefore_6, C.f14, if_pos (Int32.le_refl _)]
theorem c_stepsOnto {M : Mm} {G : Nat → Nat} {g : Nat} {at_ : Nat → Nat} (C : CG M g G) (W : GW G) (ha : ∀ c, c < G 95 → M 21 c = nI (at_ c) ∧ at_ c < 100) {l a n : Nat} (hl : l < 100) (hx : a + n ≤ 100) : f_X7_stepsOnto g 20 (nI l) (nI a) (nI n) M = some (nI (Sn G at_ l a n), M) := by
  have hcr := W.creepers
  unfold f_X7_stepsOnto
  refine lp0 (fun f i => lp_X7_stepsOnto_6 g 20 (nI l) (nI a) (nI n) f (nI (Sn G at_ l a i)) (nI (a + i)) M) n (by omega) (fun f i hi => ?_) (fun f => ?_)
  · have hL := Ld_le W l (a + i)
    have e : Sn G at_ l a (i + 1) = Sn G at_ l a i + Sm (fun c => S1 G at_ l (a + i) c) (G 95) := rfl
    rw [lp_X7_stepsOnto_6, nadd, if_neg (by rw [nle (by omega) (by omega)]; omega), c_loud C W (by omega) (by omega), bds, e]
    simp only [jns]
    by_cases c : Ld G l (a + i) = 0
    · rw [if_pos (by rw [nz0 (by omega)]; exact c), c_before C W ha hl (by omega) c, bds, nadd, nadd]
      rfl
    · have z : Sm (fun c => S1 G at_ l (a + i) c) (G 95) = 0 := Sm_zero (fun k _ => if_neg (fun z => c z.2.2))
      rw [if_neg (by rw [nz0 (by omega)]; exact c), nadd, z]
      rfl
  · rw [lp_X7_stepsOnto_6, nadd, if_pos (Int32.le_refl _)]
theorem r_steps {M : Mm} {G at_ : Nat → Nat} (R : RG M G) (W : GW G) (ha : ∀ c, c < G 95 → M 86 (9 + c) = nI (at_ c) ∧ at_ c < 100) {l a n : Nat} (hl : l < 100) (hx : a + n ≤ 100) : f_X10_steps (nI l) (nI a) (nI n) M = some (nI (Sn G at_ l a n), M) := by
  have hcr := W.creepers
  have hla := W.lanes
  unfold f_X10_steps Sn
  rw [Sm_swap]
  refine lp0 (fun f c => lp_X10_steps_6 (nI l) (nI a) (nI n) f (nI (Sm (fun c => Sm (fun i => S1 G at_ l (a + i) c) n) c)) (nI c) M) (G 95) (by omega) (fun f c hc => ?_) (fun f => ?_)
  · have inner : ∀ (s : Nat) (K : Int32 → Mm → Option (Int32 × Mm)), lp_X10_steps_21 (nI l) (nI a) (nI n) (nI c) K N0 (nI s) (nI a) M = K (nI (s + Sm (fun i => S1 G at_ l (a + i) c) n)) M := fun s K => by
      refine lp0 (fun f i => lp_X10_steps_21 (nI l) (nI a) (nI n) (nI c) K f (nI (s + Sm (fun i => S1 G at_ l (a + i) c) i)) (nI (a + i)) M) n (by omega) (fun f i hi => ?_) (fun f => ?_)
      · have hL := Ld_le W l (a + i)
        have hg := (W.crp c hc).1
        obtain ⟨h1, h2⟩ := ha c hc
        rw [lp_X10_steps_21, nadd, if_neg (by rw [nle (by omega) (by omega)]; omega), nadd 56 c, nadd 9 c, gdi (by omega) (by omega), nclamp (by omega), nclamp (by omega), R _ (by omega), Sm]
        simp only [jns, gdi (show 9 + c < 2 ^ 31 by omega) (show 9 + c < 44 by omega), h1]
        by_cases c1 : G (56 + c) = l
        · rw [if_pos (by rw [c1])]
          by_cases c2 : at_ c < a + i
          · rw [if_neg (by rw [nle (by omega) (by omega)]; omega), r_loudest R W (by omega) (by omega), bds]
            by_cases c3 : Ld G l (a + i) = 0
            · have e : S1 G at_ l (a + i) c = 1 := if_pos ⟨c1, c2, c3⟩
              rw [if_pos (by rw [nz0 (by omega)]; exact c3), nadd, nadd, e]
              rfl
            · have e : S1 G at_ l (a + i) c = 0 := if_neg (fun z => c3 z.2.2)
              rw [if_neg (by rw [nz0 (by omega)]; exact c3), nadd, nadd, e]
              rfl
          · have e : S1 G at_ l (a + i) c = 0 := if_neg (fun z => c2 z.2.1)
            rw [if_pos (by rw [nle (by omega) (by omega)]; omega), nadd, nadd, e]
            rfl
        · have e : S1 G at_ l (a + i) c = 0 := if_neg (fun z => c1 z.1)
          rw [if_neg (by rw [neq (by omega) (by omega)]; exact c1), nadd, nadd, e]
          rfl
      · rw [lp_X10_steps_21, nadd, if_pos (Int32.le_refl _)]
    rw [lp_X10_steps_6, R 95 (by decide), if_neg (by rw [nle (by omega) (by omega)]; omega), inner, nadd, Sm]
  · rw [lp_X10_steps_6, R 95 (by decide), if_pos (Int32.le_refl _)]
/-- the better strip -/
def bt (o : Option (Nat × Nat × Nat)) (v l a : Nat) : Option (Nat × Nat × Nat) := match o with
  | none => some (v, l, a)
  | some (w, l', a') => if w < v then some (v, l, a) else some (w, l', a')
def Ln (G at_ : Nat → Nat) (n l : Nat) (o : Option (Nat × Nat × Nat)) : Nat → Option (Nat × Nat × Nat)
  | 0 => o
  | i + 1 => bt (Ln G at_ n l o i) (Sn G at_ l (i + 1) n) l (i + 1)
def Lt (G at_ : Nat → Nat) (n : Nat) : Nat → Option (Nat × Nat × Nat)
  | 0 => none
  | l + 1 => Ln G at_ n l (Lt G at_ n l) (G 0 + 1 - n)
def okS (o : Option (Nat × Nat × Nat)) : Prop := ∀ v l a, o = some (v, l, a) → v ≤ 200 ∧ l ≤ 6 ∧ a ≤ 100
theorem bt_ok {o : Option (Nat × Nat × Nat)} {v l a : Nat} (h : okS o) (hv : v ≤ 200) (hl : l ≤ 6) (ha : a ≤ 100) : okS (bt o v l a) := by
  intro v' l' a' e
  unfold bt at e
  split at e
  · cases e; exact ⟨hv, hl, ha⟩
  · rename_i w x y
    by_cases c : w < v
    · rw [if_pos c] at e
      cases e; exact ⟨hv, hl, ha⟩
    · rw [if_neg c] at e
      exact h v' l' a' e
theorem Ln_ok {G at_ : Nat → Nat} (W : GW G) {n l : Nat} {o : Option (Nat × Nat × Nat)} (hn : n ≤ 40) (hl : l ≤ 6) (h : okS o) : ∀ i, i ≤ 50 → okS (Ln G at_ n l o i)
  | 0, _ => h
  | i + 1, hi => bt_ok (Ln_ok W hn hl h i (by omega)) (Sn_le W l (i + 1) hn) hl (by omega)
theorem Lt_ok {G at_ : Nat → Nat} (W : GW G) {n : Nat} (hn : n ≤ 40) : ∀ l, l ≤ 7 → okS (Lt G at_ n l)
  | 0, _ => fun _ _ _ e => by cases e
  | l + 1, hl => Ln_ok W hn (by omega) (Lt_ok W hn l (by omega)) _ (by have := W.long; omega)
/-- the class's cell and the reference's numbers hold a strip -/
def PS (o : Option (Nat × Nat × Nat)) (M : Mm) : Prop := match o with
  | none => M 80 2 = -1
  | some (v, l, a) => M 80 2 = nI v ∧ M 80 0 = nI l ∧ M 80 1 = nI a
def bI (o : Option (Nat × Nat × Nat)) : Int32 := match o with
  | none => -1
  | some (_, l, a) => nI (100 * l + a)
def RS (o : Option (Nat × Nat × Nat)) (M : Mm) : Prop := match o with
  | none => True
  | some (v, _, _) => M 81 32 = nI v
theorem c_stripLane {M0 : Mm} {G at_ : Nat → Nat} {g : Nat} (C : CG M0 g G) (W : GW G) (ha : ∀ c, c < G 95 → M0 21 c = nI (at_ c) ∧ at_ c < 100) {l n : Nat} (hl : l < G 1) (hn1 : 1 ≤ n) (hn : n ≤ G 0) {o : Option (Nat × Nat × Nat)} (ho : okS o) (h0 : PS o M0) (k : Mm → Option Mm) :
    ∃ M', lp_X7_find_20 g 20 (nI n) (nI l) k N0 (nI 1) M0 = k M' ∧ (∀ a, a ≠ 80 → M' a = M0 a) ∧ PS (Ln G at_ n l o (G 0 + 1 - n)) M' := by
  have hlo := W.long
  have hla := W.lanes
  refine lpM (fun f i M => lp_X7_find_20 g 20 (nI n) (nI l) k f (nI (i + 1)) M) (G 0 + 1 - n) (fun i M => (∀ a, a ≠ 80 → M a = M0 a) ∧ PS (Ln G at_ n l o i) M) k (by omega) (fun f i M hi T => ?_) (fun f M T => ?_) M0 ⟨fun _ _ => rfl, h0⟩
  · obtain ⟨t1, t2⟩ := T
    have C' : CG M g G := C.cong2 (fun a h1 h2 => t1 a (by omega))
    have ha' : ∀ c, c < G 95 → M 21 c = nI (at_ c) ∧ at_ c < 100 := fun c hc => by rw [t1 21 (by omega)]; exact ha c hc
    have hok := Ln_ok (at_ := at_) W (show n ≤ 40 by omega) (show l ≤ 6 by omega) ho i (by omega)
    have hs := Sn_le (at_ := at_) W l (i + 1) (show n ≤ 40 by omega)
    have hcond : ¬ M g 6 < nI (i + 1) + nI n - nI 1 := by
      rw [C'.f6, nadd, nsub (by omega), nlt (by omega) (by omega)]; omega
    have e : lp_X7_find_20 g 20 (nI n) (nI l) k (f + 1) (nI (i + 1)) M = if nI (Sn G at_ l (i + 1) n) ≤ M 80 2 then lp_X7_find_20 g 20 (nI n) (nI l) k f (nI (i + 2)) M else lp_X7_find_20 g 20 (nI n) (nI l) k f (nI (i + 2)) (mset (mset (mset M 80 2 (nI (Sn G at_ l (i + 1) n))) 80 0 (nI l)) 80 1 (nI (i + 1))) := by
      rw [lp_X7_find_20, if_neg hcond, c_stepsOnto C' W ha' (by omega) (by omega), bds, nadd]
      rfl
    have new : PS (some (Sn G at_ l (i + 1) n, l, i + 1)) (mset (mset (mset M 80 2 (nI (Sn G at_ l (i + 1) n))) 80 0 (nI l)) 80 1 (nI (i + 1))) := by
      show _ = _ ∧ _ = _ ∧ _ = _
      refine ⟨?_, ?_, ?_⟩
      · rw [ms3 _ _ (by decide), ms3 _ _ (by decide), ms1]
      · rw [ms3 _ _ (by decide), ms1]
      · rw [ms1]
    have fr : ∀ a, a ≠ 80 → mset (mset (mset M 80 2 (nI (Sn G at_ l (i + 1) n))) 80 0 (nI l)) 80 1 (nI (i + 1)) a = M0 a := fun a h => by rw [mset_off _ _ _ h, mset_off _ _ _ h, mset_off _ _ _ h, t1 a h]
    rw [e]
    cases ho2 : Ln G at_ n l o i with
    | none =>
      rw [ho2] at t2
      have t2 : M 80 2 = -1 := t2
      refine ⟨_, if_neg ?_, fr, ?_⟩
      · rw [t2]
        exact Int32.not_le.mpr (Int32.lt_of_lt_of_le (by decide : (-1 : Int32) < 0) (nI_pos' (by omega)))
      · rw [Ln, ho2]; exact new
    | some q =>
      obtain ⟨v, l', a'⟩ := q
      rw [ho2] at t2
      obtain ⟨q1, q2, q3⟩ : M 80 2 = nI v ∧ M 80 0 = nI l' ∧ M 80 1 = nI a' := t2
      obtain ⟨b1, -, -⟩ := hok v l' a' ho2
      by_cases c : v < Sn G at_ l (i + 1) n
      · refine ⟨_, if_neg ?_, fr, ?_⟩
        · rw [q1, nle (by omega) (by omega)]; omega
        · rw [Ln, ho2]
          show PS (if v < Sn G at_ l (i + 1) n then _ else _) _
          rw [if_pos c]; exact new
      · refine ⟨M, if_pos ?_, t1, ?_⟩
        · rw [q1, nle (by omega) (by omega)]; omega
        · rw [Ln, ho2]
          show PS (if v < Sn G at_ l (i + 1) n then _ else _) _
          rw [if_neg c]; exact ⟨q1, q2, q3⟩
  · have C' : CG M g G := C.cong2 (fun a h1 h2 => T.1 a (by omega))
    rw [lp_X7_find_20, C'.f6, nadd, nsub (by omega), if_pos (by rw [nlt (by omega) (by omega)]; omega)]
theorem c_strip {M0 : Mm} {G at_ : Nat → Nat} {g : Nat} (C : CG M0 g G) (W : GW G) (ha : ∀ c, c < G 95 → M0 21 c = nI (at_ c) ∧ at_ c < 100) {n : Nat} (hn1 : 1 ≤ n) (hn : n ≤ G 0) :
    ∃ M', f_X7_find g 20 (nI n) M0 = some M' ∧ (∀ a, a ≠ 80 → M' a = M0 a) ∧ PS (Lt G at_ n (G 1)) M' := by
  have hlo := W.long
  have hla := W.lanes
  unfold f_X7_find
  refine lpM (fun f l M => lp_X7_find_8 g 20 (nI n) f (nI l) M) (G 1) (fun l M => (∀ a, a ≠ 80 → M a = M0 a) ∧ PS (Lt G at_ n l) M) some (by omega) (fun f l M hl T => ?_) (fun f M T => ?_) _ ⟨fun a h => by rw [mset_off _ _ _ h], ms1 _ _ _ _⟩
  · obtain ⟨t1, t2⟩ := T
    have C' : CG M g G := C.cong2 (fun a h1 h2 => t1 a (by omega))
    obtain ⟨M', e, f1, p1⟩ := c_stripLane C' W (at_ := at_) (fun c hc => by rw [t1 21 (by omega)]; exact ha c hc) hl hn1 hn (Lt_ok W (by omega) l (by omega)) t2 (fun (M7 : Mm) => lp_X7_find_8 g 20 (nI n) f (nI l + (nI 1)) M7)
    refine ⟨M', ?_, fun a h => by rw [f1 a h, t1 a h], p1⟩
    rw [lp_X7_find_8, C'.f7, if_neg (by rw [nle (by omega) (by omega)]; omega), e, nadd]
  · have C' : CG M g G := C.cong2 (fun a h1 h2 => T.1 a (by omega))
    rw [lp_X7_find_8, C'.f7, if_pos (Int32.le_refl _)]
theorem r_stripLane {M0 : Mm} {G at_ : Nat → Nat} (R : RG M0 G) (W : GW G) (ha : ∀ c, c < G 95 → M0 86 (9 + c) = nI (at_ c) ∧ at_ c < 100) {l n : Nat} (hl : l < G 1) (hn1 : 1 ≤ n) (hn : n ≤ G 0) {o : Option (Nat × Nat × Nat)} (ho : okS o) (h0 : RS o M0) (k : Int32 → Mm → Option (Int32 × Mm)) :
    ∃ M', lp_X10_strip_17 (nI n) (nI l) k N0 (bI o) (nI 1) M0 = k (bI (Ln G at_ n l o (G 0 + 1 - n))) M' ∧ ((∀ a, a ≠ 81 → M' a = M0 a) ∧ (∀ k, k ≠ 32 → M' 81 k = M0 81 k)) ∧ RS (Ln G at_ n l o (G 0 + 1 - n)) M' := by
  have hlo := W.long
  have hla := W.lanes
  refine lpM (fun f i M => lp_X10_strip_17 (nI n) (nI l) k f (bI (Ln G at_ n l o i)) (nI (i + 1)) M) (G 0 + 1 - n) (fun i M => ((∀ a, a ≠ 81 → M a = M0 a) ∧ (∀ k, k ≠ 32 → M 81 k = M0 81 k)) ∧ RS (Ln G at_ n l o i) M) (k (bI (Ln G at_ n l o (G 0 + 1 - n)))) (by omega) (fun f i M hi T => ?_) (fun f M T => ?_) M0 ⟨⟨fun _ _ => rfl, fun _ _ => rfl⟩, h0⟩
  · obtain ⟨⟨t1, t3⟩, t2⟩ := T
    have R' : RG M G := fun k hk => by rw [t1 84 (by omega)]; exact R k hk
    have ha' : ∀ c, c < G 95 → M 86 (9 + c) = nI (at_ c) ∧ at_ c < 100 := fun c hc => by rw [t1 86 (by omega)]; exact ha c hc
    have hok := Ln_ok (at_ := at_) W (show n ≤ 40 by omega) (show l ≤ 6 by omega) ho i (by omega)
    have hs := Sn_le (at_ := at_) W l (i + 1) (show n ≤ 40 by omega)
    have e : ∀ y2, lp_X10_strip_17 (nI n) (nI l) k (f + 1) y2 (nI (i + 1)) M = if y2 < 0 then lp_X10_strip_17 (nI n) (nI l) k f (nI (100 * l + (i + 1))) (nI (i + 2)) (mset M 81 32 (nI (Sn G at_ l (i + 1) n))) else if M 81 32 < nI (Sn G at_ l (i + 1) n) then lp_X10_strip_17 (nI n) (nI l) k f (nI (100 * l + (i + 1))) (nI (i + 2)) (mset M 81 32 (nI (Sn G at_ l (i + 1) n))) else lp_X10_strip_17 (nI n) (nI l) k f y2 (nI (i + 2)) M := fun y2 => by
      rw [lp_X10_strip_17, R' 0 (by decide), nadd, nsub (by omega), if_neg (by rw [nlt (by omega) (by omega)]; omega), r_steps R' W ha' (by omega) (by omega), bds, nmul, nadd, nadd]
      rfl
    have fr : (∀ a, a ≠ 81 → mset M 81 32 (nI (Sn G at_ l (i + 1) n)) a = M0 a) ∧ (∀ k, k ≠ 32 → mset M 81 32 (nI (Sn G at_ l (i + 1) n)) 81 k = M0 81 k) := ⟨fun a h => by rw [mset_off _ _ _ h, t1 a h], fun k h => by rw [ms3 _ _ h, t3 k h]⟩
    rw [e]
    cases ho2 : Ln G at_ n l o i with
    | none =>
      refine ⟨mset M 81 32 (nI (Sn G at_ l (i + 1) n)), ?_, fr, ?_⟩
      · rw [if_pos (show bI none < 0 by decide), Ln, ho2]; rfl
      · rw [Ln, ho2]; exact ms1 _ _ _ _
    | some q =>
      obtain ⟨v, l', a'⟩ := q
      rw [ho2] at t2
      have q1 : M 81 32 = nI v := t2
      obtain ⟨b1, b2, b3⟩ := hok v l' a' ho2
      have hneg : ¬ bI (some (v, l', a')) < 0 := by
        show ¬ nI (100 * l' + a') < 0
        rw [nlt0 (by omega)]; exact id
      rw [if_neg hneg, q1]
      by_cases c : v < Sn G at_ l (i + 1) n
      · refine ⟨mset M 81 32 (nI (Sn G at_ l (i + 1) n)), ?_, fr, ?_⟩
        · rw [if_pos (by rw [nlt (by omega) (by omega)]; exact c), Ln, ho2]
          show _ = lp_X10_strip_17 (nI n) (nI l) k f (bI (if v < Sn G at_ l (i + 1) n then _ else _)) _ _
          rw [if_pos c]
          rfl
        · rw [Ln, ho2]
          show RS (if v < Sn G at_ l (i + 1) n then _ else _) _
          rw [if_pos c]; exact ms1 _ _ _ _
      · refine ⟨M, ?_, ⟨t1, t3⟩, ?_⟩
        · rw [if_neg (by rw [nlt (by omega) (by omega)]; exact c), Ln, ho2]
          show _ = lp_X10_strip_17 (nI n) (nI l) k f (bI (if v < Sn G at_ l (i + 1) n then _ else _)) _ _
          rw [if_neg c]
        · rw [Ln, ho2]
          show RS (if v < Sn G at_ l (i + 1) n then _ else _) _
          rw [if_neg c]; exact q1
  · rw [lp_X10_strip_17, T.1.1 84 (by omega), R 0 (by decide), nadd, nsub (by omega), if_pos (by rw [nlt (by omega) (by omega)]; omega)]
theorem r_strip {M0 : Mm} {G at_ : Nat → Nat} (R : RG M0 G) (W : GW G) (ha : ∀ c, c < G 95 → M0 86 (9 + c) = nI (at_ c) ∧ at_ c < 100) {n : Nat} (hn1 : 1 ≤ n) (hn : n ≤ G 0) :
    ∃ M', f_X10_strip (nI n) M0 = some (bI (Lt G at_ n (G 1)), M') ∧ ((∀ a, a ≠ 81 → M' a = M0 a) ∧ (∀ k, k ≠ 32 → M' 81 k = M0 81 k)) ∧ RS (Lt G at_ n (G 1)) M' := by
  have hlo := W.long
  have hla := W.lanes
  unfold f_X10_strip
  refine lpM (fun f l M => lp_X10_strip_4 (nI n) f (bI (Lt G at_ n l)) (nI l) M) (G 1) (fun l M => ((∀ a, a ≠ 81 → M a = M0 a) ∧ (∀ k, k ≠ 32 → M 81 k = M0 81 k)) ∧ RS (Lt G at_ n l) M) (fun M => some (bI (Lt G at_ n (G 1)), M)) (by omega) (fun f l M hl T => ?_) (fun f M T => ?_) _ ⟨⟨fun _ _ => rfl, fun _ _ => rfl⟩, trivial⟩
  · obtain ⟨⟨t1, t3⟩, t2⟩ := T
    have R' : RG M G := fun k hk => by rw [t1 84 (by omega)]; exact R k hk
    obtain ⟨M', e, ⟨f1, f3⟩, p1⟩ := r_stripLane R' W (at_ := at_) (fun c hc => by rw [t1 86 (by omega)]; exact ha c hc) hl hn1 hn (Lt_ok W (by omega) l (by omega)) t2 (fun (u11 : Int32) (M12 : Mm) => lp_X10_strip_4 (nI n) f u11 (nI l + (nI 1)) M12)
    refine ⟨M', ?_, ⟨fun a h => by rw [f1 a h, t1 a h], fun k h => by rw [f3 k h, t3 k h]⟩, p1⟩
    rw [lp_X10_strip_4, R' 1 (by decide), if_neg (by rw [nle (by omega) (by omega)]; omega), e, nadd]
    rfl
  · rw [lp_X10_strip_4, T.1.1 84 (by omega), R 1 (by decide), if_pos (Int32.le_refl _)]
/-- lay's number is one of the wall's -/
theorem tz_lay {M : Mm} {g tl T : Nat} (I : IC M g tl) {G : Nat → Nat} {Q : Pl} {mk : Nat} {Qm : Nat → Pl} (D : IG M g G Q mk Qm T) (x : Int32) :
    (∃ n, 1 ≤ n ∧ n ≤ G 0 ∧ x = nI n ∧ (¬ x < nI 1 ∧ x ≤ nI (G 0)) ∧ ∀ M', Fr M M' → f_X10_layWhy x M' = some (nI 0, M')) ∨
    ((x < nI 1 ∨ (¬ x < nI 1 ∧ ¬ x ≤ nI (G 0))) ∧ ∀ M', Fr M M' → f_X10_layWhy x M' = some (nI 2, M')) := by
  have hlo := D.W.long
  have hw := fun M' => r_withinI (M := M') x (show 1 < 2 ^ 31 by decide) (show G 0 < 2 ^ 31 by omega)
  by_cases hx : inr x 1 (G 0)
  · left
    obtain ⟨n, h1, h2, rfl⟩ := hx
    refine ⟨n, h1, h2, rfl, ⟨by rw [nlt (by omega) (by omega)]; omega, by rw [nle (by omega) (by omega)]; exact h2⟩, fun M' F => ?_⟩
    unfold f_X10_layWhy
    rw [(D.fr F).hg, if_neg (by decide), (D.fr F).R 0 (by decide)]
    rcases hw M' with ⟨-, h6⟩ | ⟨h6, -⟩
    · rw [h6, bds, if_neg (by decide)]
    · exact absurd ⟨n, h1, h2, rfl⟩ h6
  · right
    refine ⟨?_, fun M' F => ?_⟩
    · by_cases c1 : x < nI 1
      · exact .inl c1
      · right
        refine ⟨c1, fun z => ?_⟩
        rcases i32 x with h7 | ⟨v, hv, rfl⟩
        · exact absurd (Int32.lt_of_lt_of_le h7 (by decide : (0 : Int32) ≤ nI 1)) c1
        · rw [nlt hv (by omega)] at c1
          rw [nle hv (by omega)] at z
          exact hx ⟨v, by omega, z, rfl⟩
    · unfold f_X10_layWhy
      rw [(D.fr F).hg, if_neg (by decide), (D.fr F).R 0 (by decide)]
      rcases hw M' with ⟨h6, -⟩ | ⟨-, h6⟩
      · exact absurd h6 hx
      · rw [h6]; rfl
theorem bt_some {o : Option (Nat × Nat × Nat)} {v l a : Nat} : ∃ v' l' a', bt o v l a = some (v', l', a') := by
  unfold bt
  split
  · exact ⟨v, l, a, rfl⟩
  · rename_i w x y
    by_cases c : w < v
    · rw [if_pos c]; exact ⟨_, _, _, rfl⟩
    · rw [if_neg c]; exact ⟨_, _, _, rfl⟩
theorem Lt_some {G at_ : Nat → Nat} (W : GW G) {n : Nat} (hn : n ≤ G 0) : ∃ v l a, Lt G at_ n (G 1) = some (v, l, a) := by
  have hla := W.lanes
  rw [show G 1 = G 1 - 1 + 1 from by omega, Lt, show G 0 + 1 - n = G 0 - n + 1 from by omega, Ln]
  exact bt_some
/-- both lay the same strip -/
theorem both_lay {M : Mm} {g tl T : Nat} (I0 : Inv M T) (I : IC M g tl) {G : Nat → Nat} {Q : Pl} {mk : Nat} {Qm : Nat → Pl} (D : IG M g G Q mk Qm T) {n : Nat} (hn1 : 1 ≤ n) (hn : n ≤ G 0) :
    ∃ M1 M2 v l a, v ≤ 200 ∧ l ≤ 6 ∧ a ≤ 100 ∧ f_X7_find g 20 (nI n) M = some M1 ∧ M1 80 2 = nI v ∧ M1 80 0 = nI l ∧ M1 80 1 = nI a ∧ Fr M (gdM (mset M1 0 11 (nI 0))) ∧
      f_X10_strip (nI n) (gdM (mset M1 0 11 (nI 0))) = some (nI (100 * l + a), M2) ∧ M2 81 32 = nI v ∧ Inv M2 T := by
  have hla := D.W.lanes
  have hlo := D.W.long
  have ha := at_all D.W D.qw
  obtain ⟨M1, a1, f1, p1⟩ := c_strip D.C D.W (at_ := Q.at_) (fun c hc => ⟨D.K.at_ c hc, ha c hc⟩) hn1 hn
  have F1 : Fr M M1 := (Fr.rfl' M).x (fun a ha => f1 a (by omega))
  have F3 : Fr M (gdM (mset M1 0 11 (nI 0))) := (F1.a _).g
  have D3 := D.fr F3
  obtain ⟨M2, a2, ⟨f2, r2⟩, p2⟩ := r_strip D3.R D.W (at_ := Q.at_) (fun c hc => ⟨D3.H.at_ c hc, ha c hc⟩) hn1 hn
  obtain ⟨v, l, a, hs⟩ := Lt_some (at_ := Q.at_) D.W hn
  obtain ⟨b1, b2, b3⟩ := Lt_ok (at_ := Q.at_) D.W (show n ≤ 40 by omega) (G 1) (by omega) v l a hs
  rw [hs] at p1 p2 a2
  obtain ⟨q1, q2, q3⟩ : M1 80 2 = nI v ∧ M1 80 0 = nI l ∧ M1 80 1 = nI a := p1
  have F2 : Fr M M2 := F3.tr ⟨fun b _ _ => f2 b (by omega), fun b _ _ => f2 b (by omega), fun b _ _ => f2 b (by omega), fun b _ _ => f2 b (by omega), fun b _ _ => f2 b (by omega), fun k _ => by rw [f2 87 (by omega)], fun k _ => by rw [f2 86 (by omega)], fun k _ => by rw [f2 0 (by omega)], fun k _ _ h => r2 k (by omega)⟩
  refine ⟨M1, M2, v, l, a, b1, b2, b3, a1, q1, q2, q3, F3, a2, p2, I0.fr F2 (.inl ⟨?_, ?_⟩)⟩
  · rw [f2 0 (by omega), r2 11 (by omega)]; unfold gdM; simp (disch := omega) only [ms1, ms1, ms2, ms3]
  · rw [f2 0 (by omega)]; unfold gdM; simp (disch := omega) only [ms1, ms1, ms2, ms3]; exact nI04
theorem op_lay (x : Int32) (T : Nat) : Same (f_X9_lay x) (f_X10_lay x) T T := by
  intro M I0
  obtain ⟨g, tl, I, h⟩ := id I0
  unfold f_X9_lay f_X10_lay
  simp only [jns]
  rcases t_game I h with ⟨e1, e2⟩ | ⟨G, Q, mk, Qm, D, e1, e2⟩
  · refine ⟨(-1 : Int32), mset M 0 11 (nI 1), mset (gdM (mset M 0 11 (nI 1))) 81 11 (nI 1), ?_, ?_, I0.no (Fr.rfl' M) (by omega)⟩
    · rw [e1]; rfl
    · have hw : f_X10_layWhy x (gdM (mset M 0 11 (nI 1))) = some (nI 1, gdM (mset M 0 11 (nI 1))) := by
        unfold f_X10_layWhy
        rw [if_pos (e2 _ (fg M _))]
      rw [r_good, bvs, hw]; rfl
  · rcases tz_lay I D x with ⟨n, h1, h2, rfl, ⟨h3, h4⟩, h5⟩ | ⟨h3, h5⟩
    · obtain ⟨M1, M2, v, l, a, b1, b2, b3, a1, q1, q2, q3, F3, a2, p2, I2⟩ := both_lay I0 I D h1 h2
      refine ⟨nI (100 * l + a), mset M1 0 11 (nI 0), M2, ?_, ?_, I2⟩
      · rw [e1, bds, if_neg (by decide), if_neg h3, I.h8, bgv I.gg, D.C.f6, if_pos h4, bgv I.gg, a1, bvs, q2, q3, nmul, nadd, Nat.mul_comm l 100]; rfl
      · rw [r_good, bvs, h5 _ F3, bds, if_pos (by decide), a2]; rfl
    · refine ⟨(-1 : Int32), mset M 0 11 (nI 2), mset (gdM (mset M 0 11 (nI 2))) 81 11 (nI 2), ?_, ?_, I0.no (Fr.rfl' M) (by omega)⟩
      · rw [e1, bds, if_neg (by decide), I.h8, bgv I.gg, D.C.f6]
        rcases h3 with h3 | ⟨h3, h4⟩
        · rw [if_pos h3]; rfl
        · rw [if_neg h3, if_neg h4]; rfl
      · rw [r_good, bvs, h5 _ (fg M _)]; rfl
theorem op_heard (x : Int32) (T : Nat) : Same (f_X9_heard x) (f_X10_heard x) T T := by
  intro M I0
  obtain ⟨g, tl, I, h⟩ := id I0
  unfold f_X9_heard f_X10_heard
  simp only [jns]
  rcases t_game I h with ⟨e1, e2⟩ | ⟨G, Q, mk, Qm, D, e1, e2⟩
  · refine ⟨(-1 : Int32), mset M 0 11 (nI 1), mset (gdM (mset M 0 11 (nI 1))) 81 11 (nI 1), ?_, ?_, I0.no (Fr.rfl' M) (by omega)⟩
    · rw [e1]; rfl
    · have hw : f_X10_layWhy x (gdM (mset M 0 11 (nI 1))) = some (nI 1, gdM (mset M 0 11 (nI 1))) := by
        unfold f_X10_layWhy
        rw [if_pos (e2 _ (fg M _))]
      rw [r_good, bvs, hw]; rfl
  · rcases tz_lay I D x with ⟨n, h1, h2, rfl, ⟨h3, h4⟩, h5⟩ | ⟨h3, h5⟩
    · obtain ⟨M1, M2, v, l, a, b1, b2, b3, a1, q1, q2, q3, F3, a2, p2, I2⟩ := both_lay I0 I D h1 h2
      refine ⟨nI v, mset M1 0 11 (nI 0), M2, ?_, ?_, I2⟩
      · rw [e1, bds, if_neg (by decide), if_neg h3, I.h8, bgv I.gg, D.C.f6, if_pos h4, bgv I.gg, a1, bvs, q1]; rfl
      · rw [r_good, bvs, h5 _ F3, bds, if_pos (by decide), a2, bds, if_pos (nI_pos' (by omega)), p2]
    · refine ⟨(-1 : Int32), mset M 0 11 (nI 2), mset (gdM (mset M 0 11 (nI 2))) 81 11 (nI 2), ?_, ?_, I0.no (Fr.rfl' M) (by omega)⟩
      · rw [e1, bds, if_neg (by decide), I.h8, bgv I.gg, D.C.f6]
        rcases h3 with h3 | ⟨h3, h4⟩
        · rw [if_pos h3]; rfl
        · rw [if_neg h3, if_neg h4]; rfl
      · rw [r_good, bvs, h5 _ (fg M _)]; rfl
