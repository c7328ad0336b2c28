/-! THE CLASS'S CREEPING. -/
theorem CG.cong {M M0 : Mm} {g : Nat} {G : Nat → Nat} (C : CG M0 g G) (h : ∀ a, a < 15 → M a = M0 a) : CG M g G := by
  have hg : g ≤ 8 := by rcases C.hg with h | h <;> omega
  have hh : ∀ k, k < 7 → M (g + k) = M0 (g + k) := fun k hk => h _ (by omega)
  have h0 : M g = M0 g := h _ (by omega)
  refine ⟨C.hg, ?_, ?_, ?_, ?_, ?_, ?_, ?_, ?_, ?_, fun p hp => ?_, fun p hp => ?_, fun p hp k hk => ?_, fun i hi => ?_, fun i hi => ?_, fun c hc w hw => ?_⟩
  · rw [h0]; exact C.f6
  · rw [h0]; exact C.f7
  · rw [h0]; exact C.f8
  · rw [h0]; exact C.f9
  · rw [h0]; exact C.f10
  · rw [h0]; exact C.f11
  · rw [h0]; exact C.f12
  · rw [h0]; exact C.f13
  · rw [h0]; exact C.f14
  · rw [hh 1 (by decide)]; exact C.ends p hp
  · rw [hh 2 (by decide)]; exact C.syc p hp
  · rw [hh 3 (by decide)]; exact C.syl p hp k hk
  · rw [hh 4 (by decide)]; exact C.cha i hi
  · rw [hh 5 (by decide)]; exact C.grv i hi
  · rw [hh 6 (by decide)]; exact C.trt c hc w hw
/-- the cells that hold a play -/
def PC (p : Nat) : Prop := p = 20 ∨ p = 31 ∨ p = 41 ∨ p = 51 ∨ p = 62
theorem PC.ge {p : Nat} (h : PC p) : 20 ≤ p ∧ p ≤ 62 := by unfold PC at h; omega
theorem lyp {p : Nat} (h : PC p) {k : Nat} (h1 : 1 ≤ k) (h2 : k ≤ 9) : LY (p + k) = .inr (0, 5) := by
  have : ∀ k : Fin 10, 1 ≤ k.1 → ∀ p, p = 20 ∨ p = 31 ∨ p = 41 ∨ p = 51 ∨ p = 62 → LY (p + k.1) = .inr (0, 5) := by
    intro k hk p hp
    rcases hp with rfl | rfl | rfl | rfl | rfl <;> revert hk <;> revert k <;> decide +kernel
  exact this ⟨k, by omega⟩ h1 p h
theorem p_at {p k c : Nat} {M : Mm} (h : PC p) (h1 : 1 ≤ k) (h2 : k ≤ 9) (hc : c < 5) : f_X9_at (p + k) (nI c) M = some (M (p + k) c, M) := f_at (lyp h h1 h2) (by decide) hc
theorem p_put {p k c : Nat} {M : Mm} {v : Int32} (h : PC p) (h1 : 1 ≤ k) (h2 : k ≤ 9) (hc : c < 5) : f_X9_put (p + k) (nI c) v M = some (mset M (p + k) c v) := f_put (lyp h h1 h2) (by decide) hc
theorem p_add {p k c : Nat} {M : Mm} {v : Int32} (h : PC p) (h1 : 1 ≤ k) (h2 : k ≤ 9) (hc : c < 5) : f_X9_add (p + k) (nI c) v M = some (mset M (p + k) c (M (p + k) c + v)) := f_add (lyp h h1 h2) (by decide) hc
abbrev C1 (G : Nat → Nat) (M0 : Mm) (p part tenth loud : Nat) (into at_ : Nat → Nat) (i : Nat) (M : Mm) : Prop := (∀ a, a ≠ p → a ≠ p + 1 → a ≠ p + 2 → a ≠ p + 7 → M a = M0 a) ∧ (∀ c, c < i → M (p + 7) c = nI (Gb G part tenth c).toNat) ∧ (∀ c, c < i → M (p + 2) c = nI (In1 G part tenth into c)) ∧ (∀ c, c < i → M (p + 1) c = nI (At1 G part tenth into at_ c)) ∧ (∀ c, i ≤ c → c < G 95 → M (p + 2) c = nI (into c)) ∧ (∀ c, i ≤ c → c < G 95 → M (p + 1) c = nI (at_ c)) ∧ (M p 11 = nI (loud + Sm (Lo1 G part tenth into at_) i)) ∧ (∀ k, k ≠ 11 → M p k = M0 p k)
theorem C1.fr {G : Nat → Nat} {M0 : Mm} {p part tenth loud : Nat} {into at_ : Nat → Nat} {i : Nat} {M : Mm} (h : C1 G M0 p part tenth loud into at_ i M) : ∀ a, a ≠ p → a ≠ p + 1 → a ≠ p + 2 → a ≠ p + 7 → M a = M0 a := h.1
theorem C1.went {G : Nat → Nat} {M0 : Mm} {p part tenth loud : Nat} {into at_ : Nat → Nat} {i : Nat} {M : Mm} (h : C1 G M0 p part tenth loud into at_ i M) : ∀ c, c < i → M (p + 7) c = nI (Gb G part tenth c).toNat := h.2.1
theorem C1.into1 {G : Nat → Nat} {M0 : Mm} {p part tenth loud : Nat} {into at_ : Nat → Nat} {i : Nat} {M : Mm} (h : C1 G M0 p part tenth loud into at_ i M) : ∀ c, c < i → M (p + 2) c = nI (In1 G part tenth into c) := h.2.2.1
theorem C1.at1 {G : Nat → Nat} {M0 : Mm} {p part tenth loud : Nat} {into at_ : Nat → Nat} {i : Nat} {M : Mm} (h : C1 G M0 p part tenth loud into at_ i M) : ∀ c, c < i → M (p + 1) c = nI (At1 G part tenth into at_ c) := h.2.2.2.1
theorem C1.into0 {G : Nat → Nat} {M0 : Mm} {p part tenth loud : Nat} {into at_ : Nat → Nat} {i : Nat} {M : Mm} (h : C1 G M0 p part tenth loud into at_ i M) : ∀ c, i ≤ c → c < G 95 → M (p + 2) c = nI (into c) := h.2.2.2.2.1
theorem C1.at0 {G : Nat → Nat} {M0 : Mm} {p part tenth loud : Nat} {into at_ : Nat → Nat} {i : Nat} {M : Mm} (h : C1 G M0 p part tenth loud into at_ i M) : ∀ c, i ≤ c → c < G 95 → M (p + 1) c = nI (at_ c) := h.2.2.2.2.2.1
theorem C1.loud {G : Nat → Nat} {M0 : Mm} {p part tenth loud : Nat} {into at_ : Nat → Nat} {i : Nat} {M : Mm} (h : C1 G M0 p part tenth loud into at_ i M) : M p 11 = nI (loud + Sm (Lo1 G part tenth into at_) i) := h.2.2.2.2.2.2.1
theorem C1.rest {G : Nat → Nat} {M0 : Mm} {p part tenth loud : Nat} {into at_ : Nat → Nat} {i : Nat} {M : Mm} (h : C1 G M0 p part tenth loud into at_ i M) : ∀ k, k ≠ 11 → M p k = M0 p k := h.2.2.2.2.2.2.2
theorem c_creep {M : Mm} {G : Nat → Nat} {g p c n a l : Nat} (C : CG M g G) (W : GW G) (P : PC p) (hc : c < G 95) (e2 : M (p + 2) c = nI n) (e1 : M (p + 1) c = nI a) (el : M p 11 = nI l) (hn : n < 100) (ha : a < 100) :
    f_X3_creep p g (nI c) M = some (if G (61 + c) ≤ n + 1 then mset (mset (mset (mset M (p + 2) c (nI (n + 1))) (p + 2) c (nI 0)) (p + 1) c (nI (a + 1))) p 11 (nI (l + Ld G (G (56 + c)) (a + 1))) else mset M (p + 2) c (nI (n + 1))) := by
  have h1 := W.crp c hc
  have h2 := W.creepers
  have h3 := W.lanes
  have h4 := P.ge
  have cg : ∀ X : Mm, (∀ a, a < 15 → X a = M a) → CG X g G := fun X h => C.cong h
  have t1 : ∀ X : Mm, (∀ a, a < 15 → X a = M a) → f_X0_trait g (nI c) (nI 1) X = some (nI (G (61 + c)), X) := fun X h => by
    rw [c_trait (cg X h) W hc (by decide)]
  have t0 : ∀ X : Mm, (∀ a, a < 15 → X a = M a) → f_X0_trait g (nI c) (nI 0) X = some (nI (G (56 + c)), X) := fun X h => by
    rw [c_trait (cg X h) W hc (by decide)]
  have ll : ∀ X : Mm, (∀ a, a < 15 → X a = M a) → f_X0_loudnessOf g (nI (G (56 + c))) (nI (a + 1)) X = some (nI (Ld G (G (56 + c)) (a + 1)), X) := fun X h => c_loud (cg X h) W (by omega) (by omega)
  unfold f_X3_creep
  rw [p_add P (by decide) (by decide) (by omega), bvs, e2, nadd, p_at P (by decide) (by decide) (by omega), bds, ms1, t1 _ (fun b hb => by rw [mset_off _ _ _ (by omega)]), bds]
  by_cases c1 : G (61 + c) ≤ n + 1
  · rw [if_pos c1]
    simp (disch := omega) only [p_put P (show 1 ≤ 2 by decide) (show 2 ≤ 9 by decide) (show c < 5 by omega), p_add P (show 1 ≤ 1 by decide) (show 1 ≤ 9 by decide) (show c < 5 by omega), ms1, ms2, ms3, e1, el, jns, bds, bvs, lts, gdt, nadd, nmul, nsub, nle, nlt, neq, nz0, nlt0, nle0, n0le, n0lt, nclamp, ndiv, nmod2, gdi, gdn, if_pos, if_neg, if_true, if_false]
    rw [t0 _ (fun b hb => by rw [mset_off _ _ _ (by omega), mset_off _ _ _ (by omega), mset_off _ _ _ (by omega)]), bds, p_at P (by decide) (by decide) (by omega), bds, ms1, ll _ (fun b hb => by rw [mset_off _ _ _ (by omega), mset_off _ _ _ (by omega), mset_off _ _ _ (by omega)]), bds, nadd]
  · rw [if_neg c1]
    simp (disch := omega) only [jns, bds, bvs, lts, gdt, nadd, nmul, nsub, nle, nlt, neq, nz0, nlt0, nle0, n0le, n0lt, nclamp, ndiv, nmod2, gdi, gdn, if_pos, if_neg, if_true, if_false]
theorem c_creepAll {M0 : Mm} {G : Nat → Nat} {g p : Nat} (C : CG M0 g G) (W : GW G) (P : PC p) {part tenth loud : Nat} {into at_ : Nat → Nat} (hp : part < G 92) (ht : tenth < Tn G part) (e10 : M0 p 10 = nI (En G part + tenth)) (hi : ∀ c, c < G 95 → into c < G (61 + c)) (ha : ∀ c, c < G 95 → at_ c < 100) (h0 : C1 G M0 p part tenth loud into at_ 0 M0) :
    ∃ M', f_X3_creepAll p g M0 = some M' ∧ C1 G M0 p part tenth loud into at_ (G 95) M' := by
  have h2 := W.creepers
  have h4 := P.ge
  unfold f_X3_creepAll
  refine lpM (fun f i M => lp_X3_creepAll_2 p g f (nI i) M) (G 95) (C1 G M0 p part tenth loud into at_) some (by omega) (fun f i M hi2 T => ?_) (fun f M T => ?_) M0 h0
  · have C' : CG M g G := C.cong (fun a h => T.fr a (by omega) (by omega) (by omega) (by omega))
    have h1 := W.crp i hi2
    have ha' := ha i hi2
    have hi' := hi i hi2
    have e10' : M p 10 = nI (En G part + tenth) := by rw [T.rest 10 (by decide)]; exact e10
    have hg := c_goes C' W hi2 hp ht
    have ei := T.into0 i (Nat.le_refl _) (by omega)
    have ea := T.at0 i (Nat.le_refl _) (by omega)
    rw [lp_X3_creepAll_2]
    cases hgb : Gb G part tenth i
    · have s1 : Sp1 G part tenth into i = false := decide_eq_false (by rw [hgb, Bool.toNat_false]; omega)
      have x1 : In1 G part tenth into i = into i := by simp [In1, s1, hgb]
      have x2 : At1 G part tenth into at_ i = at_ i := by simp [At1, s1]
      have x3 : Lo1 G part tenth into at_ i = 0 := by simp [Lo1, s1]
      rw [hgb] at hg
      refine ⟨mset M (p + 7) i (nI 0), ?_, ?_⟩
      · simp (disch := omega) only [C'.f14, e10', hg, Bool.toNat_false, p_put P (show 1 ≤ 7 by decide) (show 7 ≤ 9 by decide) (show i < 5 by omega), jns, bds, bvs, lts, gdt, nadd, nmul, nsub, nle, nlt, neq, nz0, nlt0, nle0, n0le, n0lt, nclamp, ndiv, nmod2, gdi, gdn, if_pos, if_neg, if_true, if_false]
      · refine ⟨fun a h1 h2 h3 h4 => ?_, fun c hc => ?_, fun c hc => ?_, fun c hc => ?_, fun c hc hd => ?_, fun c hc hd => ?_, ?_, fun k hk => ?_⟩
        · rw [mset_off _ _ _ h4, T.fr a h1 h2 h3 h4]
        · by_cases hci : c = i
          · subst hci; simp (disch := omega) only [hgb, ms1, ms2, ms3]; rfl
          · simp (disch := omega) only [ms1, ms1, ms2, ms3]; exact T.went c (by omega)
        · by_cases hci : c = i
          · subst hci; simp (disch := omega) only [x1, ms1, ms2, ms3]; exact ei
          · simp (disch := omega) only [ms1, ms1, ms2, ms3]; exact T.into1 c (by omega)
        · by_cases hci : c = i
          · subst hci; simp (disch := omega) only [x2, ms1, ms2, ms3]; exact ea
          · simp (disch := omega) only [ms1, ms1, ms2, ms3]; exact T.at1 c (by omega)
        · simp (disch := omega) only [ms1, ms1, ms2, ms3]; exact T.into0 c (by omega) hd
        · simp (disch := omega) only [ms1, ms1, ms2, ms3]; exact T.at0 c (by omega) hd
        · simp (disch := omega) only [ms1, ms1, ms2, ms3]; rw [Sm, x3, Nat.add_zero]; exact T.loud
        · simp (disch := omega) only [ms1, ms1, ms2, ms3]; exact T.rest k hk
    · rw [hgb] at hg
      have hcr := c_creep (M := mset M (p + 7) i (nI 1)) (C'.cong (fun a h => by rw [mset_off _ _ _ (by omega)])) W P hi2 (by simp (disch := omega) only [ms1, ms1, ms2, ms3]; exact ei) (by simp (disch := omega) only [ms1, ms1, ms2, ms3]; exact ea) (by simp (disch := omega) only [ms1, ms1, ms2, ms3]; exact T.loud) (by omega) ha'
      by_cases c1 : G (61 + i) ≤ into i + 1
      · have s1 : Sp1 G part tenth into i = true := decide_eq_true (by rw [hgb, Bool.toNat_true]; omega)
        have x1 : In1 G part tenth into i = 0 := by simp [In1, s1]
        have x2 : At1 G part tenth into at_ i = at_ i + 1 := by simp [At1, s1]
        have x3 : Lo1 G part tenth into at_ i = Ld G (G (56 + i)) (at_ i + 1) := by simp [Lo1, s1]
        rw [if_pos c1] at hcr
        refine ⟨mset (mset (mset (mset (mset M (p + 7) i (nI 1)) (p + 2) i (nI (into i + 1))) (p + 2) i (nI 0)) (p + 1) i (nI (at_ i + 1))) p 11 (nI (loud + Sm (Lo1 G part tenth into at_) i + Ld G (G (56 + i)) (at_ i + 1))), ?_, ?_⟩
        · simp (disch := omega) only [C'.f14, e10', hg, Bool.toNat_true, p_put P (show 1 ≤ 7 by decide) (show 7 ≤ 9 by decide) (show i < 5 by omega), hcr, jns, bds, bvs, lts, gdt, nadd, nmul, nsub, nle, nlt, neq, nz0, nlt0, nle0, n0le, n0lt, nclamp, ndiv, nmod2, gdi, gdn, if_pos, if_neg, if_true, if_false]
        · refine ⟨fun a h1 h2 h3 h4 => ?_, fun c hc => ?_, fun c hc => ?_, fun c hc => ?_, fun c hc hd => ?_, fun c hc hd => ?_, ?_, fun k hk => ?_⟩
          · rw [mset_off _ _ _ h1, mset_off _ _ _ h2, mset_off _ _ _ h3, mset_off _ _ _ h3, mset_off _ _ _ h4, T.fr a h1 h2 h3 h4]
          · by_cases hci : c = i
            · subst hci; simp (disch := omega) only [hgb, ms1, ms2, ms3]; rfl
            · simp (disch := omega) only [ms1, ms1, ms2, ms3]; exact T.went c (by omega)
          · by_cases hci : c = i
            · subst hci; simp (disch := omega) only [x1, ms1, ms2, ms3]
            · simp (disch := omega) only [ms1, ms1, ms2, ms3]; exact T.into1 c (by omega)
          · by_cases hci : c = i
            · subst hci; simp (disch := omega) only [x2, ms1, ms2, ms3]
            · simp (disch := omega) only [ms1, ms1, ms2, ms3]; exact T.at1 c (by omega)
          · simp (disch := omega) only [ms1, ms1, ms2, ms3]; exact T.into0 c (by omega) hd
          · simp (disch := omega) only [ms1, ms1, ms2, ms3]; exact T.at0 c (by omega) hd
          · simp (disch := omega) only [ms1, ms1, ms2, ms3]; rw [Sm, x3, Nat.add_assoc]
          · simp (disch := omega) only [ms1, ms1, ms2, ms3]; exact T.rest k hk
      · have s1 : Sp1 G part tenth into i = false := decide_eq_false (by rw [hgb, Bool.toNat_true]; omega)
        have x1 : In1 G part tenth into i = into i + 1 := by simp [In1, s1, hgb]
        have x2 : At1 G part tenth into at_ i = at_ i := by simp [At1, s1]
        have x3 : Lo1 G part tenth into at_ i = 0 := by simp [Lo1, s1]
        rw [if_neg c1] at hcr
        refine ⟨mset (mset M (p + 7) i (nI 1)) (p + 2) i (nI (into i + 1)), ?_, ?_⟩
        · simp (disch := omega) only [C'.f14, e10', hg, Bool.toNat_true, p_put P (show 1 ≤ 7 by decide) (show 7 ≤ 9 by decide) (show i < 5 by omega), hcr, jns, bds, bvs, lts, gdt, nadd, nmul, nsub, nle, nlt, neq, nz0, nlt0, nle0, n0le, n0lt, nclamp, ndiv, nmod2, gdi, gdn, if_pos, if_neg, if_true, if_false]
        · refine ⟨fun a h1 h2 h3 h4 => ?_, fun c hc => ?_, fun c hc => ?_, fun c hc => ?_, fun c hc hd => ?_, fun c hc hd => ?_, ?_, fun k hk => ?_⟩
          · rw [mset_off _ _ _ h3, mset_off _ _ _ h4, T.fr a h1 h2 h3 h4]
          · by_cases hci : c = i
            · subst hci; simp (disch := omega) only [hgb, ms1, ms2, ms3]; rfl
            · simp (disch := omega) only [ms1, ms1, ms2, ms3]; exact T.went c (by omega)
          · by_cases hci : c = i
            · subst hci; simp (disch := omega) only [x1, ms1, ms2, ms3]
            · simp (disch := omega) only [ms1, ms1, ms2, ms3]; exact T.into1 c (by omega)
          · by_cases hci : c = i
            · subst hci; simp (disch := omega) only [x2, ms1, ms2, ms3]; exact ea
            · simp (disch := omega) only [ms1, ms1, ms2, ms3]; exact T.at1 c (by omega)
          · simp (disch := omega) only [ms1, ms1, ms2, ms3]; exact T.into0 c (by omega) hd
          · simp (disch := omega) only [ms1, ms1, ms2, ms3]; exact T.at0 c (by omega) hd
          · simp (disch := omega) only [ms1, ms1, ms2, ms3]; rw [Sm, x3, Nat.add_zero]; exact T.loud
          · simp (disch := omega) only [ms1, ms1, ms2, ms3]; exact T.rest k hk
  · rw [lp_X3_creepAll_2, T.fr g (by have := C.hg; omega) (by have := C.hg; omega) (by have := C.hg; omega) (by have := C.hg; omega), C.f14, if_pos (Int32.le_refl _)]
