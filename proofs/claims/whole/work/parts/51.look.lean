/-! HE LOOKS: the class's wobbling. -/
abbrev W1 (G : Nat → Nat) (M0 : Mm) (p : Nat) (wn : Nat → Bool) (s : Nat) (into : Nat → Nat) (i : Nat) (M : Mm) : Prop := (∀ a, a ≠ p → a ≠ p + 2 → a ≠ p + 8 → M a = M0 a) ∧ (∀ c, c < i → M (p + 8) c = Shk G wn into s c) ∧ (∀ c, c < i → M (p + 2) c = nI (InA wn into c)) ∧ (∀ c, i ≤ c → c < G 95 → M (p + 2) c = nI (into c)) ∧ (M p 9 = nI (SdA wn into s i)) ∧ (∀ k, k ≠ 9 → M p k = M0 p k)
theorem W1.fr {G : Nat → Nat} {M0 : Mm} {p : Nat} {wn : Nat → Bool} {s : Nat} {into : Nat → Nat} {i : Nat} {M : Mm} (h : W1 G M0 p wn s into i M) : ∀ a, a ≠ p → a ≠ p + 2 → a ≠ p + 8 → M a = M0 a := h.1
theorem W1.sh {G : Nat → Nat} {M0 : Mm} {p : Nat} {wn : Nat → Bool} {s : Nat} {into : Nat → Nat} {i : Nat} {M : Mm} (h : W1 G M0 p wn s into i M) : ∀ c, c < i → M (p + 8) c = Shk G wn into s c := h.2.1
theorem W1.intoA {G : Nat → Nat} {M0 : Mm} {p : Nat} {wn : Nat → Bool} {s : Nat} {into : Nat → Nat} {i : Nat} {M : Mm} (h : W1 G M0 p wn s into i M) : ∀ c, c < i → M (p + 2) c = nI (InA wn into c) := h.2.2.1
theorem W1.into0 {G : Nat → Nat} {M0 : Mm} {p : Nat} {wn : Nat → Bool} {s : Nat} {into : Nat → Nat} {i : Nat} {M : Mm} (h : W1 G M0 p wn s into i M) : ∀ c, i ≤ c → c < G 95 → M (p + 2) c = nI (into c) := h.2.2.2.1
theorem W1.seed {G : Nat → Nat} {M0 : Mm} {p : Nat} {wn : Nat → Bool} {s : Nat} {into : Nat → Nat} {i : Nat} {M : Mm} (h : W1 G M0 p wn s into i M) : M p 9 = nI (SdA wn into s i) := h.2.2.2.2.1
theorem W1.rest {G : Nat → Nat} {M0 : Mm} {p : Nat} {wn : Nat → Bool} {s : Nat} {into : Nat → Nat} {i : Nat} {M : Mm} (h : W1 G M0 p wn s into i M) : ∀ k, k ≠ 9 → M p k = M0 p k := h.2.2.2.2.2
theorem c_stopFootUp {M : Mm} {G : Nat → Nat} {g p c n s : Nat} (C : CG M g G) (W : GW G) (P : PC p) (hc : c < G 95) (e2 : M (p + 2) c = nI n) (e9 : M p 9 = nI s) (hn : n < 100) (hs : s < 65537) :
    f_X3_stopFootUp p g (nI c) M = some (if Sd s % 100 < G (66 + c) then mset (mset (mset M p 9 (nI (Sd s))) (p + 8) c (nI (n * 100 / G (61 + c)))) (p + 2) c (nI 0) else mset (mset M p 9 (nI (Sd s))) (p + 2) c (nI 0)) := by
  have h1 := W.crp c hc
  have h2 := W.creepers
  have h4 := P.ge
  have h5 := Sd_lt s
  have hq : n * 100 / G (61 + c) < 10000 := dle (by omega)
  have t1 : ∀ X : Mm, (∀ a, a < 15 → X a = M a) → f_X0_trait g (nI c) (nI 1) X = some (nI (G (61 + c)), X) := fun X h => by
    rw [c_trait (C.cong h) W hc (by decide)]
  have t2 : ∀ X : Mm, (∀ a, a < 15 → X a = M a) → f_X0_trait g (nI c) (nI 2) X = some (nI (G (66 + c)), X) := fun X h => by
    rw [c_trait (C.cong h) W hc (by decide)]
  unfold f_X3_stopFootUp
  rw [c_draw e9 hs, bds, t2 _ (fun b hb => by rw [mset_off _ _ _ (by omega)]), bds]
  by_cases c1 : Sd s % 100 < G (66 + c)
  · rw [if_pos c1]
    simp (disch := omega) only [p_at P (show 1 ≤ 2 by decide) (show 2 ≤ 9 by decide) (show c < 5 by omega), ms1, ms2, ms3, e2, jns, bds, bvs, lts, gdt, nadd, nmul, nsub, nle, nlt, neq, nz0, nlt0, nle0, n0le, n0lt, nclamp, ndiv, nmod2, gdi, gdn, if_pos, if_neg, if_true, if_false]
    rw [t1 _ (fun b hb => by rw [mset_off _ _ _ (by omega)]), bds, f_by (by omega) (by omega), bds, p_put P (by decide) (by decide) (by omega), bvs, p_put P (by decide) (by decide) (by omega), bvs]
  · rw [if_neg c1]
    simp (disch := omega) only [p_put P (show 1 ≤ 2 by decide) (show 2 ≤ 9 by decide) (show c < 5 by omega), jns, bds, bvs, lts, gdt, nadd, nmul, nsub, nle, nlt, neq, nz0, nlt0, nle0, n0le, n0lt, nclamp, ndiv, nmod2, gdi, gdn, if_pos, if_neg, if_true, if_false]
theorem c_wobbleAll {M0 : Mm} {G : Nat → Nat} {g p : Nat} (C : CG M0 g G) (W : GW G) (P : PC p) {wn : Nat → Bool} {s : Nat} {into : Nat → Nat} (hs : s < 65537) (hw : ∀ c, c < G 95 → M0 (p + 7) c = nI (wn c).toNat) (hi : ∀ c, c < G 95 → into c < 100) (h0 : W1 G M0 p wn s into 0 M0) :
    ∃ M', f_X3_wobbleAll p g M0 = some M' ∧ W1 G M0 p wn s into (G 95) M' := by
  have h2 := W.creepers
  have h4 := P.ge
  have hg := C.hg
  unfold f_X3_wobbleAll
  refine lpM (fun f i M => lp_X3_wobbleAll_2 p g f (nI i) M) (G 95) (W1 G M0 p wn s into) some (by omega) (fun f i M hi2 T => ?_) (fun f M T => ?_) M0 h0
  · have C' : CG M g G := C.cong (fun a h => T.fr a (by omega) (by omega) (by omega))
    have h1 := W.crp i hi2
    have hi' := hi i hi2
    have ei := T.into0 i (Nat.le_refl _) hi2
    have ew : M (p + 7) i = nI (wn i).toNat := by rw [T.fr (p + 7) (by omega) (by omega) (by omega)]; exact hw i hi2
    have hsd := SdA_lt (wn := wn) (into := into) hs i
    have hsd' := Sd_lt (SdA wn into s i)
    have a7 := fun X : Mm => p_at (M := X) P (show 1 ≤ 7 by decide) (show 7 ≤ 9 by decide) (show i < 5 by omega)
    have a2 := fun X : Mm => p_at (M := X) P (show 1 ≤ 2 by decide) (show 2 ≤ 9 by decide) (show i < 5 by omega)
    have b8 := fun (X : Mm) (v : Int32) => p_put (M := X) (v := v) P (show 1 ≤ 8 by decide) (show 8 ≤ 9 by decide) (show i < 5 by omega)
    rw [lp_X3_wobbleAll_2]
    cases hu : Upw wn into i
    · have x1 : SdA wn into s (i + 1) = SdA wn into s i := by rw [SdA, hu]; rfl
      have x2 : Shk G wn into s i = -1 := by unfold Shk; rw [hu, if_neg (by simp)]
      have x3 : InA wn into i = into i := by unfold InA; rw [hu]; rfl
      refine ⟨mset M (p + 8) i (-1), ?_, ?_⟩
      · cases hwi : wn i
        · rw [hwi] at ew
          simp (disch := omega) only [C'.f14, a7, a2, b8, ms1, ms2, ms3, ew, Bool.toNat_false, jns, bds, bvs, lts, gdt, nadd, nmul, nsub, nle, nlt, neq, nz0, nlt0, nle0, n0le, n0lt, nclamp, ndiv, nmod2, gdi, gdn, if_pos, if_neg, if_true, if_false]
        · rw [hwi] at ew
          have hz : into i = 0 := by
            simp only [Upw, hwi, Bool.true_and, decide_eq_false_iff_not] at hu
            omega
          rw [hz] at ei
          simp (disch := omega) only [C'.f14, a7, a2, b8, ms1, ms2, ms3, ew, ei, Bool.toNat_true, jns, bds, bvs, lts, gdt, nadd, nmul, nsub, nle, nlt, neq, nz0, nlt0, nle0, n0le, n0lt, nclamp, ndiv, nmod2, gdi, gdn, if_pos, if_neg, if_true, if_false]
      · refine ⟨fun a h1 h2 h3 => ?_, fun c hc => ?_, fun c hc => ?_, fun c hc hd => ?_, ?_, fun k hk => ?_⟩
        · rw [mset_off _ _ _ h3, T.fr a h1 h2 h3]
        · by_cases hci : c = i
          · subst hci; simp (disch := omega) only [x2, ms1, ms2, ms3]
          · simp (disch := omega) only [ms1, ms1, ms2, ms3]; exact T.sh c (by omega)
        · by_cases hci : c = i
          · subst hci; simp (disch := omega) only [x3, ms1, ms2, ms3]; exact ei
          · simp (disch := omega) only [ms1, ms1, ms2, ms3]; exact T.intoA c (by omega)
        · simp (disch := omega) only [ms1, ms1, ms2, ms3]; exact T.into0 c (by omega) hd
        · simp (disch := omega) only [x1, ms1, ms2, ms3]; exact T.seed
        · simp (disch := omega) only [ms1, ms1, ms2, ms3]; exact T.rest k hk
    · have hu' := hu
      simp only [Upw, Bool.and_eq_true, decide_eq_true_eq] at hu'
      have x1 : SdA wn into s (i + 1) = Sd (SdA wn into s i) := by rw [SdA, hu]; rfl
      have x3 : InA wn into i = 0 := by unfold InA; rw [hu]; rfl
      rw [hu'.1] at ew
      have hcr := c_stopFootUp (M := mset M (p + 8) i (-1)) (C'.cong (fun a h => by rw [mset_off _ _ _ (by omega)])) W P hi2 (by simp (disch := omega) only [ms1, ms1, ms2, ms3]; exact ei) (by simp (disch := omega) only [ms1, ms1, ms2, ms3]; exact T.seed) hi' hsd
      by_cases c1 : Sd (SdA wn into s i) % 100 < G (66 + i)
      · have x2 : Shk G wn into s i = nI (into i * 100 / G (61 + i)) := by unfold Shk; rw [hu, if_pos ⟨rfl, c1⟩]
        rw [if_pos c1] at hcr
        refine ⟨mset (mset (mset (mset M (p + 8) i (-1)) p 9 (nI (Sd (SdA wn into s i)))) (p + 8) i (nI (into i * 100 / G (61 + i)))) (p + 2) i (nI 0), ?_, ?_⟩
        · simp (disch := omega) only [C'.f14, a7, a2, b8, ms1, ms2, ms3, ew, ei, Bool.toNat_true, hcr, jns, bds, bvs, lts, gdt, nadd, nmul, nsub, nle, nlt, neq, nz0, nlt0, nle0, n0le, n0lt, nclamp, ndiv, nmod2, gdi, gdn, if_pos, if_neg, if_true, if_false]
        · refine ⟨fun a h1 h2 h3 => ?_, fun c hc => ?_, fun c hc => ?_, fun c hc hd => ?_, ?_, fun k hk => ?_⟩
          · rw [mset_off _ _ _ h2, mset_off _ _ _ h3, mset_off _ _ _ h1, mset_off _ _ _ h3, T.fr a h1 h2 h3]
          · by_cases hci : c = i
            · subst hci; simp (disch := omega) only [x2, ms1, ms2, ms3]
            · simp (disch := omega) only [ms1, ms1, ms2, ms3]; exact T.sh c (by omega)
          · by_cases hci : c = i
            · subst hci; simp (disch := omega) only [x3, ms1, ms2, ms3]
            · simp (disch := omega) only [ms1, ms1, ms2, ms3]; exact T.intoA c (by omega)
          · simp (disch := omega) only [ms1, ms1, ms2, ms3]; exact T.into0 c (by omega) hd
          · simp (disch := omega) only [x1, ms1, ms2, ms3]
          · simp (disch := omega) only [ms1, ms1, ms2, ms3]; exact T.rest k hk
      · have x2 : Shk G wn into s i = -1 := by unfold Shk; rw [hu, if_neg (fun z => c1 z.2)]
        rw [if_neg c1] at hcr
        refine ⟨mset (mset (mset M (p + 8) i (-1)) p 9 (nI (Sd (SdA wn into s i)))) (p + 2) i (nI 0), ?_, ?_⟩
        · simp (disch := omega) only [C'.f14, a7, a2, b8, ms1, ms2, ms3, ew, ei, Bool.toNat_true, hcr, jns, bds, bvs, lts, gdt, nadd, nmul, nsub, nle, nlt, neq, nz0, nlt0, nle0, n0le, n0lt, nclamp, ndiv, nmod2, gdi, gdn, if_pos, if_neg, if_true, if_false]
        · refine ⟨fun a h1 h2 h3 => ?_, fun c hc => ?_, fun c hc => ?_, fun c hc hd => ?_, ?_, fun k hk => ?_⟩
          · rw [mset_off _ _ _ h2, mset_off _ _ _ h1, mset_off _ _ _ h3, T.fr a h1 h2 h3]
          · by_cases hci : c = i
            · subst hci; simp (disch := omega) only [x2, ms1, ms2, ms3]
            · simp (disch := omega) only [ms1, ms1, ms2, ms3]; exact T.sh c (by omega)
          · by_cases hci : c = i
            · subst hci; simp (disch := omega) only [x3, ms1, ms2, ms3]
            · simp (disch := omega) only [ms1, ms1, ms2, ms3]; exact T.intoA c (by omega)
          · simp (disch := omega) only [ms1, ms1, ms2, ms3]; exact T.into0 c (by omega) hd
          · simp (disch := omega) only [x1, ms1, ms2, ms3]
          · simp (disch := omega) only [ms1, ms1, ms2, ms3]; exact T.rest k hk
  · rw [lp_X3_wobbleAll_2, T.fr g (by omega) (by omega) (by omega), C.f14, if_pos (Int32.le_refl _)]
/-! who stands how -/
def Hn (G : Nat → Nat) (at_ : Nat → Nat) (c : Nat) : Nat → Bool
  | 0 => false
  | k + 1 => Hn G at_ c k || decide (G (56 + k) = G (56 + c) ∧ at_ c < at_ k ∧ G (71 + c) < G (71 + k))
def Hd (G : Nat → Nat) (at_ : Nat → Nat) (c : Nat) : Bool := Hn G at_ c (G 95)
/-- how c stands with the seed s, and the seed after -/
def hv (G : Nat → Nat) (at_ : Nat → Nat) (sh : Nat → Int32) (s c : Nat) : Int32 × Nat :=
  if Hd G at_ c then (nI 2, s) else if sh c = -1 then (if G (76 + c) ≤ Sd s % 100 then nI 0 else nI 5, Sd s) else (if sh c < nI (G 5 + G 0 - at_ c) then nI 1 else nI 4, s)
theorem hv_lt {G : Nat → Nat} {at_ : Nat → Nat} {sh : Nat → Int32} {s c : Nat} (hs : s < 65537) : (hv G at_ sh s c).2 < 65537 := by
  unfold hv
  split
  · exact hs
  · split
    · exact Sd_lt _
    · exact hs
def SdB (G : Nat → Nat) (at_ : Nat → Nat) (sh : Nat → Int32) (s : Nat) : Nat → Nat
  | 0 => s
  | i + 1 => (hv G at_ sh (SdB G at_ sh s i) (oC at_ (G 95) i)).2
theorem SdB_lt {G : Nat → Nat} {at_ : Nat → Nat} {sh : Nat → Int32} {s : Nat} (hs : s < 65537) : ∀ i, SdB G at_ sh s i < 65537
  | 0 => hs
  | i + 1 => hv_lt (SdB_lt hs i)
def HwB (G : Nat → Nat) (at_ : Nat → Nat) (sh : Nat → Int32) (s : Nat) : Nat → Nat → Int32
  | 0, _ => nI 3
  | i + 1, c => if c = oC at_ (G 95) i then (hv G at_ sh (SdB G at_ sh s i) c).1 else HwB G at_ sh s i c
theorem r_isHidden {M : Mm} {G : Nat → Nat} (R : RG M G) (W : GW G) {at_ : Nat → Nat} (ha : ∀ c, c < G 95 → M 86 (9 + c) = nI (at_ c) ∧ at_ c < 100) {c : Nat} (hc : c < G 95) : f_X10_isHidden (nI c) M = some (nI (Hd G at_ c).toNat, M) := by
  have h2 := W.creepers
  have h1 := W.crp c hc
  have h3 := W.lanes
  have h4 := ha c hc
  unfold f_X10_isHidden
  refine lp0 (fun f i => lp_X10_isHidden_4 (nI c) f (nI (Hn G at_ c i).toNat) (nI i) M) (G 95) (by omega) (fun f i hi => ?_) (fun f => ?_)
  · have h5 := ha i hi
    have h6 := W.crp i hi
    rw [lp_X10_isHidden_4, Hn]
    cases hb : Hn G at_ c i
    · by_cases c1 : G (56 + i) = G (56 + c)
      · by_cases c2 : at_ c < at_ i
        · by_cases c3 : G (71 + c) < G (71 + i)
          · simp (disch := omega) only [R _, h4.1, h5.1, c1, c2, c3, Bool.toNat_false, Bool.false_or, and_self, decide_true, Bool.toNat_true, jns, bds, bvs, lts, gdt, nadd, nmul, nsub, nle, nlt, neq, nz0, nlt0, nle0, n0le, n0lt, nclamp, ndiv, nmod2, gdi, gdn, if_pos, if_neg, if_true, if_false]
          · simp (disch := omega) only [R _, h4.1, h5.1, c1, c2, c3, Bool.toNat_false, Bool.false_or, and_false, decide_false, jns, bds, bvs, lts, gdt, nadd, nmul, nsub, nle, nlt, neq, nz0, nlt0, nle0, n0le, n0lt, nclamp, ndiv, nmod2, gdi, gdn, if_pos, if_neg, if_true, if_false]
        · simp (disch := omega) only [R _, h4.1, h5.1, c1, c2, Bool.toNat_false, Bool.false_or, and_false, false_and, decide_false, jns, bds, bvs, lts, gdt, nadd, nmul, nsub, nle, nlt, neq, nz0, nlt0, nle0, n0le, n0lt, nclamp, ndiv, nmod2, gdi, gdn, if_pos, if_neg, if_true, if_false]
      · simp (disch := omega) only [R _, h4.1, h5.1, c1, Bool.toNat_false, Bool.false_or, false_and, decide_false, jns, bds, bvs, lts, gdt, nadd, nmul, nsub, nle, nlt, neq, nz0, nlt0, nle0, n0le, n0lt, nclamp, ndiv, nmod2, gdi, gdn, if_pos, if_neg, if_true, if_false]
    · simp (disch := omega) only [R _, Bool.toNat_true, Bool.true_or, jns, bds, bvs, lts, gdt, nadd, nmul, nsub, nle, nlt, neq, nz0, nlt0, nle0, n0le, n0lt, nclamp, ndiv, nmod2, gdi, gdn, if_pos, if_neg, if_true, if_false]
  · rw [lp_X10_isHidden_4]
    simp (disch := omega) only [R _, jns, bds, bvs, lts, gdt, nadd, nmul, nsub, nle, nlt, neq, nz0, nlt0, nle0, n0le, n0lt, nclamp, ndiv, nmod2, gdi, gdn, if_pos, if_neg, if_true, if_false]
    rw [gdz]
    · rfl
    · cases Hn G at_ c (G 95) <;> decide
theorem c_isHidden {M : Mm} {G : Nat → Nat} {g p : Nat} (C : CG M g G) (W : GW G) (P : PC p) {at_ : Nat → Nat} (ha : ∀ c, c < G 95 → M (p + 1) c = nI (at_ c) ∧ at_ c < 100) {c : Nat} (hc : c < G 95) : f_X3_isHidden p g (nI c) M = some (nI (Hd G at_ c).toNat, M) := by
  have h2 := W.creepers
  have h1 := W.crp c hc
  have h3 := W.lanes
  have h4 := ha c hc
  have ac := p_at (M := M) P (show 1 ≤ 1 by decide) (show 1 ≤ 9 by decide) (show c < 5 by omega)
  rw [h4.1] at ac
  have l0 := c_trait C W hc (show 0 < 7 by decide)
  have l3 := c_trait C W hc (show 3 < 7 by decide)
  rw [show 56 + 5 * 0 + c = 56 + c from by omega] at l0
  rw [show 56 + 5 * 3 + c = 71 + c from by omega] at l3
  have hmono : ∀ {i n}, i ≤ n → Hn G at_ c i = true → Hn G at_ c n = true := by
    intro i n h
    induction h with
    | refl => exact id
    | step h ih => intro z; rw [Hn, ih z]; rfl
  unfold f_X3_isHidden
  have := lpA (fun f i => lp_X3_isHidden_2 p g (nI c) f (nI i) M) (G 95) (fun k => !decide (G (56 + k) = G (56 + c) ∧ at_ c < at_ k ∧ G (71 + c) < G (71 + k))) (T := some (nI 0, M)) (F := some (nI 1, M)) (by omega) (fun f i hi hp => ?_) (fun f i hi hp => ?_) (fun f => ?_)
  · refine Eq.trans this ?_
    have e : ∀ n, Al (fun k => !decide (G (56 + k) = G (56 + c) ∧ at_ c < at_ k ∧ G (71 + c) < G (71 + k))) n = !(Hn G at_ c n) := by
      intro n
      induction n with
      | zero => rfl
      | succ n ih => rw [Al, Hn, ih, Bool.not_or]
    rw [e]
    unfold Hd
    cases Hn G at_ c (G 95) <;> rfl
  · have h5 := ha i hi
    have h6 := W.crp i hi
    have ai := p_at (M := M) P (show 1 ≤ 1 by decide) (show 1 ≤ 9 by decide) (show i < 5 by omega)
    rw [h5.1] at ai
    have l0i := c_trait C W hi (show 0 < 7 by decide)
    have l3i := c_trait C W hi (show 3 < 7 by decide)
    rw [show 56 + 5 * 0 + i = 56 + i from by omega] at l0i
    rw [show 56 + 5 * 3 + i = 71 + i from by omega] at l3i
    simp only [Bool.not_eq_true', decide_eq_false_iff_not] at hp
    rw [lp_X3_isHidden_2]
    by_cases c1 : G (56 + i) = G (56 + c)
    · by_cases c2 : at_ c < at_ i
      · by_cases c3 : G (71 + c) < G (71 + i)
        · exact absurd ⟨c1, c2, c3⟩ hp
        · simp (disch := omega) only [C.f14, l0, l0i, l3, l3i, ac, ai, jns, bds, bvs, lts, gdt, nadd, nmul, nsub, nle, nlt, neq, nz0, nlt0, nle0, n0le, n0lt, nclamp, ndiv, nmod2, gdi, gdn, if_pos, if_neg, if_true, if_false]
      · simp (disch := omega) only [C.f14, l0, l0i, l3, l3i, ac, ai, jns, bds, bvs, lts, gdt, nadd, nmul, nsub, nle, nlt, neq, nz0, nlt0, nle0, n0le, n0lt, nclamp, ndiv, nmod2, gdi, gdn, if_pos, if_neg, if_true, if_false]
    · simp (disch := omega) only [C.f14, l0, l0i, jns, bds, bvs, lts, gdt, nadd, nmul, nsub, nle, nlt, neq, nz0, nlt0, nle0, n0le, n0lt, nclamp, ndiv, nmod2, gdi, gdn, if_pos, if_neg, if_true, if_false]
  · have h5 := ha i hi
    have h6 := W.crp i hi
    have ai := p_at (M := M) P (show 1 ≤ 1 by decide) (show 1 ≤ 9 by decide) (show i < 5 by omega)
    rw [h5.1] at ai
    have l0i := c_trait C W hi (show 0 < 7 by decide)
    have l3i := c_trait C W hi (show 3 < 7 by decide)
    rw [show 56 + 5 * 0 + i = 56 + i from by omega] at l0i
    rw [show 56 + 5 * 3 + i = 71 + i from by omega] at l3i
    simp only [Bool.not_eq_false', decide_eq_true_eq] at hp
    rw [lp_X3_isHidden_2]
    simp (disch := omega) only [C.f14, l0, l0i, l3, l3i, ac, ai, jns, bds, bvs, lts, gdt, nadd, nmul, nsub, nle, nlt, neq, nz0, nlt0, nle0, n0le, n0lt, nclamp, ndiv, nmod2, gdi, gdn, if_pos, if_neg, if_true, if_false]
  · rw [lp_X3_isHidden_2]
    simp (disch := omega) only [C.f14, jns, bds, bvs, lts, gdt, nadd, nmul, nsub, nle, nlt, neq, nz0, nlt0, nle0, n0le, n0lt, nclamp, ndiv, nmod2, gdi, gdn, if_pos, if_neg, if_true, if_false]
