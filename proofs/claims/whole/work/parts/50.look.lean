/-! HE LOOKS: who wobbles. -/
def Upw (wn : Nat → Bool) (into : Nat → Nat) (c : Nat) : Bool := wn c && decide (0 < into c)
def SdA (wn : Nat → Bool) (into : Nat → Nat) (s : Nat) : Nat → Nat
  | 0 => s
  | i + 1 => if Upw wn into i then Sd (SdA wn into s i) else SdA wn into s i
def Shk (G : Nat → Nat) (wn : Nat → Bool) (into : Nat → Nat) (s c : Nat) : Int32 := if Upw wn into c = true ∧ Sd (SdA wn into s c) % 100 < G (66 + c) then nI (into c * 100 / G (61 + c)) else -1
def InA (wn : Nat → Bool) (into : Nat → Nat) (c : Nat) : Nat := if Upw wn into c then 0 else into c
theorem SdA_lt {wn : Nat → Bool} {into : Nat → Nat} {s : Nat} (hs : s < 65537) : ∀ i, SdA wn into s i < 65537
  | 0 => hs
  | i + 1 => by
    rw [SdA]
    split
    · exact Sd_lt _
    · exact SdA_lt hs i
abbrev L1 (G : Nat → Nat) (M0 : Mm) (wn : Nat → Bool) (s : Nat) (into at_ : Nat → Nat) (i : Nat) (M : Mm) : Prop := (∀ a, a ≠ 86 → a ≠ 93 → M a = M0 a) ∧ (∀ c, c < i → M 93 c = Shk G wn into s c) ∧ (∀ c, c < i → M 86 (34 + c) = nI (at_ c)) ∧ (∀ c, c < i → M 86 (19 + c) = nI 3) ∧ (∀ c, c < i → M 86 (14 + c) = nI (InA wn into c)) ∧ (∀ c, i ≤ c → c < G 95 → M 86 (14 + c) = nI (into c)) ∧ (M 86 6 = nI (SdA wn into s i)) ∧ (∀ k, k ≠ 6 → (k < 14 ∨ (24 ≤ k ∧ k < 34) ∨ 39 ≤ k) → M 86 k = M0 86 k)
theorem L1.fr {G : Nat → Nat} {M0 : Mm} {wn : Nat → Bool} {s : Nat} {into at_ : Nat → Nat} {i : Nat} {M : Mm} (h : L1 G M0 wn s into at_ i M) : ∀ a, a ≠ 86 → a ≠ 93 → M a = M0 a := h.1
theorem L1.sh {G : Nat → Nat} {M0 : Mm} {wn : Nat → Bool} {s : Nat} {into at_ : Nat → Nat} {i : Nat} {M : Mm} (h : L1 G M0 wn s into at_ i M) : ∀ c, c < i → M 93 c = Shk G wn into s c := h.2.1
theorem L1.there {G : Nat → Nat} {M0 : Mm} {wn : Nat → Bool} {s : Nat} {into at_ : Nat → Nat} {i : Nat} {M : Mm} (h : L1 G M0 wn s into at_ i M) : ∀ c, c < i → M 86 (34 + c) = nI (at_ c) := h.2.2.1
theorem L1.how {G : Nat → Nat} {M0 : Mm} {wn : Nat → Bool} {s : Nat} {into at_ : Nat → Nat} {i : Nat} {M : Mm} (h : L1 G M0 wn s into at_ i M) : ∀ c, c < i → M 86 (19 + c) = nI 3 := h.2.2.2.1
theorem L1.intoA {G : Nat → Nat} {M0 : Mm} {wn : Nat → Bool} {s : Nat} {into at_ : Nat → Nat} {i : Nat} {M : Mm} (h : L1 G M0 wn s into at_ i M) : ∀ c, c < i → M 86 (14 + c) = nI (InA wn into c) := h.2.2.2.2.1
theorem L1.into0 {G : Nat → Nat} {M0 : Mm} {wn : Nat → Bool} {s : Nat} {into at_ : Nat → Nat} {i : Nat} {M : Mm} (h : L1 G M0 wn s into at_ i M) : ∀ c, i ≤ c → c < G 95 → M 86 (14 + c) = nI (into c) := h.2.2.2.2.2.1
theorem L1.seed {G : Nat → Nat} {M0 : Mm} {wn : Nat → Bool} {s : Nat} {into at_ : Nat → Nat} {i : Nat} {M : Mm} (h : L1 G M0 wn s into at_ i M) : M 86 6 = nI (SdA wn into s i) := h.2.2.2.2.2.2.1
theorem L1.rest {G : Nat → Nat} {M0 : Mm} {wn : Nat → Bool} {s : Nat} {into at_ : Nat → Nat} {i : Nat} {M : Mm} (h : L1 G M0 wn s into at_ i M) : ∀ k, k ≠ 6 → (k < 14 ∨ (24 ≤ k ∧ k < 34) ∨ 39 ≤ k) → M 86 k = M0 86 k := h.2.2.2.2.2.2.2
theorem r_look1 {M0 : Mm} {G : Nat → Nat} (R : RG M0 G) (W : GW G) {wn : Nat → Bool} {s : Nat} {into at_ : Nat → Nat} (hs : s < 65537) (hw : ∀ c, c < G 95 → M0 86 (39 + c) = nI (wn c).toNat) (ha : ∀ c, c < G 95 → M0 86 (9 + c) = nI (at_ c)) (hi : ∀ c, c < G 95 → into c < 100) (k : Mm → Option Mm) (h0 : L1 G M0 wn s into at_ 0 M0) :
    ∃ M', lp_X10_look_2 k N0 (nI 0) M0 = k M' ∧ L1 G M0 wn s into at_ (G 95) M' := by
  have h2 := W.creepers
  refine lpM (fun f i M => lp_X10_look_2 k f (nI i) M) (G 95) (L1 G M0 wn s into at_) k (by omega) (fun f i M hi2 T => ?_) (fun f M T => ?_) M0 h0
  · have R' : RG M G := fun k hk => by rw [T.fr 84 (by decide) (by decide)]; exact R k hk
    have h1 := W.crp i hi2
    have hi' := hi i hi2
    have ei := T.into0 i (Nat.le_refl _) hi2
    have ea : M 86 (9 + i) = nI (at_ i) := by rw [T.rest (9 + i) (by omega) (by omega)]; exact ha i hi2
    have ew : M 86 (39 + i) = nI (wn i).toNat := by rw [T.rest (39 + i) (by omega) (by omega)]; exact hw i hi2
    have hsd := SdA_lt (wn := wn) (into := into) hs i
    have hsd' := Sd_lt (SdA wn into s i)
    have hdr := fun (X : Mm) (h : X 86 6 = nI (SdA wn into s i)) => r_draw h hsd
    have hq : into i * 100 / G (61 + i) < 10000 := dle (by omega)
    cases hu : Upw wn into i
    · have x1 : SdA wn into s (i + 1) = SdA wn into s i := by rw [SdA, hu]; rfl
      have x2 : Shk G wn into s i = -1 := by unfold Shk; rw [hu, if_neg (by simp)]
      have x3 : InA wn into i = into i := by unfold InA; rw [hu]; rfl
      refine ⟨mset (mset (mset M 93 i (-1)) 86 (34 + i) (nI (at_ i))) 86 (19 + i) (nI 3), ?_, ?_⟩
      · rw [lp_X10_look_2]
        cases hwi : wn i
        · rw [hwi] at ew
          simp (disch := omega) only [R' _, ew, ei, ea, ms1, ms2, ms3, Bool.toNat_false, jns, bds, bvs, lts, gdt, nadd, nmul, nsub, nle, nlt, neq, nz0, nlt0, nle0, n0le, n0lt, nclamp, ndiv, nmod2, gdi, gdn, if_pos, if_neg, if_true, if_false]
        · rw [hwi] at ew
          have hz : into i = 0 := by
            simp only [Upw, hwi, Bool.true_and, decide_eq_false_iff_not] at hu
            omega
          rw [hz] at ei
          simp (disch := omega) only [R' _, ew, ei, ea, ms1, ms2, ms3, Bool.toNat_true, jns, bds, bvs, lts, gdt, nadd, nmul, nsub, nle, nlt, neq, nz0, nlt0, nle0, n0le, n0lt, nclamp, ndiv, nmod2, gdi, gdn, if_pos, if_neg, if_true, if_false]
      · refine ⟨fun a h h' => ?_, fun c hc => ?_, fun c hc => ?_, fun c hc => ?_, fun c hc => ?_, fun c hc hd => ?_, ?_, fun k hk hd => ?_⟩
        · rw [mset_off _ _ _ h, mset_off _ _ _ h, mset_off _ _ _ h', T.fr a h h']
        · by_cases hci : c = i
          · subst hci; simp (disch := omega) only [x2, ms1, ms2, ms3]
          · simp (disch := omega) only [ms1, ms1, ms2, ms3]; exact T.sh c (by omega)
        · by_cases hci : c = i
          · subst hci; simp (disch := omega) only [ms1, ms1, ms2, ms3]
          · simp (disch := omega) only [ms1, ms1, ms2, ms3]; exact T.there c (by omega)
        · by_cases hci : c = i
          · subst hci; simp (disch := omega) only [ms1, ms1, ms2, ms3]
          · simp (disch := omega) only [ms1, ms1, ms2, ms3]; exact T.how c (by omega)
        · by_cases hci : c = i
          · subst hci; simp (disch := omega) only [x3, ms1, ms2, ms3]; exact ei
          · simp (disch := omega) only [ms1, ms1, ms2, ms3]; exact T.intoA c (by omega)
        · simp (disch := omega) only [ms1, ms1, ms2, ms3]; exact T.into0 c (by omega) hd
        · simp (disch := omega) only [x1, ms1, ms2, ms3]; exact T.seed
        · simp (disch := omega) only [ms1, ms1, ms2, ms3]; exact T.rest k hk hd
    · have hu' := hu
      simp only [Upw, Bool.and_eq_true, decide_eq_true_eq] at hu'
      have x1 : SdA wn into s (i + 1) = Sd (SdA wn into s i) := by rw [SdA, hu]; rfl
      have x3 : InA wn into i = 0 := by unfold InA; rw [hu]; rfl
      rw [hu'.1] at ew
      by_cases c1 : Sd (SdA wn into s i) % 100 < G (66 + i)
      · have x2 : Shk G wn into s i = nI (into i * 100 / G (61 + i)) := by unfold Shk; rw [hu, if_pos ⟨rfl, c1⟩]
        refine ⟨mset (mset (mset (mset (mset (mset M 93 i (-1)) 86 (34 + i) (nI (at_ i))) 86 (19 + i) (nI 3)) 86 6 (nI (Sd (SdA wn into s i)))) 93 i (nI (into i * 100 / G (61 + i)))) 86 (14 + i) (nI 0), ?_, ?_⟩
        · rw [lp_X10_look_2]
          simp (disch := omega) only [R' _, ew, ei, ea, ms1, ms2, ms3, Bool.toNat_true, jns, bds, bvs, lts, gdt, nadd, nmul, nsub, nle, nlt, neq, nz0, nlt0, nle0, n0le, n0lt, nclamp, ndiv, nmod2, gdi, gdn, if_pos, if_neg, if_true, if_false]
          rw [hdr _ (by simp (disch := omega) only [ms1, ms1, ms2, ms3]; exact T.seed)]
          simp (disch := omega) only [R' _, ew, ei, ea, ms1, ms2, ms3, Bool.toNat_true, jns, bds, bvs, lts, gdt, nadd, nmul, nsub, nle, nlt, neq, nz0, nlt0, nle0, n0le, n0lt, nclamp, ndiv, nmod2, gdi, gdn, if_pos, if_neg, if_true, if_false]
        · refine ⟨fun a h h' => ?_, fun c hc => ?_, fun c hc => ?_, fun c hc => ?_, fun c hc => ?_, fun c hc hd => ?_, ?_, fun k hk hd => ?_⟩
          · rw [mset_off _ _ _ h, mset_off _ _ _ h', mset_off _ _ _ h, mset_off _ _ _ h, mset_off _ _ _ h, mset_off _ _ _ h', T.fr a h h']
          · by_cases hci : c = i
            · subst hci; simp (disch := omega) only [x2, ms1, ms2, ms3]
            · simp (disch := omega) only [ms1, ms1, ms2, ms3]; exact T.sh c (by omega)
          · by_cases hci : c = i
            · subst hci; simp (disch := omega) only [ms1, ms1, ms2, ms3]
            · simp (disch := omega) only [ms1, ms1, ms2, ms3]; exact T.there c (by omega)
          · by_cases hci : c = i
            · subst hci; simp (disch := omega) only [ms1, ms1, ms2, ms3]
            · simp (disch := omega) only [ms1, ms1, ms2, ms3]; exact T.how c (by omega)
          · by_cases hci : c = i
            · subst hci; simp (disch := omega) only [x3, ms1, ms2, ms3]
            · simp (disch := omega) only [ms1, ms1, ms2, ms3]; exact T.intoA c (by omega)
          · simp (disch := omega) only [ms1, ms1, ms2, ms3]; exact T.into0 c (by omega) hd
          · simp (disch := omega) only [x1, ms1, ms2, ms3]
          · simp (disch := omega) only [ms1, ms1, ms2, ms3]; exact T.rest k hk hd
      · have x2 : Shk G wn into s i = -1 := by unfold Shk; rw [hu, if_neg (fun z => c1 z.2)]
        refine ⟨mset (mset (mset (mset (mset M 93 i (-1)) 86 (34 + i) (nI (at_ i))) 86 (19 + i) (nI 3)) 86 6 (nI (Sd (SdA wn into s i)))) 86 (14 + i) (nI 0), ?_, ?_⟩
        · rw [lp_X10_look_2]
          simp (disch := omega) only [R' _, ew, ei, ea, ms1, ms2, ms3, Bool.toNat_true, jns, bds, bvs, lts, gdt, nadd, nmul, nsub, nle, nlt, neq, nz0, nlt0, nle0, n0le, n0lt, nclamp, ndiv, nmod2, gdi, gdn, if_pos, if_neg, if_true, if_false]
          rw [hdr _ (by simp (disch := omega) only [ms1, ms1, ms2, ms3]; exact T.seed)]
          simp (disch := omega) only [R' _, ew, ei, ea, ms1, ms2, ms3, Bool.toNat_true, jns, bds, bvs, lts, gdt, nadd, nmul, nsub, nle, nlt, neq, nz0, nlt0, nle0, n0le, n0lt, nclamp, ndiv, nmod2, gdi, gdn, if_pos, if_neg, if_true, if_false]
        · refine ⟨fun a h h' => ?_, fun c hc => ?_, fun c hc => ?_, fun c hc => ?_, fun c hc => ?_, fun c hc hd => ?_, ?_, fun k hk hd => ?_⟩
          · rw [mset_off _ _ _ h, mset_off _ _ _ h, mset_off _ _ _ h, mset_off _ _ _ h, mset_off _ _ _ h', T.fr a h h']
          · by_cases hci : c = i
            · subst hci; simp (disch := omega) only [x2, ms1, ms2, ms3]
            · simp (disch := omega) only [ms1, ms1, ms2, ms3]; exact T.sh c (by omega)
          · by_cases hci : c = i
            · subst hci; simp (disch := omega) only [ms1, ms1, ms2, ms3]
            · simp (disch := omega) only [ms1, ms1, ms2, ms3]; exact T.there c (by omega)
          · by_cases hci : c = i
            · subst hci; simp (disch := omega) only [ms1, ms1, ms2, ms3]
            · simp (disch := omega) only [ms1, ms1, ms2, ms3]; exact T.how c (by omega)
          · by_cases hci : c = i
            · subst hci; simp (disch := omega) only [x3, ms1, ms2, ms3]
            · simp (disch := omega) only [ms1, ms1, ms2, ms3]; exact T.intoA c (by omega)
          · simp (disch := omega) only [ms1, ms1, ms2, ms3]; exact T.into0 c (by omega) hd
          · simp (disch := omega) only [x1, ms1, ms2, ms3]
          · simp (disch := omega) only [ms1, ms1, ms2, ms3]; exact T.rest k hk hd
  · rw [lp_X10_look_2, T.fr 84 (by decide) (by decide), R 95 (by decide), if_pos (Int32.le_refl _)]
