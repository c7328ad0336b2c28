/-! THE CLASS SENDS BACK. -/
abbrev D2 (G : Nat → Nat) (p : Nat) (how : Nat → Int32) (at_ seen wrong : Nat → Nat) (i : Nat) (M : Mm) : Prop := (∀ c, c < i → M (p + 1) c = nI (At3 how at_ c)) ∧ (∀ c, c < i → M (p + 4) c = nI (Sn3 how seen c)) ∧ (∀ c, c < i → M (p + 5) c = nI (Wr3 how wrong c)) ∧ (∀ c, i ≤ c → c < G 95 → M (p + 1) c = nI (at_ c)) ∧ (∀ c, i ≤ c → c < G 95 → M (p + 4) c = nI (seen c)) ∧ (∀ c, i ≤ c → c < G 95 → M (p + 5) c = nI (wrong c))
theorem D2.at1 {G : Nat → Nat} {p : Nat} {how : Nat → Int32} {at_ seen wrong : Nat → Nat} {i : Nat} {M : Mm} (h : D2 G p how at_ seen wrong i M) : ∀ c, c < i → M (p + 1) c = nI (At3 how at_ c) := h.1
theorem D2.sn1 {G : Nat → Nat} {p : Nat} {how : Nat → Int32} {at_ seen wrong : Nat → Nat} {i : Nat} {M : Mm} (h : D2 G p how at_ seen wrong i M) : ∀ c, c < i → M (p + 4) c = nI (Sn3 how seen c) := h.2.1
theorem D2.wr1 {G : Nat → Nat} {p : Nat} {how : Nat → Int32} {at_ seen wrong : Nat → Nat} {i : Nat} {M : Mm} (h : D2 G p how at_ seen wrong i M) : ∀ c, c < i → M (p + 5) c = nI (Wr3 how wrong c) := h.2.2.1
theorem D2.at0 {G : Nat → Nat} {p : Nat} {how : Nat → Int32} {at_ seen wrong : Nat → Nat} {i : Nat} {M : Mm} (h : D2 G p how at_ seen wrong i M) : ∀ c, i ≤ c → c < G 95 → M (p + 1) c = nI (at_ c) := h.2.2.2.1
theorem D2.sn0 {G : Nat → Nat} {p : Nat} {how : Nat → Int32} {at_ seen wrong : Nat → Nat} {i : Nat} {M : Mm} (h : D2 G p how at_ seen wrong i M) : ∀ c, i ≤ c → c < G 95 → M (p + 4) c = nI (seen c) := h.2.2.2.2.1
theorem D2.wr0 {G : Nat → Nat} {p : Nat} {how : Nat → Int32} {at_ seen wrong : Nat → Nat} {i : Nat} {M : Mm} (h : D2 G p how at_ seen wrong i M) : ∀ c, i ≤ c → c < G 95 → M (p + 5) c = nI (wrong c) := h.2.2.2.2.2
theorem c_sendBack {M0 : Mm} {G : Nat → Nat} {g p : Nat} (C : CG M0 g G) (W : GW G) (P : PC p) {how : Nat → Int32} {at_ seen wrong : Nat → Nat} (hh : ∀ c, c < G 95 → M0 (p + 3) c = how c) (hn : Hwn G how) (h0 : D2 G p how at_ seen wrong 0 M0) :
    ∃ M', f_X3_sendBack p g M0 = some M' ∧ D2 G p how at_ seen wrong (G 95) M' ∧ (∀ a, a ≠ p + 1 → a ≠ p + 4 → a ≠ p + 5 → M' a = M0 a) := by
  have h2 := W.creepers
  have h4 := P.ge
  have hg := C.hg
  unfold f_X3_sendBack
  refine lpM (fun f i M => lp_X3_sendBack_2 p g f (nI i) M) (G 95) (fun i M => D2 G p how at_ seen wrong i M ∧ (∀ a, a ≠ p + 1 → a ≠ p + 4 → a ≠ p + 5 → M a = M0 a)) some (by omega) (fun f i M hi2 T => ?_) (fun f M T => ?_) M0 ⟨h0, fun _ _ _ _ => rfl⟩
  · obtain ⟨T, fr⟩ := T
    have C' : CG M g G := C.cong (fun a h => fr a (by omega) (by omega) (by omega))
    obtain ⟨h, hh6, hhe⟩ := hn i hi2
    have eh : M (p + 3) i = nI h := by rw [fr (p + 3) (by omega) (by omega) (by omega), hh i hi2, hhe]
    have ea : M (p + 1) i = nI (at_ i) := T.at0 i (Nat.le_refl _) hi2
    have es : M (p + 4) i = nI (seen i) := T.sn0 i (Nat.le_refl _) hi2
    have ew : M (p + 5) i = nI (wrong i) := T.wr0 i (Nat.le_refl _) hi2
    have q4 : (how i = nI 4) = (h = 4) := by rw [hhe, nIeq (by omega) (by omega)]
    have q5 : (how i = nI 5) = (h = 5) := by rw [hhe, nIeq (by omega) (by omega)]
    have a3 := p_at (M := M) P (show 1 ≤ 3 by decide) (show 3 ≤ 9 by decide) (show i < 5 by omega)
    rw [eh] at a3
    have b1 := fun (X : Mm) (v : Int32) => p_put (M := X) (v := v) P (show 1 ≤ 1 by decide) (show 1 ≤ 9 by decide) (show i < 5 by omega)
    have b4 := fun (X : Mm) (v : Int32) => p_add (M := X) (v := v) P (show 1 ≤ 4 by decide) (show 4 ≤ 9 by decide) (show i < 5 by omega)
    have b5 := fun (X : Mm) (v : Int32) => p_add (M := X) (v := v) P (show 1 ≤ 5 by decide) (show 5 ≤ 9 by decide) (show i < 5 by omega)
    rw [lp_X3_sendBack_2]
    by_cases c2 : h = 4
    · have x1 : At3 how at_ i = 0 := by unfold At3; rw [if_pos (Or.inl (by rw [q4]; exact c2))]
      have x2 : Sn3 how seen i = seen i + 1 := by unfold Sn3; rw [if_pos (by rw [q4]; exact c2)]
      have x3 : Wr3 how wrong i = wrong i := by unfold Wr3; rw [if_neg (by rw [q5]; omega)]
      refine ⟨mset (mset M (p + 4) i (nI (seen i + 1))) (p + 1) i (nI 0), ?_, ⟨?_, ?_, ?_, ?_, ?_, ?_⟩, ?_⟩
      · simp (disch := omega) only [C'.f14, a3, b1, b4, b5, es, jns, bds, bvs, lts, gdt, nadd, nmul, nsub, nle, nlt, neq, nz0, nlt0, nle0, n0le, n0lt, nclamp, ndiv, nmod2, gdi, gdn, if_pos, if_neg, if_true, if_false]
      · intro c hc
        by_cases hci : c = i
        · subst hci; simp (disch := omega) only [x1, ms1, ms2, ms3]
        · simp (disch := omega) only [ms1, ms1, ms2, ms3]; exact T.at1 c (by omega)
      · intro c hc
        by_cases hci : c = i
        · subst hci; simp (disch := omega) only [x2, ms1, ms2, ms3]
        · simp (disch := omega) only [ms1, ms1, ms2, ms3]; exact T.sn1 c (by omega)
      · intro c hc
        by_cases hci : c = i
        · subst hci; simp (disch := omega) only [x3, ms1, ms2, ms3]; exact ew
        · simp (disch := omega) only [ms1, ms1, ms2, ms3]; exact T.wr1 c (by omega)
      · intro c hc hd; simp (disch := omega) only [ms1, ms1, ms2, ms3]; exact T.at0 c (by omega) hd
      · intro c hc hd; simp (disch := omega) only [ms1, ms1, ms2, ms3]; exact T.sn0 c (by omega) hd
      · intro c hc hd; simp (disch := omega) only [ms1, ms1, ms2, ms3]; exact T.wr0 c (by omega) hd
      · intro a h1 h2 h3; rw [mset_off _ _ _ h1, mset_off _ _ _ h2, fr a h1 h2 h3]
    · by_cases c3 : h = 5
      · have x1 : At3 how at_ i = 0 := by unfold At3; rw [if_pos (Or.inr (by rw [q5]; exact c3))]
        have x2 : Sn3 how seen i = seen i := by unfold Sn3; rw [if_neg (by rw [q4]; omega)]
        have x3 : Wr3 how wrong i = wrong i + 1 := by unfold Wr3; rw [if_pos (by rw [q5]; exact c3)]
        refine ⟨mset (mset M (p + 5) i (nI (wrong i + 1))) (p + 1) i (nI 0), ?_, ⟨?_, ?_, ?_, ?_, ?_, ?_⟩, ?_⟩
        · simp (disch := omega) only [C'.f14, a3, b1, b4, b5, ew, jns, bds, bvs, lts, gdt, nadd, nmul, nsub, nle, nlt, neq, nz0, nlt0, nle0, n0le, n0lt, nclamp, ndiv, nmod2, gdi, gdn, if_pos, if_neg, if_true, if_false]
        · intro c hc
          by_cases hci : c = i
          · subst hci; simp (disch := omega) only [x1, ms1, ms2, ms3]
          · simp (disch := omega) only [ms1, ms1, ms2, ms3]; exact T.at1 c (by omega)
        · intro c hc
          by_cases hci : c = i
          · subst hci; simp (disch := omega) only [x2, ms1, ms2, ms3]; exact es
          · simp (disch := omega) only [ms1, ms1, ms2, ms3]; exact T.sn1 c (by omega)
        · intro c hc
          by_cases hci : c = i
          · subst hci; simp (disch := omega) only [x3, ms1, ms2, ms3]
          · simp (disch := omega) only [ms1, ms1, ms2, ms3]; exact T.wr1 c (by omega)
        · intro c hc hd; simp (disch := omega) only [ms1, ms1, ms2, ms3]; exact T.at0 c (by omega) hd
        · intro c hc hd; simp (disch := omega) only [ms1, ms1, ms2, ms3]; exact T.sn0 c (by omega) hd
        · intro c hc hd; simp (disch := omega) only [ms1, ms1, ms2, ms3]; exact T.wr0 c (by omega) hd
        · intro a h1 h2 h3; rw [mset_off _ _ _ h1, mset_off _ _ _ h3, fr a h1 h2 h3]
      · have x1 : At3 how at_ i = at_ i := by unfold At3; rw [if_neg (by rw [q4, q5]; omega)]
        have x2 : Sn3 how seen i = seen i := by unfold Sn3; rw [if_neg (by rw [q4]; omega)]
        have x3 : Wr3 how wrong i = wrong i := by unfold Wr3; rw [if_neg (by rw [q5]; omega)]
        refine ⟨M, ?_, ⟨?_, ?_, ?_, fun c hc hd => T.at0 c (by omega) hd, fun c hc hd => T.sn0 c (by omega) hd, fun c hc hd => T.wr0 c (by omega) hd⟩, fr⟩
        · simp (disch := omega) only [C'.f14, a3, jns, bds, bvs, lts, gdt, nadd, nmul, nsub, nle, nlt, neq, nz0, nlt0, nle0, n0le, n0lt, nclamp, ndiv, nmod2, gdi, gdn, if_pos, if_neg, if_true, if_false]
        · intro c hc
          by_cases hci : c = i
          · subst hci; rw [x1]; exact ea
          · exact T.at1 c (by omega)
        · intro c hc
          by_cases hci : c = i
          · subst hci; rw [x2]; exact es
          · exact T.sn1 c (by omega)
        · intro c hc
          by_cases hci : c = i
          · subst hci; rw [x3]; exact ew
          · exact T.wr1 c (by omega)
  · rw [lp_X3_sendBack_2, T.2 g (by omega) (by omega) (by omega), C.f14, if_pos (Int32.le_refl _)]
