/-! A CREEPER'S NAME. -/
section
variable {Mc Mr : Mm} {g n p : Nat} {b : Nat → Nat} {G : Nat → Nat}
/-- a word that is no name -/
def kept (b : Nat → Nat) (n p : Nat) : Bool := wd b n p 0 || wd b n p 4 || wd b n p 5 || wd b n p 10 || wd b n p 15 || wd b n p 16 || wd b n p 17 || wd b n p 18
theorem c_isKept (t : TKp Mc Mr n b p) : f_X5_isKept Mc = some (nI (kept b n p).toNat, Mc) := by
  unfold f_X5_isKept kept
  simp only [jns]
  rw [c_isWord t (i := 0) (by decide), bds]
  cases wd b n p 0
  · rw [if_pos (by decide), c_isWord t (i := 4) (by decide), bds]
    cases wd b n p 4
    · rw [if_pos (by decide), c_isWord t (i := 5) (by decide), bds]
      cases wd b n p 5
      · rw [if_pos (by decide), c_isWord t (i := 10) (by decide), bds]
        cases wd b n p 10
        · rw [if_pos (by decide), c_isWord t (i := 15) (by decide), bds]
          cases wd b n p 15
          · rw [if_pos (by decide), c_isWord t (i := 16) (by decide), bds]
            cases wd b n p 16
            · rw [if_pos (by decide), c_isWord t (i := 17) (by decide), bds]
              cases wd b n p 17
              · rw [if_pos (by decide), c_isWord t (i := 18) (by decide), bds]
                cases wd b n p 18
                · rfl
                · rfl
              · rfl
            · rfl
          · rfl
        · rfl
      · rfl
    · rfl
  · rfl
/-- two names are the same: the token's and one that was told -/
def sqN (b : Nat → Nat) (n p s w : Nat) : Bool := decide (w = tW b n p) && Al (fun j => decide (b (s + j) = b (tS b n p + j))) (tW b n p)
theorem c_isTokenAt (t : TKp Mc Mr n b p) {s w : Nat} (hs : s + w ≤ n) : f_X8_isTokenAt (nI s) (nI w) Mc = some (nI (sqN b n p s w).toNat, Mc) := by
  have h9 := t.B.n9
  have w1 := (tW_b (b := b) t.hp).1
  unfold f_X8_isTokenAt sqN
  rw [t.c5]
  by_cases c : w = tW b n p
  · rw [if_pos (by rw [c]), decide_eq_true c, Bool.true_and, c]
    rw [c] at hs
    refine (lpA (fun f j => lp_X8_isTokenAt_12 (nI s) (nI (tW b n p)) f (nI j) Mc) (tW b n p) (fun j => decide (b (s + j) = b (tS b n p + j))) (T := some (nI 1, Mc)) (F := some (nI 0, Mc)) (by omega) (fun f j hj hP => ?_) (fun f j hj hP => ?_) (fun f => ?_)).trans ?_
    · have h1 := (t.B.by_ (s + j) (by omega)).1
      have h2 := (t.B.by_ (tS b n p + j) (by omega)).1
      have hP := of_decide_eq_true hP
      rw [lp_X8_isTokenAt_12, if_neg (by rw [nle (by omega) (by omega)]; omega), t.c4, nadd, c_byte t.B (by omega), bds, nadd, c_byte t.B (by omega), bds, if_pos (by rw [hP]), nadd]
    · have h1 := (t.B.by_ (s + j) (by omega)).1
      have h2 := (t.B.by_ (tS b n p + j) (by omega)).1
      have hP := of_decide_eq_false hP
      rw [lp_X8_isTokenAt_12, if_neg (by rw [nle (by omega) (by omega)]; omega), t.c4, nadd, c_byte t.B (by omega), bds, nadd, c_byte t.B (by omega), bds, if_neg (by rw [neq (by omega) (by omega)]; omega)]
    · rw [lp_X8_isTokenAt_12, if_pos (Int32.le_refl _)]
    · cases Al (fun j => decide (b (s + j) = b (tS b n p + j))) (tW b n p) <;> rfl
  · rw [if_neg (by rw [neq (by omega) (by omega)]; omega), decide_eq_false c]
    rfl
/-- the reference's comparing of letters -/
theorem r_letters (t : TKp Mc Mr n b p) (hK : tK b n p = 1) (hw8 : tW b n p ≤ 8) {y2 : Int32} {c s w : Nat} (hc : c < 5) (hw : w ≤ 8) (hs : s + w ≤ n) (hl : ∀ k, k < w → Mr 85 (101 + 8 * c + k) = nI (b (s + k))) (k : Int32 → Mm → Option Mm) : lp_X10_newName_148 y2 (nI c) k N0 (nI (if w = tW b n p then 1 else 0)) (nI 0) Mr = k (nI (sqN b n p s w).toNat) Mr := by
  have h9 := t.B.n9
  have w1 := (tW_b (b := b) t.hp).1
  obtain ⟨t1, t2⟩ := t.rl hK
  unfold sqN
  by_cases c1 : w = tW b n p
  · rw [if_pos c1, decide_eq_true c1, Bool.true_and]
    obtain ⟨P, hP⟩ : ∃ P : Nat → Bool, P = fun j => decide (b (s + j) = b (tS b n p + j)) := ⟨_, rfl⟩
    rw [← hP]
    have stop : ∀ f j, lp_X10_newName_148 y2 (nI c) k (f + 1) (nI 0) (nI j) Mr = k (nI 0) Mr := fun f j => by
      rw [lp_X10_newName_148]
      by_cases c2 : Mr 81 8 ≤ nI j
      · rw [if_pos c2]
      · rw [if_neg c2, if_pos (by decide)]
    have one : ∀ f j, j < tW b n p → lp_X10_newName_148 y2 (nI c) k (f + 1) (nI 1) (nI j) Mr = lp_X10_newName_148 y2 (nI c) k f (nI (P j).toNat) (nI (j + 1)) Mr := fun f j hj => by
      have h1 := (t.B.by_ (s + j) (by omega)).1
      have h2 := (t.B.by_ (tS b n p + j) (by omega)).1
      rw [lp_X10_newName_148, t1, if_neg (by rw [nle (by omega) (by omega)]; omega), if_neg (by decide), nmul, nadd, nadd, gdi (by omega) (by omega), gdi (by omega) (by omega), nclamp (by omega), nclamp (by omega), hl j (by omega), t2 j hj]
      simp only [jns]
      rw [hP, nadd]
      dsimp only
      by_cases c3 : b (s + j) = b (tS b n p + j)
      · rw [if_pos (by rw [c3]), decide_eq_true c3]; rfl
      · rw [if_neg (by rw [neq (by omega) (by omega)]; exact c3), decide_eq_false c3]; rfl
    have main : ∀ d j f, j + d = tW b n p → d + 1 < f → Al P j = true → lp_X10_newName_148 y2 (nI c) k f (nI 1) (nI j) Mr = k (nI (Al P (tW b n p)).toNat) Mr := by
      intro d
      induction d with
      | zero =>
        intro j f hj hf hA
        obtain ⟨f, rfl⟩ : ∃ g, f = g + 1 := ⟨f - 1, by omega⟩
        rw [show tW b n p = j from by omega, hA, lp_X10_newName_148, t1, if_pos (by rw [nle (by omega) (by omega)]; omega)]
        rfl
      | succ d ih =>
        intro j f hj hf hA
        obtain ⟨f, rfl⟩ : ∃ g, f = g + 2 := ⟨f - 2, by omega⟩
        rw [one (f + 1) j (by omega)]
        cases hPj : P j
        · rw [show (nI (false : Bool).toNat) = nI 0 from rfl, stop]
          have : Al P (tW b n p) = false := by
            cases hZ : Al P (tW b n p)
            · rfl
            · have := Al_get hZ (show j < tW b n p by omega)
              rw [hPj] at this
              cases this
          rw [this]; rfl
        · exact ih (j + 1) (f + 1) (by omega) (by omega) (by rw [Al, hA, hPj]; rfl)
    exact main (tW b n p) 0 N0 (by omega) (by unfold N0; omega) rfl
  · rw [if_neg c1, decide_eq_false c1, show N0 = 999999 + 1 from rfl, lp_X10_newName_148]
    by_cases c2 : nI (tW b n p) ≤ nI 0
    · rw [t1, if_pos c2]; rfl
    · rw [t1, if_neg c2, if_pos (by decide)]; rfl
end
section
variable {Mc Mr : Mm} {g n p : Nat} {b : Nat → Nat} {G : Nat → Nat}
/-- what the class does where a name is told again, and where it is new -/
def nmK3 (M16 : Mm) : Option (Int32 × Mm) := bd (f_X5_fail (nI 3) M16) fun v65_18 M65_17 => gd (zo v65_18) <| some (v65_18, M65_17)
def nmK0 (M19 : Mm) : Option (Int32 × Mm) := bg (M19 17 3) fun g20 => bv (f_X9_put 18 (M19 g20 14) (M19 15 4) M19) fun M93_21 => bg (M93_21 17 3) fun g23 => bv (f_X9_put 19 (M93_21 g23 14) (M93_21 15 5) M93_21) fun M114_24 => bv (f_X8_advance  M114_24) fun M121_26 => some ((nI 1), M121_26)
/-- what the reference does behind the names' comparing -/
def nmR (C : Int32) (M26 : Mm) : Option Mm := if (M26 81 13) = 0 then (lp_X10_newName_230 C (fun  (M28 : Mm) => gd (inb ((nI 96) + C) 141) <| bv (f_X10_next  (mset M28 85 ((nI 96) + C).toNatClampNeg (M28 81 8))) fun M278_29 => some M278_29) N0 (nI 0) M26) else (some M26)
theorem r_names_fl {C c f : Nat} {M : Mm} (hC : C ≤ 5) (h : M 81 13 = nI 1) (hk8 : ∃ w, w ≤ 8 ∧ M 81 8 = nI w) : ∀ d c f, c + d = C → d < f → lp_X10_newName_117 (nI C) (nmR (nI C)) f (nI c) M = some M := by
  obtain ⟨w, hw, h8⟩ := hk8
  intro d
  induction d with
  | zero =>
    intro c f hc hf
    obtain ⟨f, rfl⟩ : ∃ g, f = g + 1 := ⟨f - 1, by omega⟩
    rw [lp_X10_newName_117, if_pos (by rw [nle (by omega) (by omega)]; omega)]
    exact if_neg (fl0 h)
  | succ d ih =>
    intro c f hc hf
    obtain ⟨f, rfl⟩ : ∃ g, f = g + 1 := ⟨f - 1, by omega⟩
    have inner : ∀ (K : Int32 → Mm → Option Mm) (v : Option Mm), (∀ x, K x M = v) → ∀ d j f' x, j + d = w → d < f' → lp_X10_newName_148 (nI C) (nI c) K f' x (nI j) M = v := by
      intro K v hv d
      induction d with
      | zero =>
        intro j f' x hj hf'
        obtain ⟨f', rfl⟩ : ∃ g, f' = g + 1 := ⟨f' - 1, by omega⟩
        rw [lp_X10_newName_148, h8, if_pos (by rw [nle (by omega) (by omega)]; omega), hv]
      | succ d ih2 =>
        intro j f' x hj hf'
        obtain ⟨f', rfl⟩ : ∃ g, f' = g + 1 := ⟨f' - 1, by omega⟩
        rw [lp_X10_newName_148, h8, if_neg (by rw [nle (by omega) (by omega)]; omega)]
        by_cases cx : x = 0
        · rw [if_pos cx, hv]
        · rw [if_neg cx, nmul, nadd, nadd, gdi (by omega) (by omega), gdi (by omega) (by omega)]
          simp only [jns]
          split
          · rw [nadd]; exact ih2 _ _ _ (by omega) (by omega)
          · rw [nadd]; exact ih2 _ _ _ (by omega) (by omega)
    rw [lp_X10_newName_117, if_neg (by rw [nle (by omega) (by omega)]; omega), nadd 96 c, gdi (by omega) (by omega)]
    simp only [jns]
    have hK : ∀ x, (fun (u17 : Int32) (M18 : Mm) => if u17 = 0 then lp_X10_newName_117 (nI C) (nmR (nI C)) f (nI c + nI 1) M18 else bv (f_X10_wrong (nI 3) (M18 81 4) M18) fun M211_21 => lp_X10_newName_117 (nI C) (nmR (nI C)) f (nI c + nI 1) M211_21) x M = some M := fun x => by
      dsimp only
      rw [fl_wrong h, bvs, nadd, ih (c + 1) f (by omega) (by omega)]
      split <;> rfl
    split
    · exact inner _ _ hK w 0 N0 _ (by omega) (by unfold N0; omega)
    · exact inner _ _ hK w 0 N0 _ (by omega) (by unfold N0; omega)
/-- what is known of a new name -/
abbrev Nm (Mc Mr Mc' Mr' : Mm) (b : Nat → Nat) (C s w : Nat) : Prop := (∀ j, Mc' 18 j = if j = C then nI s else Mc 18 j) ∧ (∀ j, Mc' 19 j = if j = C then nI w else Mc 19 j) ∧ (Mr' 85 (96 + C) = nI w) ∧ (∀ j, j < w → Mr' 85 (101 + 8 * C + j) = nI (b (s + j))) ∧ (∀ i, i ≠ 96 + C → (i < 101 + 8 * C ∨ 101 + 8 * C + w ≤ i) → Mr' 85 i = Mr 85 i) ∧ (∀ x, x ≠ 15 → x ≠ 18 → x ≠ 19 → Mc' x = Mc x) ∧ (Mc' 15 1 = Mc 15 1) ∧ (Xr Mr Mr')
theorem Nm.c18 {Mc Mr Mc' Mr' : Mm} {b : Nat → Nat} {C s w : Nat} (h : Nm Mc Mr Mc' Mr' b C s w) : ∀ j, Mc' 18 j = if j = C then nI s else Mc 18 j := h.1
theorem Nm.c19 {Mc Mr Mc' Mr' : Mm} {b : Nat → Nat} {C s w : Nat} (h : Nm Mc Mr Mc' Mr' b C s w) : ∀ j, Mc' 19 j = if j = C then nI w else Mc 19 j := h.2.1
theorem Nm.r96 {Mc Mr Mc' Mr' : Mm} {b : Nat → Nat} {C s w : Nat} (h : Nm Mc Mr Mc' Mr' b C s w) : Mr' 85 (96 + C) = nI w := h.2.2.1
theorem Nm.rl {Mc Mr Mc' Mr' : Mm} {b : Nat → Nat} {C s w : Nat} (h : Nm Mc Mr Mc' Mr' b C s w) : ∀ j, j < w → Mr' 85 (101 + 8 * C + j) = nI (b (s + j)) := h.2.2.2.1
theorem Nm.rr {Mc Mr Mc' Mr' : Mm} {b : Nat → Nat} {C s w : Nat} (h : Nm Mc Mr Mc' Mr' b C s w) : ∀ i, i ≠ 96 + C → (i < 101 + 8 * C ∨ 101 + 8 * C + w ≤ i) → Mr' 85 i = Mr 85 i := h.2.2.2.2.1
theorem Nm.fr {Mc Mr Mc' Mr' : Mm} {b : Nat → Nat} {C s w : Nat} (h : Nm Mc Mr Mc' Mr' b C s w) : ∀ x, x ≠ 15 → x ≠ 18 → x ≠ 19 → Mc' x = Mc x := h.2.2.2.2.2.1
theorem Nm.f1 {Mc Mr Mc' Mr' : Mm} {b : Nat → Nat} {C s w : Nat} (h : Nm Mc Mr Mc' Mr' b C s w) : Mc' 15 1 = Mc 15 1 := h.2.2.2.2.2.2.1
theorem Nm.xr {Mc Mr Mc' Mr' : Mm} {b : Nat → Nat} {C s w : Nat} (h : Nm Mc Mr Mc' Mr' b C s w) : Xr Mr Mr' := h.2.2.2.2.2.2.2
theorem both_new (t : TKp Mc Mr n b p) (hg : g = 1 ∨ g = 8) (g3 : Mc 17 3 = nI g) {C : Nat} (hC : C < 5) (g14 : Mc g 14 = nI C) (h13 : Mr 81 13 = nI 0) (hK : tK b n p = 1) (hw8 : tW b n p ≤ 8) : ∃ Mc' Mr' p', nmK0 Mc = some (nI 1, Mc') ∧ nmR (nI C) Mr = some Mr' ∧ TKp Mc' Mr' n b p' ∧ p < p' ∧ Mr' 81 13 = nI 0 ∧ Nm Mc Mr Mc' Mr' b C (tS b n p) (tW b n p) := by
  have h9 := t.B.n9
  obtain ⟨l1, l2⟩ := t.rl hK
  have hp1 := (tK_pos t.hp (b := b) (by omega)).2
  obtain ⟨N2, hN2⟩ : ∃ N2, N2 = mset (mset Mc 18 C (nI (tS b n p))) 19 C (nI (tW b n p)) := ⟨_, rfl⟩
  obtain ⟨R1, e1, f1, g1, o1⟩ : ∃ M', lp_X10_newName_230 (nI C) (fun  (M28 : Mm) => gd (inb ((nI 96) + nI C) 141) <| bv (f_X10_next  (mset M28 85 ((nI 96) + nI C).toNatClampNeg (M28 81 8))) fun M278_29 => some M278_29) N0 (nI 0) Mr = (fun  (M28 : Mm) => gd (inb ((nI 96) + nI C) 141) <| bv (f_X10_next  (mset M28 85 ((nI 96) + nI C).toNatClampNeg (M28 81 8))) fun M278_29 => some M278_29) M' ∧ (∀ a, a ≠ 85 → M' a = Mr a) ∧ (∀ j, j < tW b n p → M' 85 (101 + 8 * C + j) = nI (b (tS b n p + j))) ∧ (∀ i, (i < 101 + 8 * C ∨ 101 + 8 * C + tW b n p ≤ i) → M' 85 i = Mr 85 i) := by
    refine lpM (fun f i M => lp_X10_newName_230 (nI C) (fun  (M28 : Mm) => gd (inb ((nI 96) + nI C) 141) <| bv (f_X10_next  (mset M28 85 ((nI 96) + nI C).toNatClampNeg (M28 81 8))) fun M278_29 => some M278_29) f (nI i) M) (tW b n p) (fun i M => (∀ a, a ≠ 85 → M a = Mr a) ∧ (∀ j, j < i → M 85 (101 + 8 * C + j) = nI (b (tS b n p + j))) ∧ (∀ j, (j < 101 + 8 * C ∨ 101 + 8 * C + tW b n p ≤ j) → M 85 j = Mr 85 j)) _ (by omega) (fun f i M hi T => ?_) (fun f M T => ?_) Mr ⟨fun _ _ => rfl, fun j hj => by omega, fun _ _ => rfl⟩
    · obtain ⟨t1, t2, t3⟩ := T
      refine ⟨mset M 85 (101 + 8 * C + i) (nI (b (tS b n p + i))), ?_, fun a ha => by rw [mset_off _ _ _ ha, t1 a ha], fun j hj => ?_, fun j hj => by rw [ms3 _ _ (by omega), t3 j hj]⟩
      · rw [lp_X10_newName_230, t1 81 (by decide), l1, if_neg (by rw [nle (by omega) (by omega)]; omega), gdi (by omega) (by omega), nmul, nadd, nadd, gdi (by omega) (by omega), nclamp (by omega), nclamp (by omega), t1 83 (by decide), l2 i hi, nadd i 1]
      · by_cases c : j = i
        · subst c; rw [ms1]
        · rw [ms3 _ _ (by omega)]; exact t2 j (by omega)
    · rw [lp_X10_newName_230, T.1 81 (by decide), l1, if_pos (Int32.le_refl _)]
  obtain ⟨R2, hR2⟩ : ∃ R2, R2 = mset R1 85 (96 + C) (nI (tW b n p)) := ⟨_, rfl⟩
  have t2 : TKp N2 R2 n b p := t.cong (by rw [hN2, mset_off _ _ _ (by decide), mset_off _ _ _ (by decide)]) (by rw [hN2, mset_off _ _ _ (by decide), mset_off _ _ _ (by decide)]) (by rw [hR2, mset_off _ _ _ (by decide), f1 81 (by decide)]) (by rw [hR2, mset_off _ _ _ (by decide), f1 82 (by decide)]) (by rw [hR2, mset_off _ _ _ (by decide), f1 83 (by decide)]) (by rw [hN2, mset_off _ _ _ (by decide), mset_off _ _ _ (by decide)])
  obtain ⟨Mc', Mr', a1, a2, t3, w1, w2, w3, w4⟩ := t2.adv
  have k14 : mset Mc 18 C (nI (tS b n p)) g 14 = nI C := by rw [mset_off _ _ _ (by omega)]; exact g14
  have k3 : mset Mc 18 C (nI (tS b n p)) 17 3 = nI g := by rw [mset_off _ _ _ (by decide)]; exact g3
  have k5 : mset Mc 18 C (nI (tS b n p)) 15 5 = nI (tW b n p) := by rw [mset_off _ _ _ (by decide)]; exact t.c5
  refine ⟨Mc', Mr', tS b n p + tW b n p, ?_, ?_, t3, hp1, ?_, ⟨fun j => ?_, fun j => ?_, ?_, fun j hj => ?_, fun i h1 h2 => ?_, fun x h1 h2 h3 => ?_, ?_, ?_⟩⟩
  · unfold nmK0
    rw [g3, bgv hg, g14, t.c4, f_put (q := 18) (n := 5) rfl (by decide) hC, bvs, k3, bgv hg, k14, k5, f_put (q := 19) (n := 5) rfl (by decide) hC, bvs, ← hN2, a1]
    rfl
  · unfold nmR
    rw [if_pos (by rw [h13]; rfl), e1, nadd]
    dsimp only
    rw [gdi (by omega) (by omega), nclamp (by omega), f1 81 (by decide), l1, ← hR2, a2]
    rfl
  · rw [w4 13 (by omega), hR2, mset_off _ _ _ (by decide), f1 81 (by decide)]; exact h13
  · rw [w1 18 (by decide), hN2, mset_off _ _ _ (by decide)]
    by_cases c : j = C
    · subst c; rw [ms1, if_pos rfl]
    · rw [ms3 _ _ c, if_neg c]
  · rw [w1 19 (by decide), hN2]
    by_cases c : j = C
    · subst c; rw [ms1, if_pos rfl]
    · rw [ms3 _ _ c, if_neg c, mset_off _ _ _ (by decide)]
  · rw [w3 85 (by decide) (by decide), hR2, ms1]
  · rw [w3 85 (by decide) (by decide), hR2, ms3 _ _ (by omega)]; exact g1 j hj
  · rw [w3 85 (by decide) (by decide), hR2, ms3 _ _ h1]; exact o1 i h2
  · rw [w1 x h1, hN2, mset_off _ _ _ h3, mset_off _ _ _ h2]
  · rw [w2, hN2, mset_off _ _ _ (by decide), mset_off _ _ _ (by decide)]
  · refine ⟨fun a h1 h2 h3 => by rw [w3 a h1 h2, hR2, mset_off _ _ _ h3, f1 a h3], fun k hk => by rw [w4 k (by omega), hR2, mset_off _ _ _ (by decide), f1 81 (by decide)]⟩
theorem wrong8 {M M' : Mm} {x y : Int32} (h : f_X10_wrong x y M = some M') : M' 81 8 = M 81 8 := by
  unfold f_X10_wrong at h
  split at h
  · cases h; simp (disch := omega) only [ms1, ms1, ms2, ms3]
  · cases h; rfl
/-- the name's comparing, for both -/
theorem both_names (P : PGm Mc Mr g n b G) (t : TKp Mc Mr n b p) (hC5 : G 95 < 5) (h13 : Mr 81 13 = nI 0) (hK : tK b n p = 1) (hw8 : tW b n p ≤ 8) : ∀ d c f f', c + d = G 95 → d < f → d < f' →
    (∃ Mc' Mr' p', lp_X5_name_26 nmK3 nmK0 f (nI c) Mc = some (nI 1, Mc') ∧ lp_X10_newName_117 (nI (G 95)) (nmR (nI (G 95))) f' (nI c) Mr = some Mr' ∧ TKp Mc' Mr' n b p' ∧ p < p' ∧ Mr' 81 13 = nI 0 ∧ Nm Mc Mr Mc' Mr' b (G 95) (tS b n p) (tW b n p)) ∨
    (∃ Mc' Mr', lp_X5_name_26 nmK3 nmK0 f (nI c) Mc = some (nI 0, Mc') ∧ lp_X10_newName_117 (nI (G 95)) (nmR (nI (G 95))) f' (nI c) Mr = some Mr' ∧ FL Mc' Mr' ∧ Wc Mc Mc' ∧ Wr Mr Mr') := by
  have hg := P.C.hg
  obtain ⟨l1, l2⟩ := t.rl hK
  intro d
  induction d with
  | zero =>
    intro c f f' hc hf hf'
    obtain ⟨f, rfl⟩ : ∃ g, f = g + 1 := ⟨f - 1, by omega⟩
    obtain ⟨f', rfl⟩ : ∃ g, f' = g + 1 := ⟨f' - 1, by omega⟩
    left
    obtain ⟨Mc', Mr', p', a1, a2, a3⟩ := both_new t hg P.g3 hC5 P.C.f14 h13 hK hw8
    refine ⟨Mc', Mr', p', ?_, ?_, a3⟩
    · rw [lp_X5_name_26, P.g3, bgv hg, P.C.f14, if_pos (by rw [nle (by omega) (by omega)]; omega)]; exact a1
    · rw [lp_X10_newName_117, if_pos (by rw [nle (by omega) (by omega)]; omega)]; exact a2
  | succ d ih =>
    intro c f f' hc hf hf'
    obtain ⟨f, rfl⟩ : ∃ g, f = g + 1 := ⟨f - 1, by omega⟩
    obtain ⟨f', rfl⟩ : ∃ g, f' = g + 1 := ⟨f' - 1, by omega⟩
    obtain ⟨s, n1, n2, n3, n4, n5⟩ := P.nam c (by omega)
    have k18 : f_X9_at 18 (nI c) Mc = some (nI s, Mc) := by
      rw [← n1]; exact f_at (n := 5) rfl (by decide) (by omega)
    have k19 : f_X9_at 19 (nI c) Mc = some (nI (G (96 + c)), Mc) := by
      rw [← n2]; exact f_at (n := 5) rfl (by decide) (by omega)
    have rl : ∀ k, k < G (96 + c) → Mr 85 (101 + 8 * c + k) = nI (b (s + k)) := fun k hk => by rw [P.r _ (by omega), n5 k hk]
    have e96 : Mr 85 (96 + c) = nI (G (96 + c)) := P.r _ (by omega)
    have hsel : (if nI (G (96 + c)) = nI (tW b n p) then nI 1 else nI 0) = nI (if G (96 + c) = tW b n p then 1 else 0) := by
      by_cases z : G (96 + c) = tW b n p
      · rw [if_pos z, if_pos (by rw [z])]
      · rw [if_neg z, if_neg (by rw [neq (by omega) (by omega)]; exact z)]
    have rr : lp_X10_newName_117 (nI (G 95)) (nmR (nI (G 95))) (f' + 1) (nI c) Mr = if nI (sqN b n p s (G (96 + c))).toNat = 0 then lp_X10_newName_117 (nI (G 95)) (nmR (nI (G 95))) f' (nI (c + 1)) Mr else bv (f_X10_wrong (nI 3) (Mr 81 4) Mr) fun M211_21 => lp_X10_newName_117 (nI (G 95)) (nmR (nI (G 95))) f' (nI (c + 1)) M211_21 := by
      have h := r_letters t hK hw8 (y2 := nI (G 95)) (c := c) (s := s) (w := G (96 + c)) (by omega) n3 n4 rl (fun (u17 : Int32) (M18 : Mm) => if u17 = 0 then lp_X10_newName_117 (nI (G 95)) (nmR (nI (G 95))) f' (nI c + nI 1) M18 else bv (f_X10_wrong (nI 3) (M18 81 4) M18) fun M211_21 => lp_X10_newName_117 (nI (G 95)) (nmR (nI (G 95))) f' (nI c + nI 1) M211_21)
      rw [nadd] at h
      rw [lp_X10_newName_117, if_neg (by rw [nle (by omega) (by omega)]; omega), nadd 96 c, gdi (by omega) (by omega), nclamp (by omega), e96, l1]
      simp only [jns]
      by_cases z : G (96 + c) = tW b n p
      · rw [if_pos z] at h
        rw [if_pos (by rw [z]), nadd]
        exact h
      · rw [if_neg z] at h
        rw [if_neg (by rw [neq (by omega) (by omega)]; exact z), nadd]
        exact h
    rw [rr, lp_X5_name_26, P.g3, bgv hg, P.C.f14, if_neg (by rw [nle (by omega) (by omega)]; omega), k18, bds, k19, bds, c_isTokenAt t n4, bds]
    cases hz : sqN b n p s (G (96 + c))
    · rw [if_pos (by decide), if_pos (by decide), nadd]
      exact ih (c + 1) f f' (by omega) (by omega) (by omega)
    · right
      obtain ⟨Mc1, Mr1, a1, a2, F, W1, V1, -⟩ := both_fail t 3 h13
      refine ⟨Mc1, Mr1, ?_, ?_, F, W1, V1⟩
      · rw [if_neg (by decide)]
        unfold nmK3
        rw [a1]; rfl
      · rw [if_neg (by decide), a2, bvs, r_names_fl (C := G 95) (c := 0) (f := 0) (by omega) F.2.2 ⟨tW b n p, hw8, by rw [wrong8 a2]; exact l1⟩ d (c + 1) f' (by omega) (by omega)]
theorem tW8 (hp : p ≤ n) (h : tK b n p = 1) : tW b n p ≤ 8 := by
  have hs := (tK_pos hp (b := b) (by omega)).1
  revert h
  unfold tK
  rw [if_neg (by omega)]
  split
  · omega
  · omega
theorem r_bar (t : TKp Mc Mr n b p) (h13 : Mr 81 13 = nI 0) : f_X10_newName Mr = (if tK b n p = 1 ∧ kept b n p = false then lp_X10_newName_117 (Mr 85 95) (nmR (Mr 85 95)) N0 (nI 0) Mr else bv (f_X10_wrong (nI 1) (Mr 81 4) Mr) fun M6 => if (M6 81 13) = 0 then lp_X10_newName_117 (M6 85 95) (nmR (M6 85 95)) N0 (nI 0) M6 else some M6) := by
  have hr := rk_b _ (tK_le (b := b) (n := n) (p := p))
  have core : ∀ s3 : Bool, s3 = kept b n p → (if (Mr 81 6) = (nI 2) then (if nI s3.toNat = 0 then (if (Mr 81 13) = 0 then (lp_X10_newName_117 (Mr 85 95) (nmR (Mr 85 95)) N0 (nI 0) Mr) else (some Mr)) else (bv (f_X10_wrong (nI 1) (Mr 81 4) Mr) fun M96_35 => if (M96_35 81 13) = 0 then (lp_X10_newName_117 (M96_35 85 95) (nmR (M96_35 85 95)) N0 (nI 0) M96_35) else (some M96_35))) else (bv (f_X10_wrong (nI 1) (Mr 81 4) Mr) fun M96_35 => if (M96_35 81 13) = 0 then (lp_X10_newName_117 (M96_35 85 95) (nmR (M96_35 85 95)) N0 (nI 0) M96_35) else (some M96_35))) = (if tK b n p = 1 ∧ kept b n p = false then lp_X10_newName_117 (Mr 85 95) (nmR (Mr 85 95)) N0 (nI 0) Mr else bv (f_X10_wrong (nI 1) (Mr 81 4) Mr) fun M6 => if (M6 81 13) = 0 then lp_X10_newName_117 (M6 85 95) (nmR (M6 85 95)) N0 (nI 0) M6 else some M6) := fun s3 hs => by
    rw [t.r6, ← hs]
    by_cases c1 : tK b n p = 1
    · rw [if_pos (by rw [c1]; rfl)]
      cases s3
      · rw [if_pos (by decide), if_pos (by rw [h13]; rfl), if_pos ⟨c1, rfl⟩]
      · rw [if_neg (by decide), if_neg (fun z => by cases z.2)]
    · rw [if_neg (by rw [neq (by omega) (by omega)]; omega), if_neg (fun z => c1 z.1)]
  unfold f_X10_newName
  simp only [jns]
  have hk : ∀ i, i < 23 → f_X10_isWord (i + 23) Mr = some (nI (wd b n p i).toNat, Mr) := fun i hi => r_isWord t hi h13
  rw [hk 0 (by decide), bds]
  cases w0 : wd b n p 0
  · rw [if_pos (by decide), hk 4 (by decide), bds]
    cases w4 : wd b n p 4
    · rw [if_pos (by decide), hk 5 (by decide), bds]
      cases w5 : wd b n p 5
      · rw [if_pos (by decide), hk 10 (by decide), bds]
        cases w10 : wd b n p 10
        · rw [if_pos (by decide), hk 15 (by decide), bds]
          cases w15 : wd b n p 15
          · rw [if_pos (by decide), hk 16 (by decide), bds]
            cases w16 : wd b n p 16
            · rw [if_pos (by decide), hk 17 (by decide), bds]
              cases w17 : wd b n p 17
              · rw [if_pos (by decide), hk 18 (by decide), bds]
                cases w18 : wd b n p 18
                · rw [if_pos (by decide)]
                  exact core false (by unfold kept; rw [w0, w4, w5, w10, w15, w16, w17, w18]; rfl)
                · rw [if_neg (by decide)]
                  exact core true (by unfold kept; rw [w0, w4, w5, w10, w15, w16, w17, w18]; rfl)
              · rw [if_neg (by decide)]
                exact core true (by unfold kept; rw [w0, w4, w5, w10, w15, w16, w17]; rfl)
            · rw [if_neg (by decide)]
              exact core true (by unfold kept; rw [w0, w4, w5, w10, w15, w16]; rfl)
          · rw [if_neg (by decide)]
            exact core true (by unfold kept; rw [w0, w4, w5, w10, w15]; rfl)
        · rw [if_neg (by decide)]
          exact core true (by unfold kept; rw [w0, w4, w5, w10]; rfl)
      · rw [if_neg (by decide)]
        exact core true (by unfold kept; rw [w0, w4, w5]; rfl)
    · rw [if_neg (by decide)]
      exact core true (by unfold kept; rw [w0, w4]; rfl)
  · rw [if_neg (by decide)]
    exact core true (by unfold kept; rw [w0]; rfl)
theorem both_name (P : PGm Mc Mr g n b G) (t : TKp Mc Mr n b p) (hC5 : G 95 < 5) (h13 : Mr 81 13 = nI 0) :
    (∃ Mc' Mr' p' s w, f_X5_name Mc = some (nI 1, Mc') ∧ f_X10_newName Mr = some Mr' ∧ TKp Mc' Mr' n b p' ∧ p < p' ∧ Mr' 81 13 = nI 0 ∧ w ≤ 8 ∧ s + w ≤ n ∧ Nm Mc Mr Mc' Mr' b (G 95) s w) ∨
    (∃ Mc' Mr', f_X5_name Mc = some (nI 0, Mc') ∧ f_X10_newName Mr = some Mr' ∧ FL Mc' Mr' ∧ Wc Mc Mc' ∧ Wr Mr Mr') := by
  have hg := P.C.hg
  rw [r_bar t h13, P.r 95 (by decide)]
  have eC : f_X5_name Mc = if (Mc 15 3) = (nI 1) then (bd (f_X5_isKept  Mc) fun v12_6 M12_5 => if v12_6 = 0 then (lp_X5_name_26 nmK3 nmK0 N0 (nI 0) M12_5) else (bd (f_X5_fail (nI 1) M12_5) fun v20_4 M20_3 => gd (zo v20_4) <| some (v20_4, M20_3))) else (bd (f_X5_fail (nI 1) Mc) fun v20_4 M20_3 => gd (zo v20_4) <| some (v20_4, M20_3)) := rfl
  have hK6 := tK_le (b := b) (n := n) (p := p)
  rw [eC, t.c3, c_isKept t, bds]
  have bad : ∀ A, A = (bd (f_X5_fail (nI 1) Mc) fun v20_4 M20_3 => gd (zo v20_4) <| some (v20_4, M20_3)) → (∃ Mc' Mr', A = some (nI 0, Mc') ∧ (bv (f_X10_wrong (nI 1) (Mr 81 4) Mr) fun M6 => if (M6 81 13) = 0 then lp_X10_newName_117 (M6 85 95) (nmR (M6 85 95)) N0 (nI 0) M6 else some M6) = some Mr' ∧ FL Mc' Mr' ∧ Wc Mc Mc' ∧ Wr Mr Mr') := fun A hA => by
    obtain ⟨Mc1, Mr1, a1, a2, F, W1, V1, -⟩ := both_fail t 1 h13
    refine ⟨Mc1, Mr1, ?_, ?_, F, W1, V1⟩
    · rw [hA, a1]; rfl
    · rw [a2, bvs, if_neg (fl0 F.2.2)]
  by_cases c1 : tK b n p = 1
  · rw [if_pos (by rw [c1])]
    cases hk : kept b n p
    · rw [if_pos (by decide), if_pos ⟨c1, rfl⟩]
      rcases both_names P t hC5 h13 c1 (tW8 t.hp c1) (G 95) 0 N0 N0 (by omega) (by unfold N0; omega) (by unfold N0; omega) with ⟨Mc', Mr', p', a1, a2, a3, a4, a5, a6⟩ | h
      · exact .inl ⟨Mc', Mr', p', tS b n p, tW b n p, a1, a2, a3, a4, a5, tW8 t.hp c1, (tW_b t.hp).1, a6⟩
      · exact .inr h
    · rw [if_neg (by decide), if_neg (fun z => by cases z.2)]
      exact .inr (bad _ rfl)
  · rw [if_neg (by rw [neq (by omega) (by omega)]; exact c1), if_neg (fun z => c1 z.1)]
    exact .inr (bad _ rfl)
end
