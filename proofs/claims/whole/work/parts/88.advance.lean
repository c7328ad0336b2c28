/-! ADVANCE, NEXT. -/
def finA (M30 : Mm) : Option Mm := jn (fun (M31 : Mm) => some ((mset M31 15 3 (nI 6)))) fun j32 => jn (fun (M33 : Mm) => if (M33 15 3) = (nI 2) then (if (M33 15 5) ≤ (nI 3) then (some M33) else (j32  M33)) else (some M33)) fun j34 => if (M30 15 3) = (nI 1) then (if (nI 8) < (M30 15 5) then (j32  M30) else (j34  M30)) else (j34  M30)
theorem finA_eq {M : Mm} {κ w : Nat} (h3 : M 15 3 = nI κ) (h5 : M 15 5 = nI w) (hκ : κ < 10) (hw : w < 1000) : finA M = some (if (κ = 1 ∧ 8 < w) ∨ (κ = 2 ∧ 3 < w) then mset M 15 3 (nI 6) else M) := by
  unfold finA
  simp only [jns]
  rw [h3, h5]
  by_cases c1 : κ = 1
  · rw [if_pos (by rw [c1])]
    by_cases c2 : 8 < w
    · rw [if_pos (by rw [nlt (by omega) (by omega)]; exact c2), if_pos (.inl ⟨c1, c2⟩)]
    · rw [if_neg (by rw [nlt (by omega) (by omega)]; exact c2), if_neg (by rw [neq (by omega) (by omega)]; omega), if_neg (by omega)]
  · rw [if_neg (by rw [neq (by omega) (by omega)]; exact c1)]
    by_cases c2 : κ = 2
    · rw [if_pos (by rw [c2])]
      by_cases c3 : 3 < w
      · rw [if_neg (by rw [nle (by omega) (by omega)]; omega), if_pos (.inr ⟨c2, c3⟩)]
      · rw [if_pos (by rw [nle (by omega) (by omega)]; omega), if_neg (by omega)]
    · rw [if_neg (by rw [neq (by omega) (by omega)]; exact c2), if_neg (by omega)]
/-- what advance leaves -/
def Adv (M M' : Mm) (b : Nat → Nat) (n p : Nat) : Prop := (∀ a, a ≠ 15 → M' a = M a) ∧ (M' 15 1 = M 15 1) ∧ (M' 15 2 = M 15 2) ∧ (M' 15 4 = nI (tS b n p)) ∧ (M' 15 5 = nI (tW b n p)) ∧ (M' 15 3 = nI (tK b n p)) ∧ (tK b n p = 2 → M' 15 6 = nI (vN b (tS b n p) (tW b n p)))
theorem Adv.fr {M M' : Mm} {b : Nat → Nat} {n p : Nat} (h : Adv M M' b n p) : ∀ a, a ≠ 15 → M' a = M a := h.1
theorem Adv.f1 {M M' : Mm} {b : Nat → Nat} {n p : Nat} (h : Adv M M' b n p) : M' 15 1 = M 15 1 := h.2.1
theorem Adv.f2 {M M' : Mm} {b : Nat → Nat} {n p : Nat} (h : Adv M M' b n p) : M' 15 2 = M 15 2 := h.2.2.1
theorem Adv.s {M M' : Mm} {b : Nat → Nat} {n p : Nat} (h : Adv M M' b n p) : M' 15 4 = nI (tS b n p) := h.2.2.2.1
theorem Adv.w {M M' : Mm} {b : Nat → Nat} {n p : Nat} (h : Adv M M' b n p) : M' 15 5 = nI (tW b n p) := h.2.2.2.2.1
theorem Adv.k {M M' : Mm} {b : Nat → Nat} {n p : Nat} (h : Adv M M' b n p) : M' 15 3 = nI (tK b n p) := h.2.2.2.2.2.1
theorem Adv.v {M M' : Mm} {b : Nat → Nat} {n p : Nat} (h : Adv M M' b n p) : tK b n p = 2 → M' 15 6 = nI (vN b (tS b n p) (tW b n p)) := h.2.2.2.2.2.2
theorem c_width0 {M : Mm} {k : Mm → Option Mm} (h5 : M 15 5 = nI 0) : lp_X8_advance_110 (nI 0) k N0 M = k M := by
  rw [show N0 = 999999 + 1 from rfl, lp_X8_advance_110, h5, if_pos (Int32.le_refl _)]
theorem c_width1 {M : Mm} {n s κ : Nat} {b : Nat → Nat} (B : TBc M n b) (hs : s < n) (hκ : kd (b s) = κ) (h3 : M 15 3 = nI κ) (h4 : M 15 4 = nI s) (h5 : M 15 5 = nI 0) (k : Mm → Option Mm) : ∃ v, lp_X8_advance_110 (nI 1) k N0 M = k (mset (mset M 15 6 v) 15 5 (nI 1)) := by
  have h9 := B.n9
  refine ⟨M 15 6 * nI 10 + nI (b s) - nI 48, ?_⟩
  rw [show N0 = 999998 + 1 + 1 from rfl, lp_X8_advance_110, h5, if_neg (by decide), h4, nadd, Nat.add_zero, c_byte B hs, bds, c_kindN (B.by_ s hs).1, bds, h3, if_pos (by rw [hκ]), h4, h5, nadd, Nat.add_zero, c_byte B hs, bds, ms3 _ _ (show (5 : Nat) ≠ 6 by decide), h5, nadd, lp_X8_advance_110, ms1, if_pos (Int32.le_refl _)]
theorem c_advance {M : Mm} {n : Nat} {b : Nat → Nat} (B : TBc M n b) {s0 w0 : Nat} (h4 : M 15 4 = nI s0) (h5 : M 15 5 = nI w0) (hp : s0 + w0 ≤ n) : ∃ M', f_X8_advance M = some M' ∧ Adv M M' b n (s0 + w0) := by
  have h9 := B.n9
  obtain ⟨t1, t2, t3⟩ := tS_b (b := b) hp
  obtain ⟨w1, w2⟩ := tW_b (b := b) hp
  unfold f_X8_advance
  rw [h4, h5, nadd, c_skip B _ (n - (s0 + w0)) (s0 + w0) N0 (by omega) (by unfold N0; omega)]
  have hS : sk b (n - (s0 + w0)) (s0 + w0) = tS b n (s0 + w0) := rfl
  rw [hS]
  generalize hp2 : s0 + w0 = p at *
  generalize hs : tS b n p = s at *
  have B1 : TBc (mset M 15 4 (nI s)) n b := B.cong (ms3 _ _ (by decide)) (mset_off _ _ _ (by decide))
  have fin : ∀ u κ w, (κ < 10) → (w < 1000) → (tW b n p = w) → (tK b n p = if (κ = 1 ∧ 8 < w) ∨ (κ = 2 ∧ 3 < w) then 6 else κ) → (∃ M30, lp_X8_advance_110 u finA N0 (mset (mset (mset (mset M 15 4 (nI s)) 15 3 (nI κ)) 15 6 (nI 0)) 15 5 (nI 0)) = finA M30 ∧ (∀ a, a ≠ 15 → M30 a = M a) ∧ M30 15 1 = M 15 1 ∧ M30 15 2 = M 15 2 ∧ M30 15 4 = nI s ∧ M30 15 3 = nI κ ∧ M30 15 5 = nI w ∧ (κ = 2 → M30 15 6 = nI (vN b s w))) → ∃ M', lp_X8_advance_110 u finA N0 (mset (mset (mset (mset M 15 4 (nI s)) 15 3 (nI κ)) 15 6 (nI 0)) 15 5 (nI 0)) = some M' ∧ Adv M M' b n p := by
    intro u κ w hκ hw eW eK ⟨M30, g0, g1, g2, g3, g4, g5, g6, g7⟩
    rw [g0, finA_eq g5 g6 hκ hw]
    refine ⟨_, rfl, ?_⟩
    by_cases c : (κ = 1 ∧ 8 < w) ∨ (κ = 2 ∧ 3 < w)
    · rw [if_pos c] at eK ⊢
      refine ⟨fun a ha => by rw [mset_off _ _ _ ha, g1 a ha], by rw [ms3 _ _ (by decide), g2], by rw [ms3 _ _ (by decide), g3], by rw [ms3 _ _ (by decide), g4, hs], by rw [ms3 _ _ (by decide), g6, eW], by rw [ms1, eK], fun z => ?_⟩
      rw [eK] at z
      omega
    · rw [if_neg c] at eK ⊢
      refine ⟨g1, g2, g3, by rw [g4, hs], by rw [g6, eW], by rw [g5, eK], fun z => ?_⟩
      rw [hs, eW]
      exact g7 (by omega)
  by_cases c : s = n
  · rw [c_byteE B1 (by omega) (by omega), bds, c_kindE, bds]
    simp only [jns]
    rw [ms3 _ _ (show (3 : Nat) ≠ 6 by decide), ms1, if_neg (by decide), if_neg (by decide), ms3 _ _ (show (2 : Nat) ≠ 6 by decide), ms3 _ _ (show (2 : Nat) ≠ 3 by decide), ms3 _ _ (show (2 : Nat) ≠ 4 by decide), B.c2, if_pos (by rw [nle (by omega) (by omega)]; omega), if_pos (by decide)]
    refine fin (nI 0) 0 0 (by omega) (by omega) (by unfold tW; rw [hs, if_pos c]) (by unfold tK; rw [hs, if_pos c]; rfl) ⟨_, c_width0 (ms1 _ _ _ _), fun a ha => ?_, ?_, ?_, ?_, ?_, ms1 _ _ _ _, fun z => by omega⟩
    · rw [mset_off _ _ _ ha, mset_off _ _ _ ha, mset_off _ _ _ ha, mset_off _ _ _ ha]
    · simp (disch := omega) only [ms1, ms1, ms2, ms3]
    · simp (disch := omega) only [ms1, ms1, ms2, ms3]
    · simp (disch := omega) only [ms1, ms1, ms2, ms3]
    · simp (disch := omega) only [ms1, ms1, ms2, ms3]
  · have hsn : s < n := by omega
    have hb := (B.by_ s hsn).1
    have hkb := kd_b (b s)
    have h5' := t3 hsn
    rw [c_byte B1 hsn, bds, c_kindN hb, bds]
    simp only [jns]
    rw [ms3 _ _ (show (3 : Nat) ≠ 6 by decide), ms1, ms3 _ _ (show (2 : Nat) ≠ 6 by decide), ms3 _ _ (show (2 : Nat) ≠ 3 by decide), ms3 _ _ (show (2 : Nat) ≠ 4 by decide), B.c2]
    have hns : ¬ nI n ≤ nI s := by rw [nle (by omega) (by omega)]; omega
    have eK : ∀ w, tW b n p = w → tK b n p = if (kd (b s) = 1 ∧ 8 < w) ∨ (kd (b s) = 2 ∧ 3 < w) then 6 else kd (b s) := fun w hw => by
      unfold tK
      rw [hs, if_neg c, hw]
    by_cases cr : kd (b s) = 1 ∨ kd (b s) = 2
    · obtain ⟨M30, g0, g1, g2, g3, g4⟩ := c_widthLoop B (s := s) (κ := kd (b s)) (by omega) (by omega) finA (n - s) 0 N0 (mset (mset (mset (mset M 15 4 (nI s)) 15 3 (nI (kd (b s)))) 15 6 (nI 0)) 15 5 (nI 0)) (by omega) (by unfold N0; omega) (by simp (disch := omega) only [ms1, ms1, ms2, ms3]) (by rw [mset_off _ _ _ (by decide), mset_off _ _ _ (by decide), mset_off _ _ _ (by decide), mset_off _ _ _ (by decide)]) (by simp (disch := omega) only [ms1, ms1, ms2, ms3]) (by simp (disch := omega) only [ms1, ms1, ms2, ms3]) (ms1 _ _ _ _) (fun _ => by simp (disch := omega) only [ms1, ms1, ms2, ms3]; rfl)
      have eW : tW b n p = ru b (kd (b s)) (n - s) s := by unfold tW; rw [hs, if_neg c, if_pos cr]
      rw [Nat.zero_add, Nat.add_zero] at g3 g4
      have hle := (ru_b b (kd (b s)) (n - s) s).1
      have hfin := fin (nI (n - s)) (kd (b s)) (ru b (kd (b s)) (n - s) s) (by omega) (by omega) eW (eK _ eW) ⟨M30, g0, fun a ha => by rw [g1 a ha, mset_off _ _ _ ha, mset_off _ _ _ ha, mset_off _ _ _ ha, mset_off _ _ _ ha], by rw [g2 1 (by decide) (by decide)]; simp (disch := omega) only [ms1, ms1, ms2, ms3], by rw [g2 2 (by decide) (by decide)]; simp (disch := omega) only [ms1, ms1, ms2, ms3], by rw [g2 4 (by decide) (by decide)]; simp (disch := omega) only [ms1, ms1, ms2, ms3], by rw [g2 3 (by decide) (by decide)]; simp (disch := omega) only [ms1, ms1, ms2, ms3], g3, g4⟩
      rcases cr with cr | cr
      · rw [cr] at hfin
        rw [cr, if_pos rfl, if_neg hns, if_neg (by decide), nsub (by omega)]
        exact hfin
      · rw [cr] at hfin
        rw [cr, if_neg (by decide), if_pos rfl, if_neg hns, if_neg (by decide), nsub (by omega)]
        exact hfin
    · have eW : tW b n p = 1 := by unfold tW; rw [hs, if_neg c, if_neg cr]
      rw [if_neg (by rw [neq (by omega) (by omega)]; omega), if_neg (by rw [neq (by omega) (by omega)]; omega), if_neg hns, if_pos (by decide)]
      have B2 : TBc (mset (mset (mset (mset M 15 4 (nI s)) 15 3 (nI (kd (b s)))) 15 6 (nI 0)) 15 5 (nI 0)) n b := B.cong (by simp (disch := omega) only [ms1, ms1, ms2, ms3]) (by rw [mset_off _ _ _ (by decide), mset_off _ _ _ (by decide), mset_off _ _ _ (by decide), mset_off _ _ _ (by decide)])
      obtain ⟨v, g0⟩ := c_width1 B2 hsn (κ := kd (b s)) rfl (by simp (disch := omega) only [ms1, ms1, ms2, ms3]) (by simp (disch := omega) only [ms1, ms1, ms2, ms3]) (ms1 _ _ _ _) finA
      refine fin (nI 1) (kd (b s)) 1 (by omega) (by omega) eW (eK _ eW) ⟨_, g0, fun a ha => ?_, ?_, ?_, ?_, ?_, ms1 _ _ _ _, fun z => by omega⟩
      · rw [mset_off _ _ _ ha, mset_off _ _ _ ha, mset_off _ _ _ ha, mset_off _ _ _ ha, mset_off _ _ _ ha, mset_off _ _ _ ha]
      · simp (disch := omega) only [ms1, ms1, ms2, ms3]
      · simp (disch := omega) only [ms1, ms1, ms2, ms3]
      · simp (disch := omega) only [ms1, ms1, ms2, ms3]
      · simp (disch := omega) only [ms1, ms1, ms2, ms3]
