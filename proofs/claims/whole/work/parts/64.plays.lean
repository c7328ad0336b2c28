/-! PLAYS: one play from its beginning, in the reference and in the class. -/
theorem r_playLoop {G : Nat → Nat} (W : GW G) {m most : Nat} {y1 y3 y4 : Int32} (k : Mm → Option Mm) (hn : most < 1000) (M0 : Mm) : ∀ j f Q T M, RG M G → Ey M G m → RP M G Q → QW G Q T → T + j < 1000000 → Q.touch < 0 → Q.passed + j = most → 1 ≤ j → j + 1 < f →
    (∀ a, a ≠ 86 → a ≠ 93 → M a = M0 a) → ∃ M', lp_X10_plays_46 y1 (nI most) y3 y4 k f (nI 1) M = k M' ∧ RP M' G (rn G m j Q) ∧ (∀ a, a ≠ 86 → a ≠ 93 → M' a = M0 a) := by
  intro j
  induction j with
  | zero =>
    intro f Q T M R he H hQ hT ht hp hj hf hfr
    omega
  | succ j ih =>
    intro f Q T M R he H hQ hT ht hp hj hf hfr
    obtain ⟨f, rfl⟩ : ∃ g, f = g + 2 := ⟨f - 2, by omega⟩
    have ho := hQ.on W ht
    obtain ⟨M1, e1, H1, f1⟩ := r_tenth R W he H hQ ho.1 ho.2 (by omega)
    have hQ1 := nx_QW W (m := m) hQ ho.1 ho.2
    have hp1 : (nx G m Q).1.passed = Q.passed + 1 := nx_passed
    have h2 := nx_two (G := G) (m := m) (Q := Q)
    have R1 : RG M1 G := fun k hk => by rw [f1 84 (by decide) (by decide)]; exact R k hk
    have he1 : Ey M1 G m := by unfold Ey; rw [f1 81 (by decide) (by decide)]; exact he
    have fr1 : ∀ a, a ≠ 86 → a ≠ 93 → M1 a = M0 a := fun a h h' => by rw [f1 a h h', hfr a h h']
    have stop : lp_X10_plays_46 y1 (nI most) y3 y4 k (f + 1) (nI 0) M1 = k M1 := by
      rw [lp_X10_plays_46, if_pos (show nI 0 = 0 from rfl)]
    rw [lp_X10_plays_46, if_neg (show ¬ nI 1 = 0 by decide), e1, rn, if_pos ht]
    simp only [bds, jns]
    rw [H1.over, H1.passed, hp1]
    by_cases c : (nx G m Q).1.touch < 0
    · rw [if_pos c]
      by_cases c3 : j = 0
      · subst c3
        refine ⟨M1, ?_, by rw [rn]; exact H1, fr1⟩
        have hm2 : nI most ≤ nI (Q.passed + 1) := by rw [nle (by omega) (by omega)]; omega
        rw [if_pos hm2]
        by_cases c2 : (nx G m Q).2 = 1
        · rw [if_pos c2, if_neg (show ¬ nI 1 = 0 by decide)]
          exact stop
        · rw [if_neg c2, if_pos (show nI 0 = 0 from rfl), if_pos (show nI 0 = 0 from rfl)]
          exact stop
      · obtain ⟨M2, e2, H2, f2⟩ := ih (f + 1) (nx G m Q).1 (T + 1) M1 R1 he1 H1 hQ1 (by omega) c (by rw [hp1]; omega) (by omega) (by omega) fr1
        refine ⟨M2, ?_, H2, f2⟩
        have hm2 : ¬ nI most ≤ nI (Q.passed + 1) := by rw [nle (by omega) (by omega)]; omega
        rw [if_neg hm2]
        by_cases c2 : (nx G m Q).2 = 1
        · rw [if_pos c2, if_neg (show ¬ nI 1 = 0 by decide)]
          exact e2
        · rw [if_neg c2, if_pos (show nI 0 = 0 from rfl), if_pos (show nI 0 = 0 from rfl)]
          exact e2
    · have c2 : (nx G m Q).2 = 2 := h2.1.mpr c
      refine ⟨M1, ?_, by rw [rn_over c]; exact H1, fr1⟩
      rw [if_neg c, c2, if_neg (show ¬ (2 : Nat) = 1 by decide), if_pos (show nI 0 = 0 from rfl), if_neg (show ¬ nI 1 = 0 by decide)]
      exact stop
theorem c_playLoop {G : Nat → Nat} (W : GW G) {g m most : Nat} (hm : m < 100) {y2 y3 y6 : Int32} (k : Mm → Option Mm) (hn : most < 1000) (M0 : Mm) (C0 : CG M0 g G) : ∀ j f Q T i M, CP M 62 G Q → QW G Q T → T + j < 1000000 → i + j = most → j < f →
    (∀ a, a < 62 ∨ 71 < a → M a = M0 a) → ∃ M', lp_X4_run_49 g y2 y3 (nI most) (nI m) y6 k f (nI i) M = k M' ∧ CP M' 62 G (rn G m j Q) ∧ (∀ a, a < 62 ∨ 71 < a → M' a = M0 a) := by
  intro j
  induction j with
  | zero =>
    intro f Q T i M H hQ hT hi hf hfr
    obtain ⟨f, rfl⟩ : ∃ g, f = g + 1 := ⟨f - 1, by omega⟩
    refine ⟨M, ?_, H, hfr⟩
    rw [lp_X4_run_49]
    simp (disch := omega) only [jns, bds, bvs, lts, gdt, nadd, nmul, nsub, nle, nlt, neq, nz0, nlt0, nle0, n0le, n0lt, nclamp, ndiv, nmod2, gdi, gdn, if_pos, if_neg, if_true, if_false]
  | succ j ih =>
    intro f Q T i M H hQ hT hi hf hfr
    obtain ⟨f, rfl⟩ : ∃ g, f = g + 1 := ⟨f - 1, by omega⟩
    have C : CG M g G := C0.cong (fun a h => hfr a (by omega))
    rw [lp_X4_run_49, c_isOver H, rn, if_neg (by rw [nle (by omega) (by omega)]; omega)]
    simp only [bds]
    by_cases ht : Q.touch < 0
    · have ho := hQ.on W ht
      obtain ⟨M1, e1, H1, f1⟩ := c_goOn C W (show PC 62 from Or.inr (Or.inr (Or.inr (Or.inr rfl)))) hm H hQ ho.1 ho.2 (by omega)
      have hQ1 := nx_QW W (m := m) hQ ho.1 ho.2
      rw [if_pos ht, if_pos ht, if_pos (show nI 0 = 0 from rfl), e1]
      simp only [bds]
      rw [nadd]
      exact ih f (nx G m Q).1 (T + 1) (i + 1) M1 H1 hQ1 (by omega) (by omega) (by omega) (fun a h => by rw [f1 a (by omega), hfr a h])
    · rw [if_neg ht, if_neg ht, if_neg (show ¬ nI 1 = 0 by decide)]
      exact ⟨M, rfl, H, hfr⟩
