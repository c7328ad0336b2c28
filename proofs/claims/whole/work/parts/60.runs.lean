/-! RUNS of tenths. -/
/-- the next k tenths, as long as it isn't over -/
def rn (G : Nat → Nat) (m : Nat) : Nat → Pl → Pl
  | 0, Q => Q
  | k + 1, Q => if Q.touch < 0 then rn G m k (nx G m Q).1 else Q
theorem rn_over {G : Nat → Nat} {m : Nat} {Q : Pl} (h : ¬ Q.touch < 0) : ∀ k, rn G m k Q = Q
  | 0 => rfl
  | k + 1 => by rw [rn, if_neg h]
theorem rn_QW {G : Nat → Nat} (W : GW G) {m : Nat} : ∀ {k : Nat} {Q : Pl} {T : Nat}, QW G Q T → QW G (rn G m k Q) (T + k)
  | 0, Q, T, h => h
  | k + 1, Q, T, h => by
    rw [rn]
    by_cases c : Q.touch < 0
    · rw [if_pos c]
      have ho := h.on W c
      have h2 := rn_QW W (m := m) (k := k) (nx_QW W (m := m) h ho.1 ho.2)
      have e : T + 1 + k = T + (k + 1) := by omega
      rw [e] at h2
      exact h2
    · rw [if_neg c]
      exact ⟨h.part, h.st, h.into, h.how, h.hw, h.there, h.seed, h.loud, h.cnt, h.lk, by have := h.ps; omega⟩
theorem nint0 (b : Bool) : (nI (if b then 0 else 1) = 0) = (b = true) := by cases b <;> decide
theorem over0 {Q : Pl} : (nI (if Q.touch < 0 then 0 else 1) = 0) = (Q.touch < 0) := by
  by_cases h : Q.touch < 0
  · rw [if_pos h]; exact propext ⟨fun _ => h, fun _ => rfl⟩
  · rw [if_neg h]; exact propext ⟨fun z => absurd z (by decide), fun z => absurd z h⟩
theorem c_isOver {M : Mm} {p : Nat} {G : Nat → Nat} {Q : Pl} (H : CP M p G Q) : f_X3_isOver p M = some (nI (if Q.touch < 0 then 0 else 1), M) := by
  unfold f_X3_isOver
  rw [H.touch]
  by_cases h : Q.touch < 0
  · rw [if_pos h, if_pos h]
  · rw [if_neg h, if_neg h]
theorem bgv {β : Type} {g : Nat} {k : Nat → Option β} (h : g = 1 ∨ g = 8) : bg (nI g) k = k g := by
  unfold bg
  rcases h with rfl | rfl
  · rw [if_pos (by decide)]
  · rw [if_neg (by decide), if_pos (by decide)]
/-- the reference's loop of tenths -/
theorem r_tenthsLoop {G : Nat → Nat} (W : GW G) {m n was : Nat} (k : Mm → Option (Int32 × Mm)) (hn : n ≤ 100) (hw : was < 1000000) (M0 : Mm) : ∀ j f Q T M, RG M G → Ey M G m → RP M G Q → QW G Q T → T + j < 1000000 → Q.touch < 0 → was ≤ Q.passed → Q.passed + j = was + n → (j < f) →
    (∀ a, a ≠ 86 → a ≠ 93 → M a = M0 a) → ∃ M', lp_X10_tenths_60 (nI n) (nI was) k f (nI 1) M = k M' ∧ RP M' G (rn G m j Q) ∧ (∀ a, a ≠ 86 → a ≠ 93 → M' a = M0 a) := by
  intro j
  induction j with
  | zero =>
    intro f Q T M R he H hQ hT ht hwp hp hf hfr
    obtain ⟨f, rfl⟩ : ∃ g, f = g + 1 := ⟨f - 1, by omega⟩
    refine ⟨M, ?_, H, hfr⟩
    rw [lp_X10_tenths_60, H.passed]
    simp (disch := omega) only [jns, bds, bvs, lts, gdt, nadd, nmul, nsub, nle, nlt, neq, nz0, nlt0, nle0, n0le, n0lt, nclamp, ndiv, nmod2, gdi, gdn, if_pos, if_neg, if_true, if_false]
  | succ j ih =>
    intro f Q T M R he H hQ hT ht hwp hp hf hfr
    obtain ⟨f, rfl⟩ : ∃ g, f = g + 1 := ⟨f - 1, by omega⟩
    have ho := hQ.on W ht
    obtain ⟨M1, e1, H1, f1⟩ := r_tenth R W he H hQ ho.1 ho.2 (by omega)
    have hQ1 := nx_QW W (m := m) hQ ho.1 ho.2
    have hp1 : (nx G m Q).1.passed = Q.passed + 1 := nx_passed
    have h2 := nx_two (G := G) (m := m) (Q := Q)
    have R1 : RG M1 G := fun k hk => by rw [f1 84 (by decide) (by decide)]; exact R k hk
    have he1 : Ey M1 G m := by unfold Ey; rw [f1 81 (by decide) (by decide)]; exact he
    have hps := hQ.ps
    rw [lp_X10_tenths_60, H.passed, rn, if_pos ht]
    have q0 : ¬ nI n ≤ nI Q.passed - nI was := by
      rw [nsub (by omega), nle (by omega) (by omega)]
      omega
    rw [if_neg q0, if_neg (show ¬ nI 1 = 0 by decide), e1]
    simp only [bds, jns]
    rw [H1.over]
    by_cases c : (nx G m Q).1.touch < 0
    · obtain ⟨M2, e2, H2, f2⟩ := ih f (nx G m Q).1 (T + 1) M1 R1 he1 H1 hQ1 (by omega) c (by rw [hp1]; omega) (by rw [hp1]; omega) (by omega) (fun a h h' => by rw [f1 a h h', hfr a h h'])
      refine ⟨M2, ?_, H2, f2⟩
      rw [if_pos c]
      by_cases c2 : (nx G m Q).2 = 1
      · rw [if_pos c2, if_neg (show ¬ nI 1 = 0 by decide)]
        exact e2
      · rw [if_neg c2, if_pos (show nI 0 = 0 from rfl), if_pos (show nI 0 = 0 from rfl)]
        exact e2
    · have c2 : (nx G m Q).2 = 2 := h2.1.mpr c
      refine ⟨M1, ?_, by rw [rn_over c]; exact H1, fun a h h' => by rw [f1 a h h', hfr a h h']⟩
      rw [if_neg c, c2, if_neg (show ¬ (2 : Nat) = 1 by decide), if_pos (show nI 0 = 0 from rfl), if_neg (show ¬ nI 1 = 0 by decide)]
      obtain ⟨f, rfl⟩ : ∃ g, f = g + 1 := ⟨f - 1, by omega⟩
      rw [lp_X10_tenths_60]
      by_cases c3 : nI n ≤ M1 86 4 - nI was
      · rw [if_pos c3]
      · rw [if_neg c3, if_pos (show nI 0 = 0 from rfl)]
/-- the class's loop of tenths -/
theorem c_tenthsLoop {G : Nat → Nat} (W : GW G) {g n was : Nat} (k : Int32 → Mm → Option (Int32 × Mm)) (hn : n ≤ 100) (hw : was < 1000000) (M0 : Mm) (h8 : M0 0 8 = nI g) (C0 : CG M0 g G) : ∀ j f Q T M, CP M 20 G Q → QW G Q T → T + j < 1000000 → was ≤ Q.passed → Q.passed + j = was + n → (j < f) →
    (∀ a, a < 20 ∨ 29 < a → M a = M0 a) → ∃ M', lp_X9_tenths_49 (nI n) k f (nI (Q.passed - was)) M = k (nI ((rn G (G 3 / G 4) j Q).passed - was)) M' ∧ CP M' 20 G (rn G (G 3 / G 4) j Q) ∧ (∀ a, a < 20 ∨ 29 < a → M' a = M0 a) := by
  have hlo := W.looks
  have hm : G 3 / G 4 < 100 := dle (by omega)
  intro j
  induction j with
  | zero =>
    intro f Q T M H hQ hT hwp hp hf hfr
    obtain ⟨f, rfl⟩ : ∃ g, f = g + 1 := ⟨f - 1, by omega⟩
    refine ⟨M, ?_, H, hfr⟩
    rw [lp_X9_tenths_49]
    simp (disch := omega) only [jns, bds, bvs, lts, gdt, nadd, nmul, nsub, nle, nlt, neq, nz0, nlt0, nle0, n0le, n0lt, nclamp, ndiv, nmod2, gdi, gdn, if_pos, if_neg, if_true, if_false]
    rfl
  | succ j ih =>
    intro f Q T M H hQ hT hwp hp hf hfr
    obtain ⟨f, rfl⟩ : ∃ g, f = g + 1 := ⟨f - 1, by omega⟩
    have C : CG M g G := C0.cong (fun a h => hfr a (by omega))
    have h8' : M 0 8 = nI g := by rw [hfr 0 (by omega)]; exact h8
    rw [lp_X9_tenths_49, c_isOver H, rn]
    rw [if_neg (by rw [nle (by omega) (by omega)]; omega)]
    simp only [bds]
    by_cases ht : Q.touch < 0
    · have ho := hQ.on W ht
      obtain ⟨M1, e1, H1, f1⟩ := c_goOn C W (show PC 20 from Or.inl rfl) hm H hQ ho.1 ho.2 (by omega)
      have hQ1 := nx_QW W (m := G 3 / G 4) hQ ho.1 ho.2
      have hp1 : (nx G (G 3 / G 4) Q).1.passed = Q.passed + 1 := nx_passed
      rw [if_pos ht, if_pos ht, if_pos (show nI 0 = 0 from rfl)]
      obtain ⟨M2, e2, H2, f2⟩ := ih f (nx G (G 3 / G 4) Q).1 (T + 1) M1 H1 hQ1 (by omega) (by rw [hp1]; omega) (by rw [hp1]; omega) (by omega) (fun a h => by rw [f1 a (by omega), hfr a h])
      refine ⟨M2, ?_, H2, f2⟩
      rw [hp1, show Q.passed + 1 - was = Q.passed - was + 1 from by omega] at e2
      rw [h8', bgv C.hg, bgv C.hg, c_eyes C W]
      simp only [bds]
      rw [e1]
      simp only [bds]
      rw [nadd]
      exact e2
    · rw [if_neg ht, if_neg ht, if_neg (show ¬ nI 1 = 0 by decide)]
      exact ⟨M, rfl, H, hfr⟩
