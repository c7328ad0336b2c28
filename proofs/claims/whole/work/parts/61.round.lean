/-! A ROUND. -/
theorem nx_zero {G : Nat → Nat} {m : Nat} {Q : Pl} (ho : On G Q) (h : (nx G m Q).2 = 0) : En G (nx G m Q).1.part + (nx G m Q).1.tenth = En G Q.part + Q.tenth + 1 ∧ (nx G m Q).1.touch < 0 := by
  have hto := ho.1
  revert h
  unfold nx
  by_cases c0 : (crp G Q).touch < 0
  · rw [if_pos c0]
    by_cases c1 : Q.tenth + 1 < Tn G Q.part
    · rw [if_pos c1]
      exact fun _ => ⟨rfl, c0⟩
    · rw [if_neg c1]
      by_cases c2 : Q.part + 1 = G 92
      · rw [if_pos c2]
        exact fun z => absurd (show (1 : Nat) = 0 from z) (by decide)
      · rw [if_neg c2]
        by_cases c3 : Sd Q.seed % 100 < G (6 + Q.part) + (crp G Q).loud
        · rw [if_pos c3]
          exact fun z => absurd (show (1 : Nat) = 0 from z) (by decide)
        · rw [if_neg c3]
          refine fun _ => ⟨?_, c0⟩
          show En G (Q.part + 1) + 0 = _
          rw [En_succ]
          omega
  · rw [if_neg c0]
    exact fun z => absurd (show (2 : Nat) = 0 from z) (by decide)
/-- on until he looks or it is over, at most so many tenths -/
def rd (G : Nat → Nat) (m : Nat) : Nat → Pl → Pl × Nat
  | 0, Q => (Q, 0)
  | k + 1, Q => if (nx G m Q).2 = 0 then rd G m k (nx G m Q).1 else nx G m Q
/-- the tenths left of the verse -/
def Lf (G : Nat → Nat) (Q : Pl) : Nat := En G (G 92) - (En G Q.part + Q.tenth)
theorem Lf_pos {G : Nat → Nat} {Q : Pl} (hp : Q.part < G 92) (ho : On G Q) : 1 ≤ Lf G Q := by
  have h1 := ho.1
  have h2 : En G (Q.part + 1) ≤ En G (G 92) := En_mono (by omega)
  rw [En_succ] at h2
  unfold Lf
  omega
theorem r_roundLoop {G : Nat → Nat} (W : GW G) {m : Nat} (k : Int32 → Mm → Option (Int32 × Mm)) (M0 : Mm) : ∀ d f Q T M, RG M G → Ey M G m → RP M G Q → QW G Q T → T + d < 1000000 → Q.touch < 0 → Lf G Q ≤ d → d + 1 < f →
    (∀ a, a ≠ 86 → a ≠ 93 → M a = M0 a) → ∃ M', lp_X10_round_37 k f (nI 0) M = k (nI (if (rd G m d Q).2 = 1 then 1 else 0)) M' ∧ ((rd G m d Q).2 = 1 ∨ (rd G m d Q).2 = 2) ∧ RP M' G (rd G m d Q).1 ∧ QW G (rd G m d Q).1 (T + d) ∧ (∀ a, a ≠ 86 → a ≠ 93 → M' a = M0 a) := by
  intro d
  induction d with
  | zero =>
    intro f Q T M R he H hQ hT ht hd hf hfr
    have := Lf_pos hQ.part (hQ.on W ht).1
    omega
  | succ d ih =>
    intro f Q T M R he H hQ hT ht hd hf hfr
    obtain ⟨f, rfl⟩ : ∃ g, f = g + 1 := ⟨f - 1, by omega⟩
    have ho := hQ.on W ht
    have hlf := Lf_pos hQ.part ho.1
    obtain ⟨M1, e1, H1, f1⟩ := r_tenth R W he H hQ ho.1 ho.2 (by omega)
    have hQ1 := nx_QW W (m := m) hQ ho.1 ho.2
    have h2 := nx_two (G := G) (m := m) (Q := Q)
    have R1 : RG M1 G := fun k hk => by rw [f1 84 (by decide) (by decide)]; exact R k hk
    have he1 : Ey M1 G m := by unfold Ey; rw [f1 81 (by decide) (by decide)]; exact he
    have hov : M 86 8 = nI 0 := by rw [H.over, if_pos ht]
    have up : ∀ {X : Pl}, QW G X (T + 1) → QW G X (T + (d + 1)) := fun h => ⟨h.part, h.st, h.into, h.how, h.hw, h.there, h.seed, h.loud, h.cnt, h.lk, by have := h.ps; omega⟩
    rw [lp_X10_round_37, if_pos (show nI 0 = 0 from rfl), hov, if_pos (show nI 0 = 0 from rfl), e1]
    simp only [bds]
    rw [rd]
    by_cases c : (nx G m Q).2 = 0
    · have hz := nx_zero ho.1 c
      rw [if_pos c, if_neg (show ¬ (nx G m Q).2 = 1 by rw [c]; decide)]
      obtain ⟨M2, e2, z2, H2, hQ2, f2⟩ := ih f (nx G m Q).1 (T + 1) M1 R1 he1 H1 hQ1 (by omega) hz.2 (by unfold Lf at hd hlf ⊢; rw [hz.1]; omega) (by omega) (fun a h h' => by rw [f1 a h h', hfr a h h'])
      refine ⟨M2, e2, z2, H2, ?_, f2⟩
      rw [show T + (d + 1) = T + 1 + d from by omega]
      exact hQ2
    · rw [if_neg c]
      obtain ⟨f, rfl⟩ : ∃ g, f = g + 1 := ⟨f - 1, by omega⟩
      by_cases c1 : (nx G m Q).2 = 1
      · refine ⟨M1, ?_, Or.inl c1, H1, up hQ1, fun a h h' => by rw [f1 a h h', hfr a h h']⟩
        rw [if_pos c1, lp_X10_round_37, if_neg (show ¬ nI 1 = 0 by decide)]
      · have c2 : (nx G m Q).2 = 2 := by have := h2.2; omega
        refine ⟨M1, ?_, Or.inr c2, H1, up hQ1, fun a h h' => by rw [f1 a h h', hfr a h h']⟩
        rw [if_neg c1, lp_X10_round_37, if_pos (show nI 0 = 0 from rfl), H1.over, if_neg (h2.1.mp c2), if_neg (show ¬ nI 1 = 0 by decide)]
theorem c_roundLoop {G : Nat → Nat} (W : GW G) {g n : Nat} (k : Int32 → Mm → Option (Int32 × Mm)) (hn : n < 10000) (M0 : Mm) (h8 : M0 0 8 = nI g) (C0 : CG M0 g G) : ∀ d f Q T i M, CP M 20 G Q → QW G Q T → T + d < 1000000 → Q.touch < 0 → Lf G Q ≤ d → i + d ≤ n → d + 1 < f →
    (∀ a, a < 20 ∨ 29 < a → M a = M0 a) → ∃ M', lp_X9_round_42 (nI n) k f (nI 0) (nI i) M = k (nI (rd G (G 3 / G 4) d Q).2) M' ∧ CP M' 20 G (rd G (G 3 / G 4) d Q).1 ∧ (∀ a, a < 20 ∨ 29 < a → M' a = M0 a) := by
  have hlo := W.looks
  have hm : G 3 / G 4 < 100 := dle (by omega)
  intro d
  induction d with
  | zero =>
    intro f Q T i M H hQ hT ht hd hi hf hfr
    have := Lf_pos hQ.part (hQ.on W ht).1
    omega
  | succ d ih =>
    intro f Q T i M H hQ hT ht hd hi hf hfr
    obtain ⟨f, rfl⟩ : ∃ g, f = g + 1 := ⟨f - 1, by omega⟩
    have C : CG M g G := C0.cong (fun a h => hfr a (by omega))
    have h8' : M 0 8 = nI g := by rw [hfr 0 (by omega)]; exact h8
    have ho := hQ.on W ht
    have hlf := Lf_pos hQ.part ho.1
    obtain ⟨M1, e1, H1, f1⟩ := c_goOn C W (show PC 20 from Or.inl rfl) hm H hQ ho.1 ho.2 (by omega)
    have hQ1 := nx_QW W (m := G 3 / G 4) hQ ho.1 ho.2
    have h2 := nx_two (G := G) (m := G 3 / G 4) (Q := Q)
    rw [lp_X9_round_42, if_neg (by rw [nle (by omega) (by omega)]; omega), if_pos (show nI 0 = 0 from rfl), h8', bgv C.hg, bgv C.hg, c_eyes C W]
    simp only [bds]
    rw [e1]
    simp only [bds]
    rw [nadd, rd]
    by_cases c : (nx G (G 3 / G 4) Q).2 = 0
    · have hz := nx_zero ho.1 c
      rw [if_pos c, c]
      exact ih f (nx G (G 3 / G 4) Q).1 (T + 1) (i + 1) M1 H1 hQ1 (by omega) hz.2 (by unfold Lf at hd hlf ⊢; rw [hz.1]; omega) (by omega) (by omega) (fun a h => by rw [f1 a (by omega), hfr a h])
    · rw [if_neg c]
      obtain ⟨f, rfl⟩ : ∃ g, f = g + 1 := ⟨f - 1, by omega⟩
      refine ⟨M1, ?_, H1, fun a h => by rw [f1 a (by omega), hfr a h]⟩
      rw [lp_X9_round_42]
      by_cases c1 : nI n ≤ nI (i + 1)
      · rw [if_pos c1]
      · rw [if_neg c1, if_neg (by rw [nz0 (by have := h2.2; omega)]; exact c)]
