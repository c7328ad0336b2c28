/-! A TENTH keeps a play well. -/
theorem crp_loud {G : Nat → Nat} (W : GW G) {Q : Pl} {T : Nat} (h : QW G Q T) : (crp G Q).loud ≤ 500 * (En G Q.part + (Q.tenth + 1)) := by
  have h1 := Sl_le W Q.part Q.tenth Q.into Q.at_
  have h2 := h.loud
  show Q.loud + Sm (Lo1 G Q.part Q.tenth Q.into Q.at_) (G 95) ≤ _
  omega
theorem crp_at {G : Nat → Nat} {Q : Pl} (ho : On G Q) {c : Nat} (hc : c < G 95) : (crp G Q).at_ c ≤ G 0 := by
  have h1 := At1_le (G := G) (part := Q.part) (tenth := Q.tenth) (into := Q.into) (at_ := Q.at_) (c := c)
  have h2 := ho.2 c hc
  show At1 G Q.part Q.tenth Q.into Q.at_ c ≤ _
  omega
theorem InA_lt {wn : Nat → Bool} {into : Nat → Nat} {c n : Nat} (h : into c < n) : InA wn into c < n := by
  unfold InA
  split <;> omega
theorem lk_QW {G : Nat → Nat} (W : GW G) {m T : Nat} {wn : Nat → Bool} {Q : Pl} (hi : ∀ c, c < G 95 → Q.into c < G (61 + c)) (ha : ∀ c, c < G 95 → Q.at_ c < G 0) (hs : Q.seed < 65537) (ht : Q.touch = -2) (hc : ∀ c, c < G 95 → Q.seen c + Q.wrong c ≤ Q.looked) (hl : Q.looked + 1 ≤ Q.passed) (hp : Q.passed ≤ T) : QW G (lk G m wn Q) T := by
  have hpar := W.parts
  have hl0 := W.long
  refine ⟨by show 0 < G 92; omega, .inl ⟨ht, Tn_pos W (show 0 < G 92 by omega), fun c h => ?_⟩, fun c h => InA_lt (hi c h), fun c h => .inr (HwB_n c _), fun c h h5 => ?_, fun c h => ha c h, SdB_lt (SdA_lt hs _) _, Nat.zero_le _, fun c h => ?_, ?_, hp⟩
  · show At3 (lkH G m wn Q) Q.at_ c < G 0
    have := ha c h
    unfold At3
    split <;> omega
  · show 1 ≤ Wr3 (lkH G m wn Q) Q.wrong c
    have h5 : lkH G m wn Q c = nI 5 := h5
    unfold Wr3
    rw [if_pos h5]
    omega
  · show Sn3 (lkH G m wn Q) Q.seen c + Wr3 (lkH G m wn Q) Q.wrong c ≤ Q.looked + 1
    have := hc c h
    unfold Sn3 Wr3
    by_cases h4 : lkH G m wn Q c = nI 4
    · rw [if_pos h4, if_neg (by rw [h4]; decide)]
      omega
    · rw [if_neg h4]
      split <;> omega
  · show Q.looked + 1 ≤ Q.passed
    exact hl
theorem nx_QW {G : Nat → Nat} (W : GW G) {m T : Nat} {Q : Pl} (h : QW G Q T) (ho : On G Q) (ht : Q.touch = -2) : QW G (nx G m Q).1 (T + 1) := by
  have hpar := W.parts
  have hpp := h.part
  have hto := ho.1
  have hlk := h.lk
  have hps := h.ps
  have hlo := crp_loud W h
  have hi : ∀ c, c < G 95 → (crp G Q).into c < G (61 + c) := fun c hc => In1_lt (h.into c hc)
  unfold nx
  rcases Tw_or (G := G) (at_ := At1 G Q.part Q.tenth Q.into Q.at_) (n := G 95) with ⟨h1, h4⟩ | ⟨i, h1, h5, h3, h4⟩
  · have ht5 : (crp G Q).touch = -2 := h4 (-2)
    have htl : (crp G Q).touch < 0 := by rw [ht5]; decide
    have ha : ∀ c, c < G 95 → (crp G Q).at_ c < G 0 := fun c hc => Nat.lt_of_le_of_ne (crp_at ho hc) (h1 c hc)
    rw [if_pos htl]
    by_cases c1 : Q.tenth + 1 < Tn G Q.part
    · rw [if_pos c1]
      exact ⟨hpp, .inl ⟨ht5, c1, ha⟩, hi, h.how, h.hw, h.there, h.seed, hlo, h.cnt, by show Q.looked ≤ Q.passed + 1; omega, by show Q.passed + 1 ≤ T + 1; omega⟩
    · rw [if_neg c1]
      by_cases c2 : Q.part + 1 = G 92
      · rw [if_pos c2]
        exact lk_QW W hi ha h.seed ht5 h.cnt (by show Q.looked + 1 ≤ Q.passed + 1; omega) (by show Q.passed + 1 ≤ T + 1; omega)
      · rw [if_neg c2]
        by_cases c3 : Sd Q.seed % 100 < G (6 + Q.part) + (crp G Q).loud
        · rw [if_pos c3]
          exact lk_QW W (Q := (mkPl (crp G Q).part (crp G Q).tenth (crp G Q).loud (crp G Q).looked (crp G Q).passed (Sd Q.seed) (crp G Q).touch (crp G Q).at_ (crp G Q).into (crp G Q).how (crp G Q).seen (crp G Q).wrong (crp G Q).there)) hi ha (Sd_lt _) ht5 h.cnt (by show Q.looked + 1 ≤ Q.passed + 1; omega) (by show Q.passed + 1 ≤ T + 1; omega)
        · rw [if_neg c3]
          refine ⟨by show Q.part + 1 < G 92; omega, .inl ⟨ht5, Tn_pos W (by show Q.part + 1 < G 92; omega), ha⟩, hi, h.how, h.hw, h.there, Sd_lt _, ?_, h.cnt, by show Q.looked ≤ Q.passed + 1; omega, by show Q.passed + 1 ≤ T + 1; omega⟩
          show (crp G Q).loud ≤ 500 * (En G (Q.part + 1) + 0)
          rw [En_succ]
          omega
  · have ht5 : (crp G Q).touch = nI i := h4 (-2)
    have htl : ¬ (crp G Q).touch < 0 := by rw [ht5, nlt0 (by have := W.creepers; omega)]; exact id
    rw [if_neg htl]
    exact ⟨hpp, .inr ⟨i, h1, ht5, by show 1 ≤ Q.tenth + 1; omega, by show Q.tenth + 1 ≤ Tn G Q.part; omega, fun c hc => crp_at ho hc⟩, hi, h.how, h.hw, h.there, h.seed, hlo, h.cnt, by show Q.looked ≤ Q.passed + 1; omega, by show Q.passed + 1 ≤ T + 1; omega⟩
/-- what a tenth answers of a play -/
theorem nx_two {G : Nat → Nat} {m : Nat} {Q : Pl} : ((nx G m Q).2 = 2 ↔ ¬ (nx G m Q).1.touch < 0) ∧ (nx G m Q).2 ≤ 2 := by
  unfold nx
  split
  · rename_i h
    split
    · exact ⟨⟨fun z => absurd (show (0 : Nat) = 2 from z) (by decide), fun z => absurd h z⟩, (by decide : (0 : Nat) ≤ 2)⟩
    · split
      · exact ⟨⟨fun z => absurd (show (1 : Nat) = 2 from z) (by decide), fun z => absurd h z⟩, (by decide : (1 : Nat) ≤ 2)⟩
      · split
        · exact ⟨⟨fun z => absurd (show (1 : Nat) = 2 from z) (by decide), fun z => absurd h z⟩, (by decide : (1 : Nat) ≤ 2)⟩
        · exact ⟨⟨fun z => absurd (show (0 : Nat) = 2 from z) (by decide), fun z => absurd h z⟩, (by decide : (0 : Nat) ≤ 2)⟩
  · rename_i h
    exact ⟨⟨fun _ => h, fun _ => rfl⟩, Nat.le_refl _⟩
theorem nx_passed {G : Nat → Nat} {m : Nat} {Q : Pl} : (nx G m Q).1.passed = Q.passed + 1 := by
  unfold nx
  split
  · split
    · rfl
    · split
      · rfl
      · split <;> rfl
  · rfl
