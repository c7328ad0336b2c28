/-! THE FACES' small tests, on: places, tenths of the verse, the odds' reasons. -/
theorem c_isBelowWall {M : Mm} {G : Nat → Nat} {g : Nat} (C : CG M g G) (W : GW G) (h8 : M 0 8 = nI g) (x : Int32) : ((∃ c, c < G 0 ∧ x = nI c) ∧ f_X9_isBelowWall x M = some (nI 1, M)) ∨ (¬ (∃ c, c < G 0 ∧ x = nI c) ∧ f_X9_isBelowWall x M = some (nI 0, M)) := by
  have h2 := W.long
  unfold f_X9_isBelowWall
  simp only [jns]
  rw [h8, bgv C.hg, C.f6]
  rcases i32 x with h | ⟨v, hv, rfl⟩
  · right
    rw [if_pos h]
    refine ⟨fun ⟨c, h6, h7⟩ => ?_, rfl⟩
    rw [h7, nlt0 (by omega)] at h
    exact h
  · by_cases c : v < G 0
    · left
      refine ⟨⟨v, c, rfl⟩, ?_⟩
      simp (disch := omega) only [jns, bds, bvs, lts, gdt, nadd, nmul, nsub, nle, nlt, neq, nz0, nlt0, nle0, n0le, n0lt, nclamp, ndiv, nmod2, gdi, gdn, if_pos, if_neg, if_true, if_false]
    · right
      refine ⟨fun ⟨c', h6, h7⟩ => ?_, ?_⟩
      · rw [neq hv (by omega)] at h7
        omega
      · simp (disch := omega) only [jns, bds, bvs, lts, gdt, nadd, nmul, nsub, nle, nlt, neq, nz0, nlt0, nle0, n0le, n0lt, nclamp, ndiv, nmod2, gdi, gdn, if_pos, if_neg, if_true, if_false]
theorem c_isOfVerse {M : Mm} {G : Nat → Nat} {g : Nat} (C : CG M g G) (W : GW G) (h8 : M 0 8 = nI g) (x : Int32) : ((∃ c, c ≤ En G (G 92) ∧ x = nI c) ∧ f_X9_isOfVerse x M = some (nI 1, M)) ∨ (¬ (∃ c, c ≤ En G (G 92) ∧ x = nI c) ∧ f_X9_isOfVerse x M = some (nI 0, M)) := by
  have h2 := W.parts
  have h3 := En_le W (Nat.le_refl _)
  unfold f_X9_isOfVerse
  simp only [jns]
  rw [h8, bgv C.hg, c_verse C W]
  simp only [bds]
  rcases i32 x with h | ⟨v, hv, rfl⟩
  · right
    rw [if_pos h]
    refine ⟨fun ⟨c, h6, h7⟩ => ?_, rfl⟩
    rw [h7, nlt0 (by omega)] at h
    exact h
  · by_cases c : v ≤ En G (G 92)
    · left
      refine ⟨⟨v, c, rfl⟩, ?_⟩
      simp (disch := omega) only [jns, bds, bvs, lts, gdt, nadd, nmul, nsub, nle, nlt, neq, nz0, nlt0, nle0, n0le, n0lt, nclamp, ndiv, nmod2, gdi, gdn, if_pos, if_neg, if_true, if_false]
    · right
      refine ⟨fun ⟨c', h6, h7⟩ => ?_, ?_⟩
      · rw [neq hv (by omega)] at h7
        omega
      · simp (disch := omega) only [jns, bds, bvs, lts, gdt, nadd, nmul, nsub, nle, nlt, neq, nz0, nlt0, nle0, n0le, n0lt, nclamp, ndiv, nmod2, gdi, gdn, if_pos, if_neg, if_true, if_false]
theorem r_oddsWhy {M : Mm} {G : Nat → Nat} (R : RG M G) (W : GW G) (hg : M 81 14 = nI 1) (x y z : Int32) :
    (¬ (∃ c, c < G 95 ∧ x = nI c) ∧ f_X10_oddsWhy x y z M = some (nI 1, M)) ∨
    ((∃ c, c < G 95 ∧ x = nI c) ∧ (∃ a, a < G 0 ∧ y = nI a) ∧ (∃ e, e ≤ En G (G 92) ∧ z = nI e) ∧ f_X10_oddsWhy x y z M = some (nI 0, M)) ∨
    ((∃ c, c < G 95 ∧ x = nI c) ∧ ¬ ((∃ a, a < G 0 ∧ y = nI a) ∧ (∃ e, e ≤ En G (G 92) ∧ z = nI e)) ∧ f_X10_oddsWhy x y z M = some (nI 2, M)) := by
  have h2 := W.parts
  have h3 := En_le W (Nat.le_refl _)
  have hl := W.long
  unfold f_X10_oddsWhy
  rcases r_isCreeper R W hg x with ⟨h1, e1⟩ | ⟨h1, e1⟩
  · right
    rw [e1]
    simp only [bds, jns]
    rw [if_neg (show ¬ nI 1 = 0 by decide), R 0 (by decide), nsub (by omega)]
    rcases r_withinI (M := M) y (show 0 < 2 ^ 31 by decide) (show G 0 - 1 < 2 ^ 31 by omega) with ⟨⟨a, a1, a2, a3⟩, e2⟩ | ⟨a3, e2⟩
    · rw [e2]
      simp only [bds]
      rw [if_neg (show ¬ nI 1 = 0 by decide), r_whole R W]
      simp only [bds]
      rcases r_withinI (M := M) z (show 0 < 2 ^ 31 by decide) (show En G (G 92) < 2 ^ 31 by omega) with ⟨⟨e, b1, b2, b3⟩, e3⟩ | ⟨b3, e3⟩
      · left
        refine ⟨h1, ⟨a, by omega, a3⟩, ⟨e, b2, b3⟩, ?_⟩
        rw [e3]
        rfl
      · right
        refine ⟨h1, fun ⟨_, ⟨e, z1, z2⟩⟩ => b3 ⟨e, by omega, z1, z2⟩, ?_⟩
        rw [e3]
        rfl
    · right
      refine ⟨h1, fun ⟨⟨a, z1, z2⟩, _⟩ => a3 ⟨a, by omega, by omega, z2⟩, ?_⟩
      rw [e2]
      rfl
  · left
    refine ⟨h1, ?_⟩
    rw [e1]
    rfl
