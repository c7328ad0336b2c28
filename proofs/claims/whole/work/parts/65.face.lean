/-! THE FACES' small tests. -/
theorem i32 (x : Int32) : x < 0 ∨ ∃ v, v < 2 ^ 31 ∧ x = nI v := by
  by_cases h : x < 0
  · exact .inl h
  · right
    have h0 : 0 ≤ x.toInt := by
      have h2 := Int32.le_iff_toInt_le.mp (Int32.not_lt.mp h)
      have h3 : (0 : Int32).toInt = 0 := by decide
      omega
    have h4 := Int32.toInt_lt x
    refine ⟨x.toInt.toNat, by omega, ?_⟩
    rw [← Int32.toInt_inj, ntoInt (by omega)]
    omega
/-- x is one of the numbers from a to b -/
def inr (x : Int32) (a b : Nat) : Prop := ∃ v, a ≤ v ∧ v ≤ b ∧ x = nI v
theorem inr_neg {x : Int32} {a b : Nat} (h : x < 0) (hb : b < 2 ^ 31) : ¬ inr x a b := by
  rintro ⟨v, h1, h2, rfl⟩
  rw [nlt0 (by omega)] at h
  exact h
theorem inr_nI {v a b : Nat} (hv : v < 2 ^ 31) (hb : b < 2 ^ 31) : inr (nI v) a b ↔ a ≤ v ∧ v ≤ b := by
  constructor
  · rintro ⟨w, h1, h2, h3⟩
    rw [neq hv (by omega)] at h3
    omega
  · exact fun h => ⟨v, h.1, h.2, rfl⟩
theorem r_withinI {M : Mm} (x : Int32) {a b : Nat} (ha : a < 2 ^ 31) (hb : b < 2 ^ 31) : (inr x a b ∧ f_X10_within x (nI a) (nI b) M = some (nI 1, M)) ∨ (¬ inr x a b ∧ f_X10_within x (nI a) (nI b) M = some (nI 0, M)) := by
  rcases i32 x with h | ⟨v, hv, rfl⟩
  · right
    refine ⟨inr_neg h hb, ?_⟩
    unfold f_X10_within
    simp only [jns]
    have h0 : (0 : Int32) ≤ nI a := nI_pos' ha
    rw [if_pos (Int32.lt_of_lt_of_le h h0)]
  · rw [r_withinN hv ha hb, inr_nI hv hb]
    by_cases c : a ≤ v ∧ v ≤ b
    · left; exact ⟨c, by rw [if_pos c]⟩
    · right; exact ⟨c, by rw [if_neg c]⟩
theorem r_isCreeper {M : Mm} {G : Nat → Nat} (R : RG M G) (W : GW G) (hg : M 81 14 = nI 1) (x : Int32) : ((∃ c, c < G 95 ∧ x = nI c) ∧ f_X10_isCreeper x M = some (nI 1, M)) ∨ (¬ (∃ c, c < G 95 ∧ x = nI c) ∧ f_X10_isCreeper x M = some (nI 0, M)) := by
  have h2 := W.creepers
  unfold f_X10_isCreeper
  simp only [jns]
  rw [hg, R 95 (by decide), nsub (by omega), if_neg (show ¬ nI 1 = 0 by decide)]
  rcases r_withinI (M := M) x (show 0 < 2 ^ 31 by decide) (show G 95 - 1 < 2 ^ 31 by omega) with ⟨⟨v, h1, h3, h4⟩, h5⟩ | ⟨h4, h5⟩
  · left
    refine ⟨⟨v, by omega, h4⟩, ?_⟩
    rw [h5]
    rfl
  · right
    refine ⟨fun ⟨c, h6, h7⟩ => h4 ⟨c, by omega, by omega, h7⟩, ?_⟩
    rw [h5]
    rfl
theorem c_isCreeper {M : Mm} {G : Nat → Nat} {g : Nat} (C : CG M g G) (W : GW G) (h8 : M 0 8 = nI g) (x : Int32) : ((∃ c, c < G 95 ∧ x = nI c) ∧ f_X9_isCreeper x M = some (nI 1, M)) ∨ (¬ (∃ c, c < G 95 ∧ x = nI c) ∧ f_X9_isCreeper x M = some (nI 0, M)) := by
  have h2 := W.creepers
  unfold f_X9_isCreeper
  simp only [jns]
  rw [h8, bgv C.hg, C.f14]
  rcases i32 x with h | ⟨v, hv, rfl⟩
  · right
    rw [if_pos h]
    refine ⟨fun ⟨c, h6, h7⟩ => ?_, rfl⟩
    rw [h7, nlt0 (by omega)] at h
    exact h
  · by_cases c : v < G 95
    · left
      refine ⟨⟨v, c, rfl⟩, ?_⟩
      simp (disch := omega) only [jns, bds, bvs, lts, gdt, nadd, nmul, nsub, nle, nlt, neq, nz0, nlt0, nle0, n0le, n0lt, nclamp, ndiv, nmod2, gdi, gdn, if_pos, if_neg, if_true, if_false]
    · right
      refine ⟨fun ⟨c', h6, h7⟩ => ?_, ?_⟩
      · rw [neq hv (by omega)] at h7
        omega
      · simp (disch := omega) only [jns, bds, bvs, lts, gdt, nadd, nmul, nsub, nle, nlt, neq, nz0, nlt0, nle0, n0le, n0lt, nclamp, ndiv, nmod2, gdi, gdn, if_pos, if_neg, if_true, if_false]
theorem c_hasGame {M : Mm} {G : Nat → Nat} {g : Nat} (C : CG M g G) (W : GW G) (h8 : M 0 8 = nI g) : f_X9_hasGame M = some (nI 1, M) := by
  have h2 := W.creepers
  unfold f_X9_hasGame
  rw [h8, bgv C.hg, C.f14]
  simp (disch := omega) only [jns, bds, bvs, lts, gdt, nadd, nmul, nsub, nle, nlt, neq, nz0, nlt0, nle0, n0le, n0lt, nclamp, ndiv, nmod2, gdi, gdn, if_pos, if_neg, if_true, if_false]
