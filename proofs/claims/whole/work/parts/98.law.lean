/-! THE LAW'S LOOP. -/
theorem lg_self (a : Int64) : lg_cmp a a = 0 := by
  unfold lg_cmp
  simp
/-- a call that both answer alike -/
theorem sameI {A B : Mm → Option (Int32 × Mm)} {T T' : Nat} {M : Mm} (h : Same A B T T') (I : Inv M T) (hT : T' ≤ T + 400) {K : Mm → Option (Int32 × Mm)} (J : ∀ M2, Inv M2 (T + 400) → ∃ M', K M2 = some (nI 1, M')) : ∃ M', (bd (A M) fun v M1 => bd (B M1) fun v2 M2 => if v = v2 then K M2 else some (nI 0, M2)) = some (nI 1, M') := by
  obtain ⟨r, M1, M2, a1, a2, I2⟩ := h M I
  obtain ⟨M', e⟩ := J M2 (I2.up hT)
  refine ⟨M', ?_⟩
  rw [a1, bds, a2, bds, if_pos rfl, e]
theorem sameL {A B : Mm → Option (Int64 × Mm)} {T T' : Nat} {M : Mm} (h : Same A B T T') (I : Inv M T) (hT : T' ≤ T + 400) {K : Mm → Option (Int32 × Mm)} (J : ∀ M2, Inv M2 (T + 400) → ∃ M', K M2 = some (nI 1, M')) : ∃ M', (bd (A M) fun v M1 => bd (B M1) fun v2 M2 => if (lg_cmp v v2) = 0 then K M2 else some (nI 0, M2)) = some (nI 1, M') := by
  obtain ⟨r, M1, M2, a1, a2, I2⟩ := h M I
  obtain ⟨M', e⟩ := J M2 (I2.up hT)
  refine ⟨M', ?_⟩
  rw [a1, bds, a2, bds, if_pos (lg_self r), e]
theorem law_step {LN y f T : Nat} {XS : Nat → Int32} {M : Mm} (hy : y + 6 ≤ LN) (hL : LN ≤ 3072) (hT : T < 900000) (I : Inv M T) (J : ∀ M2, Inv M2 (T + 400) → ∃ M', lp_L_law_23 LN XS f (nI (y + 6)) M2 = some (nI 1, M')) : ∃ M', lp_L_law_23 LN XS (f + 1) (nI y) M = some (nI 1, M') := by
  have g0 : ∀ k : Option (Int32 × Mm), gd (inb (nI y) LN) k = k := fun k => gdi (by omega) (by omega) k
  have g1 : ∀ k : Option (Int32 × Mm), gd (inb (nI y + nI 1) LN) k = k := fun k => by rw [nadd]; exact gdi (by omega) (by omega) k
  have g2 : ∀ k : Option (Int32 × Mm), gd (inb (nI y + nI 2) LN) k = k := fun k => by rw [nadd]; exact gdi (by omega) (by omega) k
  have g3 : ∀ k : Option (Int32 × Mm), gd (inb (nI y + nI 3) LN) k = k := fun k => by rw [nadd]; exact gdi (by omega) (by omega) k
  have g4 : ∀ k : Option (Int32 × Mm), gd (inb (nI y + nI 4) LN) k = k := fun k => by rw [nadd]; exact gdi (by omega) (by omega) k
  have g5 : ∀ k : Option (Int32 × Mm), gd (inb (nI y + nI 5) LN) k = k := fun k => by rw [nadd]; exact gdi (by omega) (by omega) k
  rw [lp_L_law_23, if_neg (show ¬ (nI LN) - (nI 6) < nI y by rw [nsub (by omega), nlt (by omega) (by omega)]; omega)]
  simp only [g0, g1, g2, g3, g4, g5, jns, lts]
  rw [nadd y 6]
  generalize XS (nI y + nI 1).toNatClampNeg = x1
  generalize XS (nI y + nI 2).toNatClampNeg = x2
  generalize XS (nI y + nI 3).toNatClampNeg = x3
  generalize XS (nI y + nI 4).toNatClampNeg = x4
  generalize XS (nI y + nI 5).toNatClampNeg = x5
  generalize XS (nI y).toNatClampNeg &&& nI 63 = t
  clear g0 g1 g2 g3 g4 g5
  by_cases c0 : t = nI 0
  · rw [if_pos c0]
    exact sameI (op_feed x1 x2 x3 x4 x5 T) I (by omega) J
  rw [if_neg c0]
  by_cases c1 : t = nI 1
  · rw [if_pos c1]
    exact sameI (op_game x1 T) I (by omega) J
  rw [if_neg c1]
  by_cases c2 : t = nI 2
  · rw [if_pos c2]
    exact sameI (op_fault T) I (by omega) J
  rw [if_neg c2]
  by_cases c3 : t = nI 3
  · rw [if_pos c3]
    exact sameI (op_where T) I (by omega) J
  rw [if_neg c3]
  by_cases c4 : t = nI 4
  · rw [if_pos c4]
    exact sameI (op_start x1 T) I (by omega) J
  rw [if_neg c4]
  by_cases c5 : t = nI 5
  · rw [if_pos c5]
    exact sameI (op_tenths x1 T (by omega)) I (by omega) J
  rw [if_neg c5]
  by_cases c6 : t = nI 6
  · rw [if_pos c6]
    exact sameI (op_round T (by omega)) I (by omega) J
  rw [if_neg c6]
  by_cases c7 : t = nI 7
  · rw [if_pos c7]
    exact sameI (op_bring x1 x2 T) I (by omega) J
  rw [if_neg c7]
  by_cases c8 : t = nI 8
  · rw [if_pos c8]
    exact sameI (op_right x1 T) I (by omega) J
  rw [if_neg c8]
  by_cases c9 : t = nI 9
  · rw [if_pos c9]
    exact sameI (op_about x1 x2 T) I (by omega) J
  rw [if_neg c9]
  by_cases c10 : t = nI 10
  · rw [if_pos c10]
    exact sameI (op_play x1 T) I (by omega) J
  rw [if_neg c10]
  by_cases c11 : t = nI 11
  · rw [if_pos c11]
    exact sameI (op_often x1 T (by omega)) I (by omega) J
  rw [if_neg c11]
  by_cases c12 : t = nI 12
  · rw [if_pos c12]
    exact sameI (op_mark T) I (by omega) J
  rw [if_neg c12]
  by_cases c13 : t = nI 13
  · rw [if_pos c13]
    exact sameI (op_back x1 T) I (by omega) J
  rw [if_neg c13]
  by_cases c14 : t = nI 14
  · rw [if_pos c14]
    exact sameL (op_behind x1 T) I (by omega) J
  rw [if_neg c14]
  by_cases c15 : t = nI 15
  · rw [if_pos c15]
    exact sameL (op_ways T) I (by omega) J
  rw [if_neg c15]
  by_cases c16 : t = nI 16
  · rw [if_pos c16]
    exact sameL (op_risk x1 x2 x3 T) I (by omega) J
  rw [if_neg c16]
  by_cases c17 : t = nI 17
  · rw [if_pos c17]
    by_cases z4 : x4 = 0
    · simp only [if_pos z4]
      exact sameL (op_gain x1 x2 x3 false T) I (by omega) J
    · simp only [if_neg z4]
      exact sameL (op_gain x1 x2 x3 true T) I (by omega) J
  rw [if_neg c17]
  by_cases c18 : t = nI 18
  · rw [if_pos c18]
    by_cases z3 : x3 = 0
    · simp only [if_pos z3]
      exact sameI (op_best x1 x2 false T) I (by omega) J
    · simp only [if_neg z3]
      exact sameI (op_best x1 x2 true T) I (by omega) J
  rw [if_neg c18]
  by_cases c19 : t = nI 19
  · rw [if_pos c19]
    exact sameL (op_worth x1 x2 T) I (by omega) J
  rw [if_neg c19]
  by_cases c20 : t = nI 20
  · rw [if_pos c20]
    exact sameI (op_rests x1 x2 T) I (by omega) J
  rw [if_neg c20]
  by_cases c21 : t = nI 21
  · rw [if_pos c21]
    exact sameI (op_rest x1 x2 x3 T) I (by omega) J
  rw [if_neg c21]
  by_cases c22 : t = nI 22
  · rw [if_pos c22]
    exact sameI (op_watch T) I (by omega) J
  rw [if_neg c22]
  by_cases c23 : t = nI 23
  · rw [if_pos c23]
    exact sameL (op_both x1 T) I (by omega) J
  rw [if_neg c23]
  by_cases c24 : t = nI 24
  · rw [if_pos c24]
    exact sameI (op_wins x1 x2 x3 T) I (by omega) J
  rw [if_neg c24]
  by_cases c25 : t = nI 25
  · rw [if_pos c25]
    exact sameI (op_lasts x1 x2 T) I (by omega) J
  rw [if_neg c25]
  by_cases c26 : t = nI 26
  · rw [if_pos c26]
    exact sameI (op_sent x1 x2 T) I (by omega) J
  rw [if_neg c26]
  by_cases c27 : t = nI 27
  · rw [if_pos c27]
    exact sameI (op_looking x1 x2 T) I (by omega) J
  rw [if_neg c27]
  by_cases c28 : t = nI 28
  · rw [if_pos c28]
    by_cases z2 : x2 = 0
    · simp only [if_pos z2]
      by_cases z3 : x3 = 0
      · simp only [if_pos z3]
        exact sameI (op_film x1 false false T) I (by omega) J
      · simp only [if_neg z3]
        exact sameI (op_film x1 false true T) I (by omega) J
    · simp only [if_neg z2]
      by_cases z3 : x3 = 0
      · simp only [if_pos z3]
        exact sameI (op_film x1 true false T) I (by omega) J
      · simp only [if_neg z3]
        exact sameI (op_film x1 true true T) I (by omega) J
  rw [if_neg c28]
  by_cases c29 : t = nI 29
  · rw [if_pos c29]
    exact sameI (op_law x1 T) I (by omega) J
  rw [if_neg c29]
  by_cases c30 : t = nI 30
  · rw [if_pos c30]
    by_cases z2 : x2 = 0
    · simp only [if_pos z2]
      exact sameI (op_says x1 false T) I (by omega) J
    · simp only [if_neg z2]
      exact sameI (op_says x1 true T) I (by omega) J
  rw [if_neg c30]
  by_cases c31 : t = nI 31
  · rw [if_pos c31]
    exact sameI (op_off T) I (by omega) J
  rw [if_neg c31]
  by_cases c32 : t = nI 32
  · rw [if_pos c32]
    by_cases z2 : x2 = 0
    · simp only [if_pos z2]
      exact sameI (op_stop x1 false T) I (by omega) J
    · simp only [if_neg z2]
      exact sameI (op_stop x1 true T) I (by omega) J
  rw [if_neg c32]
  by_cases c33 : t = nI 33
  · rw [if_pos c33]
    by_cases z2 : x2 = 0
    · simp only [if_pos z2]
      exact sameI (op_span x1 false T) I (by omega) J
    · simp only [if_neg z2]
      exact sameI (op_span x1 true T) I (by omega) J
  rw [if_neg c33]
  by_cases c34 : t = nI 34
  · rw [if_pos c34]
    exact sameI (op_fits x1 T) I (by omega) J
  rw [if_neg c34]
  by_cases c35 : t = nI 35
  · rw [if_pos c35]
    exact sameI (op_home x1 x2 T) I (by omega) J
  rw [if_neg c35]
  by_cases c36 : t = nI 36
  · rw [if_pos c36]
    exact sameI (op_far x1 T) I (by omega) J
  rw [if_neg c36]
  by_cases c37 : t = nI 37
  · rw [if_pos c37]
    exact sameI (op_fair T) I (by omega) J
  rw [if_neg c37]
  by_cases c38 : t = nI 38
  · rw [if_pos c38]
    exact sameI (op_from x1 T) I (by omega) J
  rw [if_neg c38]
  by_cases c39 : t = nI 39
  · rw [if_pos c39]
    exact sameI (op_lay x1 T) I (by omega) J
  rw [if_neg c39]
  by_cases c40 : t = nI 40
  · rw [if_pos c40]
    exact sameI (op_heard x1 T) I (by omega) J
  rw [if_neg c40]
  by_cases c41 : t = nI 41
  · rw [if_pos c41]
    exact sameI (op_loud x1 x2 T) I (by omega) J
  rw [if_neg c41]
  by_cases c42 : t = nI 42
  · rw [if_pos c42]
    obtain ⟨k, M1, v, M2, a1, a2, a3, a4, I2⟩ := op_led x1 T M I
    obtain ⟨M', e⟩ := J M2 (I2.up (by omega))
    refine ⟨M', ?_⟩
    rw [a1, bds, a2, bds]
    unfold f_X10_thrown
    rw [bds, if_pos a3]
    by_cases z : k = 0
    · rw [if_pos z, gdi (by decide) (by decide), if_pos (by rw [show (nI 0).toNatClampNeg = 0 from rfl, a4 z]; exact lg_self _), e]
    · rw [if_neg z, e]
  rw [if_neg c42]
  by_cases c43 : t = nI 43
  · rw [if_pos c43]
    exact sameI (op_size x1 T) I (by omega) J
  rw [if_neg c43]
  by_cases c44 : t = nI 44
  · rw [if_pos c44]
    exact sameI (op_creeper x1 x2 T) I (by omega) J
  rw [if_neg c44]
  by_cases c45 : t = nI 45
  · rw [if_pos c45]
    exact sameI (op_trouble T) I (by omega) J
  rw [if_neg c45]
  exact J M (I.up (by omega))
/-- the loop's end -/
theorem law_end {LN y : Nat} (h : LN < y + 6) (hL : LN ≤ 3072) (hy : y ≤ 3072) : (nI LN) - (nI 6) < nI y := by
  by_cases c : 6 ≤ LN
  · rw [nsub c, nlt (by omega) (by omega)]; omega
  · have : LN = 0 ∨ LN = 1 ∨ LN = 2 ∨ LN = 3 ∨ LN = 4 ∨ LN = 5 := by omega
    have hl : nI LN - nI 6 < nI 0 := by
      rcases this with rfl | rfl | rfl | rfl | rfl | rfl
      · decide
      · decide
      · decide
      · decide
      · decide
      · decide
    have h0 : nI 0 ≤ nI y := by rw [nle (by omega) (by omega)]; omega
    exact Int32.lt_of_lt_of_le hl h0
theorem law_loop {LN : Nat} {XS : Nat → Int32} (hL : LN ≤ 3072) : ∀ d y f T M, LN ≤ y + 6 * d → y ≤ 3072 → d < f → T + 400 * d < 900000 → Inv M T → ∃ M', lp_L_law_23 LN XS f (nI y) M = some (nI 1, M') := by
  intro d
  induction d with
  | zero =>
    intro y f T M h1 h2 h3 h4 I
    obtain ⟨f, rfl⟩ : ∃ g, f = g + 1 := ⟨f - 1, by omega⟩
    exact ⟨M, by rw [lp_L_law_23, if_pos (law_end (by omega) hL h2)]⟩
  | succ d ih =>
    intro y f T M h1 h2 h3 h4 I
    obtain ⟨f, rfl⟩ : ∃ g, f = g + 1 := ⟨f - 1, by omega⟩
    by_cases c : y + 6 ≤ LN
    · exact law_step c hL (by omega) I (fun M2 I2 => ih (y + 6) f (T + 400) M2 (by omega) (by omega) (by omega) (by omega) I2)
    · exact ⟨M, by rw [lp_L_law_23, if_pos (law_end (by omega) hL h2)]⟩
theorem inv0 : Inv miE 0 := by
  have e74 : ∀ k : Fin 20, miE 74 k.1 = nI 0 := by decide +kernel
  have e5 : ∀ k : Fin 5, miE 75 k.1 = nI 0 ∧ miE 91 k.1 = nI 0 ∧ miE 76 k.1 = nI 0 ∧ miE 92 k.1 = nI 0 := by decide +kernel
  have eg : ∀ k : Fin 15, 6 ≤ k.1 → miE 1 k.1 = nI 0 := by decide +kernel
  refine ⟨1, 0, ⟨.inl rfl, by decide +kernel, by decide +kernel, ⟨by omega, by decide +kernel, by decide +kernel, fun k hk => absurd hk (Nat.not_lt_zero _)⟩, by decide +kernel, by decide +kernel, fun h => absurd h (by decide +kernel), by decide +kernel, ⟨0, fun _ => 0, fun _ => 0, fun _ => 0, fun _ => 0, fun _ => 0, ⟨by omega, by decide +kernel, by decide +kernel, fun k hk => absurd hk (Nat.not_lt_zero _), fun p hp s hs t ht => e74 ⟨4 * p + 2 * s + t, by omega⟩, fun c hc => ⟨Nat.zero_le _, Nat.le_refl _, (e5 ⟨c, hc⟩).1, (e5 ⟨c, hc⟩).2.1, (e5 ⟨c, hc⟩).2.2.1, (e5 ⟨c, hc⟩).2.2.2⟩⟩⟩⟩, .inl ⟨by decide +kernel, fun k h1 h2 => eg ⟨k, by omega⟩ h1, by decide +kernel, by decide +kernel, by decide +kernel, by decide +kernel⟩⟩
theorem law_true (L : Nat) (hL : L ≤ 3072) (xs : Nat → Int32) : ∃ M', lp_L_law_23 L xs 600 0 miE = some (1, M') :=
  law_loop hL 512 0 600 0 miE (by omega) (by omega) (by omega) (by omega) inv0
