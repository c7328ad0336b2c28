/-! A GAME is opened, and taken over. -/
section
variable {M : Mm} {g n : Nat} {b : Nat → Nat} {G : Nat → Nat}
theorem zfo {M : Mm} {q n a : Nat} {v : Int32} (h : a ≠ q) : fillM M q n v a = M a := if_neg h
theorem zfi {M : Mm} {q n k : Nat} {v : Int32} (h : k < n) : fillM M q n v q k = v := by
  unfold fillM
  rw [if_pos rfl, if_pos h]
theorem c_clear (hg : g = 1 ∨ g = 8) : ∃ M', f_X0_clear g M = some M' ∧ (∀ a, a < g ∨ g + 6 < a → M' a = M a) ∧ (∀ k, 6 ≤ k → k ≤ 14 → M' g k = nI 0) ∧ (∀ k, k < 5 → M' (g + 2) k = nI 0) ∧ (∀ k, k < 5 → M' (g + 4) k = nI 0) := by
  have l1 : LY (g + 1) = .inr (0, 5) := by rcases hg with rfl | rfl <;> rfl
  have l2 : LY (g + 2) = .inr (0, 5) := by rcases hg with rfl | rfl <;> rfl
  have l3 : LY (g + 3) = .inr (0, 20) := by rcases hg with rfl | rfl <;> rfl
  have l4 : LY (g + 4) = .inr (0, 5) := by rcases hg with rfl | rfl <;> rfl
  have l5 : LY (g + 5) = .inr (0, 20) := by rcases hg with rfl | rfl <;> rfl
  have l6 : LY (g + 6) = .inr (0, 35) := by rcases hg with rfl | rfl <;> rfl
  obtain ⟨M6, h6⟩ : ∃ M6, M6 = fillM (fillM (fillM (fillM (fillM (fillM M (g + 1) 5 (nI 0)) (g + 2) 5 (nI 0)) (g + 3) 20 (nI 0)) (g + 4) 5 (nI 0)) (g + 5) 20 (nI 0)) (g + 6) 35 (nI 0) := ⟨_, rfl⟩
  refine ⟨mset (mset (mset (mset (mset (mset (mset (mset (mset M6 g 6 (nI 0)) g 7 (nI 0)) g 8 (nI 0)) g 9 (nI 0)) g 10 (nI 0)) g 11 (nI 0)) g 12 (nI 0)) g 13 (nI 0)) g 14 (nI 0), ?_, fun a ha => ?_, fun k h1 h2 => ?_, fun k hk => ?_, fun k hk => ?_⟩
  · unfold f_X0_clear
    rw [f_fill l1 (by decide), bvs, f_fill l2 (by decide), bvs, f_fill l3 (by decide), bvs, f_fill l4 (by decide), bvs, f_fill l5 (by decide), bvs, f_fill l6 (by decide), bvs, ← h6]
  · rw [mset_off _ _ _ (by omega), mset_off _ _ _ (by omega), mset_off _ _ _ (by omega), mset_off _ _ _ (by omega), mset_off _ _ _ (by omega), mset_off _ _ _ (by omega), mset_off _ _ _ (by omega), mset_off _ _ _ (by omega), mset_off _ _ _ (by omega), h6, zfo (by omega), zfo (by omega), zfo (by omega), zfo (by omega), zfo (by omega), zfo (by omega)]
  · have : k = 6 ∨ k = 7 ∨ k = 8 ∨ k = 9 ∨ k = 10 ∨ k = 11 ∨ k = 12 ∨ k = 13 ∨ k = 14 := by omega
    rcases this with rfl | rfl | rfl | rfl | rfl | rfl | rfl | rfl | rfl
    · rw [ms3 _ _ (by decide), ms3 _ _ (by decide), ms3 _ _ (by decide), ms3 _ _ (by decide), ms3 _ _ (by decide), ms3 _ _ (by decide), ms3 _ _ (by decide), ms3 _ _ (by decide), ms1]
    · rw [ms3 _ _ (by decide), ms3 _ _ (by decide), ms3 _ _ (by decide), ms3 _ _ (by decide), ms3 _ _ (by decide), ms3 _ _ (by decide), ms3 _ _ (by decide), ms1]
    · rw [ms3 _ _ (by decide), ms3 _ _ (by decide), ms3 _ _ (by decide), ms3 _ _ (by decide), ms3 _ _ (by decide), ms3 _ _ (by decide), ms1]
    · rw [ms3 _ _ (by decide), ms3 _ _ (by decide), ms3 _ _ (by decide), ms3 _ _ (by decide), ms3 _ _ (by decide), ms1]
    · rw [ms3 _ _ (by decide), ms3 _ _ (by decide), ms3 _ _ (by decide), ms3 _ _ (by decide), ms1]
    · rw [ms3 _ _ (by decide), ms3 _ _ (by decide), ms3 _ _ (by decide), ms1]
    · rw [ms3 _ _ (by decide), ms3 _ _ (by decide), ms1]
    · rw [ms3 _ _ (by decide), ms1]
    · rw [ms1]
  · rw [mset_off _ _ _ (by omega), mset_off _ _ _ (by omega), mset_off _ _ _ (by omega), mset_off _ _ _ (by omega), mset_off _ _ _ (by omega), mset_off _ _ _ (by omega), mset_off _ _ _ (by omega), mset_off _ _ _ (by omega), mset_off _ _ _ (by omega), h6, zfo (by omega), zfo (by omega), zfo (by omega), zfo (by omega), zfi hk]
  · rw [mset_off _ _ _ (by omega), mset_off _ _ _ (by omega), mset_off _ _ _ (by omega), mset_off _ _ _ (by omega), mset_off _ _ _ (by omega), mset_off _ _ _ (by omega), mset_off _ _ _ (by omega), mset_off _ _ _ (by omega), mset_off _ _ _ (by omega), h6, zfo (by omega), zfo (by omega), zfi hk]
/-- the class opens the tape -/
theorem c_open {α : Type} (hg : g = 1 ∨ g = 8) (h9 : n ≤ 900) (hb : ∀ k, k < n → b k < 256 ∧ M 16 k &&& nI 255 = nI (b k)) : ∃ M', (∀ K : Mm → Option α, (bv (f_X0_clear g (mset M 17 3 (nI g))) fun M9_2 => bv (f_X8_open (nI n) (mset (mset M9_2 17 4 (nI 0)) 17 5 (nI 0))) fun M27_4 => K M27_4) = K M') ∧ TBc M' n b ∧ M' 15 4 = nI (tS b n 0) ∧ M' 15 5 = nI (tW b n 0) ∧ M' 15 3 = nI (tK b n 0) ∧ (tK b n 0 = 2 → M' 15 6 = nI (vN b (tS b n 0) (tW b n 0))) ∧ M' 15 1 = M 15 1 ∧ M' 17 3 = nI g ∧ M' 17 4 = nI 0 ∧ (∀ a, a ≠ 15 → a ≠ 17 → (a < g ∨ g + 6 < a) → M' a = M a) ∧ (∀ k, 6 ≤ k → k ≤ 14 → M' g k = nI 0) ∧ (∀ k, k < 5 → M' (g + 2) k = nI 0) ∧ (∀ k, k < 5 → M' (g + 4) k = nI 0) := by
  obtain ⟨M1, e1, f1, z1, z2, z3⟩ := c_clear (M := mset M 17 3 (nI g)) hg
  obtain ⟨M2, h2⟩ : ∃ M2, M2 = mset (mset M1 17 4 (nI 0)) 17 5 (nI 0) := ⟨_, rfl⟩
  obtain ⟨M3, h3⟩ : ∃ M3, M3 = mset (mset (mset M2 15 2 (nI n)) 15 4 (nI 0)) 15 5 (nI 0) := ⟨_, rfl⟩
  have e16 : M3 16 = M 16 := by rw [h3, mset_off _ _ _ (by decide), mset_off _ _ _ (by decide), mset_off _ _ _ (by decide), h2, mset_off _ _ _ (by decide), mset_off _ _ _ (by decide), f1 16 (by omega), mset_off _ _ _ (by decide)]
  have B : TBc M3 n b := ⟨h9, by rw [h3, ms3 _ _ (by decide), ms3 _ _ (by decide), ms1], fun k hk => by rw [e16]; exact hb k hk⟩
  obtain ⟨M', a1, A⟩ := c_advance B (s0 := 0) (w0 := 0) (by rw [h3, ms3 _ _ (by decide), ms1]) (by rw [h3, ms1]) (by omega)
  have o : ∀ a, a ≠ 15 → M' a = M2 a := fun a ha => by rw [A.fr a ha, h3, mset_off _ _ _ ha, mset_off _ _ _ ha, mset_off _ _ _ ha]
  have o2 : ∀ a, a ≠ 15 → a ≠ 17 → M' a = M1 a := fun a ha hb => by rw [o a ha, h2, mset_off _ _ _ hb, mset_off _ _ _ hb]
  refine ⟨M', fun K => ?_, B.cong A.f2 (A.fr 16 (by decide)), A.s, A.w, A.k, A.v, ?_, ?_, ?_, fun a h4 h5 h6 => ?_, fun k h4 h5 => ?_, fun k hk => ?_, fun k hk => ?_⟩
  · unfold f_X8_open
    rw [e1, bvs, ← h2, ← h3, a1, bvs, bvs]
  · rw [A.f1, h3, ms3 _ _ (by decide), ms3 _ _ (by decide), ms3 _ _ (by decide), h2, mset_off _ _ _ (by decide), mset_off _ _ _ (by decide), f1 15 (by omega), mset_off _ _ _ (by decide)]
  · rw [o 17 (by decide), h2, ms3 _ _ (by decide), ms3 _ _ (by decide), f1 17 (by omega), ms1]
  · rw [o 17 (by decide), h2, ms3 _ _ (by decide), ms1]
  · rw [o2 a h4 h5, f1 a h6, mset_off _ _ _ h5]
  · rw [o2 g (by omega) (by omega)]; exact z1 k h4 h5
  · rw [o2 _ (by omega) (by omega)]; exact z2 k hk
  · rw [o2 _ (by omega) (by omega)]; exact z3 k hk
/-- the reference opens it -/
theorem r_open {y1 : Int32} (h9 : n ≤ 900) (hb : ∀ k, k < n → b k < 256 ∧ M 82 k = nI (b k)) (K : Mm → Option (Int32 × Mm)) : ∃ M', lp_X10_game_39 y1 (fun  (M6 : Mm) => bv (f_X10_next  (mset (mset M6 81 3 (nI n)) 81 5 (nI 0))) fun M70_7 => K M70_7) N0 (nI 0) (mset (mset (mset M 81 2 (nI 0)) 81 9 (nI 0)) 81 13 (nI 0)) = K M' ∧ TBr M' n b ∧ M' 81 4 = nI (tS b n 0) ∧ M' 81 5 = nI (tS b n 0 + tW b n 0) ∧ M' 81 6 = nI (rk (tK b n 0)) ∧ (tK b n 0 = 1 → M' 81 8 = nI (tW b n 0) ∧ ∀ j, j < tW b n 0 → M' 83 j = nI (b (tS b n 0 + j))) ∧ (tK b n 0 = 2 → M' 81 7 = nI (vN b (tS b n 0) (tW b n 0))) ∧ M' 81 2 = nI 0 ∧ M' 81 9 = nI 0 ∧ M' 81 13 = nI 0 ∧ (∀ a, a ≠ 81 → a ≠ 83 → a ≠ 85 → M' a = M a) ∧ (∀ k, k < 2 ∨ (10 < k ∧ k ≠ 13) → M' 81 k = M 81 k) ∧ (∀ k, k < 141 → M' 85 k = nI 0) := by
  obtain ⟨M1, e1, f1, z1⟩ : ∃ M', lp_X10_game_39 y1 (fun  (M6 : Mm) => bv (f_X10_next  (mset (mset M6 81 3 (nI n)) 81 5 (nI 0))) fun M70_7 => K M70_7) N0 (nI 0) (mset (mset (mset M 81 2 (nI 0)) 81 9 (nI 0)) 81 13 (nI 0)) = (fun  (M6 : Mm) => bv (f_X10_next  (mset (mset M6 81 3 (nI n)) 81 5 (nI 0))) fun M70_7 => K M70_7) M' ∧ (∀ a, a ≠ 85 → M' a = mset (mset (mset M 81 2 (nI 0)) 81 9 (nI 0)) 81 13 (nI 0) a) ∧ ∀ k, k < 141 → M' 85 k = nI 0 := by
    refine lpM (fun f i M => lp_X10_game_39 y1 (fun  (M6 : Mm) => bv (f_X10_next  (mset (mset M6 81 3 (nI n)) 81 5 (nI 0))) fun M70_7 => K M70_7) f (nI i) M) 141 (fun i M' => (∀ a, a ≠ 85 → M' a = mset (mset (mset M 81 2 (nI 0)) 81 9 (nI 0)) 81 13 (nI 0) a) ∧ ∀ k, k < i → M' 85 k = nI 0) _ (by decide) (fun f i M hi T => ?_) (fun f M T => ?_) _ ⟨fun _ _ => rfl, fun k hk => by omega⟩
    · refine ⟨mset M 85 i (nI 0), ?_, fun a h => by rw [mset_off _ _ _ h]; exact T.1 a h, fun k hk => ?_⟩
      · rw [lp_X10_game_39, if_neg (by rw [nle (by omega) (by omega)]; omega), gdi (by omega) hi, nclamp (by omega), nadd i 1]
      · by_cases c : k = i
        · subst c; rw [ms1]
        · rw [ms3 _ _ c]; exact T.2 k (by omega)
    · rw [lp_X10_game_39, if_pos (Int32.le_refl _)]
  obtain ⟨M2, h2⟩ : ∃ M2, M2 = mset (mset M1 81 3 (nI n)) 81 5 (nI 0) := ⟨_, rfl⟩
  have e82 : M2 82 = M 82 := by rw [h2, mset_off _ _ _ (by decide), mset_off _ _ _ (by decide), f1 82 (by decide), mset_off _ _ _ (by decide), mset_off _ _ _ (by decide), mset_off _ _ _ (by decide)]
  have B : TBr M2 n b := ⟨h9, by rw [h2, ms3 _ _ (by decide), ms1], fun k hk => by rw [e82]; exact hb k hk⟩
  obtain ⟨M', a1, A⟩ := r_next B (p := 0) (by rw [h2, ms1]) (by omega)
  have r81 : ∀ k, k ≠ 3 → k ≠ 5 → M2 81 k = mset (mset (mset M 81 2 (nI 0)) 81 9 (nI 0)) 81 13 (nI 0) 81 k := fun k h3 h5 => by rw [h2, ms3 _ _ h5, ms3 _ _ h3, f1 81 (by decide)]
  refine ⟨M', ?_, B.cong (A.r 3 (by omega)) (A.fr 82 (by decide) (by decide)), A.s, A.e, A.t, A.l, A.v, ?_, ?_, ?_, fun a h3 h4 h5 => ?_, fun k hk => ?_, fun k hk => ?_⟩
  · rw [e1]
    dsimp only
    rw [← h2, a1, bvs]
  · rw [A.r 2 (by omega), r81 2 (by decide) (by decide), ms3 _ _ (by decide), ms3 _ _ (by decide), ms1]
  · rw [A.r 9 (by omega), r81 9 (by decide) (by decide), ms3 _ _ (by decide), ms1]
  · rw [A.r 13 (by omega), r81 13 (by decide) (by decide), ms1]
  · rw [A.fr a h3 h4, h2, mset_off _ _ _ h3, mset_off _ _ _ h3, f1 a h5, mset_off _ _ _ h3, mset_off _ _ _ h3, mset_off _ _ _ h3]
  · rw [A.r k (by omega), r81 k (by omega) (by omega), ms3 _ _ (by omega), ms3 _ _ (by omega), ms3 _ _ (by omega)]
  · rw [A.fr 85 (by decide) (by decide), h2, mset_off _ _ _ (by decide), mset_off _ _ _ (by decide)]; exact z1 k hk
/-- the told game is laid down -/
theorem rg_keep (k224 : Mm → Option (Int32 × Mm)) : ∃ M', lp_X10_game_199 k224 N0 (nI 0) M = k224 M' ∧ (∀ a, a ≠ 84 → M' a = M a) ∧ ∀ k, k < 141 → M' 84 k = M 85 k := by
  refine lpM (fun f i M => lp_X10_game_199 k224 f (nI i) M) 141 (fun i M' => (∀ a, a ≠ 84 → M' a = M a) ∧ ∀ k, k < i → M' 84 k = M 85 k) _ (by decide) (fun f i M1 hi T => ?_) (fun f M1 T => ?_) _ ⟨fun _ _ => rfl, fun k hk => by omega⟩
  · refine ⟨mset M1 84 i (M1 85 i), ?_, fun a h => by rw [mset_off _ _ _ h]; exact T.1 a h, fun k hk => ?_⟩
    · rw [lp_X10_game_199, if_neg (by rw [nle (by omega) (by omega)]; omega), gdi (by omega) hi, gdi (by omega) hi, nclamp (by omega), nadd i 1]
    · by_cases c : k = i
      · subst c; rw [ms1, T.1 85 (by decide)]
      · rw [ms3 _ _ c]; exact T.2 k (by omega)
  · rw [lp_X10_game_199, if_pos (Int32.le_refl _)]
theorem rg_stops (k271 : Mm → Option (Int32 × Mm)) : ∃ M', lp_X10_game_246 k271 N0 (nI 0) M = k271 M' ∧ (∀ a, a ≠ 91 → a ≠ 92 → M' a = M a) ∧ ∀ k, k < 5 → M' 91 k = nI 0 ∧ M' 92 k = nI 0 := by
  refine lpM (fun f i M => lp_X10_game_246 k271 f (nI i) M) 5 (fun i M' => (∀ a, a ≠ 91 → a ≠ 92 → M' a = M a) ∧ ∀ k, k < i → M' 91 k = nI 0 ∧ M' 92 k = nI 0) _ (by decide) (fun f i M1 hi T => ?_) (fun f M1 T => ?_) _ ⟨fun _ _ _ => rfl, fun k hk => by omega⟩
  · refine ⟨mset (mset M1 91 i (nI 0)) 92 i (nI 0), ?_, fun a h h' => by rw [mset_off _ _ _ h', mset_off _ _ _ h]; exact T.1 a h h', fun k hk => ?_⟩
    · rw [lp_X10_game_246, if_neg (by rw [nle (by omega) (by omega)]; omega), gdi (by omega) hi, gdi (by omega) hi, nclamp (by omega), nadd i 1]
    · by_cases c : k = i
      · subst c
        exact ⟨by rw [mset_off _ _ _ (by decide), ms1], ms1 _ _ _ _⟩
      · rw [mset_off _ _ _ (show (91 : Nat) ≠ 92 by decide), ms3 _ _ c, ms3 _ _ c, mset_off _ _ _ (show (92 : Nat) ≠ 91 by decide)]
        exact T.2 k (by omega)
  · rw [lp_X10_game_246, if_pos (Int32.le_refl _)]
/-- films and stops are forgotten -/
theorem c_forget : ∃ M', f_X1_clear M = some M' ∧ (∀ a, a < 73 ∨ 76 < a → M' a = M a) ∧ (∀ k, k < 20 → M' 74 k = nI 0) ∧ (∀ k, k < 5 → M' 75 k = nI 0 ∧ M' 76 k = nI 0) ∧ M' 73 3 = nI 0 := by
  refine ⟨mset (fillM (fillM (fillM M 74 20 (nI 0)) 75 5 (nI 0)) 76 5 (nI 0)) 73 3 (nI 0), ?_, fun a ha => ?_, fun k hk => ?_, fun k hk => ⟨?_, ?_⟩, ms1 _ _ _ _⟩
  · unfold f_X1_clear
    rw [f_fill (q := 74) (n := 20) rfl (by decide), bvs, f_fill (q := 75) (n := 5) rfl (by decide), bvs, f_fill (q := 76) (n := 5) rfl (by decide), bvs]
  · rw [mset_off _ _ _ (by omega), zfo (by omega), zfo (by omega), zfo (by omega)]
  · rw [mset_off _ _ _ (by decide), zfo (by decide), zfo (by decide), zfi hk]
  · rw [mset_off _ _ _ (by decide), zfo (by decide), zfi hk]
  · rw [mset_off _ _ _ (by decide), zfi hk]
/-- nothing is told yet -/
theorem PG0 {Mc Mr : Mm} (hg : g = 1 ∨ g = 8) (h3 : Mc 17 3 = nI g) (z1 : ∀ k, 6 ≤ k → k ≤ 14 → Mc g k = nI 0) (z2 : ∀ k, k < 5 → Mc (g + 2) k = nI 0) (z4 : ∀ k, k < 5 → Mc (g + 4) k = nI 0) (r : ∀ k, k < 141 → Mr 85 k = nI 0) : PGm Mc Mr g n b (fun _ => 0) :=
  ⟨⟨hg, z1 6 (by decide) (by decide), z1 7 (by decide) (by decide), z1 8 (by decide) (by decide), z1 9 (by decide) (by decide), z1 10 (by decide) (by decide), z1 11 (by decide) (by decide), z1 12 (by decide) (by decide), z1 13 (by decide) (by decide), z1 14 (by decide) (by decide), fun p h => absurd h (Nat.not_lt_zero _), fun p h => absurd h (Nat.not_lt_zero _), fun p h => absurd h (Nat.not_lt_zero _), fun i h => absurd h (Nat.not_lt_zero _), fun i h => absurd h (Nat.not_lt_zero _), fun i h => absurd h (Nat.not_lt_zero _)⟩, h3, z4, r, .inl ⟨rfl, rfl, rfl, rfl⟩, Nat.zero_le _, fun p h => absurd h (Nat.not_lt_zero _), fun p h => absurd h (Nat.not_lt_zero _), .inl ⟨rfl, rfl⟩, fun _ _ => Nat.zero_le _, Nat.zero_le _, Nat.zero_le _, fun i h => absurd h (Nat.not_lt_zero _), fun i h => absurd h (Nat.not_lt_zero _), fun i h => absurd h (Nat.not_lt_zero _), fun _ _ _ => ⟨rfl, rfl⟩, fun _ q hq => z2 q hq⟩
theorem CG.cong3 {M M0 : Mm} (C : CG M0 g G) (h : ∀ a, g ≤ a → a ≤ g + 6 → M a = M0 a) : CG M g G := by
  have hg := C.hg
  have e0 := h g (by omega) (by omega)
  refine ⟨hg, ?_, ?_, ?_, ?_, ?_, ?_, ?_, ?_, ?_, fun p hp => ?_, fun p hp => ?_, fun p hp k hk => ?_, fun p hp => ?_, fun p hp => ?_, fun p hp k hk => ?_⟩
  · rw [e0]; exact C.f6
  · rw [e0]; exact C.f7
  · rw [e0]; exact C.f8
  · rw [e0]; exact C.f9
  · rw [e0]; exact C.f10
  · rw [e0]; exact C.f11
  · rw [e0]; exact C.f12
  · rw [e0]; exact C.f13
  · rw [e0]; exact C.f14
  · rw [h _ (by omega) (by omega)]; exact C.ends p hp
  · rw [h _ (by omega) (by omega)]; exact C.syc p hp
  · rw [h _ (by omega) (by omega)]; exact C.syl p hp k hk
  · rw [h _ (by omega) (by omega)]; exact C.cha p hp
  · rw [h _ (by omega) (by omega)]; exact C.grv p hp
  · rw [h _ (by omega) (by omega)]; exact C.trt p hp k hk
end
