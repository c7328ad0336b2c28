/-! NEXT: the reference's token. -/
def rk (K : Nat) : Nat := if K = 1 then 2 else if K = 2 then 3 else if K = 3 then 59 else if K = 4 then 44 else if K = 6 then 1 else 0
def Nxt (M M' : Mm) (b : Nat → Nat) (n p : Nat) : Prop := (∀ a, a ≠ 81 → a ≠ 83 → M' a = M a) ∧ (∀ k, k < 4 ∨ 8 < k → M' 81 k = M 81 k) ∧ (M' 81 4 = nI (tS b n p)) ∧ (M' 81 5 = nI (tS b n p + tW b n p)) ∧ (M' 81 6 = nI (rk (tK b n p))) ∧ (tK b n p = 1 → M' 81 8 = nI (tW b n p) ∧ ∀ j, j < tW b n p → M' 83 j = nI (b (tS b n p + j))) ∧ (tK b n p = 2 → M' 81 7 = nI (vN b (tS b n p) (tW b n p)))
theorem Nxt.fr {M M' : Mm} {b : Nat → Nat} {n p : Nat} (h : Nxt M M' b n p) : ∀ a, a ≠ 81 → a ≠ 83 → M' a = M a := h.1
theorem Nxt.r {M M' : Mm} {b : Nat → Nat} {n p : Nat} (h : Nxt M M' b n p) : ∀ k, k < 4 ∨ 8 < k → M' 81 k = M 81 k := h.2.1
theorem Nxt.s {M M' : Mm} {b : Nat → Nat} {n p : Nat} (h : Nxt M M' b n p) : M' 81 4 = nI (tS b n p) := h.2.2.1
theorem Nxt.e {M M' : Mm} {b : Nat → Nat} {n p : Nat} (h : Nxt M M' b n p) : M' 81 5 = nI (tS b n p + tW b n p) := h.2.2.2.1
theorem Nxt.t {M M' : Mm} {b : Nat → Nat} {n p : Nat} (h : Nxt M M' b n p) : M' 81 6 = nI (rk (tK b n p)) := h.2.2.2.2.1
theorem Nxt.l {M M' : Mm} {b : Nat → Nat} {n p : Nat} (h : Nxt M M' b n p) : tK b n p = 1 → M' 81 8 = nI (tW b n p) ∧ ∀ j, j < tW b n p → M' 83 j = nI (b (tS b n p + j)) := h.2.2.2.2.2.1
theorem Nxt.v {M M' : Mm} {b : Nat → Nat} {n p : Nat} (h : Nxt M M' b n p) : tK b n p = 2 → M' 81 7 = nI (vN b (tS b n p) (tW b n p)) := h.2.2.2.2.2.2
theorem r_wordLoop {M0 : Mm} {n s : Nat} {b : Nat → Nat} (B : TBr M0 n b) (k : Int32 → Mm → Option Mm) : ∀ d j f M, s + j + d = n → d < f → M 81 3 = M0 81 3 → M 82 = M0 82 → M 81 8 = nI j → (∀ i, i < j → i < 8 → M 83 i = nI (b (s + i))) →
    ∃ M', lp_X10_next_67 k f (nI (s + j)) M = k (nI (s + (j + ru b 1 d (s + j)))) M' ∧ (∀ a, a ≠ 81 → a ≠ 83 → M' a = M a) ∧ (∀ i, i ≠ 8 → M' 81 i = M 81 i) ∧ M' 81 8 = nI (j + ru b 1 d (s + j)) ∧ (∀ i, i < j + ru b 1 d (s + j) → i < 8 → M' 83 i = nI (b (s + i))) := by
  have h9 := B.n9
  intro d
  induction d with
  | zero =>
    intro j f M hj hf e3 e82 e8 el
    obtain ⟨f, rfl⟩ : ∃ g, f = g + 1 := ⟨f - 1, by omega⟩
    have B' : TBr M n b := B.cong e3 e82
    refine ⟨M, ?_, fun _ _ _ => rfl, fun _ _ => rfl, e8, el⟩
    rw [lp_X10_next_67, r_seeE B' (by omega) (by omega), bds, r_smallE, bds, if_pos (by decide)]
    rfl
  | succ d ih =>
    intro j f M hj hf e3 e82 e8 el
    obtain ⟨f, rfl⟩ : ∃ g, f = g + 1 := ⟨f - 1, by omega⟩
    have B' : TBr M n b := B.cong e3 e82
    have hb := (B'.by_ (s + j) (by omega)).1
    rw [lp_X10_next_67, r_see B' (by omega), bds, r_small hb, bds, ru]
    by_cases c : kd (b (s + j)) = 1
    · rw [if_pos c, if_neg (by decide), if_pos c]
      simp only [jns]
      rw [e8]
      have fin : ∀ M1 : Mm, (∀ a, a ≠ 83 → M1 a = M a) → (∀ i, i < j + 1 → i < 8 → M1 83 i = nI (b (s + i))) → ∃ M', lp_X10_next_67 k f (nI (s + j) + nI 1) (mset M1 81 8 (M1 81 8 + nI 1)) = k (nI (s + (j + (ru b 1 d (s + j + 1) + 1)))) M' ∧ (∀ a, a ≠ 81 → a ≠ 83 → M' a = M a) ∧ (∀ i, i ≠ 8 → M' 81 i = M 81 i) ∧ M' 81 8 = nI (j + (ru b 1 d (s + j + 1) + 1)) ∧ (∀ i, i < j + (ru b 1 d (s + j + 1) + 1) → i < 8 → M' 83 i = nI (b (s + i))) := fun M1 hf1 hl1 => by
        have e81 : M1 81 = M 81 := hf1 81 (by decide)
        rw [e81, e8, nadd, nadd, Nat.add_assoc]
        obtain ⟨M', g1, g2, g3, g4, g5⟩ := ih (j + 1) f (mset M1 81 8 (nI (j + 1))) (by omega) (by omega) (by rw [ms3 _ _ (by decide), e81]; exact e3) (by rw [mset_off _ _ _ (by decide), hf1 82 (by decide)]; exact e82) (ms1 _ _ _ _) (fun i h1 h2 => by rw [mset_off _ _ _ (by decide)]; exact hl1 i h1 h2)
        have er : j + 1 + ru b 1 d (s + (j + 1)) = j + (ru b 1 d (s + j + 1) + 1) := by rw [Nat.add_assoc s j 1]; omega
        rw [er] at g1 g4 g5
        exact ⟨M', g1, fun a h1 h2 => by rw [g2 a h1 h2, mset_off _ _ _ h1, hf1 a h2], fun i hi => by rw [g3 i hi, ms3 _ _ hi, e81], g4, g5⟩
      by_cases c8 : 8 ≤ j
      · rw [if_pos (by rw [nle (by omega) (by omega)]; exact c8)]
        have hf2 := fin M (fun _ _ => rfl) (fun i h1 h2 => el i (by omega) h2)
        rw [e8] at hf2
        exact hf2
      · rw [if_neg (by rw [nle (by omega) (by omega)]; exact c8), r_see B' (by omega), bds, gdi (by omega) (by omega), nclamp (by omega)]
        refine fin (mset M 83 j (nI (b (s + j)))) (fun a ha => mset_off _ _ _ ha) (fun i h1 h2 => ?_)
        by_cases c9 : i = j
        · subst c9; rw [ms1]
        · rw [ms3 _ _ c9]; exact el i (by omega) h2
    · rw [if_neg c, if_pos (by decide), if_neg c]
      exact ⟨M, rfl, fun _ _ _ => rfl, fun _ _ => rfl, e8, el⟩
theorem r_digLoop {M0 : Mm} {n s : Nat} {b : Nat → Nat} (B : TBr M0 n b) (k : Int32 → Int32 → Mm → Option Mm) : ∀ d j f M, s + j + d = n → d < f → M 81 3 = M0 81 3 → M 82 = M0 82 → (j ≤ 3 → M 81 7 = nI (vN b s j)) →
    ∃ M', lp_X10_next_152 k f (nI (s + j)) (nI j) M = k (nI (s + (j + ru b 2 d (s + j)))) (nI (j + ru b 2 d (s + j))) M' ∧ (∀ a, a ≠ 81 → M' a = M a) ∧ (∀ i, i ≠ 7 → M' 81 i = M 81 i) ∧ (j + ru b 2 d (s + j) ≤ 3 → M' 81 7 = nI (vN b s (j + ru b 2 d (s + j)))) := by
  have h9 := B.n9
  intro d
  induction d with
  | zero =>
    intro j f M hj hf e3 e82 e7
    obtain ⟨f, rfl⟩ : ∃ g, f = g + 1 := ⟨f - 1, by omega⟩
    have B' : TBr M n b := B.cong e3 e82
    refine ⟨M, ?_, fun _ _ => rfl, fun _ _ => rfl, e7⟩
    rw [lp_X10_next_152, r_seeE B' (by omega) (by omega), bds, r_digitE, bds, if_pos (by decide)]
    rfl
  | succ d ih =>
    intro j f M hj hf e3 e82 e7
    obtain ⟨f, rfl⟩ : ∃ g, f = g + 1 := ⟨f - 1, by omega⟩
    have B' : TBr M n b := B.cong e3 e82
    have hb := (B'.by_ (s + j) (by omega)).1
    rw [lp_X10_next_152, r_see B' (by omega), bds, r_digit hb, bds, ru]
    by_cases c : kd (b (s + j)) = 2
    · have hd := kd2 c
      rw [if_pos c, if_neg (by decide), if_pos c]
      simp only [jns]
      have fin : ∀ M1 : Mm, (∀ a, a ≠ 81 → M1 a = M a) → (∀ i, i ≠ 7 → M1 81 i = M 81 i) → (j + 1 ≤ 3 → M1 81 7 = nI (vN b s (j + 1))) → ∃ M', lp_X10_next_152 k f (nI (s + j) + nI 1) (nI j + nI 1) M1 = k (nI (s + (j + (ru b 2 d (s + j + 1) + 1)))) (nI (j + (ru b 2 d (s + j + 1) + 1))) M' ∧ (∀ a, a ≠ 81 → M' a = M a) ∧ (∀ i, i ≠ 7 → M' 81 i = M 81 i) ∧ (j + (ru b 2 d (s + j + 1) + 1) ≤ 3 → M' 81 7 = nI (vN b s (j + (ru b 2 d (s + j + 1) + 1)))) := fun M1 hf1 hf2 h7 => by
        rw [nadd, nadd, Nat.add_assoc s j 1]
        obtain ⟨M', g1, g2, g3, g4⟩ := ih (j + 1) f M1 (by omega) (by omega) (by rw [hf2 3 (by decide)]; exact e3) (by rw [hf1 82 (by decide)]; exact e82) h7
        have er : j + 1 + ru b 2 d (s + (j + 1)) = j + (ru b 2 d (s + (j + 1)) + 1) := by omega
        rw [er] at g1 g4
        exact ⟨M', g1, fun a h1 => by rw [g2 a h1, hf1 a h1], fun i hi => by rw [g3 i hi, hf2 i hi], g4⟩
      by_cases c8 : 3 ≤ j
      · rw [if_pos (by rw [nle (by omega) (by omega)]; exact c8)]
        exact fin M (fun _ _ => rfl) (fun _ _ => rfl) (fun h => by omega)
      · rw [if_neg (by rw [nle (by omega) (by omega)]; exact c8), r_see B' (by omega), bds, e7 (by omega), nmul, nadd (10 * vN b s j), nsub (by omega), Nat.mul_comm 10]
        exact fin _ (fun a ha => mset_off _ _ _ ha) (fun i hi => ms3 _ _ hi) (fun _ => ms1 _ _ _ _)
    · rw [if_neg c, if_pos (by decide), if_neg c]
      exact ⟨M, rfl, fun _ _ => rfl, fun _ _ => rfl, e7⟩
theorem r_next {M : Mm} {n : Nat} {b : Nat → Nat} (B : TBr M n b) {p : Nat} (h5 : M 81 5 = nI p) (hp : p ≤ n) : ∃ M', f_X10_next M = some M' ∧ Nxt M M' b n p := by
  have h9 := B.n9
  obtain ⟨t1, t2, t3⟩ := tS_b (b := b) hp
  obtain ⟨w1, w2⟩ := tW_b (b := b) hp
  unfold f_X10_next
  rw [h5, r_skip B _ (n - p) p N0 (by omega) (by unfold N0; omega)]
  have hS : sk b (n - p) p = tS b n p := rfl
  rw [hS]
  generalize hs : tS b n p = s at *
  have B1 : TBr (mset M 81 4 (nI s)) n b := B.cong (ms3 _ _ (by decide)) (mset_off _ _ _ (by decide))
  by_cases c : s = n
  · have eW : tW b n p = 0 := by unfold tW; rw [hs, if_pos c]
    have eK : tK b n p = 0 := by unfold tK; rw [hs, if_pos c]
    rw [r_seeE B1 (by omega) (by omega), bds, if_pos rfl]
    refine ⟨_, rfl, ⟨fun a h1 h2 => ?_, fun k hk => ?_, ?_, ?_, ?_, fun z => by omega, fun z => by omega⟩⟩
    · rw [mset_off _ _ _ h1, mset_off _ _ _ h1, mset_off _ _ _ h1, mset_off _ _ _ h1, mset_off _ _ _ h1]
    · simp (disch := omega) only [ms1, ms1, ms2, ms3]
    · simp (disch := omega) only [ms1, ms1, ms2, ms3]; rw [hs]
    · simp (disch := omega) only [ms1, ms1, ms2, ms3]; rw [hs, eW, Nat.add_zero]
    · simp (disch := omega) only [ms1, ms1, ms2, ms3]; rw [eK]; rfl
  · have hsn : s < n := by omega
    have hb := (B.by_ s hsn).1
    have hkb := kd_b (b s)
    have h5' := t3 hsn
    have eK : ∀ w, tW b n p = w → tK b n p = if (kd (b s) = 1 ∧ 8 < w) ∨ (kd (b s) = 2 ∧ 3 < w) then 6 else kd (b s) := fun w hw => by
      unfold tK
      rw [hs, if_neg c, hw]
    have B2 : TBr (mset (mset (mset M 81 4 (nI s)) 81 8 (nI 0)) 81 7 (nI 0)) n b := B.cong (by simp (disch := omega) only [ms1, ms1, ms2, ms3]) (by rw [mset_off _ _ _ (by decide), mset_off _ _ _ (by decide), mset_off _ _ _ (by decide)])
    rw [r_see B1 hsn, bds, if_neg (Ne.symm (nneg (by omega))), r_small hb, bds]
    by_cases c1 : kd (b s) = 1
    · have eW : tW b n p = ru b 1 (n - s) s := by unfold tW; rw [hs, if_neg c, if_pos (.inl c1), c1]
      have hle := (ru_b b 1 (n - s) s).1
      have hK := eK _ eW
      rw [if_pos c1, if_neg (by decide)]
      obtain ⟨M1, g1, g2, g3, g4, g5⟩ := r_wordLoop B2 (s := s) (fun (u47 : Int32) (M48 : Mm) => jn (fun (s49 : Int32) (M50 : Mm) => some ((mset M50 81 6 s49))) fun j51 => if ((mset M48 81 5 u47) 81 8) ≤ (nI 8) then (j51 (nI 2) (mset M48 81 5 u47)) else (j51 (nI 1) (mset M48 81 5 u47))) (n - s) 0 N0 _ (by omega) (by unfold N0; omega) rfl rfl (by simp (disch := omega) only [ms1, ms1, ms2, ms3]) (fun i hi => by omega)
      rw [Nat.add_zero] at g1
      rw [Nat.zero_add] at g1
      rw [Nat.zero_add, Nat.add_zero] at g4 g5
      simp only [jns] at g1
      rw [ms3 _ _ (by decide), g4] at g1
      have fin : ∀ v, (if nI (ru b 1 (n - s) s) ≤ nI 8 then some (mset (mset M1 81 5 (nI (s + ru b 1 (n - s) s))) 81 6 (nI 2)) else some (mset (mset M1 81 5 (nI (s + ru b 1 (n - s) s))) 81 6 (nI 1))) = some (mset (mset M1 81 5 (nI (s + ru b 1 (n - s) s))) 81 6 v) → v = nI (rk (tK b n p)) → ∃ M', lp_X10_next_67 (fun (u47 : Int32) (M48 : Mm) => jn (fun (s49 : Int32) (M50 : Mm) => some ((mset M50 81 6 s49))) fun j51 => if ((mset M48 81 5 u47) 81 8) ≤ (nI 8) then (j51 (nI 2) (mset M48 81 5 u47)) else (j51 (nI 1) (mset M48 81 5 u47))) N0 (nI s) (mset (mset (mset M 81 4 (nI s)) 81 8 (nI 0)) 81 7 (nI 0)) = some M' ∧ Nxt M M' b n p := fun v hv1 hv2 => by
        refine ⟨_, g1.trans hv1, ⟨fun a h1 h2 => ?_, fun k hk => ?_, ?_, ?_, ?_, fun z => ⟨?_, fun j hj => ?_⟩, fun z => ?_⟩⟩
        · rw [mset_off _ _ _ h1, mset_off _ _ _ h1, g2 a h1 h2, mset_off _ _ _ h1, mset_off _ _ _ h1, mset_off _ _ _ h1]
        · rw [ms3 _ _ (by omega), ms3 _ _ (by omega), g3 k (by omega)]; simp (disch := omega) only [ms1, ms1, ms2, ms3]
        · rw [ms3 _ _ (by decide), ms3 _ _ (by decide), g3 4 (by decide)]; simp (disch := omega) only [ms1, ms1, ms2, ms3]; rw [hs]
        · rw [ms3 _ _ (by decide), ms1, hs, eW]
        · rw [ms1, hv2]
        · rw [ms3 _ _ (by decide), ms3 _ _ (by decide), g4, eW]
        · rw [eW] at hj
          rw [hK] at z
          by_cases c8 : 8 < ru b 1 (n - s) s
          · rw [if_pos (.inl ⟨c1, c8⟩)] at z; omega
          · rw [mset_off _ _ _ (by decide), mset_off _ _ _ (by decide), g5 j hj (by omega), hs]
        · rw [hK] at z
          split at z <;> omega
      by_cases c8 : 8 < ru b 1 (n - s) s
      · refine fin (nI 1) (if_neg (by rw [nle (by omega) (by omega)]; omega)) ?_
        rw [hK, if_pos (.inl ⟨c1, c8⟩)]; rfl
      · refine fin (nI 2) (if_pos (by rw [nle (by omega) (by omega)]; omega)) ?_
        rw [hK, if_neg (by omega), c1]; rfl
    · rw [if_neg c1, if_pos (by decide), r_digit hb, bds]
      by_cases c2 : kd (b s) = 2
      · have eW : tW b n p = ru b 2 (n - s) s := by unfold tW; rw [hs, if_neg c, if_pos (.inr c2), c2]
        have hle := (ru_b b 2 (n - s) s).1
        have hK := eK _ eW
        rw [if_pos c2, if_neg (by decide)]
        obtain ⟨M1, g1, g2, g3, g4⟩ := r_digLoop B2 (s := s) (fun (u29 : Int32) (u30 : Int32) (M31 : Mm) => jn (fun (s32 : Int32) (M33 : Mm) => some ((mset M33 81 6 s32))) fun j34 => if u30 ≤ (nI 3) then (j34 (nI 3) (mset M31 81 5 u29)) else (j34 (nI 1) (mset M31 81 5 u29))) (n - s) 0 N0 _ (by omega) (by unfold N0; omega) rfl rfl (fun _ => by rw [ms1]; rfl)
        rw [Nat.add_zero] at g1
        rw [Nat.zero_add] at g1
        rw [Nat.zero_add, Nat.add_zero] at g4
        simp only [jns] at g1
        have fin : ∀ v, (if nI (ru b 2 (n - s) s) ≤ nI 3 then some (mset (mset M1 81 5 (nI (s + ru b 2 (n - s) s))) 81 6 (nI 3)) else some (mset (mset M1 81 5 (nI (s + ru b 2 (n - s) s))) 81 6 (nI 1))) = some (mset (mset M1 81 5 (nI (s + ru b 2 (n - s) s))) 81 6 v) → v = nI (rk (tK b n p)) → ∃ M', lp_X10_next_152 (fun (u29 : Int32) (u30 : Int32) (M31 : Mm) => jn (fun (s32 : Int32) (M33 : Mm) => some ((mset M33 81 6 s32))) fun j34 => if u30 ≤ (nI 3) then (j34 (nI 3) (mset M31 81 5 u29)) else (j34 (nI 1) (mset M31 81 5 u29))) N0 (nI s) (nI 0) (mset (mset (mset M 81 4 (nI s)) 81 8 (nI 0)) 81 7 (nI 0)) = some M' ∧ Nxt M M' b n p := fun v hv1 hv2 => by
          refine ⟨_, g1.trans hv1, ⟨fun a h1 h2 => ?_, fun k hk => ?_, ?_, ?_, ?_, fun z => ?_, fun z => ?_⟩⟩
          · rw [mset_off _ _ _ h1, mset_off _ _ _ h1, g2 a h1, mset_off _ _ _ h1, mset_off _ _ _ h1, mset_off _ _ _ h1]
          · rw [ms3 _ _ (by omega), ms3 _ _ (by omega), g3 k (by omega)]; simp (disch := omega) only [ms1, ms1, ms2, ms3]
          · rw [ms3 _ _ (by decide), ms3 _ _ (by decide), g3 4 (by decide)]; simp (disch := omega) only [ms1, ms1, ms2, ms3]; rw [hs]
          · rw [ms3 _ _ (by decide), ms1, hs, eW]
          · rw [ms1, hv2]
          · rw [hK] at z
            split at z <;> omega
          · rw [hK] at z
            by_cases c8 : 3 < ru b 2 (n - s) s
            · rw [if_pos (.inr ⟨c2, c8⟩)] at z; omega
            · rw [ms3 _ _ (by decide), ms3 _ _ (by decide), g4 (by omega), hs, eW]
        by_cases c8 : 3 < ru b 2 (n - s) s
        · refine fin (nI 1) (if_neg (by rw [nle (by omega) (by omega)]; omega)) ?_
          rw [hK, if_pos (.inr ⟨c2, c8⟩)]; rfl
        · refine fin (nI 3) (if_pos (by rw [nle (by omega) (by omega)]; omega)) ?_
          rw [hK, if_neg (by omega), c2]; rfl
      · have eW : tW b n p = 1 := by unfold tW; rw [hs, if_neg c, if_neg (by omega)]
        have hK := eK _ eW
        rw [if_neg (by omega)] at hK
        rw [if_neg c2, if_pos (by decide), nadd]
        simp only [jns]
        have fin : ∀ v, v = nI (rk (tK b n p)) → Nxt M (mset (mset (mset (mset (mset M 81 4 (nI s)) 81 8 (nI 0)) 81 7 (nI 0)) 81 5 (nI (s + 1))) 81 6 v) b n p := fun v hv => by
          refine ⟨fun a h1 h2 => ?_, fun k hk => ?_, ?_, ?_, ?_, fun z => by omega, fun z => by omega⟩
          · rw [mset_off _ _ _ h1, mset_off _ _ _ h1, mset_off _ _ _ h1, mset_off _ _ _ h1, mset_off _ _ _ h1]
          · simp (disch := omega) only [ms1, ms1, ms2, ms3]
          · simp (disch := omega) only [ms1, ms1, ms2, ms3]; rw [hs]
          · simp (disch := omega) only [ms1, ms1, ms2, ms3]; rw [hs, eW]
          · rw [ms1, hv]
        by_cases c3 : b s = 59
        · refine ⟨_, if_pos (by rw [c3]), fin _ ?_⟩
          rw [hK, c3]; rfl
        · by_cases c4 : b s = 44
          · refine ⟨_, (if_neg (by rw [neq (by omega) (by omega)]; exact c3)).trans (if_pos (by rw [c4])), fin _ ?_⟩
            rw [hK, c4]; rfl
          · refine ⟨_, (if_neg (by rw [neq (by omega) (by omega)]; exact c3)).trans (if_neg (by rw [neq (by omega) (by omega)]; exact c4)), fin _ ?_⟩
            have : kd (b s) = 6 := by
              revert c1 c2 h5'
              unfold kd
              repeat' split
              all_goals omega
            rw [hK, this]; rfl
