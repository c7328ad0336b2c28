/-! BEGIN, KEEP, BRING BACK. -/
/-- a play at its beginning -/
def bg0 (s : Nat) : Pl :=
  mkPl (0) (0) (0) (0) (0) (s) (-2) (fun _ => 0) (fun _ => 0) (fun _ => -2) (fun _ => 0) (fun _ => 0) (fun _ => 0)
theorem bg0_QW {G : Nat → Nat} (W : GW G) {s : Nat} (hs : s < 65537) (T : Nat) : QW G (bg0 s) T := by
  have hpar := W.parts
  have hl := W.long
  refine ⟨by show 0 < G 92; omega, .inl ⟨rfl, Tn_pos W (by show 0 < G 92; omega), fun c _ => by show 0 < G 0; omega⟩, fun c hc => by show 0 < G (61 + c); have := (W.crp c hc).2.1; omega, fun _ _ => .inl rfl, fun c _ h => absurd (show (-2 : Int32) = nI 5 from h) (by decide), fun c _ => by show 0 < G 0; omega, hs, Nat.zero_le _, fun _ _ => Nat.le_refl _, Nat.le_refl _, Nat.zero_le _⟩
theorem r_begin {M0 : Mm} {s : Int32} : ∃ M', f_X10_begin s M0 = some M' ∧ (∀ a, a ≠ 86 → M' a = M0 a) ∧ (∀ k, k < 44 → M' 86 k = if k = 5 then -2 else if k = 6 then s else if 19 ≤ k ∧ k < 24 then -2 else nI 0) := by
  unfold f_X10_begin
  obtain ⟨M1, e1, f1, z1⟩ : ∃ M', lp_X10_begin_2 s (fun (M2 : Mm) => lp_X10_begin_39 N0 (nI 0) (mset (mset M2 86 5 (-2 : Int32)) 86 6 s)) N0 (nI 0) M0 = (fun (M2 : Mm) => lp_X10_begin_39 N0 (nI 0) (mset (mset M2 86 5 (-2 : Int32)) 86 6 s)) M' ∧ (∀ a, a ≠ 86 → M' a = M0 a) ∧ ∀ k, k < 44 → M' 86 k = nI 0 := by
    refine lpM (fun f i M => lp_X10_begin_2 s (fun (M2 : Mm) => lp_X10_begin_39 N0 (nI 0) (mset (mset M2 86 5 (-2 : Int32)) 86 6 s)) f (nI i) M) 44 (fun i M => (∀ a, a ≠ 86 → M a = M0 a) ∧ ∀ k, k < i → M 86 k = nI 0) _ (by decide) (fun f i M hi T => ?_) (fun f M T => ?_) M0 ⟨fun _ _ => rfl, fun k hk => by omega⟩
    · refine ⟨mset M 86 i (nI 0), ?_, fun a h => by rw [mset_off _ _ _ h]; exact T.1 a h, fun k hk => ?_⟩
      · rw [lp_X10_begin_2]
        simp (disch := omega) only [jns, bds, bvs, lts, gdt, nadd, nmul, nsub, nle, nlt, neq, nz0, nlt0, nle0, n0le, n0lt, nclamp, ndiv, nmod2, gdi, gdn, if_pos, if_neg, if_true, if_false]
      · by_cases c : k = i
        · subst c; simp (disch := omega) only [ms1, ms1, ms2, ms3]
        · simp (disch := omega) only [ms1, ms1, ms2, ms3]; exact T.2 k (by omega)
    · rw [lp_X10_begin_2, if_pos (Int32.le_refl _)]
  rw [e1]
  obtain ⟨M2, e2, f2, z2, y2⟩ : ∃ M', lp_X10_begin_39 N0 (nI 0) (mset (mset M1 86 5 (-2 : Int32)) 86 6 s) = some M' ∧ (∀ a, a ≠ 86 → M' a = M0 a) ∧ (∀ k, k < 5 → M' 86 (19 + k) = -2) ∧ (∀ k, k < 19 ∨ 24 ≤ k → M' 86 k = mset (mset M1 86 5 (-2 : Int32)) 86 6 s 86 k) := by
    refine lpM (fun f i M => lp_X10_begin_39 f (nI i) M) 5 (fun i M => (∀ a, a ≠ 86 → M a = M0 a) ∧ (∀ k, k < i → M 86 (19 + k) = -2) ∧ (∀ k, k < 19 ∨ 24 ≤ k → M 86 k = mset (mset M1 86 5 (-2 : Int32)) 86 6 s 86 k)) some (by decide) (fun f i M hi T => ?_) (fun f M T => ?_) _ ⟨fun a h => by rw [mset_off _ _ _ h, mset_off _ _ _ h, f1 a h], fun k hk => by omega, fun _ _ => rfl⟩
    · refine ⟨mset M 86 (19 + i) (-2), ?_, fun a h => by rw [mset_off _ _ _ h]; exact T.1 a h, fun k hk => ?_, fun k hk => ?_⟩
      · rw [lp_X10_begin_39]
        simp (disch := omega) only [jns, bds, bvs, lts, gdt, nadd, nmul, nsub, nle, nlt, neq, nz0, nlt0, nle0, n0le, n0lt, nclamp, ndiv, nmod2, gdi, gdn, if_pos, if_neg, if_true, if_false]
      · by_cases c : k = i
        · subst c; simp (disch := omega) only [ms1, ms1, ms2, ms3]
        · simp (disch := omega) only [ms1, ms1, ms2, ms3]; exact T.2.1 k (by omega)
      · rw [ms3 _ _ (by omega)]; exact T.2.2 k hk
    · rw [lp_X10_begin_39, if_pos (Int32.le_refl _)]
  refine ⟨M2, e2, f2, fun k hk => ?_⟩
  by_cases c5 : k = 5
  · subst c5; rw [if_pos rfl, y2 5 (by omega)]; simp (disch := omega) only [ms1, ms1, ms2, ms3]
  · rw [if_neg c5]
    by_cases c6 : k = 6
    · subst c6; rw [if_pos rfl, y2 6 (by omega)]; simp (disch := omega) only [ms1, ms1, ms2, ms3]
    · rw [if_neg c6]
      by_cases c : 19 ≤ k ∧ k < 24
      · rw [if_pos c]
        have := z2 (k - 19) (by omega)
        rw [show 19 + (k - 19) = k from by omega] at this
        exact this
      · rw [if_neg c, y2 k (by omega)]
        simp (disch := omega) only [ms1, ms1, ms2, ms3]
        exact z1 k hk
theorem r_begin_RP {M0 : Mm} {G : Nat → Nat} (W : GW G) (s : Nat) : ∃ M', f_X10_begin (nI s) M0 = some M' ∧ RP M' G (bg0 s) ∧ (∀ a, a ≠ 86 → M' a = M0 a) := by
  have h2 := W.creepers
  obtain ⟨M', e, f, z⟩ := r_begin (M0 := M0) (s := nI s)
  refine ⟨M', e, ⟨?_, ?_, ?_, ?_, ?_, ?_, ?_, ?_, ?_, fun c hc => ?_, fun c hc => ?_, fun c hc => ?_, fun c hc => ?_, fun c hc => ?_, fun c hc => ?_⟩, f⟩
  · rw [z 0 (by omega)]; rfl
  · rw [z 1 (by omega)]; rfl
  · rw [z 2 (by omega)]; rfl
  · rw [z 3 (by omega)]; rfl
  · rw [z 4 (by omega)]; rfl
  · rw [z 5 (by omega)]; rfl
  · rw [z 6 (by omega)]; rfl
  · rw [z 7 (by omega)]; rfl
  · rw [z 8 (by omega)]; rfl
  · rw [z _ (by omega), if_neg (by omega), if_neg (by omega), if_neg (by omega)]; rfl
  · rw [z _ (by omega), if_neg (by omega), if_neg (by omega), if_neg (by omega)]; rfl
  · rw [z _ (by omega), if_neg (by omega), if_neg (by omega), if_pos (by omega)]; rfl
  · rw [z _ (by omega), if_neg (by omega), if_neg (by omega), if_neg (by omega)]; rfl
  · rw [z _ (by omega), if_neg (by omega), if_neg (by omega), if_neg (by omega)]; rfl
  · rw [z _ (by omega), if_neg (by omega), if_neg (by omega), if_neg (by omega)]; rfl
theorem fill_on {M : Mm} {q n : Nat} {v : Int32} {c : Nat} (h : c < n) : fillM M q n v q c = v := by
  unfold fillM; rw [if_pos rfl, if_pos h]
theorem fill_off {M : Mm} {q n : Nat} {v : Int32} {a : Nat} (h : a ≠ q) : fillM M q n v a = M a := by
  unfold fillM; rw [if_neg h]
theorem copy_on {M : Mm} {s t n : Nat} {c : Nat} (h : c < n) : copyM M s t n t c = M s c := by
  unfold copyM; rw [if_pos rfl, if_pos h]
theorem copy_off {M : Mm} {s t n : Nat} {a : Nat} (h : a ≠ t) : copyM M s t n a = M a := by
  unfold copyM; rw [if_neg h]
theorem c_begin {M0 : Mm} {G : Nat → Nat} {p : Nat} (W : GW G) (P : PC p) (s : Nat) : ∃ M', f_X3_begin p (nI s) M0 = some M' ∧ CP M' p G (bg0 s) ∧ (∀ a, a < p ∨ p + 9 < a → M' a = M0 a) := by
  have h2 := W.creepers
  have ff := fun (k : Nat) (h1 : 1 ≤ k) (h2 : k ≤ 9) (v : Int32) (X : Mm) => f_fill (M := X) (v := v) (lyp P h1 h2) (by decide)
  unfold f_X3_begin
  rw [ff 1 (by decide) (by decide), bvs, ff 2 (by decide) (by decide), bvs, ff 3 (by decide) (by decide), bvs, ff 4 (by decide) (by decide), bvs, ff 5 (by decide) (by decide), bvs, ff 6 (by decide) (by decide), bvs]
  refine ⟨_, rfl, ⟨?_, ?_, ?_, ?_, ?_, ?_, fun c hc => ?_, fun c hc => ?_, fun c hc => ?_, fun c hc => ?_, fun c hc => ?_, fun c hc => ?_⟩, fun a h => ?_⟩
  · simp (disch := omega) only [ms1, ms1, ms2, ms3]; rfl
  · simp (disch := omega) only [ms1, ms1, ms2, ms3]; rfl
  · simp (disch := omega) only [ms1, ms1, ms2, ms3]; rfl
  · simp (disch := omega) only [ms1, ms1, ms2, ms3]; rfl
  · simp (disch := omega) only [ms1, ms1, ms2, ms3]; rfl
  · simp (disch := omega) only [ms1, ms1, ms2, ms3]; rfl
  · simp (disch := omega) only [fill_off, fill_on, ms1, ms2, ms3]; rfl
  · simp (disch := omega) only [fill_off, fill_on, ms1, ms2, ms3]; rfl
  · simp (disch := omega) only [fill_off, fill_on, ms1, ms2, ms3]; rfl
  · simp (disch := omega) only [fill_off, fill_on, ms1, ms2, ms3]; rfl
  · simp (disch := omega) only [fill_off, fill_on, ms1, ms2, ms3]; rfl
  · simp (disch := omega) only [fill_off, fill_on, ms1, ms2, ms3]; rfl
  · rw [mset_off _ _ _ (by omega), mset_off _ _ _ (by omega), mset_off _ _ _ (by omega), mset_off _ _ _ (by omega), mset_off _ _ _ (by omega), mset_off _ _ _ (by omega), fill_off (by omega), fill_off (by omega), fill_off (by omega), fill_off (by omega), fill_off (by omega), fill_off (by omega)]
