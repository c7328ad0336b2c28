/-! KEEP, BRING BACK, BECOME. -/
theorem RP.cong {M M' : Mm} {G : Nat → Nat} {Q : Pl} (W : GW G) (H : RP M G Q) (h : ∀ k, k < 44 → M' 86 k = M 86 k) : RP M' G Q := by
  have h2 := W.creepers
  refine ⟨?_, ?_, ?_, ?_, ?_, ?_, ?_, ?_, ?_, fun c hc => ?_, fun c hc => ?_, fun c hc => ?_, fun c hc => ?_, fun c hc => ?_, fun c hc => ?_⟩
  · rw [h 0 (by omega)]; exact H.part
  · rw [h 1 (by omega)]; exact H.tenth
  · rw [h 2 (by omega)]; exact H.loud
  · rw [h 3 (by omega)]; exact H.looked
  · rw [h 4 (by omega)]; exact H.passed
  · rw [h 5 (by omega)]; exact H.touch
  · rw [h 6 (by omega)]; exact H.seed
  · rw [h 7 (by omega)]; exact H.caught
  · rw [h 8 (by omega)]; exact H.over
  · rw [h _ (by omega)]; exact H.at_ c hc
  · rw [h _ (by omega)]; exact H.into c hc
  · rw [h _ (by omega)]; exact H.how c hc
  · rw [h _ (by omega)]; exact H.seen c hc
  · rw [h _ (by omega)]; exact H.wrong c hc
  · rw [h _ (by omega)]; exact H.there c hc
theorem CP.cong {M M' : Mm} {p : Nat} {G : Nat → Nat} {Q : Pl} (H : CP M p G Q) (h : ∀ a, p ≤ a → a ≤ p + 9 → M' a = M a) : CP M' p G Q := by
  refine ⟨?_, ?_, ?_, ?_, ?_, ?_, fun c hc => ?_, fun c hc => ?_, fun c hc => ?_, fun c hc => ?_, fun c hc => ?_, fun c hc => ?_⟩
  · rw [h _ (by omega) (by omega)]; exact H.said
  · rw [h _ (by omega) (by omega)]; exact H.loud
  · rw [h _ (by omega) (by omega)]; exact H.looked
  · rw [h _ (by omega) (by omega)]; exact H.passed
  · rw [h _ (by omega) (by omega)]; exact H.touch
  · rw [h _ (by omega) (by omega)]; exact H.seed
  · rw [h _ (by omega) (by omega)]; exact H.at_ c hc
  · rw [h _ (by omega) (by omega)]; exact H.into c hc
  · rw [h _ (by omega) (by omega)]; exact H.how c hc
  · rw [h _ (by omega) (by omega)]; exact H.seen c hc
  · rw [h _ (by omega) (by omega)]; exact H.wrong c hc
  · rw [h _ (by omega) (by omega)]; exact H.there c hc
/-- the slot s of row 87 holds Q -/
def KP (M : Mm) (s : Nat) (G : Nat → Nat) (Q : Pl) : Prop := RP (fun _ i => M 87 (44 * s + i)) G Q
theorem r_keep {M0 : Mm} {s : Nat} (hs : s ≤ 3) : ∃ M', f_X10_keep (nI s) M0 = some M' ∧ (∀ a, a ≠ 87 → M' a = M0 a) ∧ (∀ k, k < 44 → M' 87 (44 * s + k) = M0 86 k) ∧ (∀ k, k < 44 * s ∨ 44 * s + 44 ≤ k → M' 87 k = M0 87 k) := by
  unfold f_X10_keep
  refine lpM (fun f i M => lp_X10_keep_2 (nI s) f (nI i) M) 44 (fun i M => (∀ a, a ≠ 87 → M a = M0 a) ∧ (∀ k, k < i → M 87 (44 * s + k) = M0 86 k) ∧ (∀ k, k < 44 * s ∨ 44 * s + 44 ≤ k → M 87 k = M0 87 k)) some (by decide) (fun f i M hi T => ?_) (fun f M T => ?_) M0 ⟨fun _ _ => rfl, fun k hk => by omega, fun _ _ => rfl⟩
  · refine ⟨mset M 87 (44 * s + i) (M0 86 i), ?_, fun a h => by rw [mset_off _ _ _ h]; exact T.1 a h, fun k hk => ?_, fun k hk => ?_⟩
    · rw [lp_X10_keep_2]
      simp (disch := omega) only [T.1 86 (by decide), jns, bds, bvs, lts, gdt, nadd, nmul, nsub, nle, nlt, neq, nz0, nlt0, nle0, n0le, n0lt, nclamp, ndiv, nmod2, gdi, gdn, if_pos, if_neg, if_true, if_false]
    · by_cases c : k = i
      · subst c; simp (disch := omega) only [ms1, ms1, ms2, ms3]
      · simp (disch := omega) only [ms1, ms1, ms2, ms3]; exact T.2.1 k (by omega)
    · rw [ms3 _ _ (by omega)]; exact T.2.2 k hk
  · rw [lp_X10_keep_2, if_pos (Int32.le_refl _)]
theorem r_bringBack {M0 : Mm} {s : Nat} (hs : s ≤ 3) : ∃ M', f_X10_bringBack (nI s) M0 = some M' ∧ (∀ a, a ≠ 86 → M' a = M0 a) ∧ (∀ k, k < 44 → M' 86 k = M0 87 (44 * s + k)) := by
  unfold f_X10_bringBack
  obtain ⟨M', e, h1, h2⟩ := lpM (fun f i M => lp_X10_bringBack_2 (nI s) f (nI i) M) 44 (fun i M => (∀ a, a ≠ 86 → M a = M0 a) ∧ (∀ k, k < i → M 86 k = M0 87 (44 * s + k))) some (by decide) (fun f i M hi T => by
    refine ⟨mset M 86 i (M0 87 (44 * s + i)), ?_, fun a h => by rw [mset_off _ _ _ h]; exact T.1 a h, fun k hk => ?_⟩
    · rw [lp_X10_bringBack_2]
      simp (disch := omega) only [T.1 87 (by decide), jns, bds, bvs, lts, gdt, nadd, nmul, nsub, nle, nlt, neq, nz0, nlt0, nle0, n0le, n0lt, nclamp, ndiv, nmod2, gdi, gdn, if_pos, if_neg, if_true, if_false]
    · by_cases c : k = i
      · subst c; simp (disch := omega) only [ms1, ms1, ms2, ms3]
      · simp (disch := omega) only [ms1, ms1, ms2, ms3]; exact T.2 k (by omega)) (fun f M T => by
    rw [lp_X10_bringBack_2, if_pos (Int32.le_refl _)]) M0 ⟨fun _ _ => rfl, fun k hk => by omega⟩
  exact ⟨M', e, h1, h2⟩
theorem r_keep_KP {M0 : Mm} {G : Nat → Nat} {Q : Pl} (W : GW G) {s : Nat} (hs : s ≤ 3) (H : RP M0 G Q) : ∃ M', f_X10_keep (nI s) M0 = some M' ∧ KP M' s G Q ∧ (∀ a, a ≠ 87 → M' a = M0 a) ∧ (∀ s' Q', s' ≠ s → KP M0 s' G Q' → KP M' s' G Q') := by
  obtain ⟨M', e, h1, h2, h3⟩ := r_keep (M0 := M0) hs
  refine ⟨M', e, (RP.cong (M := M0) (M' := fun _ i => M' 87 (44 * s + i)) W H (fun k hk => h2 k hk) : RP (fun _ i => M' 87 (44 * s + i)) G Q), h1, fun s' Q' hne K => (RP.cong (M := fun _ i => M0 87 (44 * s' + i)) (M' := fun _ i => M' 87 (44 * s' + i)) W K (fun k hk => h3 (44 * s' + k) ?_) : RP (fun _ i => M' 87 (44 * s' + i)) G Q')⟩
  rcases Nat.lt_or_gt_of_ne hne with h | h
  · left
    have : 44 * (s' + 1) ≤ 44 * s := Nat.mul_le_mul_left 44 h
    omega
  · right
    have : 44 * (s + 1) ≤ 44 * s' := Nat.mul_le_mul_left 44 h
    omega
theorem r_bring_RP {M0 : Mm} {G : Nat → Nat} {Q : Pl} (W : GW G) {s : Nat} (hs : s ≤ 3) (K : KP M0 s G Q) : ∃ M', f_X10_bringBack (nI s) M0 = some M' ∧ RP M' G Q ∧ (∀ a, a ≠ 86 → M' a = M0 a) := by
  obtain ⟨M', e, h1, h2⟩ := r_bringBack (M0 := M0) hs
  exact ⟨M', e, RP.cong (M := fun _ i => M0 87 (44 * s + i)) W K (fun k hk => h2 k hk), h1⟩
theorem c_become {M0 : Mm} {G : Nat → Nat} {Q : Pl} {p q : Nat} (W : GW G) (P : PC p) (P' : PC q) (hpq : p + 9 < q ∨ q + 9 < p) (H : CP M0 q G Q) : ∃ M', f_X3_become p q M0 = some M' ∧ CP M' p G Q ∧ (∀ a, a < p ∨ p + 9 < a → M' a = M0 a) := by
  have h2 := W.creepers
  have ff := fun (k : Nat) (h1 : 1 ≤ k) (h2 : k ≤ 9) (X : Mm) => f_copy (M := X) (lyp P' h1 h2) (lyp P h1 h2) (by decide) (show q + k ≠ p + k by omega)
  unfold f_X3_become
  rw [ff 1 (by decide) (by decide), bvs, ff 2 (by decide) (by decide), bvs, ff 3 (by decide) (by decide), bvs, ff 4 (by decide) (by decide), bvs, ff 5 (by decide) (by decide), bvs, ff 6 (by decide) (by decide), bvs]
  obtain ⟨X, hX⟩ : ∃ X, X = copyM (copyM (copyM (copyM (copyM (copyM M0 (q + 1) (p + 1) 5) (q + 2) (p + 2) 5) (q + 3) (p + 3) 5) (q + 4) (p + 4) 5) (q + 5) (p + 5) 5) (q + 6) (p + 6) 5 := ⟨_, rfl⟩
  rw [← hX]
  have xq : X q = M0 q := by rw [hX, copy_off (by omega), copy_off (by omega), copy_off (by omega), copy_off (by omega), copy_off (by omega), copy_off (by omega)]
  refine ⟨_, rfl, ⟨?_, ?_, ?_, ?_, ?_, ?_, fun c hc => ?_, fun c hc => ?_, fun c hc => ?_, fun c hc => ?_, fun c hc => ?_, fun c hc => ?_⟩, fun a h => ?_⟩
  · simp (disch := omega) only [ms1, ms1, ms2, ms3]; rw [xq]; exact H.said
  · simp (disch := omega) only [ms1, ms1, ms2, ms3]; rw [xq]; exact H.loud
  · simp (disch := omega) only [ms1, ms1, ms2, ms3]; rw [xq]; exact H.looked
  · simp (disch := omega) only [ms1, ms1, ms2, ms3]; rw [xq]; exact H.passed
  · simp (disch := omega) only [ms1, ms1, ms2, ms3]; rw [xq]; exact H.touch
  · simp (disch := omega) only [ms1, ms1, ms2, ms3]; rw [xq]; exact H.seed
  · simp (disch := omega) only [hX, copy_off, copy_on, ms1, ms2, ms3]; exact H.at_ c hc
  · simp (disch := omega) only [hX, copy_off, copy_on, ms1, ms2, ms3]; exact H.into c hc
  · simp (disch := omega) only [hX, copy_off, copy_on, ms1, ms2, ms3]; exact H.how c hc
  · simp (disch := omega) only [hX, copy_off, copy_on, ms1, ms2, ms3]; exact H.seen c hc
  · simp (disch := omega) only [hX, copy_off, copy_on, ms1, ms2, ms3]; exact H.wrong c hc
  · simp (disch := omega) only [hX, copy_off, copy_on, ms1, ms2, ms3]; exact H.there c hc
  · rw [mset_off _ _ _ (by omega), mset_off _ _ _ (by omega), mset_off _ _ _ (by omega), mset_off _ _ _ (by omega), mset_off _ _ _ (by omega), mset_off _ _ _ (by omega), hX, copy_off (by omega), copy_off (by omega), copy_off (by omega), copy_off (by omega), copy_off (by omega), copy_off (by omega)]
