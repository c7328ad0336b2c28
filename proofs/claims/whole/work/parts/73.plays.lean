/-! PLAYS: so many from the beginning, in the class and in the reference. -/
/-- the play from the seed s + i, at most so many tenths -/
def Pt (G : Nat → Nat) (m most s i : Nat) : Pl := rn G m most (bg0 ((s + i) % 65537))
def To (G : Nat → Nat) (m most s n : Nat) : Nat := Sm (fun i => if (Pt G m most s i).touch < 0 then 0 else 1) n
def La (G : Nat → Nat) (m most s n : Nat) : Nat := Sm (fun i => (Pt G m most s i).passed) n
def Sq (G : Nat → Nat) (Q : Pl) (n : Nat) : Nat := Sm (fun c => Q.seen c + Q.wrong c) n
def Se (G : Nat → Nat) (m most s n : Nat) : Nat := Sm (fun i => Sq G (Pt G m most s i) (G 95)) n
def Wi (G : Nat → Nat) (m most s c n : Nat) : Nat := Sm (fun i => if (Pt G m most s i).touch = nI c then 1 else 0) n
theorem Pt_QW {G : Nat → Nat} (W : GW G) {m most s i : Nat} : QW G (Pt G m most s i) most := by
  have h := rn_QW W (m := m) (k := most) (bg0_QW W (s := (s + i) % 65537) (Nat.mod_lt _ (by decide)) 0)
  rw [Nat.zero_add] at h
  exact h
theorem c_countLoop {M0 : Mm} {G : Nat → Nat} {g : Nat} {Q : Pl} (C : CG M0 g G) (W : GW G) (H : CP M0 62 G Q) {e : Nat} (h4 : M0 61 4 = nI e) :
    ∃ M', lp_X4_count_53 g N0 (nI 0) M0 = some M' ∧ (∀ x, x ≠ 61 → M' x = M0 x) ∧ (∀ k, k ≠ 4 → M' 61 k = M0 61 k) ∧ M' 61 4 = nI (e + Sq G Q (G 95)) := by
  have hcr := W.creepers
  refine lpM (fun f i M => lp_X4_count_53 g f (nI i) M) (G 95) (fun i M => (∀ x, x ≠ 61 → M x = M0 x) ∧ (∀ k, k ≠ 4 → M 61 k = M0 61 k) ∧ M 61 4 = nI (e + Sq G Q i)) some (by omega) (fun f i M hi T => ?_) (fun f M T => ?_) M0 ⟨fun _ _ => rfl, fun _ _ => rfl, h4⟩
  · obtain ⟨t1, t2, t3⟩ := T
    have C' : CG M g G := C.cong2 (fun a h1 h2 => t1 a (by omega))
    have H' : CP M 62 G Q := H.cong7 (fun a h1 h2 => t1 a (by omega))
    have k4 : f_X9_at 66 (nI i) M = some (nI (Q.seen i), M) := by
      rw [← H'.seen i hi]
      exact p_at (p := 62) (k := 4) (.inr (.inr (.inr (.inr rfl)))) (by omega) (by omega) (by omega)
    have k5 : f_X9_at 67 (nI i) M = some (nI (Q.wrong i), M) := by
      rw [← H'.wrong i hi]
      exact p_at (p := 62) (k := 5) (.inr (.inr (.inr (.inr rfl)))) (by omega) (by omega) (by omega)
    refine ⟨mset M 61 4 (nI (e + Sq G Q i + (Q.seen i + Q.wrong i))), ?_, fun x hx => by rw [mset_off _ _ _ hx]; exact t1 x hx, fun k hk => by rw [ms3 _ _ hk]; exact t2 k hk, by rw [ms1, Nat.add_assoc]; rfl⟩
    rw [lp_X4_count_53, C'.f14, if_neg (by rw [nle (by omega) (by omega)]; omega), k4, bds, k5, bds, t3, nadd, nadd, nadd]
  · have C' : CG M g G := C.cong2 (fun a h1 h2 => T.1 a (by omega))
    rw [lp_X4_count_53, C'.f14, if_pos (Int32.le_refl _)]
theorem c_count {M : Mm} {G : Nat → Nat} {g T : Nat} {Q : Pl} (C : CG M g G) (W : GW G) (H : CP M 62 G Q) (q : QW G Q T) {a b e : Nat} {w : Nat → Nat} (h2 : M 61 2 = nI a) (h3 : M 61 3 = nI b) (h4 : M 61 4 = nI e) (hw : ∀ c, c < G 95 → M 72 c = nI (w c)) :
    ∃ M', f_X4_count g M = some M' ∧ (∀ x, x ≠ 61 → x ≠ 72 → M' x = M x) ∧ M' 61 2 = nI (a + if Q.touch < 0 then 0 else 1) ∧ M' 61 3 = nI (b + Q.passed) ∧ M' 61 4 = nI (e + Sq G Q (G 95)) ∧ ∀ c, c < G 95 → M' 72 c = nI (w c + if Q.touch = nI c then 1 else 0) := by
  have hcr := W.creepers
  unfold f_X4_count
  rw [h3, H.passed, nadd]
  obtain ⟨M1, hM1⟩ : ∃ M1, M1 = mset M 61 3 (nI (b + Q.passed)) := ⟨_, rfl⟩
  rw [← hM1]
  have f1 : ∀ x, x ≠ 61 → M1 x = M x := fun x hx => by rw [hM1, mset_off _ _ _ hx]
  have H1 : CP M1 62 G Q := H.cong7 (fun x h1 h2 => f1 x (by omega))
  have C1 : CG M1 g G := C.cong2 (fun x h1 h2 => f1 x (by omega))
  have e2 : M1 61 2 = nI a := by rw [hM1, ms3 _ _ (by omega)]; exact h2
  have e3 : M1 61 3 = nI (b + Q.passed) := by rw [hM1, ms1]
  have e4 : M1 61 4 = nI e := by rw [hM1, ms3 _ _ (by omega)]; exact h4
  rw [c_isOver H1, bds]
  simp only [jns]
  rcases q.st with ⟨ht, -⟩ | ⟨k, hk, ht, -⟩
  · have hlt : Q.touch < 0 := by rw [ht]; decide
    rw [if_pos hlt, if_pos (show nI 0 = 0 from rfl)]
    obtain ⟨M', e5, f5, g5, h5⟩ := c_countLoop C1 W H1 e4
    refine ⟨M', e5, fun x h61 h72 => by rw [f5 x h61, f1 x h61], by rw [g5 2 (by omega), e2]; rfl, by rw [g5 3 (by omega), e3], h5, fun c hc => ?_⟩
    rw [f5 72 (by omega), f1 72 (by omega), hw c hc, if_neg (by rw [ht]; exact fun z => absurd (show nI c < 0 by rw [← z]; decide) (by rw [nlt0 (by omega)]; exact id))]
    rfl
  · have hlt : ¬ Q.touch < 0 := by rw [ht, nlt0 (by omega)]; exact id
    rw [if_neg hlt, if_neg (show ¬ nI 1 = 0 by decide), e2, nadd]
    obtain ⟨M2, hM2⟩ : ∃ M2, M2 = mset M1 61 2 (nI (a + 1)) := ⟨_, rfl⟩
    rw [← hM2]
    have t2 : M2 62 14 = nI k := by rw [hM2, mset_off _ _ _ (by omega), H1.touch, ht]
    have k2 : f_X9_add 72 (nI k) (nI 1) M2 = some (mset M2 72 k (M2 72 k + nI 1)) := f_add (n := 5) rfl (by decide) (by omega)
    have w2 : M2 72 k = nI (w k) := by rw [hM2, mset_off _ _ _ (by omega), f1 72 (by omega)]; exact hw k hk
    rw [t2, k2, bvs, w2, nadd]
    obtain ⟨M3, hM3⟩ : ∃ M3, M3 = mset M2 72 k (nI (w k + 1)) := ⟨_, rfl⟩
    rw [← hM3]
    have f3 : ∀ x, x ≠ 61 → x ≠ 72 → M3 x = M1 x := fun x h61 h72 => by rw [hM3, mset_off _ _ _ h72, hM2, mset_off _ _ _ h61]
    obtain ⟨M', e5, f5, g5, h5⟩ := c_countLoop (C1.cong2 (M := M3) (fun x h1 h2 => f3 x (by omega) (by omega))) W (H1.cong7 (M' := M3) (fun x h1 h2 => f3 x (by omega) (by omega))) (e := e) (by rw [hM3, mset_off _ _ _ (by omega), hM2, ms3 _ _ (by omega)]; exact e4)
    refine ⟨M', e5, fun x h61 h72 => by rw [f5 x h61, f3 x h61 h72, f1 x h61], ?_, ?_, h5, fun c hc => ?_⟩
    · rw [g5 2 (by omega), hM3, mset_off _ _ _ (by omega), hM2, ms1]
    · rw [g5 3 (by omega), hM3, mset_off _ _ _ (by omega), hM2, ms3 _ _ (by omega), e3]
    · rw [f5 72 (by omega), hM3]
      by_cases c1 : c = k
      · subst c1
        rw [ms1, if_pos ht]
      · rw [ms3 _ _ c1, hM2, mset_off _ _ _ (by omega), f1 72 (by omega), hw c hc, if_neg (by rw [ht, neq (by omega) (by omega)]; omega)]
        rfl
theorem c_run {M0 : Mm} {G : Nat → Nat} {g m most n s : Nat} (C : CG M0 g G) (W : GW G) (hm : m < 100) (hmo : most < 1000) (hn : n ≤ 20) (hs : s < 65537) :
    ∃ M', f_X4_run g (nI s) (nI n) (nI most) (nI m) M0 = some M' ∧ (∀ a, a < 61 ∨ 72 < a → M' a = M0 a) ∧ M' 61 2 = nI (To G m most s n) ∧ M' 61 3 = nI (La G m most s n) ∧ M' 61 4 = nI (Se G m most s n) ∧ ∀ c, c < G 95 → M' 72 c = nI (Wi G m most s c n) := by
  have hcr := W.creepers
  unfold f_X4_run
  rw [f_fill (q := 72) (n := 5) rfl (by decide), bvs]
  refine lpM (fun f i M => lp_X4_run_26 g (nI s) (nI n) (nI most) (nI m) f (nI i) M) n (fun i M => (∀ a, a < 61 ∨ 72 < a → M a = M0 a) ∧ M 61 2 = nI (To G m most s i) ∧ M 61 3 = nI (La G m most s i) ∧ M 61 4 = nI (Se G m most s i) ∧ ∀ c, c < G 95 → M 72 c = nI (Wi G m most s c i)) some (by omega) (fun f i M hi T => ?_) (fun f M T => ?_) _ ⟨fun a ha => ?_, ?_, ?_, ?_, fun c hc => ?_⟩
  · obtain ⟨t1, t2, t3, t4, t5⟩ := T
    have C' : CG M g G := C.cong2 (fun a h1 h2 => t1 a (by omega))
    have P : PC 62 := .inr (.inr (.inr (.inr rfl)))
    obtain ⟨M1, a1, K1, f1⟩ := c_begin (M0 := M) (G := G) W P ((s + i) % 65537)
    have C1 : CG M1 g G := C'.cong2 (fun a h1 h2 => f1 a (by omega))
    obtain ⟨M2, a2, K2, f2⟩ := c_playLoop W (g := g) (m := m) (most := most) hm (y2 := nI s) (y3 := nI n) (y6 := nI i) (fun (M11 : Mm) => bv (f_X4_count g M11) fun M85_12 => lp_X4_run_26 g (nI s) (nI n) (nI most) (nI m) f (nI i + (nI 1)) M85_12) hmo M1 C1 most N0 _ 0 0 M1 K1 (bg0_QW W (Nat.mod_lt _ (by decide)) 0) (by omega) (by omega) (by unfold N0; omega) (fun _ _ => rfl)
    have n2 : ∀ a, a < 62 ∨ 71 < a → M2 a = M a := fun a ha => by rw [f2 a ha, f1 a (by omega)]
    obtain ⟨M3, a3, f3, g2, g3, g4, g5⟩ := c_count (C'.cong2 (M := M2) (fun a h1 h2 => n2 a (by omega))) W K2 (Pt_QW W (m := m) (most := most) (s := s) (i := i)) (a := To G m most s i) (b := La G m most s i) (e := Se G m most s i) (w := fun c => Wi G m most s c i) (by rw [n2 61 (by omega)]; exact t2) (by rw [n2 61 (by omega)]; exact t3) (by rw [n2 61 (by omega)]; exact t4) (fun c hc => by rw [n2 72 (by omega)]; exact t5 c hc)
    refine ⟨M3, ?_, fun a ha => ?_, g2, g3, g4, g5⟩
    · have e1 : nI s + nI i - (nI s + nI i) / nI 65537 * nI 65537 = nI ((s + i) % 65537) := by rw [nadd]; exact nmod (by omega) (by omega) (by omega)
      rw [lp_X4_run_26, if_neg (by rw [nle (by omega) (by omega)]; omega), e1, a1, bvs, a2, a3, bvs, nadd]
    · rw [f3 a (by omega) (by omega), n2 a (by omega), t1 a ha]
  · rw [lp_X4_run_26, if_pos (Int32.le_refl _)]
  · rw [mset_off _ _ _ (by omega), mset_off _ _ _ (by omega), mset_off _ _ _ (by omega), fill_off (by omega)]
  · simp (disch := omega) only [ms1, ms1, ms2, ms3]; rfl
  · simp (disch := omega) only [ms1, ms1, ms2, ms3]; rfl
  · simp (disch := omega) only [ms1, ms1, ms2, ms3]; rfl
  · simp (disch := omega) only [fill_on, ms1, ms2, ms3]; rfl
