/-! FAIR, FROM. -/
/-- the class's cells hold the best of the first k codes -/
abbrev FC (G : Nat → Nat) (k : Nat) (M : Mm) : Prop := (1 ≤ k → M 77 2 = nI (Ap G (Bq G k))) ∧ (1 ≤ k → M 77 3 = nI (Su G (Bq G k))) ∧ (1 ≤ k → ∀ c, c < G 95 → M 79 c = nI (Dg (Bf G) (G 95) (Bq G k) c))
theorem FC.ap {G : Nat → Nat} {k : Nat} {M : Mm} (h : FC G k M) : 1 ≤ k → M 77 2 = nI (Ap G (Bq G k)) := h.1
theorem FC.su {G : Nat → Nat} {k : Nat} {M : Mm} (h : FC G k M) : 1 ≤ k → M 77 3 = nI (Su G (Bq G k)) := h.2.1
theorem FC.fo {G : Nat → Nat} {k : Nat} {M : Mm} (h : FC G k M) : 1 ≤ k → ∀ c, c < G 95 → M 79 c = nI (Dg (Bf G) (G 95) (Bq G k) c) := h.2.2
theorem Su_le {G : Nat → Nat} (W : GW G) (code : Nat) : Su G code ≤ 40 := by
  have hcr := W.creepers
  have hB := Bf_b W
  have := Sm_le (f := Dg (Bf G) (G 95) code) (b := 8) (n := G 95) (fun c _ => by
    have := Dg_lt (b := Bf G) (n := G 95) (code := code) (c := c) (by omega)
    omega)
  unfold Su
  omega
theorem Ap_le {G : Nat → Nat} (W : GW G) (code : Nat) : Ap G code ≤ 800 ∧ Mi (Vf G code) (G 95) ≤ Mx (Vf G code) (G 95) := by
  have hcr := W.creepers
  have h := Mi_Mx (f := Vf G code) (b := 800) (n := G 95) (by omega) (by omega) (fun c hc => Vf_le W code hc)
  unfold Ap
  omega
theorem c_consider {M : Mm} {G : Nat → Nat} {g k : Nat} (C : CG M g G) (W : GW G) (h78 : ∀ c, c < G 95 → M 78 c = nI (Dg (Bf G) (G 95) k c)) (F : FC G k M) :
    ∃ M', f_X6_consider g (if k = 0 then nI 1 else nI 0) M = some M' ∧ (∀ a, a ≠ 77 → a ≠ 79 → M' a = M a) ∧ FC G (k + 1) M' := by
  have hcr := W.creepers
  have a1 := Ap_le W k
  have s1 := Su_le W k
  unfold f_X6_consider
  rw [c_considerLoop C W h78]
  simp only [jns]
  rw [nsub a1.2]
  have upd : ∃ M', (bv (f_X9_copy 78 79 (mset (mset M 77 2 (nI (Mx (Vf G k) (G 95) - Mi (Vf G k) (G 95)))) 77 3 (nI (Su G k)))) fun M147_20 => some M147_20) = some M' ∧ (∀ a, a ≠ 77 → a ≠ 79 → M' a = M a) ∧ M' 77 2 = nI (Ap G k) ∧ M' 77 3 = nI (Su G k) ∧ ∀ c, c < G 95 → M' 79 c = nI (Dg (Bf G) (G 95) k c) := by
    rw [f_copy (s := 78) (t := 79) (n := 5) rfl rfl (by decide) (by decide), bvs]
    refine ⟨_, rfl, fun a h1 h2 => by rw [copy_off h2, mset_off _ _ _ h1, mset_off _ _ _ h1], ?_, ?_, fun c hc => ?_⟩
    · rw [copy_off (by decide), ms3 _ _ (by decide), ms1]; rfl
    · rw [copy_off (by decide), ms1]
    · rw [copy_on (by omega), mset_off _ _ _ (by decide), mset_off _ _ _ (by decide)]; exact h78 c hc
  have keep : ∀ {x : Nat}, Bq G (k + 1) = x → (1 ≤ k ∧ x = Bq G k) → ∃ M', some M = some M' ∧ (∀ a, a ≠ 77 → a ≠ 79 → M' a = M a) ∧ FC G (k + 1) M' := fun h1 h2 => by
    refine ⟨M, rfl, fun _ _ _ => rfl, ⟨fun _ => ?_, fun _ => ?_, fun _ => ?_⟩⟩
    · rw [h1, h2.2]; exact F.ap h2.1
    · rw [h1, h2.2]; exact F.su h2.1
    · rw [h1, h2.2]; exact F.fo h2.1
  have take : Bq G (k + 1) = k → ∃ M', (bv (f_X9_copy 78 79 (mset (mset M 77 2 (nI (Mx (Vf G k) (G 95) - Mi (Vf G k) (G 95)))) 77 3 (nI (Su G k)))) fun M147_20 => some M147_20) = some M' ∧ (∀ a, a ≠ 77 → a ≠ 79 → M' a = M a) ∧ FC G (k + 1) M' := fun h => by
    obtain ⟨M', u1, u2, u3, u4, u5⟩ := upd
    exact ⟨M', u1, u2, ⟨fun _ => by rw [h]; exact u3, fun _ => by rw [h]; exact u4, fun _ => by rw [h]; exact u5⟩⟩
  by_cases c0 : k = 0
  · rw [if_pos c0, if_neg (by decide)]
    exact take (by rw [Bq, if_pos (.inl c0)])
  · rw [if_neg c0, if_pos (by decide), F.ap (by omega), F.su (by omega)]
    have a2 := Ap_le W (Bq G k)
    have s2 := Su_le W (Bq G k)
    have ea : Mx (Vf G k) (G 95) - Mi (Vf G k) (G 95) = Ap G k := rfl
    rw [ea] at take ⊢
    by_cases c1 : Ap G k < Ap G (Bq G k)
    · rw [if_pos (by rw [nlt (by omega) (by omega)]; exact c1)]
      exact take (by rw [Bq, if_pos (.inr (.inl c1))])
    · rw [if_neg (by rw [nlt (by omega) (by omega)]; exact c1)]
      by_cases c2 : Ap G k = Ap G (Bq G k)
      · rw [if_pos (by rw [c2])]
        by_cases c3 : Su G k < Su G (Bq G k)
        · rw [if_neg (by rw [nle (by omega) (by omega)]; omega)]
          exact take (by rw [Bq, if_pos (.inr (.inr ⟨c2, c3⟩))])
        · rw [if_pos (by rw [nle (by omega) (by omega)]; omega)]
          exact keep (by rw [Bq, if_neg (by omega)]) ⟨by omega, rfl⟩
      · rw [if_neg (by rw [neq (by omega) (by omega)]; exact c2)]
        exact keep (by rw [Bq, if_neg (by omega)]) ⟨by omega, rfl⟩
theorem c_find {M0 : Mm} {G : Nat → Nat} {g : Nat} (C : CG M0 g G) (W : GW G) : ∃ M', f_X6_find g M0 = some M' ∧ (∀ a, a ≠ 77 → a ≠ 78 → a ≠ 79 → M' a = M0 a) ∧ FC G (Bf G ^ G 95) M' := by
  have hcr := W.creepers
  have hlo := W.long
  have hB := Bf_b W
  have hpw := pw8 hB.2.1 hcr.2
  have eb : (if nI (G 0) < nI 8 then nI (G 0) else nI 8) = nI (Bf G) := minI (by omega) (by omega)
  unfold f_X6_find
  rw [lts, C.f6, eb]
  have e15 : ∀ k : Int32 → Mm → Option Mm, lp_X6_find_15 g (nI (Bf G)) k N0 (nI 1) (nI 0) M0 = k (nI (Bf G ^ G 95)) M0 := fun k => by
    refine lp0 (fun f i => lp_X6_find_15 g (nI (Bf G)) k f (nI (Bf G ^ i)) (nI i) M0) (G 95) (by omega) (fun f i hi => ?_) (fun f => ?_)
    · rw [lp_X6_find_15, C.f14, if_neg (by rw [nle (by omega) (by omega)]; omega), nmul, nadd, Nat.pow_succ]
    · rw [lp_X6_find_15, C.f14, if_pos (Int32.le_refl _)]
  rw [e15]
  obtain ⟨M', e, f1, f2⟩ := lpM (fun f i M => lp_X6_find_37 g (nI (Bf G)) (nI (Bf G ^ G 95)) f (nI i) M) (Bf G ^ G 95) (fun i M => (∀ a, a ≠ 77 → a ≠ 78 → a ≠ 79 → M a = M0 a) ∧ FC G i M) some (by omega) (fun f i M hi T => by
    obtain ⟨t1, t2⟩ := T
    have C' : CG M g G := C.cong2 (fun a h1 h2 => t1 a (by omega) (by omega) (by omega))
    obtain ⟨M1, a1, f1, d1, -⟩ := c_unfoldLoop (b := Bf G) (n := G 95) (code := i) ⟨hB.1, hB.2.1⟩ hcr.2 (by omega) (G 95) N0 M (Nat.le_refl _) (by unfold N0; omega)
    have hz : i / Bf G ^ (G 95 - G 95) = i := by rw [Nat.sub_self, Nat.pow_zero, Nat.div_one]
    rw [hz] at a1
    have C1 : CG M1 g G := C'.cong2 (fun a h1 h2 => f1 a (by omega))
    obtain ⟨M2, a2, f2, F2⟩ := c_consider C1 W d1 (k := i) ⟨fun h => by rw [f1 77 (by omega)]; exact t2.ap h, fun h => by rw [f1 77 (by omega)]; exact t2.su h, fun h => by rw [f1 79 (by omega)]; exact t2.fo h⟩
    refine ⟨M2, ?_, fun a h1 h2 h3 => by rw [f2 a h1 h3, f1 a h2, t1 a h1 h2 h3], F2⟩
    have eu : f_X6_unfold g (nI i) (nI (Bf G)) M = some M1 := by
      unfold f_X6_unfold
      rw [C'.f14]
      exact a1
    rw [lp_X6_find_37, if_neg (by rw [nle (by omega) (by omega)]; omega), eu, bvs]
    simp only [jns]
    by_cases c : i = 0
    · rw [if_pos c] at a2
      rw [if_pos (by rw [c]; rfl), a2, bvs, nadd]
    · rw [if_neg c] at a2
      rw [if_neg (by rw [nz0 (by omega)]; exact c), a2, bvs, nadd]) (fun f M T => by
    rw [lp_X6_find_37, if_pos (Int32.le_refl _)]) M0 ⟨fun _ _ _ _ => rfl, ⟨fun h => by omega, fun h => by omega, fun h => by omega⟩⟩
  exact ⟨M', e, f1, f2⟩
theorem r_fairLoop {M : Mm} {G : Nat → Nat} (R : RG M G) (W : GW G) {code : Nat} (hcode : code ≤ 32768) {y2 y3 y4 y5 y6 : Int32} (k : Int32 → Int32 → Int32 → Mm → Option (Int32 × Mm)) : ∀ j f, j ≤ G 95 → j < f →
    lp_X10_fairest_84 (nI (Bf G)) y2 y3 y4 y5 y6 k f (nI (MiI (Vf G code) j (G 95 - j))) (nI (MxI (Vf G code) j (G 95 - j))) (nI (SmI (Dg (Bf G) (G 95) code) j (G 95 - j))) (nI (code / Bf G ^ (G 95 - j))) (nI j - nI 1) M = k (nI (Mi (Vf G code) (G 95))) (nI (Mx (Vf G code) (G 95))) (nI (Su G code)) M := by
  have hcr := W.creepers
  have hlo := W.long
  have hB := Bf_b W
  intro j
  induction j with
  | zero =>
    intro f hj hf
    obtain ⟨f, rfl⟩ : ∃ g, f = g + 1 := ⟨f - 1, by omega⟩
    rw [lp_X10_fairest_84, if_pos neg_pred, Nat.sub_zero, MiI_Mi, MxI_Mx, SmI_Sm]
    rfl
  | succ j ih =>
    intro f hj hf
    obtain ⟨f, rfl⟩ : ∃ g, f = g + 1 := ⟨f - 1, by omega⟩
    have hl : code / Bf G ^ (G 95 - (j + 1)) ≤ code := Nat.div_le_self _ _
    obtain ⟨s1, s2⟩ := left_step (b := Bf G) (code := code) hj
    have hd := Dg_lt (b := Bf G) (n := G 95) (code := code) (c := j) (by omega)
    have hv := Vf_le W code (show j < G 95 by omega)
    have hm1 := MiI_le (Vf G code) (G 95 - (j + 1)) (j + 1)
    have hm2 := MxI_le (f := Vf G code) (b := 800) (k := G 95 - (j + 1)) (a := j + 1) (fun c hc => Vf_le W code (by omega))
    have hV : (G 0 - Dg (Bf G) (G 95) code j) * G (61 + j) = Vf G code j := rfl
    have e := ih f (by omega) (by omega)
    have e3 : G 95 - j = (G 95 - (j + 1)) + 1 := by omega
    rw [e3, MiI, MxI, SmI, ← e3] at e
    have er : nI (code / Bf G ^ (G 95 - (j + 1))) - nI (code / Bf G ^ (G 95 - (j + 1))) / nI (Bf G) * nI (Bf G) = nI (Dg (Bf G) (G 95) code j) := by
      rw [nmod (by omega) (by omega) (by omega), s1]
    rw [lp_X10_fairest_84, nsub (show 1 ≤ j + 1 by omega), Nat.add_sub_cancel, if_neg (by rw [nlt0 (by omega)]; exact id), gdn (by omega) (by omega), nadd 61 j, gdi (by omega) (by omega), nclamp (by omega), R 0 (by decide), R _ (by omega), er, nsub (show Dg (Bf G) (G 95) code j ≤ G 0 by omega), nmul, hV, lts, gdn (by omega) (by omega), lts, gdn (by omega) (by omega), r_less (by omega) (by omega), bds, nadd, ndiv (by omega) (by omega) (by omega), s2, nI_prd]
    simp only [jns]
    by_cases c : Vf G code j ≤ MxI (Vf G code) (j + 1) (G 95 - (j + 1))
    · rw [if_pos (by rw [nle (by omega) (by omega)]; exact c)]
      rw [Nat.max_eq_left c] at e
      exact e
    · rw [if_neg (by rw [nle (by omega) (by omega)]; exact c)]
      rw [Nat.max_eq_right (by omega)] at e
      exact e
theorem r_startsLoop {G : Nat → Nat} (W : GW G) {code : Nat} (hcode : code ≤ 32768) {y4 : Int32} : ∀ j f M, j ≤ G 95 → j < f → ∃ M', lp_X10_fairest_224 (nI (Bf G)) y4 f (nI (code / Bf G ^ (G 95 - j))) (nI j - nI 1) M = some (y4, M') ∧ (∀ a, a ≠ 95 → M' a = M a) ∧ (∀ c, c < j → M' 95 c = nI (Dg (Bf G) (G 95) code c)) ∧ ∀ c, j ≤ c → M' 95 c = M 95 c := by
  have hcr := W.creepers
  have hB := Bf_b W
  intro j
  induction j with
  | zero =>
    intro f M hj hf
    obtain ⟨f, rfl⟩ : ∃ g, f = g + 1 := ⟨f - 1, by omega⟩
    refine ⟨M, ?_, fun _ _ => rfl, fun c hc => by omega, fun _ _ => rfl⟩
    rw [lp_X10_fairest_224, if_pos neg_pred]
  | succ j ih =>
    intro f M hj hf
    obtain ⟨f, rfl⟩ : ∃ g, f = g + 1 := ⟨f - 1, by omega⟩
    have hl : code / Bf G ^ (G 95 - (j + 1)) ≤ code := Nat.div_le_self _ _
    obtain ⟨s1, s2⟩ := left_step (b := Bf G) (code := code) hj
    have er : nI (code / Bf G ^ (G 95 - (j + 1))) - nI (code / Bf G ^ (G 95 - (j + 1))) / nI (Bf G) * nI (Bf G) = nI (Dg (Bf G) (G 95) code j) := by
      rw [nmod (by omega) (by omega) (by omega), s1]
    obtain ⟨M', e, f1, f2, f3⟩ := ih f (mset M 95 j (nI (Dg (Bf G) (G 95) code j))) (by omega) (by omega)
    refine ⟨M', ?_, fun a ha => by rw [f1 a ha, mset_off _ _ _ ha], fun c hc => ?_, fun c hc => by rw [f3 c (by omega), ms3 _ _ (by omega)]⟩
    · rw [lp_X10_fairest_224, nsub (show 1 ≤ j + 1 by omega), Nat.add_sub_cancel, if_neg (by rw [nlt0 (by omega)]; exact id), gdn (by omega) (by omega), gdi (by omega) (by omega), gdn (by omega) (by omega), nclamp (by omega), er, ndiv (by omega) (by omega) (by omega), s2, nI_prd]
      exact e
    · by_cases c1 : c = j
      · subst c1; rw [f3 c (Nat.le_refl _), ms1]
      · exact f2 c (by omega)
theorem r_fairest {M : Mm} {G : Nat → Nat} (R : RG M G) (W : GW G) : ∃ M', f_X10_fairest M = some (nI (Ap G (Bq G (Bf G ^ G 95))), M') ∧ (∀ a, a ≠ 95 → M' a = M a) ∧ ∀ c, c < G 95 → M' 95 c = nI (Dg (Bf G) (G 95) (Bq G (Bf G ^ G 95)) c) := by
  have hcr := W.creepers
  have hlo := W.long
  have hB := Bf_b W
  have hpw := pw8 hB.2.1 hcr.2
  have hpos : 0 < Bf G ^ G 95 := Nat.pow_pos (by omega)
  have hbq := Bq_le G (Bf G ^ G 95)
  have eb : min 7 (G 0 - 1) + 1 = Bf G := by unfold Bf; omega
  obtain ⟨M', e, f1, d1, -⟩ := r_startsLoop W (code := Bq G (Bf G ^ G 95)) (y4 := nI (Ap G (Bq G (Bf G ^ G 95)))) (by omega) (G 95) N0 M (Nat.le_refl _) (by unfold N0; omega)
  rw [Nat.sub_self, Nat.pow_zero, Nat.div_one] at e
  refine ⟨M', ?_, f1, d1⟩
  unfold f_X10_fairest
  rw [R 0 (by decide), nsub (by omega), r_less (by omega) (by omega), bds, nadd, eb]
  refine Eq.trans (lp0 (fun f i => lp_X10_fairest_20 (nI (Bf G)) (fun (u4 : Int32) (M5 : Mm) => lp_X10_fairest_52 (nI (Bf G)) u4 (fun (u31 : Int32) (u32 : Int32) (M33 : Mm) => lp_X10_fairest_224 (nI (Bf G)) u32  N0 u31 ((M33 84 95) - (nI 1)) M33) N0 (-1 : Int32) (nI 0) (nI 0) (nI 0) M5) f (nI (Bf G ^ i)) (nI i) M) (G 95) (R := lp_X10_fairest_52 (nI (Bf G)) (nI (Bf G ^ G 95)) (fun (u31 : Int32) (u32 : Int32) (M33 : Mm) => lp_X10_fairest_224 (nI (Bf G)) u32  N0 u31 ((M33 84 95) - (nI 1)) M33) N0 (-1 : Int32) (nI 0) (nI 0) (nI 0) M) (by omega) (fun f i hi => ?_) (fun f => ?_)) ?_
  · rw [lp_X10_fairest_20, R 95 (by decide), if_neg (by rw [nle (by omega) (by omega)]; omega), nmul, nadd, Nat.pow_succ]
  · rw [lp_X10_fairest_20, R 95 (by decide), if_pos (Int32.le_refl _)]
  · refine lp0 (fun f k => lp_X10_fairest_52 (nI (Bf G)) (nI (Bf G ^ G 95)) (fun (u31 : Int32) (u32 : Int32) (M33 : Mm) => lp_X10_fairest_224 (nI (Bf G)) u32  N0 u31 ((M33 84 95) - (nI 1)) M33) f (if k = 0 then -1 else nI (Bq G k)) (if k = 0 then nI 0 else nI (Ap G (Bq G k))) (if k = 0 then nI 0 else nI (Su G (Bq G k))) (nI k) M) (Bf G ^ G 95) (by omega) (fun f k hk => ?_) (fun f => ?_)
    · have a1 := Ap_le W k
      have s1 := Su_le W k
      have hL := fun K => r_fairLoop R W (show k ≤ 32768 by omega) (y2 := nI (Bf G ^ G 95)) (y3 := if k = 0 then -1 else nI (Bq G k)) (y4 := if k = 0 then nI 0 else nI (Ap G (Bq G k))) (y5 := if k = 0 then nI 0 else nI (Su G (Bq G k))) (y6 := nI k) K (G 95) N0 (Nat.le_refl _) (by unfold N0; omega)
      simp only [Nat.sub_self, MiI, MxI, SmI, Nat.pow_zero, Nat.div_one] at hL
      have ea : Mx (Vf G k) (G 95) - Mi (Vf G k) (G 95) = Ap G k := rfl
      rw [lp_X10_fairest_52, if_neg (by rw [nle (by omega) (by omega)]; omega), R 95 (by decide), hL]
      simp only [jns]
      rw [nsub a1.2, ea, nadd]
      by_cases c0 : k = 0
      · have eB : Bq G (k + 1) = k := by rw [Bq, if_pos (.inl c0)]
        rw [if_pos c0, if_pos (by decide), if_neg (show ¬ k + 1 = 0 by omega), if_neg (show ¬ k + 1 = 0 by omega), if_neg (show ¬ k + 1 = 0 by omega), eB]
      · have a2 := Ap_le W (Bq G k)
        have s2 := Su_le W (Bq G k)
        have hb2 := Bq_le G k
        rw [if_neg c0, if_neg c0, if_neg c0, if_neg (by rw [nlt0 (by omega)]; exact id), if_neg (show ¬ k + 1 = 0 by omega), if_neg (show ¬ k + 1 = 0 by omega), if_neg (show ¬ k + 1 = 0 by omega)]
        by_cases c1 : Ap G k < Ap G (Bq G k)
        · have eB : Bq G (k + 1) = k := by rw [Bq, if_pos (.inr (.inl c1))]
          rw [if_neg (by rw [nlt (by omega) (by omega)]; omega), if_neg (by rw [neq (by omega) (by omega)]; omega), eB]
        · by_cases c2 : Ap G k = Ap G (Bq G k)
          · rw [if_neg (by rw [nlt (by omega) (by omega)]; omega), if_pos (by rw [c2])]
            by_cases c3 : Su G k < Su G (Bq G k)
            · have eB : Bq G (k + 1) = k := by rw [Bq, if_pos (.inr (.inr ⟨c2, c3⟩))]
              rw [if_pos (by rw [nlt (by omega) (by omega)]; exact c3), eB]
            · have eB : Bq G (k + 1) = Bq G k := by rw [Bq, if_neg (by omega)]
              rw [if_neg (by rw [nlt (by omega) (by omega)]; exact c3), eB]
          · have eB : Bq G (k + 1) = Bq G k := by rw [Bq, if_neg (by omega)]
            rw [if_pos (by rw [nlt (by omega) (by omega)]; omega), eB]
    · rw [lp_X10_fairest_52, if_pos (Int32.le_refl _), if_neg (show ¬ Bf G ^ G 95 = 0 by omega), if_neg (show ¬ Bf G ^ G 95 = 0 by omega), R 95 (by decide)]
      exact e
