/-! THE ODDS, on: rests, watch, both. -/
def Al (P : Nat → Bool) : Nat → Bool
  | 0 => true
  | n + 1 => Al P n && P n
theorem Al_mono {P : Nat → Bool} {m n : Nat} (h : m ≤ n) (h2 : Al P n = true) : Al P m = true := by
  induction h with
  | refl => exact h2
  | step h ih => exact ih (by rw [Al, Bool.and_eq_true] at h2; exact h2.1)
/-- a loop that ends where P fails -/
theorem lpA {β : Type} (L : Nat → Nat → Option β) (n : Nat) (P : Nat → Bool) {T F : Option β} (hn : n < 900000) (step : ∀ f i, i < n → P i = true → L (f + 1) i = L f (i + 1)) (stop : ∀ f i, i < n → P i = false → L (f + 1) i = F) (fin : ∀ f, L (f + 1) n = T) : L N0 0 = if Al P n then T else F := by
  have h : ∀ k i f, i + k = n → k < f → Al P i = true → L f i = if Al P n then T else F := by
    intro k
    induction k with
    | zero =>
      intro i f h hf ha
      obtain ⟨f, rfl⟩ : ∃ g, f = g + 1 := ⟨f - 1, by omega⟩
      have : i = n := by omega
      subst this
      rw [ha, fin f]
      rfl
    | succ k ih =>
      intro i f h hf ha
      obtain ⟨f, rfl⟩ : ∃ g, f = g + 1 := ⟨f - 1, by omega⟩
      cases hp : P i
      · have : ¬ Al P n = true := fun z => by
          have h3 := Al_mono (show i + 1 ≤ n by omega) z
          rw [Al, hp, Bool.and_false] at h3
          cases h3
        rw [stop f i (by omega) hp, if_neg this]
      · rw [step f i (by omega) hp]
        exact ih (i + 1) f (by omega) (by omega) (by rw [Al, ha, hp]; rfl)
  exact h n 0 N0 (by omega) (by unfold N0; omega) rfl
/-- the k-th part speaks for the rest -/
def Ik (G : Nat → Nat) (c a his its k : Nat) : Bool :=
  !(decide (0 < lg_cmp (lI (Gv G c a (En G (k + 1)) (En G (his + 1)) false)) (lI (Gv G c a (En G (its + 1)) (En G (his + 1)) false)))) && !(decide (lg_cmp (lI (Gv G c a (En G (its + 1)) (En G (k + 1)) false)) (lI (Gv G c a (En G (its + 1)) (En G (his + 1)) false)) < 0))
def Ir (G : Nat → Nat) (c a his its : Nat) : Bool := Al (Ik G c a his its) (G 92)
theorem h00 : nI 0 = nI (false : Bool).toNat := rfl
section
variable {M : Mm} {G : Nat → Nat} {g : Nat}
theorem r_isRest (R : RG M G) (W : GW G) {c a his its : Nat} (hc : c < G 95) (ha : a ≤ G 0) (h1 : his < G 92) (h2 : its < G 92) : f_X10_isRest (nI c) (nI a) (nI his) (nI its) M = some (nI (Ir G c a his its).toNat, M) := by
  have h4 := W.parts
  have h5 := En_le W (show its + 1 ≤ G 92 by omega)
  unfold f_X10_isRest
  rw [r_endOf R W h2, bds, h00, r_brings R W false hc ha (by omega) h1, bds]
  refine lp0 (fun f i => lp_X10_isRest_22 (nI c) (nI a) (nI his) (nI its) (lI (Gv G c a (En G (its + 1)) (En G (his + 1)) false)) f (nI (Al (Ik G c a his its) i).toNat) (nI i) M) (G 92) (by omega) (fun f i hi => ?_) (fun f => ?_)
  · have h6 := En_le W (show i + 1 ≤ G 92 by omega)
    rw [lp_X10_isRest_22, Al]
    cases ht : Al (Ik G c a his its) i
    · simp (disch := omega) only [R _, Bool.toNat_false, Bool.false_and, jns, bds, bvs, lts, gdt, nadd, nmul, nsub, nle, nlt, neq, nz0, nlt0, nle0, n0le, n0lt, nclamp, ndiv, nmod2, gdi, gdn, if_pos, if_neg, if_true, if_false]
    · unfold Ik
      by_cases c1 : 0 < lg_cmp (lI (Gv G c a (En G (i + 1)) (En G (his + 1)) false)) (lI (Gv G c a (En G (its + 1)) (En G (his + 1)) false))
      · simp (disch := omega) only [R _, Bool.toNat_true, Bool.true_and, r_endOf R W hi, h00, r_brings R W false hc ha, c1, decide_true, Bool.not_true, Bool.false_and, Bool.toNat_false, jns, bds, bvs, lts, gdt, nadd, nmul, nsub, nle, nlt, neq, nz0, nlt0, nle0, n0le, n0lt, nclamp, ndiv, nmod2, gdi, gdn, if_pos, if_neg, if_true, if_false]
      · by_cases c2 : lg_cmp (lI (Gv G c a (En G (its + 1)) (En G (i + 1)) false)) (lI (Gv G c a (En G (its + 1)) (En G (his + 1)) false)) < 0
        · simp (disch := omega) only [R _, Bool.toNat_true, Bool.true_and, r_endOf R W hi, r_endOf R W h2, h00, r_brings R W false hc ha, c1, c2, decide_true, decide_false, Bool.not_true, Bool.not_false, Bool.and_false, Bool.toNat_false, jns, bds, bvs, lts, gdt, nadd, nmul, nsub, nle, nlt, neq, nz0, nlt0, nle0, n0le, n0lt, nclamp, ndiv, nmod2, gdi, gdn, if_pos, if_neg, if_true, if_false]
        · simp (disch := omega) only [R _, Bool.toNat_true, Bool.true_and, r_endOf R W hi, r_endOf R W h2, h00, r_brings R W false hc ha, c1, c2, decide_true, decide_false, Bool.not_true, Bool.not_false, Bool.and_true, Bool.toNat_false, jns, bds, bvs, lts, gdt, nadd, nmul, nsub, nle, nlt, neq, nz0, nlt0, nle0, n0le, n0lt, nclamp, ndiv, nmod2, gdi, gdn, if_pos, if_neg, if_true, if_false]
  · rw [lp_X10_isRest_22]
    simp (disch := omega) only [R _, jns, bds, bvs, lts, gdt, nadd, nmul, nsub, nle, nlt, neq, nz0, nlt0, nle0, n0le, n0lt, nclamp, ndiv, nmod2, gdi, gdn, if_pos, if_neg, if_true, if_false]
    rw [gdz]
    · rfl
    · cases Al (Ik G c a his its) (G 92) <;> decide
theorem c_isRest (C : CG M g G) (W : GW G) {c a his its : Nat} (hc : c < G 95) (ha : a ≤ G 0) (h1 : his < G 92) (h2 : its < G 92) : f_X2_isRest g (nI c) (nI a) (nI his) (nI its) M = some (nI (Ir G c a his its).toNat, M) := by
  have h4 := W.parts
  have h5 := En_le W (show its + 1 ≤ G 92 by omega)
  have h6 := En_le W (show his + 1 ≤ G 92 by omega)
  unfold f_X2_isRest
  rw [c_endOf C W h1, bds, c_endOf C W h2, bds, h00, c_gainedIf C W false hc ha (by omega) (by omega), bds]
  have := lpA (fun f i => lp_X2_isRest_31 g (nI c) (nI a) (nI (En G (his + 1))) (nI (En G (its + 1))) (lI (Gv G c a (En G (its + 1)) (En G (his + 1)) false)) f (nI i) M) (G 92) (Ik G c a his its) (T := some (nI 1, M)) (F := some (nI 0, M)) (by omega) (fun f i hi hp => ?_) (fun f i hi hp => ?_) (fun f => ?_)
  · refine Eq.trans this ?_
    unfold Ir
    cases Al (Ik G c a his its) (G 92) <;> rfl
  · have h7 := En_le W (show i + 1 ≤ G 92 by omega)
    simp only [Ik, Bool.and_eq_true, Bool.not_eq_true', decide_eq_false_iff_not, Int32.not_lt] at hp
    rw [lp_X2_isRest_31]
    simp (disch := omega) only [C.f9, c_endOf C W hi, h00, c_gainedIf C W false hc ha, jns, bds, bvs, lts, gdt, nadd, nmul, nsub, nle, nlt, neq, nz0, nlt0, nle0, n0le, n0lt, nclamp, ndiv, nmod2, gdi, gdn, if_pos, if_neg, if_true, if_false]
    rw [if_neg (Int32.not_lt.mpr hp.1), if_pos hp.2]
  · have h7 := En_le W (show i + 1 ≤ G 92 by omega)
    simp only [Ik, Bool.and_eq_false_iff, Bool.not_eq_false', decide_eq_true_eq] at hp
    rw [lp_X2_isRest_31]
    simp (disch := omega) only [C.f9, c_endOf C W hi, h00, c_gainedIf C W false hc ha, jns, bds, bvs, lts, gdt, nadd, nmul, nsub, nle, nlt, neq, nz0, nlt0, nle0, n0le, n0lt, nclamp, ndiv, nmod2, gdi, gdn, if_pos, if_neg, if_true, if_false]
    rcases hp with hp | hp
    · rw [if_pos hp]
    · rw [if_neg (Int32.not_le.mpr hp)]
      split <;> rfl
  · rw [lp_X2_isRest_31]
    simp (disch := omega) only [C.f9, jns, bds, bvs, lts, gdt, nadd, nmul, nsub, nle, nlt, neq, nz0, nlt0, nle0, n0le, n0lt, nclamp, ndiv, nmod2, gdi, gdn, if_pos, if_neg, if_true, if_false]
theorem t0 (b : Bool) : (nI b.toNat = 0) = (b = false) := nh0 b
theorem rest_in (C : CG M g G) (R : RG M G) (W : GW G) {c a his : Nat} (hc : c < G 95) (ha : a ≤ G 0) (h1 : his < G 92) (y3 : Int32) (kA kB kA' kB' kC : Int32 → Mm → Option (Int32 × Mm)) : ∀ k j f f' f'' cnt, j + k = G 92 → k < f → k < f' → k < f'' → cnt + k ≤ 1000 →
    (∃ q m, q < G 92 ∧ m < 2000 ∧ y3 = nI m ∧ lp_X2_restAt_18 g (nI c) (nI a) y3 (nI his) kA kB f (nI cnt) (nI j) M = kA (nI q) M ∧ lp_X10_restOf_21 (nI c) (nI a) y3 (nI his) kA' kB' f' (nI cnt) (nI j) M = kA' (nI q) M ∧ ∃ n', lp_X2_countRests_17 g (nI c) (nI a) (nI his) kC f'' (nI cnt) (nI j) M = kC (nI n') M ∧ n' ≤ cnt + k) ∨
    (∃ n', cnt ≤ n' ∧ n' ≤ cnt + k ∧ lp_X2_restAt_18 g (nI c) (nI a) y3 (nI his) kA kB f (nI cnt) (nI j) M = kB (nI n') M ∧ lp_X10_restOf_21 (nI c) (nI a) y3 (nI his) kA' kB' f' (nI cnt) (nI j) M = kB' (nI n') M ∧ lp_X2_countRests_17 g (nI c) (nI a) (nI his) kC f'' (nI cnt) (nI j) M = kC (nI n') M) := by
  have h4 := W.parts
  intro k
  induction k with
  | zero =>
    intro j f f' f'' cnt hj hf hf' hf'' hcnt
    obtain ⟨f, rfl⟩ : ∃ g, f = g + 1 := ⟨f - 1, by omega⟩
    obtain ⟨f', rfl⟩ : ∃ g, f' = g + 1 := ⟨f' - 1, by omega⟩
    obtain ⟨f'', rfl⟩ : ∃ g, f'' = g + 1 := ⟨f'' - 1, by omega⟩
    refine .inr ⟨cnt, Nat.le_refl _, Nat.le_refl _, ?_, ?_, ?_⟩
    · rw [lp_X2_restAt_18]; simp (disch := omega) only [C.f9, jns, bds, bvs, lts, gdt, nadd, nmul, nsub, nle, nlt, neq, nz0, nlt0, nle0, n0le, n0lt, nclamp, ndiv, nmod2, gdi, gdn, if_pos, if_neg, if_true, if_false]
    · rw [lp_X10_restOf_21]; simp (disch := omega) only [R _, jns, bds, bvs, lts, gdt, nadd, nmul, nsub, nle, nlt, neq, nz0, nlt0, nle0, n0le, n0lt, nclamp, ndiv, nmod2, gdi, gdn, if_pos, if_neg, if_true, if_false]
    · rw [lp_X2_countRests_17]; simp (disch := omega) only [C.f9, jns, bds, bvs, lts, gdt, nadd, nmul, nsub, nle, nlt, neq, nz0, nlt0, nle0, n0le, n0lt, nclamp, ndiv, nmod2, gdi, gdn, if_pos, if_neg, if_true, if_false]
  | succ k ih =>
    intro j f f' f'' cnt hj hf hf' hf'' hcnt
    obtain ⟨f, rfl⟩ : ∃ g, f = g + 1 := ⟨f - 1, by omega⟩
    obtain ⟨f', rfl⟩ : ∃ g, f' = g + 1 := ⟨f' - 1, by omega⟩
    obtain ⟨f'', rfl⟩ : ∃ g, f'' = g + 1 := ⟨f'' - 1, by omega⟩
    rw [lp_X2_restAt_18, lp_X10_restOf_21, lp_X2_countRests_17]
    have e1 := c_isRest C W hc ha h1 (show j < G 92 by omega)
    have e2 := r_isRest R W hc ha h1 (show j < G 92 by omega)
    cases hb : Ir G c a his j
    · rw [hb] at e1 e2
      simp (disch := omega) only [C.f9, R _, e1, e2, Bool.toNat_false, jns, bds, bvs, lts, gdt, nadd, nmul, nsub, nle, nlt, neq, nz0, nlt0, nle0, n0le, n0lt, nclamp, ndiv, nmod2, gdi, gdn, if_pos, if_neg, if_true, if_false]
      rcases ih (j + 1) f f' f'' cnt (by omega) (by omega) (by omega) (by omega) (by omega) with ⟨q, m, z1, z2, z3, z4, z5, n', z6, z7⟩ | ⟨n', z1, z2, z3, z4, z5⟩
      · exact .inl ⟨q, m, z1, z2, z3, z4, z5, n', z6, by omega⟩
      · exact .inr ⟨n', z1, by omega, z3, z4, z5⟩
    · rw [hb] at e1 e2
      by_cases hy : nI cnt = y3
      · simp (disch := omega) only [C.f9, R _, e1, e2, Bool.toNat_true, hy, jns, bds, bvs, lts, gdt, nadd, nmul, nsub, nle, nlt, neq, nz0, nlt0, nle0, n0le, n0lt, nclamp, ndiv, nmod2, gdi, gdn, if_pos, if_neg, if_true, if_false]
        subst hy
        refine .inl ⟨j, cnt, by omega, by omega, rfl, rfl, rfl, ?_⟩
        simp (disch := omega) only [jns, bds, bvs, lts, gdt, nadd, nmul, nsub, nle, nlt, neq, nz0, nlt0, nle0, n0le, n0lt, nclamp, ndiv, nmod2, gdi, gdn, if_pos, if_neg, if_true, if_false]
        rcases ih (j + 1) f f' f'' (cnt + 1) (by omega) (by omega) (by omega) (by omega) (by omega) with ⟨q, m, z1, z2, z3, z4, z5, n', z6, z7⟩ | ⟨n', z1, z2, z3, z4, z5⟩
        · exact ⟨n', z6, by omega⟩
        · exact ⟨n', z5, by omega⟩
      · simp (disch := omega) only [C.f9, R _, e1, e2, Bool.toNat_true, hy, jns, bds, bvs, lts, gdt, nadd, nmul, nsub, nle, nlt, neq, nz0, nlt0, nle0, n0le, n0lt, nclamp, ndiv, nmod2, gdi, gdn, if_pos, if_neg, if_true, if_false]
        rcases ih (j + 1) f f' f'' (cnt + 1) (by omega) (by omega) (by omega) (by omega) (by omega) with ⟨q, m, z1, z2, z3, z4, z5, n', z6, z7⟩ | ⟨n', z1, z2, z3, z4, z5⟩
        · exact .inl ⟨q, m, z1, z2, z3, z4, z5, n', z6, by omega⟩
        · exact .inr ⟨n', by omega, by omega, z3, z4, z5⟩
theorem rest_out (C : CG M g G) (R : RG M G) (W : GW G) {c a : Nat} (hc : c < G 95) (ha : a ≤ G 0) (y3 : Int32) (kA : Int32 → Int32 → Mm → Option (Int32 × Mm)) (kA' : Int32 → Int32 → Mm → Option (Int32 × Mm)) (kB' : Int32 → Mm → Option (Int32 × Mm)) : ∀ k h f f' f'' cnt, h + k = G 92 → k < f → k < f' → k < f'' → cnt + 5 * k ≤ 1000 →
    (∃ h' q m, h' < G 92 ∧ q < G 92 ∧ m < 2000 ∧ y3 = nI m ∧ lp_X2_restAt_6 g (nI c) (nI a) y3 kA f (nI cnt) (nI h) M = kA (nI h') (nI q) M ∧ lp_X10_restOf_6 (nI c) (nI a) y3 kA' kB' f' (nI cnt) (nI h) M = kA' (nI h') (nI q) M ∧ ∃ n', n' ≤ cnt + 5 * k ∧ lp_X2_countRests_5 g (nI c) (nI a) f'' (nI cnt) (nI h) M = some (nI n', M)) ∨
    (∃ n', n' ≤ cnt + 5 * k ∧ lp_X2_restAt_6 g (nI c) (nI a) y3 kA f (nI cnt) (nI h) M = some (-1, M) ∧ lp_X10_restOf_6 (nI c) (nI a) y3 kA' kB' f' (nI cnt) (nI h) M = kB' (nI n') M ∧ lp_X2_countRests_5 g (nI c) (nI a) f'' (nI cnt) (nI h) M = some (nI n', M)) := by
  have h4 := W.parts
  intro k
  induction k with
  | zero =>
    intro h f f' f'' cnt hj hf hf' hf'' hcnt
    obtain ⟨f, rfl⟩ : ∃ g, f = g + 1 := ⟨f - 1, by omega⟩
    obtain ⟨f', rfl⟩ : ∃ g, f' = g + 1 := ⟨f' - 1, by omega⟩
    obtain ⟨f'', rfl⟩ : ∃ g, f'' = g + 1 := ⟨f'' - 1, by omega⟩
    refine .inr ⟨cnt, by omega, ?_, ?_, ?_⟩
    · rw [lp_X2_restAt_6]; simp (disch := omega) only [C.f9, jns, bds, bvs, lts, gdt, nadd, nmul, nsub, nle, nlt, neq, nz0, nlt0, nle0, n0le, n0lt, nclamp, ndiv, nmod2, gdi, gdn, if_pos, if_neg, if_true, if_false]
    · rw [lp_X10_restOf_6]; simp (disch := omega) only [R _, jns, bds, bvs, lts, gdt, nadd, nmul, nsub, nle, nlt, neq, nz0, nlt0, nle0, n0le, n0lt, nclamp, ndiv, nmod2, gdi, gdn, if_pos, if_neg, if_true, if_false]
    · rw [lp_X2_countRests_5]; simp (disch := omega) only [C.f9, jns, bds, bvs, lts, gdt, nadd, nmul, nsub, nle, nlt, neq, nz0, nlt0, nle0, n0le, n0lt, nclamp, ndiv, nmod2, gdi, gdn, if_pos, if_neg, if_true, if_false]
  | succ k ih =>
    intro h f f' f'' cnt hj hf hf' hf'' hcnt
    obtain ⟨f, rfl⟩ : ∃ g, f = g + 1 := ⟨f - 1, by omega⟩
    obtain ⟨f', rfl⟩ : ∃ g, f' = g + 1 := ⟨f' - 1, by omega⟩
    obtain ⟨f'', rfl⟩ : ∃ g, f'' = g + 1 := ⟨f'' - 1, by omega⟩
    rw [lp_X2_restAt_6, lp_X10_restOf_6, lp_X2_countRests_5]
    simp (disch := omega) only [C.f9, R _, jns, bds, bvs, lts, gdt, nadd, nmul, nsub, nle, nlt, neq, nz0, nlt0, nle0, n0le, n0lt, nclamp, ndiv, nmod2, gdi, gdn, if_pos, if_neg, if_true, if_false]
    rcases rest_in C R W hc ha (show h < G 92 by omega) y3 (fun u9 M10 => kA (nI h) u9 M10) (fun u11 M12 => lp_X2_restAt_6 g (nI c) (nI a) y3 kA f u11 (nI (h + 1)) M12) (fun u9 M10 => kA' (nI h) u9 M10) (fun u11 M12 => lp_X10_restOf_6 (nI c) (nI a) y3 kA' kB' f' u11 (nI (h + 1)) M12) (fun u8 M9 => lp_X2_countRests_5 g (nI c) (nI a) f'' u8 (nI (h + 1)) M9) (G 92) 0 N0 N0 N0 cnt (by omega) (by unfold N0; omega) (by unfold N0; omega) (by unfold N0; omega) (by omega) with ⟨q, m, z1, z2, z3, z4, z5, n', z6, z7⟩ | ⟨n', z1, z2, z3, z4, z5⟩
    · rw [z4, z5, z6]
      refine .inl ⟨h, q, m, by omega, z1, z2, z3, rfl, rfl, ?_⟩
      rcases ih (h + 1) f f' f'' n' (by omega) (by omega) (by omega) (by omega) (by omega) with ⟨h', q, m, y1, y2, y3, y4, y5, y6, n2, y7, y8⟩ | ⟨n2, y1, y2, y3, y4⟩
      · exact ⟨n2, by omega, y8⟩
      · exact ⟨n2, by omega, y4⟩
    · rw [z3, z4, z5]
      rcases ih (h + 1) f f' f'' n' (by omega) (by omega) (by omega) (by omega) (by omega) with ⟨h', q, m, y1, y2, y3, y4, y5, y6, n2, y7, y8⟩ | ⟨n2, y1, y2, y3, y4⟩
      · exact .inl ⟨h', q, m, y1, y2, y3, y4, y5, y6, n2, by omega, y8⟩
      · exact .inr ⟨n2, by omega, y2, y3, y4⟩
/-- the pair at i, or none -/
theorem rest_at (C : CG M g G) (R : RG M G) (W : GW G) {c a : Nat} (hc : c < G 95) (ha : a ≤ G 0) (y3 : Int32) :
    (∃ n m, n < 100 ∧ m < 2000 ∧ y3 = nI m ∧ f_X2_restAt g (nI c) (nI a) y3 M = some (nI n, M) ∧ f_X10_restOf (nI c) (nI a) y3 M = some (nI n, M)) ∨
    (∃ n, n < 100 ∧ f_X2_restAt g (nI c) (nI a) y3 M = some (-1, M) ∧ f_X10_restOf (nI c) (nI a) y3 M = some (nI n - nI 1000, M) ∧ f_X2_countRests g (nI c) (nI a) M = some (nI n, M)) := by
  have h4 := W.parts
  rcases rest_out C R W hc ha y3 (fun (u14 : Int32) (u15 : Int32) (M16 : Mm) => some (((u14 * (nI 10)) + u15), M16)) (fun (u14 : Int32) (u15 : Int32) (M16 : Mm) => some ((((nI 10) * u14) + u15), M16)) (fun (u17 : Int32) (M18 : Mm) => some ((u17 - (nI 1000)), M18)) (G 92) 0 N0 N0 N0 0 (by omega) (by unfold N0; omega) (by unfold N0; omega) (by unfold N0; omega) (by omega) with ⟨h', q, m, z1, z2, z3, z4, z5, z6, z7⟩ | ⟨n, z1, z2, z3, z4⟩
  · refine .inl ⟨10 * h' + q, m, by omega, z3, z4, ?_, ?_⟩
    · unfold f_X2_restAt
      rw [z5]
      simp (disch := omega) only [jns, bds, bvs, lts, gdt, nadd, nmul, nsub, nle, nlt, neq, nz0, nlt0, nle0, n0le, n0lt, nclamp, ndiv, nmod2, gdi, gdn, if_pos, if_neg, if_true, if_false]
      rw [Nat.mul_comm]
    · unfold f_X10_restOf
      rw [z6]
      simp (disch := omega) only [jns, bds, bvs, lts, gdt, nadd, nmul, nsub, nle, nlt, neq, nz0, nlt0, nle0, n0le, n0lt, nclamp, ndiv, nmod2, gdi, gdn, if_pos, if_neg, if_true, if_false]
  · exact .inr ⟨n, by omega, z2, z3, z4⟩
theorem nneg {m : Nat} (h : m < 2 ^ 31) : (-1 : Int32) ≠ nI m := fun z => by
  have h2 := ntoInt h
  rw [← z] at h2
  have h3 : (-1 : Int32).toInt = -1 := by decide
  omega
theorem rest_count (C : CG M g G) (R : RG M G) (W : GW G) {c a : Nat} (hc : c < G 95) (ha : a ≤ G 0) : ∃ n, n < 100 ∧ f_X10_restOf (nI c) (nI a) (-1) M = some (nI n - nI 1000, M) ∧ f_X2_countRests g (nI c) (nI a) M = some (nI n, M) := by
  rcases rest_at C R W hc ha (-1) with ⟨n, m, z1, z2, z3, -⟩ | ⟨n, z1, z2, z3, z4⟩
  · exact absurd z3 (nneg (by omega))
  · exact ⟨n, z1, z3, z4⟩
end
