/-! RESTS: class and reference at two memories. -/
section
variable {M M' : Mm} {G : Nat → Nat} {g : Nat}
theorem rst_in (C : CG M g G) (R : RG M' G) (W : GW G) {c a his : Nat} (hc : c < G 95) (ha : a ≤ G 0) (h1 : his < G 92) (y3 : Int32) (kA kB kA' kB' kC : Int32 → Mm → Option (Int32 × Mm)) : ∀ k j f f' f'' cnt, j + k = G 92 → k < f → k < f' → k < f'' → cnt + k ≤ 1000 →
    (∃ q m, q < G 92 ∧ m < 2000 ∧ y3 = nI m ∧ lp_X2_restAt_18 g (nI c) (nI a) y3 (nI his) kA kB f (nI cnt) (nI j) M = kA (nI q) M ∧ lp_X10_restOf_21 (nI c) (nI a) y3 (nI his) kA' kB' f' (nI cnt) (nI j) M' = kA' (nI q) M' ∧ ∃ n', lp_X2_countRests_17 g (nI c) (nI a) (nI his) kC f'' (nI cnt) (nI j) M = kC (nI n') M ∧ n' ≤ cnt + k) ∨
    (∃ n', cnt ≤ n' ∧ n' ≤ cnt + k ∧ lp_X2_restAt_18 g (nI c) (nI a) y3 (nI his) kA kB f (nI cnt) (nI j) M = kB (nI n') M ∧ lp_X10_restOf_21 (nI c) (nI a) y3 (nI his) kA' kB' f' (nI cnt) (nI j) M' = kB' (nI n') M' ∧ lp_X2_countRests_17 g (nI c) (nI a) (nI his) kC f'' (nI cnt) (nI j) M = kC (nI n') M) := by
  have h4 := W.parts
  intro k
  induction k with
  | zero =>
    intro j f f' f'' cnt hj hf hf' hf'' hcnt
    obtain ⟨f, rfl⟩ : ∃ g, f = g + 1 := ⟨f - 1, by omega⟩
    obtain ⟨f', rfl⟩ : ∃ g, f' = g + 1 := ⟨f' - 1, by omega⟩
    obtain ⟨f'', rfl⟩ : ∃ g, f'' = g + 1 := ⟨f'' - 1, by omega⟩
    refine .inr ⟨cnt, Nat.le_refl _, Nat.le_refl _, ?_, ?_, ?_⟩
    · rw [lp_X2_restAt_18]; simp (disch := omega) only [C.f9, jns, bds, bvs, lts, gdt, nadd, nmul, nsub, nle, nlt, neq, nz0, nlt0, nle0, n0le, n0lt, nclamp, ndiv, nmod2, gdi, gdn, if_pos, if_neg, if_true, if_false]
    · rw [lp_X10_restOf_21]; simp (disch := omega) only [R _, jns, bds, bvs, lts, gdt, nadd, nmul, nsub, nle, nlt, neq, nz0, nlt0, nle0, n0le, n0lt, nclamp, ndiv, nmod2, gdi, gdn, if_pos, if_neg, if_true, if_false]
    · rw [lp_X2_countRests_17]; simp (disch := omega) only [C.f9, jns, bds, bvs, lts, gdt, nadd, nmul, nsub, nle, nlt, neq, nz0, nlt0, nle0, n0le, n0lt, nclamp, ndiv, nmod2, gdi, gdn, if_pos, if_neg, if_true, if_false]
  | succ k ih =>
    intro j f f' f'' cnt hj hf hf' hf'' hcnt
    obtain ⟨f, rfl⟩ : ∃ g, f = g + 1 := ⟨f - 1, by omega⟩
    obtain ⟨f', rfl⟩ : ∃ g, f' = g + 1 := ⟨f' - 1, by omega⟩
    obtain ⟨f'', rfl⟩ : ∃ g, f'' = g + 1 := ⟨f'' - 1, by omega⟩
    rw [lp_X2_restAt_18, lp_X10_restOf_21, lp_X2_countRests_17]
    have e1 := c_isRest C W hc ha h1 (show j < G 92 by omega)
    have e2 := r_isRest R W hc ha h1 (show j < G 92 by omega)
    cases hb : Ir G c a his j
    · rw [hb] at e1 e2
      simp (disch := omega) only [C.f9, R _, e1, e2, Bool.toNat_false, jns, bds, bvs, lts, gdt, nadd, nmul, nsub, nle, nlt, neq, nz0, nlt0, nle0, n0le, n0lt, nclamp, ndiv, nmod2, gdi, gdn, if_pos, if_neg, if_true, if_false]
      rcases ih (j + 1) f f' f'' cnt (by omega) (by omega) (by omega) (by omega) (by omega) with ⟨q, m, z1, z2, z3, z4, z5, n', z6, z7⟩ | ⟨n', z1, z2, z3, z4, z5⟩
      · exact .inl ⟨q, m, z1, z2, z3, z4, z5, n', z6, by omega⟩
      · exact .inr ⟨n', z1, by omega, z3, z4, z5⟩
    · rw [hb] at e1 e2
      by_cases hy : nI cnt = y3
      · simp (disch := omega) only [C.f9, R _, e1, e2, Bool.toNat_true, hy, jns, bds, bvs, lts, gdt, nadd, nmul, nsub, nle, nlt, neq, nz0, nlt0, nle0, n0le, n0lt, nclamp, ndiv, nmod2, gdi, gdn, if_pos, if_neg, if_true, if_false]
        subst hy
        refine .inl ⟨j, cnt, by omega, by omega, rfl, rfl, rfl, ?_⟩
        simp (disch := omega) only [jns, bds, bvs, lts, gdt, nadd, nmul, nsub, nle, nlt, neq, nz0, nlt0, nle0, n0le, n0lt, nclamp, ndiv, nmod2, gdi, gdn, if_pos, if_neg, if_true, if_false]
        rcases ih (j + 1) f f' f'' (cnt + 1) (by omega) (by omega) (by omega) (by omega) (by omega) with ⟨q, m, z1, z2, z3, z4, z5, n', z6, z7⟩ | ⟨n', z1, z2, z3, z4, z5⟩
        · exact ⟨n', z6, by omega⟩
        · exact ⟨n', z5, by omega⟩
      · simp (disch := omega) only [C.f9, R _, e1, e2, Bool.toNat_true, hy, jns, bds, bvs, lts, gdt, nadd, nmul, nsub, nle, nlt, neq, nz0, nlt0, nle0, n0le, n0lt, nclamp, ndiv, nmod2, gdi, gdn, if_pos, if_neg, if_true, if_false]
        rcases ih (j + 1) f f' f'' (cnt + 1) (by omega) (by omega) (by omega) (by omega) (by omega) with ⟨q, m, z1, z2, z3, z4, z5, n', z6, z7⟩ | ⟨n', z1, z2, z3, z4, z5⟩
        · exact .inl ⟨q, m, z1, z2, z3, z4, z5, n', z6, by omega⟩
        · exact .inr ⟨n', by omega, by omega, z3, z4, z5⟩
theorem rst_out (C : CG M g G) (R : RG M' G) (W : GW G) {c a : Nat} (hc : c < G 95) (ha : a ≤ G 0) (y3 : Int32) (kA : Int32 → Int32 → Mm → Option (Int32 × Mm)) (kA' : Int32 → Int32 → Mm → Option (Int32 × Mm)) (kB' : Int32 → Mm → Option (Int32 × Mm)) : ∀ k h f f' f'' cnt, h + k = G 92 → k < f → k < f' → k < f'' → cnt + 5 * k ≤ 1000 →
    (∃ h' q m, h' < G 92 ∧ q < G 92 ∧ m < 2000 ∧ y3 = nI m ∧ lp_X2_restAt_6 g (nI c) (nI a) y3 kA f (nI cnt) (nI h) M = kA (nI h') (nI q) M ∧ lp_X10_restOf_6 (nI c) (nI a) y3 kA' kB' f' (nI cnt) (nI h) M' = kA' (nI h') (nI q) M' ∧ ∃ n', n' ≤ cnt + 5 * k ∧ lp_X2_countRests_5 g (nI c) (nI a) f'' (nI cnt) (nI h) M = some (nI n', M)) ∨
    (∃ n', n' ≤ cnt + 5 * k ∧ lp_X2_restAt_6 g (nI c) (nI a) y3 kA f (nI cnt) (nI h) M = some (-1, M) ∧ lp_X10_restOf_6 (nI c) (nI a) y3 kA' kB' f' (nI cnt) (nI h) M' = kB' (nI n') M' ∧ lp_X2_countRests_5 g (nI c) (nI a) f'' (nI cnt) (nI h) M = some (nI n', M)) := by
  have h4 := W.parts
  intro k
  induction k with
  | zero =>
    intro h f f' f'' cnt hj hf hf' hf'' hcnt
    obtain ⟨f, rfl⟩ : ∃ g, f = g + 1 := ⟨f - 1, by omega⟩
    obtain ⟨f', rfl⟩ : ∃ g, f' = g + 1 := ⟨f' - 1, by omega⟩
    obtain ⟨f'', rfl⟩ : ∃ g, f'' = g + 1 := ⟨f'' - 1, by omega⟩
    refine .inr ⟨cnt, by omega, ?_, ?_, ?_⟩
    · rw [lp_X2_restAt_6]; simp (disch := omega) only [C.f9, jns, bds, bvs, lts, gdt, nadd, nmul, nsub, nle, nlt, neq, nz0, nlt0, nle0, n0le, n0lt, nclamp, ndiv, nmod2, gdi, gdn, if_pos, if_neg, if_true, if_false]
    · rw [lp_X10_restOf_6]; simp (disch := omega) only [R _, jns, bds, bvs, lts, gdt, nadd, nmul, nsub, nle, nlt, neq, nz0, nlt0, nle0, n0le, n0lt, nclamp, ndiv, nmod2, gdi, gdn, if_pos, if_neg, if_true, if_false]
    · rw [lp_X2_countRests_5]; simp (disch := omega) only [C.f9, jns, bds, bvs, lts, gdt, nadd, nmul, nsub, nle, nlt, neq, nz0, nlt0, nle0, n0le, n0lt, nclamp, ndiv, nmod2, gdi, gdn, if_pos, if_neg, if_true, if_false]
  | succ k ih =>
    intro h f f' f'' cnt hj hf hf' hf'' hcnt
    obtain ⟨f, rfl⟩ : ∃ g, f = g + 1 := ⟨f - 1, by omega⟩
    obtain ⟨f', rfl⟩ : ∃ g, f' = g + 1 := ⟨f' - 1, by omega⟩
    obtain ⟨f'', rfl⟩ : ∃ g, f'' = g + 1 := ⟨f'' - 1, by omega⟩
    rw [lp_X2_restAt_6, lp_X10_restOf_6, lp_X2_countRests_5]
    simp (disch := omega) only [C.f9, R _, jns, bds, bvs, lts, gdt, nadd, nmul, nsub, nle, nlt, neq, nz0, nlt0, nle0, n0le, n0lt, nclamp, ndiv, nmod2, gdi, gdn, if_pos, if_neg, if_true, if_false]
    rcases rst_in C R W hc ha (show h < G 92 by omega) y3 (fun u9 M10 => kA (nI h) u9 M10) (fun u11 M12 => lp_X2_restAt_6 g (nI c) (nI a) y3 kA f u11 (nI (h + 1)) M12) (fun u9 M10 => kA' (nI h) u9 M10) (fun u11 M12 => lp_X10_restOf_6 (nI c) (nI a) y3 kA' kB' f' u11 (nI (h + 1)) M12) (fun u8 M9 => lp_X2_countRests_5 g (nI c) (nI a) f'' u8 (nI (h + 1)) M9) (G 92) 0 N0 N0 N0 cnt (by omega) (by unfold N0; omega) (by unfold N0; omega) (by unfold N0; omega) (by omega) with ⟨q, m, z1, z2, z3, z4, z5, n', z6, z7⟩ | ⟨n', z1, z2, z3, z4, z5⟩
    · rw [z4, z5, z6]
      refine .inl ⟨h, q, m, by omega, z1, z2, z3, rfl, rfl, ?_⟩
      rcases ih (h + 1) f f' f'' n' (by omega) (by omega) (by omega) (by omega) (by omega) with ⟨h', q, m, y1, y2, y3, y4, y5, y6, n2, y7, y8⟩ | ⟨n2, y1, y2, y3, y4⟩
      · exact ⟨n2, by omega, y8⟩
      · exact ⟨n2, by omega, y4⟩
    · rw [z3, z4, z5]
      rcases ih (h + 1) f f' f'' n' (by omega) (by omega) (by omega) (by omega) (by omega) with ⟨h', q, m, y1, y2, y3, y4, y5, y6, n2, y7, y8⟩ | ⟨n2, y1, y2, y3, y4⟩
      · exact .inl ⟨h', q, m, y1, y2, y3, y4, y5, y6, n2, by omega, y8⟩
      · exact .inr ⟨n2, by omega, y2, y3, y4⟩
/-- the pair at i, or none -/
theorem rst_at (C : CG M g G) (R : RG M' G) (W : GW G) {c a : Nat} (hc : c < G 95) (ha : a ≤ G 0) (y3 : Int32) :
    (∃ n m, n < 100 ∧ m < 2000 ∧ y3 = nI m ∧ f_X2_restAt g (nI c) (nI a) y3 M = some (nI n, M) ∧ f_X10_restOf (nI c) (nI a) y3 M' = some (nI n, M')) ∨
    (∃ n, n < 100 ∧ f_X2_restAt g (nI c) (nI a) y3 M = some (-1, M) ∧ f_X10_restOf (nI c) (nI a) y3 M' = some (nI n - nI 1000, M') ∧ f_X2_countRests g (nI c) (nI a) M = some (nI n, M)) := by
  have h4 := W.parts
  rcases rst_out C R W hc ha y3 (fun (u14 : Int32) (u15 : Int32) (M16 : Mm) => some (((u14 * (nI 10)) + u15), M16)) (fun (u14 : Int32) (u15 : Int32) (M16 : Mm) => some ((((nI 10) * u14) + u15), M16)) (fun (u17 : Int32) (M18 : Mm) => some ((u17 - (nI 1000)), M18)) (G 92) 0 N0 N0 N0 0 (by omega) (by unfold N0; omega) (by unfold N0; omega) (by unfold N0; omega) (by omega) with ⟨h', q, m, z1, z2, z3, z4, z5, z6, z7⟩ | ⟨n, z1, z2, z3, z4⟩
  · refine .inl ⟨10 * h' + q, m, by omega, z3, z4, ?_, ?_⟩
    · unfold f_X2_restAt
      rw [z5]
      simp (disch := omega) only [jns, bds, bvs, lts, gdt, nadd, nmul, nsub, nle, nlt, neq, nz0, nlt0, nle0, n0le, n0lt, nclamp, ndiv, nmod2, gdi, gdn, if_pos, if_neg, if_true, if_false]
      rw [Nat.mul_comm]
    · unfold f_X10_restOf
      rw [z6]
      simp (disch := omega) only [jns, bds, bvs, lts, gdt, nadd, nmul, nsub, nle, nlt, neq, nz0, nlt0, nle0, n0le, n0lt, nclamp, ndiv, nmod2, gdi, gdn, if_pos, if_neg, if_true, if_false]
  · exact .inr ⟨n, by omega, z2, z3, z4⟩
theorem rst_count (C : CG M g G) (R : RG M' G) (W : GW G) {c a : Nat} (hc : c < G 95) (ha : a ≤ G 0) : ∃ n, n < 100 ∧ f_X10_restOf (nI c) (nI a) (-1) M' = some (nI n - nI 1000, M') ∧ f_X2_countRests g (nI c) (nI a) M = some (nI n, M) := by
  rcases rst_at C R W hc ha (-1) with ⟨n, m, z1, z2, z3, -⟩ | ⟨n, z1, z2, z3, z4⟩
  · exact absurd z3 (nneg (by omega))
  · exact ⟨n, z1, z3, z4⟩
end
