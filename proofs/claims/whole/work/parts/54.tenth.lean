/-! A TENTH: who touches, who is caught. -/
theorem orI : ∀ b, b < 32 → ∀ c, c < 5 → b < 2 ^ c → (nI b ||| (nI 1 <<< (nI c &&& 31))) = nI (b + 2 ^ c) := by
  have : ∀ b : Fin 32, ∀ c : Fin 5, b.1 < 2 ^ c.1 → (nI b.1 ||| (nI 1 <<< (nI c.1 &&& 31))) = nI (b.1 + 2 ^ c.1) := by decide +kernel
  exact fun b hb c hc => this ⟨b, hb⟩ ⟨c, hc⟩
/-- the first that stands at the wall, of n creepers -/
def Tw (G : Nat → Nat) (at_ : Nat → Nat) : Nat → Int32 → Int32
  | 0, z => z
  | k + 1, z => Tw G at_ k (if at_ k = G 0 then nI k else z)
theorem Tw_none {G at_ : Nat → Nat} : ∀ {n : Nat} {z : Int32}, (∀ j, j < n → at_ j ≠ G 0) → Tw G at_ n z = z
  | 0, _, _ => rfl
  | n + 1, z, h => by
    rw [Tw, if_neg (h n (by omega))]
    exact Tw_none (fun j hj => h j (by omega))
theorem Tw_hit {G at_ : Nat → Nat} {i : Nat} (hi : at_ i = G 0) (h : ∀ j, j < i → at_ j ≠ G 0) : ∀ {n : Nat} {z : Int32}, i < n → Tw G at_ n z = nI i
  | 0, _, hn => by omega
  | n + 1, z, hn => by
    rw [Tw]
    by_cases c : i = n
    · subst c
      rw [if_pos hi]
      exact Tw_none h
    · exact Tw_hit hi h (by omega)
theorem Tw_or {G at_ : Nat → Nat} : ∀ {n : Nat}, ((∀ j, j < n → at_ j ≠ G 0) ∧ ∀ z, Tw G at_ n z = z) ∨ ∃ i, i < n ∧ at_ i = G 0 ∧ (∀ j, j < i → at_ j ≠ G 0) ∧ ∀ z, Tw G at_ n z = nI i
  | 0 => .inl ⟨fun j h => by omega, fun _ => rfl⟩
  | n + 1 => by
    rcases Tw_or (G := G) (at_ := at_) (n := n) with ⟨h1, h2⟩ | ⟨i, h1, h2, h3, h4⟩
    · by_cases c : at_ n = G 0
      · exact .inr ⟨n, by omega, c, h1, fun z => Tw_hit c h1 (by omega)⟩
      · refine .inl ⟨fun j hj => ?_, fun z => ?_⟩
        · by_cases hjn : j = n
          · subst hjn; exact c
          · exact h1 j (by omega)
        · rw [Tw, if_neg c, h2]
    · exact .inr ⟨i, by omega, h2, h3, fun z => Tw_hit h2 h3 (by omega)⟩
theorem c_firstAtWall {M : Mm} {G : Nat → Nat} {g p : Nat} (C : CG M g G) (W : GW G) (P : PC p) {at_ : Nat → Nat} (ha : ∀ c, c < G 95 → M (p + 1) c = nI (at_ c) ∧ at_ c ≤ G 0) : f_X3_firstAtWall p g M = some (Tw G at_ (G 95) (-2), M) := by
  have h2 := W.creepers
  have hl := W.long
  have step : ∀ f i, i < G 95 → at_ i ≠ G 0 → lp_X3_firstAtWall_2 p g (f + 1) (nI i) M = lp_X3_firstAtWall_2 p g f (nI (i + 1)) M := by
    intro f i hi hne
    have h3 := ha i hi
    have a1 := p_at (M := M) P (show 1 ≤ 1 by decide) (show 1 ≤ 9 by decide) (show i < 5 by omega)
    rw [h3.1] at a1
    rw [lp_X3_firstAtWall_2]
    simp (disch := omega) only [C.f14, C.f6, a1, jns, bds, bvs, lts, gdt, nadd, nmul, nsub, nle, nlt, neq, nz0, nlt0, nle0, n0le, n0lt, nclamp, ndiv, nmod2, gdi, gdn, if_pos, if_neg, if_true, if_false]
  unfold f_X3_firstAtWall
  rcases Tw_or (G := G) (at_ := at_) (n := G 95) with ⟨h1, h4⟩ | ⟨i, h1, h5, h3, h4⟩
  · rw [h4]
    refine lp0 (fun f i => lp_X3_firstAtWall_2 p g f (nI i) M) (G 95) (by omega) (fun f i hi => step f i hi (h1 i hi)) (fun f => ?_)
    rw [lp_X3_firstAtWall_2]
    simp (disch := omega) only [C.f14, jns, bds, bvs, lts, gdt, nadd, nmul, nsub, nle, nlt, neq, nz0, nlt0, nle0, n0le, n0lt, nclamp, ndiv, nmod2, gdi, gdn, if_pos, if_neg, if_true, if_false]
  · rw [h4]
    refine lp0 (fun f i => lp_X3_firstAtWall_2 p g f (nI i) M) i (by omega) (fun f j hj => step f j (by omega) (h3 j hj)) (fun f => ?_)
    have h6 := ha i h1
    have a1 := p_at (M := M) P (show 1 ≤ 1 by decide) (show 1 ≤ 9 by decide) (show i < 5 by omega)
    rw [h6.1] at a1
    rw [lp_X3_firstAtWall_2]
    simp (disch := omega) only [C.f14, C.f6, a1, jns, bds, bvs, lts, gdt, nadd, nmul, nsub, nle, nlt, neq, nz0, nlt0, nle0, n0le, n0lt, nclamp, ndiv, nmod2, gdi, gdn, if_pos, if_neg, if_true, if_false]
theorem r_touch {M0 : Mm} {G : Nat → Nat} (R : RG M0 G) (W : GW G) {at_ : Nat → Nat} (ha : ∀ c, c < G 95 → M0 86 (9 + c) = nI (at_ c) ∧ at_ c ≤ G 0) (k : Mm → Option (Int32 × Mm)) : ∀ n f M z, n ≤ G 95 → n < f → (∀ a, a ≠ 86 → M a = M0 a) → (∀ k, k ≠ 5 → M 86 k = M0 86 k) → M 86 5 = z →
    ∃ M', lp_X10_tenth_170 k f (nI n - nI 1) M = k M' ∧ (∀ a, a ≠ 86 → M' a = M0 a) ∧ (∀ k, k ≠ 5 → M' 86 k = M0 86 k) ∧ M' 86 5 = Tw G at_ n z := by
  have h2 := W.creepers
  have hl := W.long
  intro n
  induction n with
  | zero =>
    intro f M z hn hf h1 h3 h4
    obtain ⟨f, rfl⟩ : ∃ g, f = g + 1 := ⟨f - 1, by omega⟩
    refine ⟨M, ?_, h1, h3, h4⟩
    rw [lp_X10_tenth_170, show nI 0 - nI 1 = (-1 : Int32) from by decide, if_pos (by decide)]
  | succ n ih =>
    intro f M z hn hf h1 h3 h4
    obtain ⟨f, rfl⟩ : ∃ g, f = g + 1 := ⟨f - 1, by omega⟩
    have h5 := ha n (by omega)
    have ea : M 86 (9 + n) = nI (at_ n) := by rw [h3 (9 + n) (by omega)]; exact h5.1
    have e0 : M 84 0 = nI (G 0) := by rw [h1 84 (by decide)]; exact R 0 (by decide)
    have em : nI n + (-1 : Int32) = nI n - nI 1 := by
      rw [show (-1 : Int32) = - nI 1 from by decide, ← Int32.sub_eq_add_neg]
    rw [lp_X10_tenth_170, show nI (n + 1) - nI 1 = nI n from by rw [nsub (by omega)]; rfl, Tw]
    by_cases c : at_ n = G 0
    · obtain ⟨M', z1, z2, z3, z4⟩ := ih f (mset M 86 5 (nI n)) (nI n) (by omega) (by omega) (fun a h => by rw [mset_off _ _ _ h]; exact h1 a h) (fun k hk => by simp (disch := omega) only [ms1, ms1, ms2, ms3]; exact h3 k hk) (by simp (disch := omega) only [ms1, ms1, ms2, ms3])
      refine ⟨M', ?_, z2, z3, by rw [if_pos c]; exact z4⟩
      simp (disch := omega) only [ea, e0, em, jns, bds, bvs, lts, gdt, nadd, nmul, nsub, nle, nlt, neq, nz0, nlt0, nle0, n0le, n0lt, nclamp, ndiv, nmod2, gdi, gdn, if_pos, if_neg, if_true, if_false]
      exact z1
    · obtain ⟨M', z1, z2, z3, z4⟩ := ih f M z (by omega) (by omega) h1 h3 h4
      refine ⟨M', ?_, z2, z3, by rw [if_neg c]; exact z4⟩
      simp (disch := omega) only [ea, e0, em, jns, bds, bvs, lts, gdt, nadd, nmul, nsub, nle, nlt, neq, nz0, nlt0, nle0, n0le, n0lt, nclamp, ndiv, nmod2, gdi, gdn, if_pos, if_neg, if_true, if_false]
      exact z1
/-- who is caught, as bits, of n creepers -/
def Cb (G : Nat → Nat) (at_ : Nat → Nat) (touch : Int32) : Nat → Nat
  | 0 => 0
  | k + 1 => if nI k = touch then Cb G at_ touch k else if Ct G k (at_ k) then Cb G at_ touch k + 2 ^ k else Cb G at_ touch k
theorem Cb_lt {G at_ : Nat → Nat} {touch : Int32} : ∀ n, Cb G at_ touch n < 2 ^ n
  | 0 => by simp [Cb]
  | n + 1 => by
    have := Cb_lt (G := G) (at_ := at_) (touch := touch) n
    rw [Cb, Nat.pow_succ]
    split
    · omega
    · split <;> omega
theorem r_run {M0 : Mm} {G : Nat → Nat} (R : RG M0 G) (W : GW G) {at_ : Nat → Nat} (ha : ∀ c, c < G 95 → M0 86 (9 + c) = nI (at_ c) ∧ at_ c ≤ G 0) {touch : Int32} (ht : M0 86 5 = touch) :
    ∃ M', f_X10_run M0 = some M' ∧ (∀ a, a ≠ 86 → M' a = M0 a) ∧ (∀ k, k ≠ 7 → k ≠ 8 → M' 86 k = M0 86 k) ∧ M' 86 8 = nI 1 ∧ M' 86 7 = nI (Cb G at_ touch (G 95)) := by
  have h2 := W.creepers
  have hl := W.long
  unfold f_X10_run
  refine lpM (fun f i M => lp_X10_run_18 f (nI i) M) (G 95) (fun i M => (∀ a, a ≠ 86 → M a = M0 a) ∧ (∀ k, k ≠ 7 → k ≠ 8 → M 86 k = M0 86 k) ∧ M 86 8 = nI 1 ∧ M 86 7 = nI (Cb G at_ touch i)) some (by omega) (fun f i M hi T => ?_) (fun f M T => ?_) _ ⟨fun a h => by rw [mset_off _ _ _ h, mset_off _ _ _ h], fun k h h' => by simp (disch := omega) only [ms1, ms1, ms2, ms3], by simp (disch := omega) only [ms1, ms1, ms2, ms3], by simp (disch := omega) only [ms1, ms1, ms2, ms3]; rfl⟩
  · obtain ⟨h1, h3, h4, h5⟩ := T
    have R' : RG M G := fun k hk => by rw [h1 84 (by decide)]; exact R k hk
    have ea : M 86 (9 + i) = nI (at_ i) := by rw [h3 (9 + i) (by omega) (by omega)]; exact (ha i hi).1
    have et : M 86 5 = touch := by rw [h3 5 (by omega) (by omega)]; exact ht
    have hc := r_isCaught R' W hi (show at_ i ≤ 40 by have := (ha i hi).2; omega)
    have hb := Cb_lt (G := G) (at_ := at_) (touch := touch) i
    have hp : 2 ^ i ≤ 32 := pow5 (by omega)
    rw [lp_X10_run_18, Cb]
    by_cases c1 : nI i = touch
    · rw [if_pos c1]
      refine ⟨M, ?_, h1, h3, h4, h5⟩
      simp (disch := omega) only [R' _, et, c1, jns, bds, bvs, lts, gdt, nadd, nmul, nsub, nle, nlt, neq, nz0, nlt0, nle0, n0le, n0lt, nclamp, ndiv, nmod2, gdi, gdn, if_pos, if_neg, if_true, if_false]
      rw [← c1]
      simp (disch := omega) only [jns, bds, bvs, lts, gdt, nadd, nmul, nsub, nle, nlt, neq, nz0, nlt0, nle0, n0le, n0lt, nclamp, ndiv, nmod2, gdi, gdn, if_pos, if_neg, if_true, if_false]
    · rw [if_neg c1]
      cases c2 : Ct G i (at_ i)
      · rw [c2] at hc
        refine ⟨M, ?_, h1, h3, h4, h5⟩
        simp (disch := omega) only [R' _, et, c1, ea, hc, Bool.toNat_false, jns, bds, bvs, lts, gdt, nadd, nmul, nsub, nle, nlt, neq, nz0, nlt0, nle0, n0le, n0lt, nclamp, ndiv, nmod2, gdi, gdn, if_pos, if_neg, if_true, if_false]
      · rw [c2] at hc
        refine ⟨mset M 86 7 (nI (Cb G at_ touch i + 2 ^ i)), ?_, fun a h => by rw [mset_off _ _ _ h]; exact h1 a h, fun k h h' => by simp (disch := omega) only [ms1, ms1, ms2, ms3]; exact h3 k h h', by simp (disch := omega) only [ms1, ms1, ms2, ms3]; exact h4, by simp (disch := omega) only [ms1, ms1, ms2, ms3]; rfl⟩
        simp (disch := omega) only [R' _, et, c1, ea, hc, Bool.toNat_true, h5, orI _ (show Cb G at_ touch i < 32 by omega) i (show i < 5 by omega) hb, jns, bds, bvs, lts, gdt, nadd, nmul, nsub, nle, nlt, neq, nz0, nlt0, nle0, n0le, n0lt, nclamp, ndiv, nmod2, gdi, gdn, if_pos, if_neg, if_true, if_false]
  · rw [lp_X10_run_18, T.1 84 (by decide), R 95 (by decide), if_pos (Int32.le_refl _)]
