/-! THE ORDER in which he looks: the class's sorted row is the reference's count of those ahead. -/
def bf (at_ : Nat → Nat) (j k : Nat) : Bool := decide (at_ k < at_ j ∨ (at_ j = at_ k ∧ j < k))
def Ah (at_ : Nat → Nat) (n k : Nat) : Nat := Sm (fun j => (bf at_ j k).toNat) n
theorem Sm_pw {f g : Nat → Nat} : ∀ {n : Nat}, (∀ j, j < n → f j ≤ g j) → Sm f n ≤ Sm g n
  | 0, _ => Nat.le_refl _
  | n + 1, h => by
    rw [Sm, Sm]
    exact Nat.add_le_add (Sm_pw (fun j hj => h j (by omega))) (h n (by omega))
theorem Sm_lt {f g : Nat → Nat} {i : Nat} : ∀ {n : Nat}, (∀ j, j < n → f j ≤ g j) → i < n → f i < g i → Sm f n < Sm g n
  | 0, _, hi, _ => by omega
  | n + 1, h, hi, hl => by
    rw [Sm, Sm]
    by_cases c : i = n
    · subst c
      exact Nat.add_lt_add_of_le_of_lt (Sm_pw (fun j hj => h j (by omega))) hl
    · exact Nat.add_lt_add_of_lt_of_le (Sm_lt (fun j hj => h j (by omega)) (by omega) hl) (h n (by omega))
theorem bf_le {at_ : Nat → Nat} {i j k : Nat} (h : bf at_ i j = true → bf at_ i k = true) : (bf at_ i j).toNat ≤ (bf at_ i k).toNat := by
  cases h1 : bf at_ i j
  · exact Nat.zero_le _
  · rw [h h1]
    exact Nat.le_refl _
theorem bf_trans {at_ : Nat → Nat} {i j k : Nat} (h1 : bf at_ i j = true) (h2 : bf at_ j k = true) : bf at_ i k = true := by
  simp only [bf, decide_eq_true_eq] at *
  omega
theorem bf_irr {at_ : Nat → Nat} (j : Nat) : bf at_ j j = false := by
  simp only [bf, decide_eq_false_iff_not]
  omega
theorem Ah_lt {at_ : Nat → Nat} {n j k : Nat} (hj : j < n) (h : bf at_ j k = true) : Ah at_ n j < Ah at_ n k :=
  Sm_lt (i := j) (fun i _ => bf_le (fun h1 => bf_trans h1 h)) hj (by rw [bf_irr, h]; decide)
theorem Ah_le {at_ : Nat → Nat} {n j k : Nat} (h : bf at_ j k = true) : Ah at_ n j ≤ Ah at_ n k := Sm_pw (fun i _ => bf_le (fun h1 => bf_trans h1 h))
theorem Ah_inj {at_ : Nat → Nat} {n j k : Nat} (hj : j < n) (hk : k < n) (h : Ah at_ n j = Ah at_ n k) : j = k := by
  apply Decidable.byContradiction
  intro hn
  have : bf at_ j k = true ∨ bf at_ k j = true := by
    simp only [bf, decide_eq_true_eq]
    omega
  rcases this with h1 | h1
  · have := Ah_lt hj h1; omega
  · have := Ah_lt hk h1; omega
theorem Ah_succ (at_ : Nat → Nat) (n k : Nat) : Ah at_ (n + 1) k = Ah at_ n k + (bf at_ n k).toNat := rfl
theorem Ah_bound (at_ : Nat → Nat) (n k : Nat) : Ah at_ n k ≤ n := by
  have := Sm_le (f := fun j => (bf at_ j k).toNat) (b := 1) (n := n) (fun j _ => tb _)
  unfold Ah
  omega
/-- o lists the first c creepers in order -/
def Ord (at_ : Nat → Nat) (c : Nat) (o : Nat → Nat) : Prop := ∀ q, q < c → o q < c ∧ Ah at_ c (o q) = q
theorem Ord_cut {at_ : Nat → Nat} {c q : Nat} {o : Nat → Nat} (h : Ord at_ c o) (hq : q < c) : (q < Ah at_ c c) ↔ at_ c ≤ at_ (o q) := by
  obtain ⟨h1, h2⟩ := h q hq
  constructor
  · intro h3
    apply Decidable.byContradiction
    intro h4
    have h5 : bf at_ c (o q) = true := by simp only [bf, decide_eq_true_eq]; omega
    have := Ah_le (n := c) h5
    omega
  · intro h3
    have h5 : bf at_ (o q) c = true := by simp only [bf, decide_eq_true_eq]; omega
    have := Ah_lt h1 h5
    omega
def oIn (at_ : Nat → Nat) (c : Nat) (o : Nat → Nat) (q : Nat) : Nat := if q < Ah at_ c c then o q else if q = Ah at_ c c then c else o (q - 1)
theorem Ord_in {at_ : Nat → Nat} {c : Nat} {o : Nat → Nat} (h : Ord at_ c o) : Ord at_ (c + 1) (oIn at_ c o) := by
  intro q hq
  have hb := Ah_bound at_ c c
  unfold oIn
  by_cases c1 : q < Ah at_ c c
  · rw [if_pos c1]
    obtain ⟨h1, h2⟩ := h q (by omega)
    have h3 := (Ord_cut h (show q < c by omega)).mp c1
    refine ⟨by omega, ?_⟩
    have : bf at_ c (o q) = false := by simp only [bf, decide_eq_false_iff_not]; omega
    rw [Ah_succ, h2, this]
    rfl
  · rw [if_neg c1]
    by_cases c2 : q = Ah at_ c c
    · rw [if_pos c2]
      refine ⟨by omega, ?_⟩
      rw [Ah_succ, bf_irr, c2]
      rfl
    · rw [if_neg c2]
      obtain ⟨h1, h2⟩ := h (q - 1) (by omega)
      have h3 : ¬ at_ c ≤ at_ (o (q - 1)) := fun z => by
        have := (Ord_cut h (show q - 1 < c by omega)).mpr z
        omega
      refine ⟨by omega, ?_⟩
      have : bf at_ c (o (q - 1)) = true := by simp only [bf, decide_eq_true_eq]; omega
      rw [Ah_succ, h2, this]
      simp only [Bool.toNat_true]
      omega
theorem r_ahead {M : Mm} {G : Nat → Nat} (R : RG M G) (W : GW G) {at_ : Nat → Nat} (ha : ∀ c, c < G 95 → M 86 (9 + c) = nI (at_ c) ∧ at_ c < 100) {c : Nat} (hc : c < G 95) : f_X10_ahead (nI c) M = some (nI (Ah at_ (G 95) c), M) := by
  have h2 := W.creepers
  unfold f_X10_ahead
  refine lp0 (fun f i => lp_X10_ahead_4 (nI c) f (nI (Ah at_ i c)) (nI i) M) (G 95) (by omega) (fun f i hi => ?_) (fun f => ?_)
  · have h3 := ha i hi
    have h4 := ha c hc
    rw [lp_X10_ahead_4, Ah_succ]
    by_cases c1 : at_ c < at_ i
    · have : bf at_ i c = true := by simp only [bf, decide_eq_true_eq]; omega
      rw [this]
      simp (disch := omega) only [R _, h3.1, h4.1, Bool.toNat_true, jns, bds, bvs, lts, gdt, nadd, nmul, nsub, nle, nlt, neq, nz0, nlt0, nle0, n0le, n0lt, nclamp, ndiv, nmod2, gdi, gdn, if_pos, if_neg, if_true, if_false]
    · by_cases c2 : at_ i = at_ c
      · by_cases c3 : i < c
        · have : bf at_ i c = true := by simp only [bf, decide_eq_true_eq]; omega
          rw [this]
          simp (disch := omega) only [R _, h3.1, h4.1, Bool.toNat_true, jns, bds, bvs, lts, gdt, nadd, nmul, nsub, nle, nlt, neq, nz0, nlt0, nle0, n0le, n0lt, nclamp, ndiv, nmod2, gdi, gdn, if_pos, if_neg, if_true, if_false]
        · have : bf at_ i c = false := by simp only [bf, decide_eq_false_iff_not]; omega
          rw [this]
          simp (disch := omega) only [R _, h3.1, h4.1, Bool.toNat_false, jns, bds, bvs, lts, gdt, nadd, nmul, nsub, nle, nlt, neq, nz0, nlt0, nle0, n0le, n0lt, nclamp, ndiv, nmod2, gdi, gdn, if_pos, if_neg, if_true, if_false]
      · have : bf at_ i c = false := by simp only [bf, decide_eq_false_iff_not]; omega
        rw [this]
        simp (disch := omega) only [R _, h3.1, h4.1, Bool.toNat_false, jns, bds, bvs, lts, gdt, nadd, nmul, nsub, nle, nlt, neq, nz0, nlt0, nle0, n0le, n0lt, nclamp, ndiv, nmod2, gdi, gdn, if_pos, if_neg, if_true, if_false]
  · rw [lp_X10_ahead_4]
    simp (disch := omega) only [R _, jns, bds, bvs, lts, gdt, nadd, nmul, nsub, nle, nlt, neq, nz0, nlt0, nle0, n0le, n0lt, nclamp, ndiv, nmod2, gdi, gdn, if_pos, if_neg, if_true, if_false]
theorem c_insert {M0 : Mm} {G : Nat → Nat} {g p c : Nat} (W : GW G) (P : PC p) {at_ o : Nat → Nat} (hc : c < G 95) (ho : Ord at_ c o) (ha : ∀ c, c < G 95 → M0 (p + 1) c = nI (at_ c) ∧ at_ c < 100) (k : Int32 → Mm → Option Mm) : ∀ d i f M, i = Ah at_ c c + d → i ≤ c → d < f → (∀ a, a ≠ p + 9 → M a = M0 a) → (∀ q, q < i → M (p + 9) q = nI (o q)) → (∀ q, i < q → q ≤ c → M (p + 9) q = nI (o (q - 1))) →
    ∃ M', lp_X3_orderAll_12 p g (nI c) k f (nI i) M = k (nI (Ah at_ c c)) M' ∧ (∀ a, a ≠ p + 9 → M' a = M0 a) ∧ (∀ q, q < Ah at_ c c → M' (p + 9) q = nI (o q)) ∧ (∀ q, Ah at_ c c < q → q ≤ c → M' (p + 9) q = nI (o (q - 1))) := by
  have h2 := W.creepers
  have h9 := P.ge
  intro d
  induction d with
  | zero =>
    intro i f M hi hic hf h1 h3 h4
    obtain ⟨f, rfl⟩ : ∃ g, f = g + 1 := ⟨f - 1, by omega⟩
    rw [Nat.add_zero] at hi
    refine ⟨M, ?_, h1, by rw [← hi]; exact h3, by rw [← hi]; exact h4⟩
    rw [lp_X3_orderAll_12]
    by_cases c0 : i = 0
    · subst c0
      rw [← hi]
      simp (disch := omega) only [jns, bds, bvs, lts, gdt, nadd, nmul, nsub, nle, nlt, neq, nz0, nlt0, nle0, n0le, n0lt, nclamp, ndiv, nmod2, gdi, gdn, if_pos, if_neg, if_true, if_false]
    · have h5 := (ho (i - 1) (by omega)).1
      have h6 := (Ord_cut ho (show i - 1 < c by omega)).mp (by omega)
      have e1 : M (p + 9) (i - 1) = nI (o (i - 1)) := h3 _ (by omega)
      have e2 : M (p + 1) (o (i - 1)) = nI (at_ (o (i - 1))) := by rw [h1 _ (by omega)]; exact (ha _ (by omega)).1
      have e3 : M (p + 1) c = nI (at_ c) := by rw [h1 _ (by omega)]; exact (ha _ (by omega)).1
      have b1 := (ha (o (i - 1)) (by omega)).2
      have b2 := (ha c (by omega)).2
      rw [← hi]
      simp (disch := omega) only [p_at P (show 1 ≤ 9 by decide) (show 9 ≤ 9 by decide) (show i - 1 < 5 by omega), e1, p_at P (show 1 ≤ 1 by decide) (show 1 ≤ 9 by decide) (show o (i - 1) < 5 by omega), e2, p_at P (show 1 ≤ 1 by decide) (show 1 ≤ 9 by decide) (show c < 5 by omega), e3, jns, bds, bvs, lts, gdt, nadd, nmul, nsub, nle, nlt, neq, nz0, nlt0, nle0, n0le, n0lt, nclamp, ndiv, nmod2, gdi, gdn, if_pos, if_neg, if_true, if_false]
  | succ d ih =>
    intro i f M hi hic hf h1 h3 h4
    obtain ⟨f, rfl⟩ : ∃ g, f = g + 1 := ⟨f - 1, by omega⟩
    have h5 := (ho (i - 1) (by omega)).1
    have h6 : ¬ at_ c ≤ at_ (o (i - 1)) := fun z => by
      have := (Ord_cut ho (show i - 1 < c by omega)).mpr z
      omega
    have e1 : M (p + 9) (i - 1) = nI (o (i - 1)) := h3 _ (by omega)
    have e2 : M (p + 1) (o (i - 1)) = nI (at_ (o (i - 1))) := by rw [h1 _ (by omega)]; exact (ha _ (by omega)).1
    have e3 : M (p + 1) c = nI (at_ c) := by rw [h1 _ (by omega)]; exact (ha _ (by omega)).1
    have b1 := (ha (o (i - 1)) (by omega)).2
    have b2 := (ha c (by omega)).2
    have em : nI i + (-1 : Int32) = nI (i - 1) := by
      rw [show (-1 : Int32) = - nI 1 from by decide, ← Int32.sub_eq_add_neg, nsub (by omega)]
    obtain ⟨M', z1, z2, z3, z4⟩ := ih (i - 1) f (mset M (p + 9) i (nI (o (i - 1)))) (by omega) (by omega) (by omega) (fun a h => by rw [mset_off _ _ _ h]; exact h1 a h) (fun q hq => by simp (disch := omega) only [ms1, ms1, ms2, ms3]; exact h3 q (by omega)) (fun q hq hq2 => by
      by_cases hqi : q = i
      · subst hqi; simp (disch := omega) only [ms1, ms1, ms2, ms3]
      · simp (disch := omega) only [ms1, ms1, ms2, ms3]; exact h4 q (by omega) hq2)
    refine ⟨M', ?_, z2, z3, z4⟩
    rw [lp_X3_orderAll_12]
    simp (disch := omega) only [p_at P (show 1 ≤ 9 by decide) (show 9 ≤ 9 by decide) (show i - 1 < 5 by omega), e1, p_at P (show 1 ≤ 1 by decide) (show 1 ≤ 9 by decide) (show o (i - 1) < 5 by omega), e2, p_at P (show 1 ≤ 1 by decide) (show 1 ≤ 9 by decide) (show c < 5 by omega), e3, p_put P (show 1 ≤ 9 by decide) (show 9 ≤ 9 by decide) (show i < 5 by omega), em, jns, bds, bvs, lts, gdt, nadd, nmul, nsub, nle, nlt, neq, nz0, nlt0, nle0, n0le, n0lt, nclamp, ndiv, nmod2, gdi, gdn, if_pos, if_neg, if_true, if_false]
    exact z1
/-- the order of the first c creepers -/
def oC (at_ : Nat → Nat) : Nat → Nat → Nat
  | 0 => fun q => q
  | c + 1 => oIn at_ c (oC at_ c)
theorem Ord_oC (at_ : Nat → Nat) : ∀ c, Ord at_ c (oC at_ c)
  | 0 => fun q hq => by omega
  | c + 1 => Ord_in (Ord_oC at_ c)
theorem c_orderAll {M0 : Mm} {G : Nat → Nat} {g p : Nat} (C : CG M0 g G) (W : GW G) (P : PC p) {at_ : Nat → Nat} (ha : ∀ c, c < G 95 → M0 (p + 1) c = nI (at_ c) ∧ at_ c < 100) : ∃ M', f_X3_orderAll p g M0 = some M' ∧ (∀ a, a ≠ p + 9 → M' a = M0 a) ∧ ∀ q, q < G 95 → M' (p + 9) q = nI (oC at_ (G 95) q) := by
  have h2 := W.creepers
  have h9 := P.ge
  have hg := C.hg
  unfold f_X3_orderAll
  have key : ∃ M', lp_X3_orderAll_2 p g N0 (nI 0) M0 = some M' ∧ (∀ a, a ≠ p + 9 → M' a = M0 a) ∧ ∀ q, q < G 95 → M' (p + 9) q = nI (oC at_ (G 95) q) := by
    refine lpM (fun f i M => lp_X3_orderAll_2 p g f (nI i) M) (G 95) (fun i M => (∀ a, a ≠ p + 9 → M a = M0 a) ∧ ∀ q, q < i → M (p + 9) q = nI (oC at_ i q)) some (by omega) (fun f i M hi T => ?_) (fun f M T => ?_) M0 ⟨fun _ _ => rfl, fun q hq => by omega⟩
    · obtain ⟨h1, h4⟩ := T
      have h3 := Ord_oC at_ i
      have hb := Ah_bound at_ i i
      obtain ⟨M1, z1, z2, z3, z4⟩ := c_insert (g := g) W P hi h3 ha (fun (u13 : Int32) (M14 : Mm) => bv (f_X9_put (p + 9) u13 (nI i) M14) fun M74_15 => lp_X3_orderAll_2 p g f (nI i + nI 1) M74_15) (i - Ah at_ i i) i N0 M (by omega) (Nat.le_refl _) (by unfold N0; omega) h1 h4 (fun q a b => by omega)
      refine ⟨mset M1 (p + 9) (Ah at_ i i) (nI i), ?_, fun a h => by rw [mset_off _ _ _ h]; exact z2 a h, fun q hq => ?_⟩
      · rw [lp_X3_orderAll_2, h1 g (by omega), C.f14, if_neg (by rw [nle (by omega) (by omega)]; omega), z1]
        simp (disch := omega) only [p_put P (show 1 ≤ 9 by decide) (show 9 ≤ 9 by decide) (show Ah at_ i i < 5 by omega), jns, bds, bvs, lts, gdt, nadd, nmul, nsub, nle, nlt, neq, nz0, nlt0, nle0, n0le, n0lt, nclamp, ndiv, nmod2, gdi, gdn, if_pos, if_neg, if_true, if_false]
      · rw [oC]; unfold oIn
        by_cases c1 : q < Ah at_ i i
        · rw [if_pos c1]; simp (disch := omega) only [ms1, ms1, ms2, ms3]; exact z3 q c1
        · rw [if_neg c1]
          by_cases c2 : q = Ah at_ i i
          · rw [if_pos c2, c2]; simp (disch := omega) only [ms1, ms1, ms2, ms3]
          · rw [if_neg c2]; simp (disch := omega) only [ms1, ms1, ms2, ms3]; exact z4 q (by omega) (by omega)
    · rw [lp_X3_orderAll_2, T.1 g (by omega), C.f14, if_pos (Int32.le_refl _)]
  exact key
