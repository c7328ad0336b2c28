/-! THE GAME: the reference's row and the class's cells hold one game G; what both read of it. -/
/-- a loop whose state at the turn i is known -/
theorem lpN {β : Type} {L : Nat → Nat → Option β} {n : Nat} {R : Option β} (step : ∀ f i, i < n → L (f + 1) i = L f (i + 1)) (fin : ∀ f, L (f + 1) n = R) : ∀ k i f, i + k = n → k < f → L f i = R := by
  intro k
  induction k with
  | zero =>
    intro i f h hf
    obtain ⟨f, rfl⟩ : ∃ g, f = g + 1 := ⟨f - 1, by omega⟩
    have : i = n := by omega
    subst this
    exact fin f
  | succ k ih =>
    intro i f h hf
    obtain ⟨f, rfl⟩ : ∃ g, f = g + 1 := ⟨f - 1, by omega⟩
    rw [step f i (by omega)]
    exact ih (i + 1) f (by omega) (by omega)
theorem lp0 {β : Type} (L : Nat → Nat → Option β) (n : Nat) {R : Option β} (hn : n < 900000) (step : ∀ f i, i < n → L (f + 1) i = L f (i + 1)) (fin : ∀ f, L (f + 1) n = R) : L N0 0 = R := lpN step fin n 0 N0 (by omega) (by unfold N0; omega)
def Sm (f : Nat → Nat) : Nat → Nat
  | 0 => 0
  | n + 1 => Sm f n + f n
theorem Sm_le {f : Nat → Nat} {b : Nat} : ∀ {n : Nat}, (∀ k, k < n → f k ≤ b) → Sm f n ≤ n * b
  | 0, _ => by simp [Sm]
  | n + 1, h => by
    have h1 := Sm_le (f := f) (b := b) (n := n) (fun k hk => h k (by omega))
    have h2 := h n (by omega)
    rw [Sm, Nat.succ_mul]
    omega
theorem Sm_mono {f : Nat → Nat} : ∀ {m n : Nat}, m ≤ n → Sm f m ≤ Sm f n := by
  intro m n h
  induction h with
  | refl => exact Nat.le_refl _
  | step h ih => exact Nat.le_trans ih (Nat.le_add_right _ _)
/-- the reference's row 84 holds G -/
def RG (M : Mm) (G : Nat → Nat) : Prop := ∀ k, k < 141 → M 84 k = nI (G k)
/-- what a read game keeps -/
abbrev GW (G : Nat → Nat) : Prop := (4 ≤ G 0 ∧ G 0 ≤ 40) ∧ (1 ≤ G 1 ∧ G 1 ≤ 6) ∧ (1 ≤ G 2 ∧ G 2 ≤ 9) ∧ (1 ≤ G 3 ∧ G 3 ≤ 60) ∧ (1 ≤ G 4 ∧ G 4 ≤ 20) ∧ (G 5 ≤ 100) ∧ (∀ k, k < 5 → G (6 + k) ≤ 100) ∧ (∀ p, p < G 92 → 1 ≤ G (11 + p) ∧ G (11 + p) ≤ 4) ∧ (∀ p, p < G 92 → ∀ k, k < G (11 + p) → 1 ≤ G (16 + 4 * p + k) ∧ G (16 + 4 * p + k) ≤ 20) ∧ (1 ≤ G 92 ∧ G 92 ≤ 5) ∧ (G 94 ≤ 5) ∧ (1 ≤ G 95 ∧ G 95 ≤ 5) ∧ (∀ g, g < G 94 → G (36 + g) < G 1 ∧ 1 ≤ G (41 + g) ∧ G (41 + g) ≤ G (46 + g) ∧ G (46 + g) ≤ G 0 ∧ 1 ≤ G (51 + g) ∧ G (51 + g) ≤ 99) ∧ (∀ c, c < G 95 → G (56 + c) < G 1 ∧ 1 ≤ G (61 + c) ∧ G (61 + c) ≤ 20 ∧ G (66 + c) ≤ 100 ∧ G (71 + c) ≤ 199 ∧ G (76 + c) ≤ 100 ∧ G (81 + c) ≤ 2 ∧ G (86 + c) ≤ 20)
theorem GW.long {G : Nat → Nat} (h : GW G) : 4 ≤ G 0 ∧ G 0 ≤ 40 := h.1
theorem GW.lanes {G : Nat → Nat} (h : GW G) : 1 ≤ G 1 ∧ G 1 ≤ 6 := h.2.1
theorem GW.runs {G : Nat → Nat} (h : GW G) : 1 ≤ G 2 ∧ G 2 ≤ 9 := h.2.2.1
theorem GW.looks {G : Nat → Nat} (h : GW G) : 1 ≤ G 3 ∧ G 3 ≤ 60 := h.2.2.2.1
theorem GW.eye {G : Nat → Nat} (h : GW G) : 1 ≤ G 4 ∧ G 4 ≤ 20 := h.2.2.2.2.1
theorem GW.sees {G : Nat → Nat} (h : GW G) : G 5 ≤ 100 := h.2.2.2.2.2.1
theorem GW.turns {G : Nat → Nat} (h : GW G) : ∀ k, k < 5 → G (6 + k) ≤ 100 := h.2.2.2.2.2.2.1
theorem GW.syl {G : Nat → Nat} (h : GW G) : ∀ p, p < G 92 → 1 ≤ G (11 + p) ∧ G (11 + p) ≤ 4 := h.2.2.2.2.2.2.2.1
theorem GW.ten {G : Nat → Nat} (h : GW G) : ∀ p, p < G 92 → ∀ k, k < G (11 + p) → 1 ≤ G (16 + 4 * p + k) ∧ G (16 + 4 * p + k) ≤ 20 := h.2.2.2.2.2.2.2.2.1
theorem GW.parts {G : Nat → Nat} (h : GW G) : 1 ≤ G 92 ∧ G 92 ≤ 5 := h.2.2.2.2.2.2.2.2.2.1
theorem GW.gravels {G : Nat → Nat} (h : GW G) : G 94 ≤ 5 := h.2.2.2.2.2.2.2.2.2.2.1
theorem GW.creepers {G : Nat → Nat} (h : GW G) : 1 ≤ G 95 ∧ G 95 ≤ 5 := h.2.2.2.2.2.2.2.2.2.2.2.1
theorem GW.grv {G : Nat → Nat} (h : GW G) : ∀ g, g < G 94 → G (36 + g) < G 1 ∧ 1 ≤ G (41 + g) ∧ G (41 + g) ≤ G (46 + g) ∧ G (46 + g) ≤ G 0 ∧ 1 ≤ G (51 + g) ∧ G (51 + g) ≤ 99 := h.2.2.2.2.2.2.2.2.2.2.2.2.1
theorem GW.crp {G : Nat → Nat} (h : GW G) : ∀ c, c < G 95 → G (56 + c) < G 1 ∧ 1 ≤ G (61 + c) ∧ G (61 + c) ≤ 20 ∧ G (66 + c) ≤ 100 ∧ G (71 + c) ≤ 199 ∧ G (76 + c) ≤ 100 ∧ G (81 + c) ≤ 2 ∧ G (86 + c) ≤ 20 := h.2.2.2.2.2.2.2.2.2.2.2.2.2
/-- the tenths of a part -/
def Tn (G : Nat → Nat) (p : Nat) : Nat := Sm (fun k => G (16 + 4 * p + k)) (G (11 + p))
/-- the tenths of the parts before p -/
def En (G : Nat → Nat) (p : Nat) : Nat := Sm (Tn G) p
theorem Tn_le {G : Nat → Nat} (W : GW G) {p : Nat} (hp : p < G 92) : Tn G p ≤ 80 := by
  have h1 := W.syl p hp
  have h2 := Sm_le (f := fun k => G (16 + 4 * p + k)) (b := 20) (n := G (11 + p)) (fun k hk => (W.ten p hp k hk).2)
  unfold Tn
  have : G (11 + p) * 20 ≤ 4 * 20 := Nat.mul_le_mul_right 20 h1.2
  omega
theorem Tn_pos {G : Nat → Nat} (W : GW G) {p : Nat} (hp : p < G 92) : 1 ≤ Tn G p := by
  have h1 := W.syl p hp
  have h2 := (W.ten p hp 0 (by omega)).1
  have h3 : Sm (fun k => G (16 + 4 * p + k)) 1 ≤ Tn G p := Sm_mono h1.1
  simp [Sm] at h3
  simp at h2
  omega
theorem En_le {G : Nat → Nat} (W : GW G) {p : Nat} (hp : p ≤ G 92) : En G p ≤ 80 * p := by
  have := Sm_le (f := Tn G) (b := 80) (n := p) (fun k hk => Tn_le W (by omega))
  unfold En
  omega
theorem En_succ (G : Nat → Nat) (p : Nat) : En G (p + 1) = En G p + Tn G p := rfl
theorem En_mono {G : Nat → Nat} {p q : Nat} (h : p ≤ q) : En G p ≤ En G q := Sm_mono h
/-! the reference -/
theorem r_tenthsOf {M : Mm} {G : Nat → Nat} (R : RG M G) (W : GW G) {p : Nat} (hp : p < G 92) : f_X10_tenthsOf (nI p) M = some (nI (Tn G p), M) := by
  have h1 := W.syl p hp
  have h2 := W.parts
  unfold f_X10_tenthsOf
  refine lp0 (fun f i => lp_X10_tenthsOf_4 (nI p) f (nI (Sm (fun k => G (16 + 4 * p + k)) i)) (nI i) M) (G (11 + p)) (by omega) (fun f i hi => ?_) (fun f => ?_)
  · show lp_X10_tenthsOf_4 _ _ _ _ _ = _
    rw [lp_X10_tenthsOf_4]
    simp (disch := omega) only [R _, jns, bds, bvs, lts, gdt, nadd, nmul, nsub, nle, nlt, neq, nz0, nlt0, nle0, n0le, n0lt, nclamp, ndiv, nmod2, gdi, gdn, if_pos, if_neg, if_true, if_false]
    rfl
  · show lp_X10_tenthsOf_4 _ _ _ _ _ = _
    rw [lp_X10_tenthsOf_4]
    simp (disch := omega) only [R _, jns, bds, bvs, lts, gdt, nadd, nmul, nsub, nle, nlt, neq, nz0, nlt0, nle0, n0le, n0lt, nclamp, ndiv, nmod2, gdi, gdn, if_pos, if_neg, if_true, if_false]
    rfl
theorem r_endOf {M : Mm} {G : Nat → Nat} (R : RG M G) (W : GW G) {p : Nat} (hp : p < G 92) : f_X10_endOf (nI p) M = some (nI (En G (p + 1)), M) := by
  have h2 := W.parts
  unfold f_X10_endOf
  refine lp0 (fun f i => lp_X10_endOf_4 (nI p) f (nI (En G i)) (nI i) M) (p + 1) (by omega) (fun f i hi => ?_) (fun f => ?_)
  · rw [lp_X10_endOf_4]
    simp (disch := omega) only [r_tenthsOf R W (show i < G 92 by omega), ← En_succ, jns, bds, bvs, lts, gdt, nadd, nmul, nsub, nle, nlt, neq, nz0, nlt0, nle0, n0le, n0lt, nclamp, ndiv, nmod2, gdi, gdn, if_pos, if_neg, if_true, if_false]
  · rw [lp_X10_endOf_4]
    simp (disch := omega) only [jns, bds, bvs, lts, gdt, nadd, nmul, nsub, nle, nlt, neq, nz0, nlt0, nle0, n0le, n0lt, nclamp, ndiv, nmod2, gdi, gdn, if_pos, if_neg, if_true, if_false]
theorem r_whole {M : Mm} {G : Nat → Nat} (R : RG M G) (W : GW G) : f_X10_whole M = some (nI (En G (G 92)), M) := by
  have h2 := W.parts
  have e : G 92 - 1 + 1 = G 92 := by omega
  unfold f_X10_whole
  simp (disch := omega) only [R _, r_endOf R W (show G 92 - 1 < G 92 by omega), e, jns, bds, bvs, lts, gdt, nadd, nmul, nsub, nle, nlt, neq, nz0, nlt0, nle0, n0le, n0lt, nclamp, ndiv, nmod2, gdi, gdn, if_pos, if_neg, if_true, if_false]
theorem r_within {M : Mm} {x y : Int32} {v : Nat} (hv : v < 2 ^ 31) : f_X10_within (nI v) x y M = some (nI (if x ≤ nI v ∧ nI v ≤ y then 1 else 0), M) := by
  unfold f_X10_within
  simp only [jns]
  by_cases h1 : nI v < x
  · rw [if_pos h1, if_neg (fun z => Int32.not_le.mpr h1 z.1)]
  · rw [if_neg h1]
    by_cases h2 : y < nI v
    · rw [if_pos h2, if_neg (fun z => Int32.not_le.mpr h2 z.2)]
    · rw [if_neg h2, if_pos ⟨Int32.not_lt.mp h1, Int32.not_lt.mp h2⟩]
theorem r_withinN {M : Mm} {v a b : Nat} (hv : v < 2 ^ 31) (ha : a < 2 ^ 31) (hb : b < 2 ^ 31) : f_X10_within (nI v) (nI a) (nI b) M = some (nI (if a ≤ v ∧ v ≤ b then 1 else 0), M) := by
  rw [r_within hv]
  simp only [nle ha hv, nle hv hb]
theorem r_less {M : Mm} {a b : Nat} (ha : a < 2 ^ 31) (hb : b < 2 ^ 31) : f_X10_less (nI a) (nI b) M = some (nI (min a b), M) := by
  unfold f_X10_less
  by_cases h : b ≤ a
  · rw [Nat.min_eq_right h]; simp (disch := omega) only [jns, bds, bvs, lts, gdt, nadd, nmul, nsub, nle, nlt, neq, nz0, nlt0, nle0, n0le, n0lt, nclamp, ndiv, nmod2, gdi, gdn, if_pos, if_neg, if_true, if_false]
  · rw [Nat.min_eq_left (by omega)]; simp (disch := omega) only [jns, bds, bvs, lts, gdt, nadd, nmul, nsub, nle, nlt, neq, nz0, nlt0, nle0, n0le, n0lt, nclamp, ndiv, nmod2, gdi, gdn, if_pos, if_neg, if_true, if_false]
/-- the loudest gravel of the first n under a cell of a lane -/
def Ldn (G : Nat → Nat) (l x : Nat) : Nat → Nat
  | 0 => 0
  | n + 1 => if G (36 + n) = l ∧ G (41 + n) ≤ x ∧ x ≤ G (46 + n) ∧ Ldn G l x n < G (51 + n) then G (51 + n) else Ldn G l x n
def Ld (G : Nat → Nat) (l x : Nat) : Nat := Ldn G l x (G 94)
theorem Ldn_le {G : Nat → Nat} (W : GW G) (l x : Nat) : ∀ {n : Nat}, n ≤ G 94 → Ldn G l x n ≤ 99
  | 0, _ => by simp [Ldn]
  | n + 1, h => by
    have h1 := Ldn_le W l x (n := n) (by omega)
    have h2 := W.grv n (by omega)
    rw [Ldn]
    split <;> omega
theorem Ld_le {G : Nat → Nat} (W : GW G) (l x : Nat) : Ld G l x ≤ 99 := Ldn_le W l x (Nat.le_refl _)
theorem r_loudest {M : Mm} {G : Nat → Nat} (R : RG M G) (W : GW G) {l x : Nat} (hl : l < 1000) (hx : x < 1000) : f_X10_loudest (nI l) (nI x) M = some (nI (Ld G l x), M) := by
  have h1 := W.gravels
  have h3 := W.lanes
  have h4 := W.long
  unfold f_X10_loudest
  refine lp0 (fun f i => lp_X10_loudest_5 (nI l) (nI x) f (nI (Ldn G l x i)) (nI i) M) (G 94) (by omega) (fun f i hi => ?_) (fun f => ?_)
  · have h2 := W.grv i hi
    have h5 := Ldn_le W l x (n := i) (by omega)
    rw [lp_X10_loudest_5, Ldn]
    by_cases c1 : G (36 + i) = l
    · by_cases c2 : G (41 + i) ≤ x ∧ x ≤ G (46 + i)
      · by_cases c3 : Ldn G l x i < G (51 + i)
        · simp (disch := omega) only [R _, r_withinN, jns, bds, bvs, lts, gdt, nadd, nmul, nsub, nle, nlt, neq, nz0, nlt0, nle0, n0le, n0lt, nclamp, ndiv, nmod2, gdi, gdn, if_pos, if_neg, if_true, if_false]
        · simp (disch := omega) only [R _, r_withinN, jns, bds, bvs, lts, gdt, nadd, nmul, nsub, nle, nlt, neq, nz0, nlt0, nle0, n0le, n0lt, nclamp, ndiv, nmod2, gdi, gdn, if_pos, if_neg, if_true, if_false]
      · simp (disch := omega) only [R _, r_withinN, jns, bds, bvs, lts, gdt, nadd, nmul, nsub, nle, nlt, neq, nz0, nlt0, nle0, n0le, n0lt, nclamp, ndiv, nmod2, gdi, gdn, if_pos, if_neg, if_true, if_false]
    · simp (disch := omega) only [R _, jns, bds, bvs, lts, gdt, nadd, nmul, nsub, nle, nlt, neq, nz0, nlt0, nle0, n0le, n0lt, nclamp, ndiv, nmod2, gdi, gdn, if_pos, if_neg, if_true, if_false]
  · rw [lp_X10_loudest_5]
    simp (disch := omega) only [R _, jns, bds, bvs, lts, gdt, nadd, nmul, nsub, nle, nlt, neq, nz0, nlt0, nle0, n0le, n0lt, nclamp, ndiv, nmod2, gdi, gdn, if_pos, if_neg, if_true, if_false]
    rfl
/-- whom the place of a run home is too far -/
def Ct (G : Nat → Nat) (c x : Nat) : Bool := decide (G 0 * G 2 < (x * G (61 + c) + 1) / 2)
theorem b01 (b : Bool) : nI (if b then 1 else 0) = nI b.toNat := by cases b <;> rfl
theorem mulb {a b x y : Nat} (ha : a ≤ x) (hb : b ≤ y) : a * b ≤ x * y := Nat.mul_le_mul ha hb
theorem r_isCaught {M : Mm} {G : Nat → Nat} (R : RG M G) (W : GW G) {c x : Nat} (hc : c < G 95) (hx : x ≤ 40) : f_X10_isCaught (nI c) (nI x) M = some (nI (Ct G c x).toNat, M) := by
  have h1 := W.crp c hc
  have h2 := W.creepers
  have h3 : G 0 * G 2 ≤ 40 * 9 := mulb W.long.2 W.runs.2
  have h4 : x * G (61 + c) ≤ 40 * 20 := mulb hx h1.2.2.1
  unfold f_X10_isCaught f_X10_needs Ct
  by_cases c1 : G 0 * G 2 < (x * G (61 + c) + 1) / 2
  · simp only [decide_eq_true c1]; simp (disch := omega) only [R _, jns, bds, bvs, lts, gdt, nadd, nmul, nsub, nle, nlt, neq, nz0, nlt0, nle0, n0le, n0lt, nclamp, ndiv, nmod2, gdi, gdn, if_pos, if_neg, if_true, if_false]; rfl
  · simp only [decide_eq_false c1]; simp (disch := omega) only [R _, jns, bds, bvs, lts, gdt, nadd, nmul, nsub, nle, nlt, neq, nz0, nlt0, nle0, n0le, n0lt, nclamp, ndiv, nmod2, gdi, gdn, if_pos, if_neg, if_true, if_false]; rfl
/-! the class -/
/-- the class's cell g holds G -/
abbrev CG (M : Mm) (g : Nat) (G : Nat → Nat) : Prop := (g = 1 ∨ g = 8) ∧ (M g 6 = nI (G 0)) ∧ (M g 7 = nI (G 1)) ∧ (M g 8 = nI (G 2)) ∧ (M g 9 = nI (G 92)) ∧ (M g 10 = nI (G 3)) ∧ (M g 11 = nI (G 4)) ∧ (M g 12 = nI (G 5)) ∧ (M g 13 = nI (G 94)) ∧ (M g 14 = nI (G 95)) ∧ (∀ p, p < G 92 → M (g + 1) p = nI (En G (p + 1))) ∧ (∀ p, p < G 92 → M (g + 2) p = nI (G (11 + p))) ∧ (∀ p, p < G 92 → ∀ k, k < G (11 + p) → M (g + 3) (4 * p + k) = nI (G (16 + 4 * p + k))) ∧ (∀ i, i + 1 < G 92 → M (g + 4) i = nI (G (6 + i))) ∧ (∀ i, i < G 94 → M (g + 5) (4 * i) = nI (G (36 + i)) ∧ M (g + 5) (4 * i + 1) = nI (G (41 + i)) ∧ M (g + 5) (4 * i + 2) = nI (G (46 + i)) ∧ M (g + 5) (4 * i + 3) = nI (G (51 + i))) ∧ (∀ c, c < G 95 → ∀ w, w < 7 → M (g + 6) (7 * c + w) = nI (G (56 + 5 * w + c)))
theorem CG.hg {M : Mm} {g : Nat} {G : Nat → Nat} (h : CG M g G) : g = 1 ∨ g = 8 := h.1
theorem CG.f6 {M : Mm} {g : Nat} {G : Nat → Nat} (h : CG M g G) : M g 6 = nI (G 0) := h.2.1
theorem CG.f7 {M : Mm} {g : Nat} {G : Nat → Nat} (h : CG M g G) : M g 7 = nI (G 1) := h.2.2.1
theorem CG.f8 {M : Mm} {g : Nat} {G : Nat → Nat} (h : CG M g G) : M g 8 = nI (G 2) := h.2.2.2.1
theorem CG.f9 {M : Mm} {g : Nat} {G : Nat → Nat} (h : CG M g G) : M g 9 = nI (G 92) := h.2.2.2.2.1
theorem CG.f10 {M : Mm} {g : Nat} {G : Nat → Nat} (h : CG M g G) : M g 10 = nI (G 3) := h.2.2.2.2.2.1
theorem CG.f11 {M : Mm} {g : Nat} {G : Nat → Nat} (h : CG M g G) : M g 11 = nI (G 4) := h.2.2.2.2.2.2.1
theorem CG.f12 {M : Mm} {g : Nat} {G : Nat → Nat} (h : CG M g G) : M g 12 = nI (G 5) := h.2.2.2.2.2.2.2.1
theorem CG.f13 {M : Mm} {g : Nat} {G : Nat → Nat} (h : CG M g G) : M g 13 = nI (G 94) := h.2.2.2.2.2.2.2.2.1
theorem CG.f14 {M : Mm} {g : Nat} {G : Nat → Nat} (h : CG M g G) : M g 14 = nI (G 95) := h.2.2.2.2.2.2.2.2.2.1
theorem CG.ends {M : Mm} {g : Nat} {G : Nat → Nat} (h : CG M g G) : ∀ p, p < G 92 → M (g + 1) p = nI (En G (p + 1)) := h.2.2.2.2.2.2.2.2.2.2.1
theorem CG.syc {M : Mm} {g : Nat} {G : Nat → Nat} (h : CG M g G) : ∀ p, p < G 92 → M (g + 2) p = nI (G (11 + p)) := h.2.2.2.2.2.2.2.2.2.2.2.1
theorem CG.syl {M : Mm} {g : Nat} {G : Nat → Nat} (h : CG M g G) : ∀ p, p < G 92 → ∀ k, k < G (11 + p) → M (g + 3) (4 * p + k) = nI (G (16 + 4 * p + k)) := h.2.2.2.2.2.2.2.2.2.2.2.2.1
theorem CG.cha {M : Mm} {g : Nat} {G : Nat → Nat} (h : CG M g G) : ∀ i, i + 1 < G 92 → M (g + 4) i = nI (G (6 + i)) := h.2.2.2.2.2.2.2.2.2.2.2.2.2.1
theorem CG.grv {M : Mm} {g : Nat} {G : Nat → Nat} (h : CG M g G) : ∀ i, i < G 94 → M (g + 5) (4 * i) = nI (G (36 + i)) ∧ M (g + 5) (4 * i + 1) = nI (G (41 + i)) ∧ M (g + 5) (4 * i + 2) = nI (G (46 + i)) ∧ M (g + 5) (4 * i + 3) = nI (G (51 + i)) := h.2.2.2.2.2.2.2.2.2.2.2.2.2.2.1
theorem CG.trt {M : Mm} {g : Nat} {G : Nat → Nat} (h : CG M g G) : ∀ c, c < G 95 → ∀ w, w < 7 → M (g + 6) (7 * c + w) = nI (G (56 + 5 * w + c)) := h.2.2.2.2.2.2.2.2.2.2.2.2.2.2.2
section
variable {M : Mm} {G : Nat → Nat} {g : Nat}
theorem ly1 (C : CG M g G) : LY (g + 1) = .inr (0, 5) := by rcases C.hg with rfl | rfl <;> rfl
theorem ly2 (C : CG M g G) : LY (g + 2) = .inr (0, 5) := by rcases C.hg with rfl | rfl <;> rfl
theorem ly3 (C : CG M g G) : LY (g + 3) = .inr (0, 20) := by rcases C.hg with rfl | rfl <;> rfl
theorem ly4 (C : CG M g G) : LY (g + 4) = .inr (0, 5) := by rcases C.hg with rfl | rfl <;> rfl
theorem ly5 (C : CG M g G) : LY (g + 5) = .inr (0, 20) := by rcases C.hg with rfl | rfl <;> rfl
theorem ly6 (C : CG M g G) : LY (g + 6) = .inr (0, 35) := by rcases C.hg with rfl | rfl <;> rfl
theorem c_endOf (C : CG M g G) (W : GW G) {p : Nat} (hp : p < G 92) : f_X0_endOf g (nI p) M = some (nI (En G (p + 1)), M) := by
  have h2 := W.parts
  unfold f_X0_endOf
  simp (disch := omega) only [C.ends p hp, jns, bds, bvs, lts, gdt, nadd, nmul, nsub, nle, nlt, neq, nz0, nlt0, nle0, n0le, n0lt, nclamp, ndiv, nmod2, gdi, gdn, if_pos, if_neg, if_true, if_false]
theorem c_endOfS (C : CG M g G) (W : GW G) {p : Nat} (hp : p ≤ G 92) : f_X0_endOf g (nI p - nI 1) M = some (nI (En G p), M) := by
  by_cases h : p = 0
  · subst h
    unfold f_X0_endOf
    rw [show nI 0 - nI 1 = (-1 : Int32) from by decide]
    simp only [jns]
    rw [if_pos (by decide)]
    rfl
  · have e : p - 1 + 1 = p := by omega
    rw [nsub (by omega), c_endOf C W (show p - 1 < G 92 by omega), e]
theorem c_verse (C : CG M g G) (W : GW G) : f_X0_verseTenths g M = some (nI (En G (G 92)), M) := by
  unfold f_X0_verseTenths
  rw [C.f9, c_endOfS C W (Nat.le_refl _)]
  rfl
theorem c_trait (C : CG M g G) (W : GW G) {c w : Nat} (hc : c < G 95) (hw : w < 7) : f_X0_trait g (nI c) (nI w) M = some (nI (G (56 + 5 * w + c)), M) := by
  have h2 := W.creepers
  unfold f_X0_trait
  have h := C.trt c hc w hw
  rw [Nat.mul_comm] at h
  simp (disch := omega) only [h, jns, bds, bvs, lts, gdt, nadd, nmul, nsub, nle, nlt, neq, nz0, nlt0, nle0, n0le, n0lt, nclamp, ndiv, nmod2, gdi, gdn, if_pos, if_neg, if_true, if_false]
theorem c_eyes (C : CG M g G) (W : GW G) : f_X0_eyes g M = some (nI (G 3 / G 4), M) := by
  have h1 := W.looks
  have h2 := W.eye
  unfold f_X0_eyes
  rw [C.f10, C.f11, f_by (by omega) (by omega)]
  rfl
theorem c_partOf (C : CG M g G) (W : GW G) {p t : Nat} (hp : p < G 92) (h1 : En G p ≤ t) (h2 : p + 1 = G 92 ∨ t < En G (p + 1)) (ht : t < 10000) : f_X0_partOf g (nI t) M = some (nI p, M) := by
  have h3 := W.parts
  unfold f_X0_partOf
  refine lp0 (fun f i => lp_X0_partOf_2 g (nI t) f (nI i) M) p (by omega) (fun f i hi => ?_) (fun f => ?_)
  · have h4 : En G (i + 1) ≤ En G p := En_mono (by omega)
    have h5 := En_le W (show i + 1 ≤ G 92 by omega)
    rw [lp_X0_partOf_2]
    simp (disch := omega) only [C.f9, c_endOf C W (show i < G 92 by omega), jns, bds, bvs, lts, gdt, nadd, nmul, nsub, nle, nlt, neq, nz0, nlt0, nle0, n0le, n0lt, nclamp, ndiv, nmod2, gdi, gdn, if_pos, if_neg, if_true, if_false]
  · have h5 := En_le W (show p + 1 ≤ G 92 by omega)
    rw [lp_X0_partOf_2]
    rcases h2 with h2 | h2
    · simp (disch := omega) only [C.f9, jns, bds, bvs, lts, gdt, nadd, nmul, nsub, nle, nlt, neq, nz0, nlt0, nle0, n0le, n0lt, nclamp, ndiv, nmod2, gdi, gdn, if_pos, if_neg, if_true, if_false]
    · by_cases h6 : G 92 - 1 ≤ p
      · simp (disch := omega) only [C.f9, jns, bds, bvs, lts, gdt, nadd, nmul, nsub, nle, nlt, neq, nz0, nlt0, nle0, n0le, n0lt, nclamp, ndiv, nmod2, gdi, gdn, if_pos, if_neg, if_true, if_false]
      · simp (disch := omega) only [C.f9, c_endOf C W hp, jns, bds, bvs, lts, gdt, nadd, nmul, nsub, nle, nlt, neq, nz0, nlt0, nle0, n0le, n0lt, nclamp, ndiv, nmod2, gdi, gdn, if_pos, if_neg, if_true, if_false]
theorem c_loud (C : CG M g G) (W : GW G) {l x : Nat} (hl : l < 1000) (hx : x < 1000) : f_X0_loudnessOf g (nI l) (nI x) M = some (nI (Ld G l x), M) := by
  have h1 := W.gravels
  have h3 := W.lanes
  have h4 := W.long
  unfold f_X0_loudnessOf
  refine lp0 (fun f i => lp_X0_loudnessOf_5 g (nI l) (nI x) f (nI (Ldn G l x i)) (nI i) M) (G 94) (by omega) (fun f i hi => ?_) (fun f => ?_)
  · have h2 := W.grv i hi
    have h5 := Ldn_le W l x (n := i) (by omega)
    have h6 := C.grv i hi
    rw [Nat.mul_comm] at h6
    rw [lp_X0_loudnessOf_5, Ldn]
    have a0 := f_at (M := M) (ly5 C) (by decide) (show i * 4 < 20 by omega)
    have a1 := f_at (M := M) (ly5 C) (by decide) (show i * 4 + 1 < 20 by omega)
    have a2 := f_at (M := M) (ly5 C) (by decide) (show i * 4 + 2 < 20 by omega)
    have a3 := f_at (M := M) (ly5 C) (by decide) (show i * 4 + 3 < 20 by omega)
    rw [h6.2.1] at a1
    rw [h6.2.2.1] at a2
    rw [h6.2.2.2] at a3
    rw [h6.1] at a0
    by_cases c1 : G (36 + i) = l
    · by_cases c2 : G (41 + i) ≤ x
      · by_cases c4 : x ≤ G (46 + i)
        · by_cases c3 : Ldn G l x i < G (51 + i)
          · simp (disch := omega) only [C.f13, Nat.add_zero, a0, a1, a2, a3, jns, bds, bvs, lts, gdt, nadd, nmul, nsub, nle, nlt, neq, nz0, nlt0, nle0, n0le, n0lt, nclamp, ndiv, nmod2, gdi, gdn, if_pos, if_neg, if_true, if_false]
          · simp (disch := omega) only [C.f13, Nat.add_zero, a0, a1, a2, a3, jns, bds, bvs, lts, gdt, nadd, nmul, nsub, nle, nlt, neq, nz0, nlt0, nle0, n0le, n0lt, nclamp, ndiv, nmod2, gdi, gdn, if_pos, if_neg, if_true, if_false]
        · simp (disch := omega) only [C.f13, Nat.add_zero, a0, a1, a2, a3, jns, bds, bvs, lts, gdt, nadd, nmul, nsub, nle, nlt, neq, nz0, nlt0, nle0, n0le, n0lt, nclamp, ndiv, nmod2, gdi, gdn, if_pos, if_neg, if_true, if_false]
      · simp (disch := omega) only [C.f13, Nat.add_zero, a0, a1, a2, a3, jns, bds, bvs, lts, gdt, nadd, nmul, nsub, nle, nlt, neq, nz0, nlt0, nle0, n0le, n0lt, nclamp, ndiv, nmod2, gdi, gdn, if_pos, if_neg, if_true, if_false]
    · simp (disch := omega) only [C.f13, Nat.add_zero, a0, jns, bds, bvs, lts, gdt, nadd, nmul, nsub, nle, nlt, neq, nz0, nlt0, nle0, n0le, n0lt, nclamp, ndiv, nmod2, gdi, gdn, if_pos, if_neg, if_true, if_false]
  · rw [lp_X0_loudnessOf_5]
    simp (disch := omega) only [C.f13, jns, bds, bvs, lts, gdt, nadd, nmul, nsub, nle, nlt, neq, nz0, nlt0, nle0, n0le, n0lt, nclamp, ndiv, nmod2, gdi, gdn, if_pos, if_neg, if_true, if_false]
    rfl
theorem c_isCaught (C : CG M g G) (W : GW G) {c x : Nat} (hc : c < G 95) (hx : x ≤ 40) : f_X0_isCaughtFrom g (nI c) (nI x) M = some (nI (Ct G c x).toNat, M) := by
  have h1 := W.crp c hc
  have h2 := W.creepers
  have h3 : G 0 * G 2 ≤ 40 * 9 := mulb W.long.2 W.runs.2
  have h4 : x * G (61 + c) ≤ 40 * 20 := mulb hx h1.2.2.1
  have h5 := c_trait C W hc (show 1 < 7 by decide)
  rw [show 56 + 5 * 1 + c = 61 + c from by omega] at h5
  unfold f_X0_isCaughtFrom Ct
  by_cases c1 : G 0 * G 2 < (x * G (61 + c) + 1) / 2
  · simp only [decide_eq_true c1]; simp (disch := omega) only [h5, C.f6, C.f8, jns, bds, bvs, lts, gdt, nadd, nmul, nsub, nle, nlt, neq, nz0, nlt0, nle0, n0le, n0lt, nclamp, ndiv, nmod2, gdi, gdn, if_pos, if_neg, if_true, if_false]; rfl
  · simp only [decide_eq_false c1]; simp (disch := omega) only [h5, C.f6, C.f8, jns, bds, bvs, lts, gdt, nadd, nmul, nsub, nle, nlt, neq, nz0, nlt0, nle0, n0le, n0lt, nclamp, ndiv, nmod2, gdi, gdn, if_pos, if_neg, if_true, if_false]; rfl
end
