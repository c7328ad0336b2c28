/-! NUMBERS AND SMALL FUNCTIONS: what the trees' small functions come to. -/
theorem nadd (a b : Nat) : nI a + nI b = nI (a + b) := nI_add a b
theorem nmul (a b : Nat) : nI a * nI b = nI (a * b) := pk_mul a b
theorem nsub {a b : Nat} (h : b ≤ a) : nI a - nI b = nI (a - b) := pk_sub h
theorem nle {a b : Nat} (ha : a < 2 ^ 31) (hb : b < 2 ^ 31) : (nI a ≤ nI b) = (a ≤ b) := propext (nI_leI ha hb)
theorem nlt {a b : Nat} (ha : a < 2 ^ 31) (hb : b < 2 ^ 31) : (nI a < nI b) = (a < b) := propext (nI_ltI ha hb)
theorem neq {a b : Nat} (ha : a < 2 ^ 31) (hb : b < 2 ^ 31) : (nI a = nI b) = (a = b) := propext (nI_eq ha hb)
theorem nz0 {a : Nat} (ha : a < 2 ^ 31) : (nI a = 0) = (a = 0) := propext ⟨fun h => (nI_eq ha (b := 0) (by decide)).mp h, fun h => by rw [h]; rfl⟩
theorem nlt0 {a : Nat} (ha : a < 2 ^ 31) : (nI a < 0) = False := propext ⟨fun h => nI_pos ha h, False.elim⟩
theorem nle0 {a : Nat} (ha : a < 2 ^ 31) : (nI a ≤ 0) = (a = 0) := propext ⟨fun h => Nat.le_zero.mp ((nI_leI ha (b := 0) (by decide)).mp h), fun h => by rw [h]; exact (nI_leI (by decide) (b := 0) (by decide)).mpr (Nat.le_refl _)⟩
theorem n0le {a : Nat} (ha : a < 2 ^ 31) : (0 ≤ nI a) = True := propext ⟨fun _ => trivial, fun _ => nI_pos' ha⟩
theorem n0lt {a : Nat} (ha : a < 2 ^ 31) : (0 < nI a) = (0 < a) := propext ⟨fun h => (nI_ltI (a := 0) (by decide) ha).mp h, fun h => (nI_ltI (a := 0) (by decide) ha).mpr h⟩
theorem nclamp {a : Nat} (ha : a < 2 ^ 31) : (nI a).toNatClampNeg = a := nI_clamp ha
theorem ntoInt {a : Nat} (ha : a < 2 ^ 31) : (nI a).toInt = (a : Int) := nI_toInt ha
theorem ndiv {a b : Nat} (ha : a < 2 ^ 31) (h0 : 0 < b) (hb : b < 2 ^ 31) : nI a / nI b = nI (a / b) := pk_div ha h0 hb
theorem nmod {a b : Nat} (ha : a < 2 ^ 31) (h0 : 0 < b) (hb : b < 2 ^ 31) : nI a - nI a / nI b * nI b = nI (a % b) := pk_rem ha h0 hb
theorem nmod2 (a b : Nat) : nI a - nI (a / b * b) = nI (a % b) := by
  rw [nsub (Nat.div_mul_le_self a b)]
  congr 1
  have := Nat.div_add_mod a b
  rw [Nat.mul_comm] at this
  omega
theorem inbN {a n : Nat} (ha : a < 2 ^ 31) (h : a < n) : inb (nI a) n = true := by
  unfold inb
  rw [nI_toInt ha]
  exact decide_eq_true ⟨by omega, by omega⟩
theorem gdt {α : Type} (k : Option α) : gd true k = k := rfl
theorem gdi {α : Type} {a n : Nat} (ha : a < 2 ^ 31) (h : a < n) (k : Option α) : gd (inb (nI a) n) k = k := by rw [inbN ha h]; rfl
theorem gdz {α : Type} {v : Int32} (h : v = 0 ∨ v = 1) (k : Option α) : gd (zo v) k = k := by rcases h with rfl | rfl <;> rfl
theorem gdn {α : Type} {a : Nat} (ha : a < 2 ^ 31) (h : 0 < a) (k : Option α) : gd (nzi (nI a)) k = k := by
  have : nzi (nI a) = true := by
    unfold nzi
    simp only [bne_iff_ne, ne_eq]
    exact nI_ne0 h ha
  rw [this]; rfl
theorem bds {α β : Type} (a : α) (m : Mm) (k : α → Mm → Option β) : bd (some (a, m)) k = k a m := rfl
theorem bvs {β : Type} (m : Mm) (k : Mm → Option β) : bv (some m) k = k m := rfl
theorem lts {α β : Type} (a : α) (k : α → Option β) : lt a k = k a := rfl
theorem jns {α β : Type} (k : α) (f : α → Option β) : jn k f = f k := rfl
theorem ms1 (M : Mm) (q k : Nat) (v : Int32) : mset M q k v q k = v := by simp [mset, upd]
theorem ms2 (M : Mm) {q k a i : Nat} (v : Int32) (h : a ≠ q) : mset M q k v a i = M a i := by simp [mset, h]
theorem ms3 (M : Mm) {q k i : Nat} (v : Int32) (h : i ≠ k) : mset M q k v q i = M q i := by simp [mset, upd, h]
theorem msd (M : Mm) (q k a i : Nat) (v : Int32) : mset M q k v a i = if a = q ∧ i = k then v else M a i := by
  by_cases h : a = q
  · subst h
    by_cases h2 : i = k
    · subst h2; simp [ms1]
    · rw [ms3 M v h2, if_neg (fun z => h2 z.2)]
  · rw [ms2 M v h, if_neg (fun z => h z.1)]
theorem al_eq {q t n : Nat} (h : LY q = .inr (t, n)) : alen q = n := by simp [alen, h]

/-! the class's guarded rows -/
theorem f_at {q n a : Nat} {M : Mm} (hL : LY q = .inr (0, n)) (hn : n < 2 ^ 31) (h : a < n) : f_X9_at q (nI a) M = some (M q a, M) := by
  unfold f_X9_at
  simp (disch := omega) only [al_eq hL, jns, bds, bvs, lts, gdt, nadd, nmul, nsub, nle, nlt, neq, nz0, nlt0, nle0, n0le, n0lt, nclamp, ndiv, nmod2, gdi, gdn, if_pos, if_neg, if_true, if_false]
theorem f_at_out {q n a : Nat} {M : Mm} (hL : LY q = .inr (0, n)) (hn : n < 2 ^ 31) (ha : a < 2 ^ 31) (h : n ≤ a) : f_X9_at q (nI a) M = some (nI 0, M) := by
  unfold f_X9_at
  simp (disch := omega) only [al_eq hL, jns, bds, bvs, lts, gdt, nadd, nmul, nsub, nle, nlt, neq, nz0, nlt0, nle0, n0le, n0lt, nclamp, ndiv, nmod2, gdi, gdn, if_pos, if_neg, if_true, if_false]
theorem f_put {q n a : Nat} {M : Mm} {v : Int32} (hL : LY q = .inr (0, n)) (hn : n < 2 ^ 31) (h : a < n) : f_X9_put q (nI a) v M = some (mset M q a v) := by
  unfold f_X9_put
  simp (disch := omega) only [al_eq hL, jns, bds, bvs, lts, gdt, nadd, nmul, nsub, nle, nlt, neq, nz0, nlt0, nle0, n0le, n0lt, nclamp, ndiv, nmod2, gdi, gdn, if_pos, if_neg, if_true, if_false]
theorem f_add {q n a : Nat} {M : Mm} {v : Int32} (hL : LY q = .inr (0, n)) (hn : n < 2 ^ 31) (h : a < n) : f_X9_add q (nI a) v M = some (mset M q a (M q a + v)) := by
  unfold f_X9_add
  rw [f_at hL hn h, bds, f_put hL hn h, bvs]
theorem f_by {a b : Nat} {M : Mm} (ha : a < 2 ^ 31) (hb : b < 2 ^ 31) : f_X9_by (nI a) (nI b) M = some (nI (a / b), M) := by
  unfold f_X9_by
  by_cases h : b = 0
  · subst h; simp (disch := omega) only [Nat.div_zero, jns, bds, bvs, lts, gdt, nadd, nmul, nsub, nle, nlt, neq, nz0, nlt0, nle0, n0le, n0lt, nclamp, ndiv, nmod2, gdi, gdn, if_pos, if_neg, if_true, if_false]
  · simp (disch := omega) only [jns, bds, bvs, lts, gdt, nadd, nmul, nsub, nle, nlt, neq, nz0, nlt0, nle0, n0le, n0lt, nclamp, ndiv, nmod2, gdi, gdn, if_pos, if_neg, if_true, if_false]
theorem f_left {a b : Nat} {M : Mm} (ha : a < 2 ^ 31) (h0 : 0 < b) (hb : b < 2 ^ 31) : f_X9_leftOver (nI a) (nI b) M = some (nI (a % b), M) := by
  unfold f_X9_leftOver
  simp (disch := omega) only [jns, bds, bvs, lts, gdt, nadd, nmul, nsub, nle, nlt, neq, nz0, nlt0, nle0, n0le, n0lt, nclamp, ndiv, nmod2, gdi, gdn, if_pos, if_neg, if_true, if_false]
/-- a row's first n made v -/
def fillM (M : Mm) (q n : Nat) (v : Int32) : Mm := fun a => if a = q then (fun i => if i < n then v else M q i) else M a
theorem lp_fill {q n : Nat} {v : Int32} (hL : LY q = .inr (0, n)) (hn : n < 2 ^ 30) : ∀ (k i : Nat) (f : Nat) (M : Mm), i + k = n → k < f → lp_X9_fill_2 q v f (nI i) M = some (fun a => if a = q then (fun j => if i ≤ j ∧ j < n then v else M q j) else M a) := by
  intro k
  induction k with
  | zero =>
    intro i f M hi hf
    obtain ⟨f, rfl⟩ : ∃ g, f = g + 1 := ⟨f - 1, by omega⟩
    unfold lp_X9_fill_2
    simp (disch := omega) only [al_eq hL, jns, bds, bvs, lts, gdt, nadd, nmul, nsub, nle, nlt, neq, nz0, nlt0, nle0, n0le, n0lt, nclamp, ndiv, nmod2, gdi, gdn, if_pos, if_neg, if_true, if_false]
    congr 1
    funext a j
    by_cases h : a = q
    · subst h; simp
    · simp [h]
  | succ k ih =>
    intro i f M hi hf
    obtain ⟨f, rfl⟩ : ∃ g, f = g + 1 := ⟨f - 1, by omega⟩
    unfold lp_X9_fill_2
    simp (disch := omega) only [al_eq hL, jns, bds, bvs, lts, gdt, nadd, nmul, nsub, nle, nlt, neq, nz0, nlt0, nle0, n0le, n0lt, nclamp, ndiv, nmod2, gdi, gdn, if_pos, if_neg, if_true, if_false]
    rw [ih (i + 1) f _ (by omega) (by omega)]
    congr 1
    funext a j
    by_cases h : a = q
    · subst h
      simp only [if_true]
      by_cases h2 : j = i
      · subst h2; rw [if_neg (by omega), if_pos (by omega), ms1]
      · rw [ms3 _ _ h2]
        by_cases h3 : i ≤ j ∧ j < n
        · rw [if_pos h3, if_pos (by omega)]
        · rw [if_neg h3, if_neg (by omega)]
    · rw [if_neg h, if_neg h, mset_off _ _ _ h]
theorem f_fill {q n : Nat} {v : Int32} {M : Mm} (hL : LY q = .inr (0, n)) (hn : n < 1000) : f_X9_fill q v M = some (fillM M q n v) := by
  unfold f_X9_fill
  have h := lp_fill (v := v) hL (by omega) n 0 N0 M (by omega) (by unfold N0; omega)
  rw [h]
  congr 1
  funext a j
  unfold fillM
  by_cases h : a = q
  · subst h; simp
  · simp [h]
/-- the row s laid into the row t -/
def copyM (M : Mm) (s t n : Nat) : Mm := fun a => if a = t then (fun i => if i < n then M s i else M t i) else M a
theorem lp_copy {s t n : Nat} (hs : LY s = .inr (0, n)) (ht : LY t = .inr (0, n)) (hn : n < 2 ^ 30) (hst : s ≠ t) : ∀ (k i : Nat) (f : Nat) (M : Mm), i + k = n → k < f → lp_X9_copy_2 s t f (nI i) M = some (fun a => if a = t then (fun j => if i ≤ j ∧ j < n then M s j else M t j) else M a) := by
  intro k
  induction k with
  | zero =>
    intro i f M hi hf
    obtain ⟨f, rfl⟩ : ∃ g, f = g + 1 := ⟨f - 1, by omega⟩
    unfold lp_X9_copy_2
    simp (disch := omega) only [al_eq ht, jns, bds, bvs, lts, gdt, nadd, nmul, nsub, nle, nlt, neq, nz0, nlt0, nle0, n0le, n0lt, nclamp, ndiv, nmod2, gdi, gdn, if_pos, if_neg, if_true, if_false]
    congr 1
    funext a j
    by_cases h : a = t
    · subst h; simp
    · simp [h]
  | succ k ih =>
    intro i f M hi hf
    obtain ⟨f, rfl⟩ : ∃ g, f = g + 1 := ⟨f - 1, by omega⟩
    unfold lp_X9_copy_2
    have hk : f_X9_at s (nI i) M = some (M s i, M) := f_at hs (by omega) (by omega)
    simp (disch := omega) only [al_eq ht, hk, jns, bds, bvs, lts, gdt, nadd, nmul, nsub, nle, nlt, neq, nz0, nlt0, nle0, n0le, n0lt, nclamp, ndiv, nmod2, gdi, gdn, if_pos, if_neg, if_true, if_false]
    rw [ih (i + 1) f _ (by omega) (by omega)]
    congr 1
    funext a j
    by_cases h : a = t
    · subst h
      simp only [if_true]
      rw [ms2 _ _ hst]
      by_cases h2 : j = i
      · subst h2; rw [if_neg (by omega), if_pos (by omega), ms1]
      · rw [ms3 _ _ h2]
        by_cases h3 : i ≤ j ∧ j < n
        · rw [if_pos h3, if_pos (by omega)]
        · rw [if_neg h3, if_neg (by omega)]
    · rw [if_neg h, if_neg h, mset_off _ _ _ h]
theorem f_copy {s t n : Nat} {M : Mm} (hs : LY s = .inr (0, n)) (ht : LY t = .inr (0, n)) (hn : n < 1000) (hst : s ≠ t) : f_X9_copy s t M = some (copyM M s t n) := by
  unfold f_X9_copy
  have h := lp_copy hs ht (by omega) hst n 0 N0 M (by omega) (by unfold N0; omega)
  rw [h]
  congr 1
  funext a j
  unfold copyM
  by_cases h : a = t
  · subst h; simp
  · simp [h]
