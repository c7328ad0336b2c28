/-! FAIR: starts that are fair. -/
/-- the place of a creeper by a code -/
def Dg (b n code c : Nat) : Nat := code / b ^ (n - 1 - c) % b
def Mi (f : Nat → Nat) : Nat → Nat
  | 0 => 100000
  | n + 1 => min (Mi f n) (f n)
def Mx (f : Nat → Nat) : Nat → Nat
  | 0 => 0
  | n + 1 => max (Mx f n) (f n)
def MiI (f : Nat → Nat) (a : Nat) : Nat → Nat
  | 0 => 100000
  | k + 1 => min (MiI f (a + 1) k) (f a)
def MxI (f : Nat → Nat) (a : Nat) : Nat → Nat
  | 0 => 0
  | k + 1 => max (MxI f (a + 1) k) (f a)
def SmI (f : Nat → Nat) (a : Nat) : Nat → Nat
  | 0 => 0
  | k + 1 => SmI f (a + 1) k + f a
theorem MiI_last (f : Nat → Nat) : ∀ k a, MiI f a (k + 1) = min (MiI f a k) (f (a + k))
  | 0, a => rfl
  | k + 1, a => by
    rw [MiI, MiI_last f k (a + 1), MiI, show a + 1 + k = a + (k + 1) from by omega]
    omega
theorem MxI_last (f : Nat → Nat) : ∀ k a, MxI f a (k + 1) = max (MxI f a k) (f (a + k))
  | 0, a => rfl
  | k + 1, a => by
    rw [MxI, MxI_last f k (a + 1), MxI, show a + 1 + k = a + (k + 1) from by omega]
    omega
theorem SmI_last (f : Nat → Nat) : ∀ k a, SmI f a (k + 1) = SmI f a k + f (a + k)
  | 0, a => by simp [SmI]
  | k + 1, a => by
    rw [SmI, SmI_last f k (a + 1), SmI, show a + 1 + k = a + (k + 1) from by omega]
    omega
theorem MiI_Mi (f : Nat → Nat) : ∀ n, MiI f 0 n = Mi f n
  | 0 => rfl
  | n + 1 => by rw [MiI_last, MiI_Mi f n, Mi, Nat.zero_add]
theorem MxI_Mx (f : Nat → Nat) : ∀ n, MxI f 0 n = Mx f n
  | 0 => rfl
  | n + 1 => by rw [MxI_last, MxI_Mx f n, Mx, Nat.zero_add]
theorem SmI_Sm (f : Nat → Nat) : ∀ n, SmI f 0 n = Sm f n
  | 0 => rfl
  | n + 1 => by rw [SmI_last, SmI_Sm f n, Sm, Nat.zero_add]
theorem MxI_le {f : Nat → Nat} {b : Nat} : ∀ {k a : Nat}, (∀ c, c < a + k → f c ≤ b) → MxI f a k ≤ b
  | 0, a, _ => by simp [MxI]
  | k + 1, a, h => by
    have h1 := MxI_le (f := f) (b := b) (k := k) (a := a + 1) (fun c hc => h c (by omega))
    have h2 := h a (by omega)
    rw [MxI]
    omega
theorem MiI_le (f : Nat → Nat) : ∀ k a, MiI f a k ≤ 100000
  | 0, a => Nat.le_refl _
  | k + 1, a => by
    have h1 := MiI_le f k (a + 1)
    rw [MiI]
    omega
theorem SmI_le {f : Nat → Nat} {b : Nat} : ∀ {k a : Nat}, (∀ c, c < a + k → f c ≤ b) → SmI f a k ≤ k * b
  | 0, a, _ => by simp [SmI]
  | k + 1, a, h => by
    have h1 := SmI_le (f := f) (b := b) (k := k) (a := a + 1) (fun c hc => h c (by omega))
    have h2 := h a (by omega)
    rw [SmI, Nat.succ_mul]
    omega
theorem Mi_Mx {f : Nat → Nat} {b : Nat} (hb : b ≤ 100000) : ∀ {n : Nat}, 0 < n → (∀ c, c < n → f c ≤ b) → Mi f n ≤ Mx f n ∧ Mx f n ≤ b
  | n + 1, _, h => by
    rw [Mi, Mx]
    have h2 := h n (by omega)
    by_cases c : n = 0
    · subst c
      simp only [Mi, Mx]
      omega
    · have h1 := Mi_Mx hb (n := n) (by omega) (fun c hc => h c (by omega))
      omega
/-- the base, what a creeper needs by a code, how far apart, the sum -/
def Bf (G : Nat → Nat) : Nat := min 8 (G 0)
def Vf (G : Nat → Nat) (code c : Nat) : Nat := (G 0 - Dg (Bf G) (G 95) code c) * G (61 + c)
def Ap (G : Nat → Nat) (code : Nat) : Nat := Mx (Vf G code) (G 95) - Mi (Vf G code) (G 95)
def Su (G : Nat → Nat) (code : Nat) : Nat := Sm (Dg (Bf G) (G 95) code) (G 95)
/-- the best of the first k codes -/
def Bq (G : Nat → Nat) : Nat → Nat
  | 0 => 0
  | k + 1 => if k = 0 ∨ Ap G k < Ap G (Bq G k) ∨ (Ap G k = Ap G (Bq G k) ∧ Su G k < Su G (Bq G k)) then k else Bq G k
theorem Bq_le (G : Nat → Nat) : ∀ k, Bq G k ≤ k
  | 0 => Nat.le_refl _
  | k + 1 => by
    have := Bq_le G k
    rw [Bq]
    split <;> omega
theorem Bf_b {G : Nat → Nat} (W : GW G) : 4 ≤ Bf G ∧ Bf G ≤ 8 ∧ Bf G ≤ G 0 := by
  have := W.long
  unfold Bf
  omega
theorem pw8 {b n : Nat} (hb : b ≤ 8) (hn : n ≤ 5) : b ^ n ≤ 32768 := by
  have h1 : b ^ n ≤ 8 ^ n := Nat.pow_le_pow_left hb n
  have h2 : 8 ^ n ≤ 8 ^ 5 := Nat.pow_le_pow_right (by omega) hn
  omega
theorem Dg_lt {b n code c : Nat} (hb : 0 < b) : Dg b n code c < b := Nat.mod_lt _ hb
theorem Vf_le {G : Nat → Nat} (W : GW G) (code : Nat) {c : Nat} (hc : c < G 95) : Vf G code c ≤ 800 := by
  have h1 := W.crp c hc
  have h2 := W.long
  have : Vf G code c ≤ 40 * 20 := mulb (by omega) h1.2.2.1
  omega
theorem nI_prd (j : Nat) : nI j + (-1 : Int32) = nI j - nI 1 := by
  rw [show (-1 : Int32) = -(nI 1) from by decide, ← Int32.sub_eq_add_neg]
theorem neg_pred : (nI 0 - nI 1 : Int32) < 0 := by decide
theorem left_step {b n code j : Nat} (hj : j + 1 ≤ n) : code / b ^ (n - (j + 1)) % b = Dg b n code j ∧ code / b ^ (n - (j + 1)) / b = code / b ^ (n - j) := by
  refine ⟨?_, ?_⟩
  · unfold Dg
    rw [show n - (j + 1) = n - 1 - j from by omega]
  · rw [Nat.div_div_eq_div_mul, ← Nat.pow_succ, show (n - (j + 1)).succ = n - j from by omega]
theorem c_unfoldLoop {b n code : Nat} (hb : 4 ≤ b ∧ b ≤ 8) (hn : n ≤ 5) (hcode : code ≤ 32768) : ∀ j f M, j ≤ n → j < f → ∃ M', lp_X6_unfold_11 (nI b) f (nI (code / b ^ (n - j))) (nI j - nI 1) M = some M' ∧ (∀ a, a ≠ 78 → M' a = M a) ∧ (∀ c, c < j → M' 78 c = nI (Dg b n code c)) ∧ ∀ c, j ≤ c → M' 78 c = M 78 c := by
  intro j
  induction j with
  | zero =>
    intro f M hj hf
    obtain ⟨f, rfl⟩ : ∃ g, f = g + 1 := ⟨f - 1, by omega⟩
    refine ⟨M, ?_, fun _ _ => rfl, fun c hc => by omega, fun _ _ => rfl⟩
    rw [lp_X6_unfold_11, if_pos neg_pred]
  | succ j ih =>
    intro f M hj hf
    obtain ⟨f, rfl⟩ : ∃ g, f = g + 1 := ⟨f - 1, by omega⟩
    have hl : code / b ^ (n - (j + 1)) ≤ code := Nat.div_le_self _ _
    obtain ⟨s1, s2⟩ := left_step (b := b) (code := code) hj
    obtain ⟨M', e, f1, f2, f3⟩ := ih f (mset M 78 j (nI (Dg b n code j))) (by omega) (by omega)
    refine ⟨M', ?_, fun a ha => by rw [f1 a ha, mset_off _ _ _ ha], fun c hc => ?_, fun c hc => by rw [f3 c (by omega), ms3 _ _ (by omega)]⟩
    · rw [lp_X6_unfold_11, nsub (by omega), Nat.add_sub_cancel, if_neg (by rw [nlt0 (by omega)]; exact id), f_left (by omega) (by omega) (by omega), bds, f_put (q := 78) (n := 5) rfl (by decide) (by omega), bvs, f_by (by omega) (by omega), bds, s1, s2, nI_prd]
      exact e
    · by_cases c1 : c = j
      · subst c1; rw [f3 c (Nat.le_refl _), ms1]
      · exact f2 c (by omega)
theorem maxI {a b : Nat} (ha : a < 2 ^ 31) (hb : b < 2 ^ 31) : (if nI a < nI b then nI b else nI a) = nI (max a b) := by
  by_cases h : a < b
  · rw [if_pos (nI_ltI ha hb |>.mpr h), Nat.max_eq_right (by omega)]
  · rw [if_neg (fun z => h ((nI_ltI ha hb).mp z)), Nat.max_eq_left (by omega)]
theorem Mi_le (f : Nat → Nat) : ∀ n, Mi f n ≤ 100000
  | 0 => Nat.le_refl _
  | n + 1 => by
    have := Mi_le f n
    rw [Mi]
    omega
theorem Mx_le {f : Nat → Nat} {b : Nat} : ∀ {n : Nat}, (∀ c, c < n → f c ≤ b) → Mx f n ≤ b
  | 0, _ => by simp [Mx]
  | n + 1, h => by
    have h1 := Mx_le (n := n) (fun c hc => h c (by omega))
    have h2 := h n (by omega)
    rw [Mx]
    omega
theorem c_considerLoop {M : Mm} {G : Nat → Nat} {g code : Nat} (C : CG M g G) (W : GW G) (h78 : ∀ c, c < G 95 → M 78 c = nI (Dg (Bf G) (G 95) code c)) {y2 : Int32} (k : Int32 → Int32 → Int32 → Mm → Option Mm) :
    lp_X6_consider_11 g y2 k N0 (nI 0) (nI 0) (nI 0) (nI 0) M = k (nI (Mi (Vf G code) (G 95))) (nI (Mx (Vf G code) (G 95))) (nI (Su G code)) M := by
  have hcr := W.creepers
  have hlo := W.long
  have hB := Bf_b W
  refine Eq.trans (lp0 (fun f i => lp_X6_consider_11 g y2 k f (if i = 0 then nI 0 else nI (Mi (Vf G code) i)) (nI (Mx (Vf G code) i)) (nI (Sm (Dg (Bf G) (G 95) code) i)) (nI i) M) (G 95) (by omega) (fun f i hi => ?_) (fun f => ?_)) rfl
  · have hd := Dg_lt (b := Bf G) (n := G 95) (code := code) (c := i) (by omega)
    have hv := Vf_le W code hi
    have hm1 := Mi_le (Vf G code) i
    have hm2 := Mx_le (f := Vf G code) (b := 800) (n := i) (fun c hc => Vf_le W code (by omega))
    have ha : f_X9_at 78 (nI i) M = some (nI (Dg (Bf G) (G 95) code i), M) := by
      rw [← h78 i hi]
      exact f_at (n := 5) rfl (by decide) (by omega)
    have ht := c_trait C W hi (show 1 < 7 by decide)
    rw [show 56 + 5 * 1 + i = 61 + i from by omega] at ht
    have hV : (G 0 - Dg (Bf G) (G 95) code i) * G (61 + i) = Vf G code i := rfl
    rw [lp_X6_consider_11, C.f14, if_neg (by rw [nle (by omega) (by omega)]; omega), ha, bds, ht, bds, lts, C.f6, nsub (by omega), nmul, hV]
    simp only [jns, lts]
    rw [ha, bds, bds, maxI (by omega) (by omega), nadd, nadd, if_neg (show ¬ i + 1 = 0 by omega), Mx, Sm, Mi]
    by_cases c : i = 0
    · subst c
      have : min (Mi (Vf G code) 0) (Vf G code 0) = Vf G code 0 := by simp only [Mi]; omega
      rw [if_pos (by decide), this]
    · rw [if_neg (by rw [nz0 (by omega)]; exact c), if_neg c, minI (by omega) (by omega)]
  · rw [lp_X6_consider_11, C.f14, if_pos (Int32.le_refl _), if_neg (show ¬ G 95 = 0 by omega)]
    rfl
