/-! TOKENS: both find the same token from the same place. -/
def kd (x : Nat) : Nat := if 97 ≤ x ∧ x ≤ 122 then 1 else if 48 ≤ x ∧ x ≤ 57 then 2 else if x = 32 then 5 else if x = 44 then 4 else if x = 59 then 3 else 6
def TBc (M : Mm) (n : Nat) (b : Nat → Nat) : Prop := (n ≤ 900) ∧ (M 15 2 = nI n) ∧ (∀ k, k < n → b k < 256 ∧ M 16 k &&& nI 255 = nI (b k))
theorem TBc.n9 {M : Mm} {n : Nat} {b : Nat → Nat} (h : TBc M n b) : n ≤ 900 := h.1
theorem TBc.c2 {M : Mm} {n : Nat} {b : Nat → Nat} (h : TBc M n b) : M 15 2 = nI n := h.2.1
theorem TBc.by_ {M : Mm} {n : Nat} {b : Nat → Nat} (h : TBc M n b) : ∀ k, k < n → b k < 256 ∧ M 16 k &&& nI 255 = nI (b k) := h.2.2
def TBr (M : Mm) (n : Nat) (b : Nat → Nat) : Prop := (n ≤ 900) ∧ (M 81 3 = nI n) ∧ (∀ k, k < n → b k < 256 ∧ M 82 k = nI (b k))
theorem TBr.n9 {M : Mm} {n : Nat} {b : Nat → Nat} (h : TBr M n b) : n ≤ 900 := h.1
theorem TBr.r3 {M : Mm} {n : Nat} {b : Nat → Nat} (h : TBr M n b) : M 81 3 = nI n := h.2.1
theorem TBr.by_ {M : Mm} {n : Nat} {b : Nat → Nat} (h : TBr M n b) : ∀ k, k < n → b k < 256 ∧ M 82 k = nI (b k) := h.2.2
theorem TBc.cong {M M' : Mm} {n : Nat} {b : Nat → Nat} (h : TBc M n b) (h2 : M' 15 2 = M 15 2) (h3 : M' 16 = M 16) : TBc M' n b :=
  ⟨h.n9, by rw [h2]; exact h.c2, fun k hk => by rw [h3]; exact h.by_ k hk⟩
theorem TBr.cong {M M' : Mm} {n : Nat} {b : Nat → Nat} (h : TBr M n b) (h2 : M' 81 3 = M 81 3) (h3 : M' 82 = M 82) : TBr M' n b :=
  ⟨h.n9, by rw [h2]; exact h.r3, fun k hk => by rw [h3]; exact h.by_ k hk⟩
theorem kd_b (x : Nat) : 1 ≤ kd x ∧ kd x ≤ 6 := by
  unfold kd
  repeat' split
  all_goals omega
theorem c_kindN {M : Mm} {x : Nat} (hx : x < 256) : f_X8_kindOf (nI x) M = some (nI (kd x), M) := by
  unfold f_X8_kindOf kd
  simp only [jns]
  have hm : ¬ nI x = (-1 : Int32) := fun z => nneg (by omega) z.symm
  by_cases c1 : 97 ≤ x ∧ x ≤ 122
  · rw [if_neg (by rw [nlt (by omega) (by omega)]; omega), if_neg (by rw [nlt (by omega) (by omega)]; omega), if_pos c1]
  · have e1 : ∀ K : Option (Int32 × Mm), (if nI x < nI 97 then K else if nI 122 < nI x then K else some (nI 1, M)) = K := fun K => by
      by_cases c : x < 97
      · rw [if_pos (by rw [nlt (by omega) (by omega)]; exact c)]
      · rw [if_neg (by rw [nlt (by omega) (by omega)]; exact c), if_pos (by rw [nlt (by omega) (by omega)]; omega)]
    rw [e1, if_neg c1]
    by_cases c2 : 48 ≤ x ∧ x ≤ 57
    · rw [if_neg (by rw [nlt (by omega) (by omega)]; omega), if_neg (by rw [nlt (by omega) (by omega)]; omega), if_pos c2]
    · have e2 : ∀ K : Option (Int32 × Mm), (if nI x < nI 48 then K else if nI 57 < nI x then K else some (nI 2, M)) = K := fun K => by
        by_cases c : x < 48
        · rw [if_pos (by rw [nlt (by omega) (by omega)]; exact c)]
        · rw [if_neg (by rw [nlt (by omega) (by omega)]; exact c), if_pos (by rw [nlt (by omega) (by omega)]; omega)]
      rw [e2, if_neg c2, if_neg hm]
      by_cases c3 : x = 32
      · rw [if_pos (by rw [c3]), if_pos c3]
      · rw [if_neg (by rw [neq (by omega) (by omega)]; exact c3), if_neg c3]
        by_cases c4 : x = 44
        · rw [if_pos (by rw [c4]), if_pos c4]
        · rw [if_neg (by rw [neq (by omega) (by omega)]; exact c4), if_neg c4]
          by_cases c5 : x = 59
          · rw [if_pos (by rw [c5]), if_pos c5]
          · rw [if_neg (by rw [neq (by omega) (by omega)]; exact c5), if_neg c5]
theorem c_kindE {M : Mm} : f_X8_kindOf (-1) M = some (nI 0, M) := by
  unfold f_X8_kindOf
  simp only [jns]
  rw [if_pos (by decide), if_pos (by decide), if_pos trivial]
theorem r_small {M : Mm} {x : Nat} (hx : x < 256) : f_X10_isSmall (nI x) M = some (nI (if kd x = 1 then 1 else 0), M) := by
  unfold f_X10_isSmall kd
  simp only [jns]
  by_cases c1 : 97 ≤ x ∧ x ≤ 122
  · rw [if_neg (by rw [nlt (by omega) (by omega)]; omega), if_neg (by rw [nlt (by omega) (by omega)]; omega), if_pos c1, if_pos rfl]
  · have hz : ¬ (if 48 ≤ x ∧ x ≤ 57 then 2 else if x = 32 then 5 else if x = 44 then 4 else if x = 59 then 3 else 6) = 1 := by
      repeat' split
      all_goals omega
    rw [if_neg c1, if_neg hz]
    by_cases c : x < 97
    · rw [if_pos (by rw [nlt (by omega) (by omega)]; exact c)]
    · rw [if_neg (by rw [nlt (by omega) (by omega)]; exact c), if_pos (by rw [nlt (by omega) (by omega)]; omega)]
theorem r_digit {M : Mm} {x : Nat} (hx : x < 256) : f_X10_isDigit (nI x) M = some (nI (if kd x = 2 then 1 else 0), M) := by
  unfold f_X10_isDigit
  simp only [jns]
  by_cases c1 : 48 ≤ x ∧ x ≤ 57
  · have : kd x = 2 := by unfold kd; rw [if_neg (by omega), if_pos c1]
    rw [if_neg (by rw [nlt (by omega) (by omega)]; omega), if_neg (by rw [nlt (by omega) (by omega)]; omega), if_pos this]
  · have : ¬ kd x = 2 := by
      unfold kd
      rw [if_neg c1]
      repeat' split
      all_goals omega
    rw [if_neg this]
    by_cases c : x < 48
    · rw [if_pos (by rw [nlt (by omega) (by omega)]; exact c)]
    · rw [if_neg (by rw [nlt (by omega) (by omega)]; exact c), if_pos (by rw [nlt (by omega) (by omega)]; omega)]
theorem r_smallE {M : Mm} : f_X10_isSmall (-1) M = some (nI 0, M) := by
  unfold f_X10_isSmall
  simp only [jns]
  rw [if_pos (by decide)]
theorem r_digitE {M : Mm} : f_X10_isDigit (-1) M = some (nI 0, M) := by
  unfold f_X10_isDigit
  simp only [jns]
  rw [if_pos (by decide)]
theorem c_byte {M : Mm} {n : Nat} {b : Nat → Nat} (B : TBc M n b) {i : Nat} (hi : i < n) : f_X8_byteAt (nI i) M = some (nI (b i), M) := by
  have h9 := B.n9
  unfold f_X8_byteAt
  simp only [jns]
  rw [if_neg (by rw [nlt0 (by omega)]; exact id), B.c2, if_neg (by rw [nle (by omega) (by omega)]; omega), if_neg (by rw [nle (by omega) (by omega)]; omega), gdi (by omega) (by omega), nclamp (by omega), (B.by_ i hi).2]
theorem c_byteE {M : Mm} {n : Nat} {b : Nat → Nat} (B : TBc M n b) {i : Nat} (hi : n ≤ i) (hi2 : i < 10000) : f_X8_byteAt (nI i) M = some (-1, M) := by
  have h9 := B.n9
  unfold f_X8_byteAt
  simp only [jns]
  rw [if_neg (by rw [nlt0 (by omega)]; exact id), B.c2, if_pos (by rw [nle (by omega) (by omega)]; exact hi)]
theorem r_see {M : Mm} {n : Nat} {b : Nat → Nat} (B : TBr M n b) {i : Nat} (hi : i < n) : f_X10_see (nI i) M = some (nI (b i), M) := by
  have h9 := B.n9
  unfold f_X10_see
  rw [B.r3, if_neg (by rw [nle (by omega) (by omega)]; omega), gdi (by omega) (by omega), nclamp (by omega), (B.by_ i hi).2]
theorem r_seeE {M : Mm} {n : Nat} {b : Nat → Nat} (B : TBr M n b) {i : Nat} (hi : n ≤ i) (hi2 : i < 10000) : f_X10_see (nI i) M = some (-1, M) := by
  have h9 := B.n9
  unfold f_X10_see
  rw [B.r3, if_pos (by rw [nle (by omega) (by omega)]; exact hi)]
/-- the first place from i on that is no blank, among d -/
def sk (b : Nat → Nat) : Nat → Nat → Nat
  | 0, i => i
  | d + 1, i => if b i = 32 then sk b d (i + 1) else i
theorem sk_b (b : Nat → Nat) : ∀ d i, i ≤ sk b d i ∧ sk b d i ≤ i + d ∧ (sk b d i < i + d → b (sk b d i) ≠ 32)
  | 0, i => ⟨Nat.le_refl _, Nat.le_refl _, fun h => absurd h (by show ¬ i < i + 0; omega)⟩
  | d + 1, i => by
    rw [sk]
    by_cases c : b i = 32
    · rw [if_pos c]
      obtain ⟨h1, h2, h3⟩ := sk_b b d (i + 1)
      exact ⟨by omega, by omega, fun h => h3 (by omega)⟩
    · rw [if_neg c]
      exact ⟨Nat.le_refl _, by omega, fun _ => c⟩
theorem kd32 (x : Nat) : kd x = 5 ↔ x = 32 := by
  unfold kd
  constructor
  · repeat' split
    all_goals omega
  · intro h
    subst h
    decide
theorem c_skip {M : Mm} {n : Nat} {b : Nat → Nat} (B : TBc M n b) (k : Int32 → Mm → Option Mm) : ∀ d i f, i + d = n → d < f → lp_X8_advance_10 k f (nI i) M = k (nI (sk b d i)) M := by
  have h9 := B.n9
  intro d
  induction d with
  | zero =>
    intro i f hi hf
    obtain ⟨f, rfl⟩ : ∃ g, f = g + 1 := ⟨f - 1, by omega⟩
    rw [lp_X8_advance_10, B.c2, if_pos (by rw [nle (by omega) (by omega)]; omega)]
    rfl
  | succ d ih =>
    intro i f hi hf
    obtain ⟨f, rfl⟩ : ∃ g, f = g + 1 := ⟨f - 1, by omega⟩
    have hk := kd_b (b i)
    rw [lp_X8_advance_10, B.c2, if_neg (by rw [nle (by omega) (by omega)]; omega), c_byte B (by omega), bds, c_kindN (B.by_ i (by omega)).1, bds, sk]
    by_cases c : b i = 32
    · rw [if_pos (by rw [(kd32 _).mpr c]), if_pos c, nadd]
      exact ih _ _ (by omega) (by omega)
    · rw [if_neg (by rw [neq (by omega) (by omega)]; exact fun z => c ((kd32 _).mp z)), if_neg c]
theorem r_skip {M : Mm} {n : Nat} {b : Nat → Nat} (B : TBr M n b) (k : Int32 → Mm → Option Mm) : ∀ d i f, i + d = n → d < f → lp_X10_next_5 k f (nI i) M = k (nI (sk b d i)) M := by
  have h9 := B.n9
  intro d
  induction d with
  | zero =>
    intro i f hi hf
    obtain ⟨f, rfl⟩ : ∃ g, f = g + 1 := ⟨f - 1, by omega⟩
    rw [lp_X10_next_5, r_seeE B (by omega) (by omega), bds, if_neg (by decide)]
    rfl
  | succ d ih =>
    intro i f hi hf
    obtain ⟨f, rfl⟩ : ∃ g, f = g + 1 := ⟨f - 1, by omega⟩
    have hb := (B.by_ i (by omega)).1
    rw [lp_X10_next_5, r_see B (by omega), bds, sk]
    by_cases c : b i = 32
    · rw [if_pos (by rw [c]), if_pos c, nadd]
      exact ih _ _ (by omega) (by omega)
    · rw [if_neg (by rw [neq (by omega) (by omega)]; exact c), if_neg c]
/-- how many of a kind stand together from i on, among d -/
def ru (b : Nat → Nat) (κ : Nat) : Nat → Nat → Nat
  | 0, _ => 0
  | d + 1, i => if kd (b i) = κ then ru b κ d (i + 1) + 1 else 0
theorem ru_b (b : Nat → Nat) (κ : Nat) : ∀ d i, ru b κ d i ≤ d ∧ ∀ j, j < ru b κ d i → kd (b (i + j)) = κ
  | 0, i => ⟨Nat.le_refl _, fun j hj => absurd hj (by show ¬ j < 0; omega)⟩
  | d + 1, i => by
    rw [ru]
    by_cases c : kd (b i) = κ
    · rw [if_pos c]
      obtain ⟨h1, h2⟩ := ru_b b κ d (i + 1)
      refine ⟨by omega, fun j hj => ?_⟩
      by_cases c2 : j = 0
      · subst c2; exact c
      · have := h2 (j - 1) (by omega)
        rw [show i + 1 + (j - 1) = i + j from by omega] at this
        exact this
    · rw [if_neg c]
      exact ⟨by omega, fun j hj => by omega⟩
/-- the number of the first j digits from s -/
def vN (b : Nat → Nat) (s : Nat) : Nat → Nat
  | 0 => 0
  | j + 1 => vN b s j * 10 + b (s + j) - 48
theorem kd2 {x : Nat} (h : kd x = 2) : 48 ≤ x ∧ x ≤ 57 := by
  revert h
  unfold kd
  repeat' split
  all_goals omega
theorem vN_lt {b : Nat → Nat} {s : Nat} : ∀ {j : Nat}, (∀ i, i < j → kd (b (s + i)) = 2) → vN b s j < 10 ^ j
  | 0, _ => by simp [vN]
  | j + 1, h => by
    have h1 := vN_lt (j := j) (fun i hi => h i (by omega))
    have h2 := kd2 (h j (by omega))
    rw [vN, Nat.pow_succ]
    omega
theorem c_widthLoop {M0 : Mm} {n s κ : Nat} {b : Nat → Nat} (B : TBc M0 n b) (hs : s ≤ n) (hκ : κ < 10) (k : Mm → Option Mm) : ∀ d j f M, s + j + d = n → d < f → M 15 2 = M0 15 2 → M 16 = M0 16 → M 15 3 = nI κ → M 15 4 = nI s → M 15 5 = nI j → (κ = 2 → M 15 6 = nI (vN b s j)) →
    ∃ M', lp_X8_advance_110 (nI (n - s)) k f M = k M' ∧ (∀ a, a ≠ 15 → M' a = M a) ∧ (∀ i, i ≠ 5 → i ≠ 6 → M' 15 i = M 15 i) ∧ M' 15 5 = nI (j + ru b κ d (s + j)) ∧ (κ = 2 → M' 15 6 = nI (vN b s (j + ru b κ d (s + j)))) := by
  have h9 := B.n9
  intro d
  induction d with
  | zero =>
    intro j f M hj hf e2 e16 e3 e4 e5 e6
    obtain ⟨f, rfl⟩ : ∃ g, f = g + 1 := ⟨f - 1, by omega⟩
    refine ⟨M, ?_, fun _ _ => rfl, fun _ _ _ => rfl, e5, e6⟩
    rw [lp_X8_advance_110, e5, if_pos (by rw [nle (by omega) (by omega)]; omega)]
  | succ d ih =>
    intro j f M hj hf e2 e16 e3 e4 e5 e6
    obtain ⟨f, rfl⟩ : ∃ g, f = g + 1 := ⟨f - 1, by omega⟩
    have B' : TBc M n b := B.cong e2 e16
    have hk := kd_b (b (s + j))
    have hbyte := (B'.by_ (s + j) (by omega)).1
    rw [lp_X8_advance_110, e5, if_neg (by rw [nle (by omega) (by omega)]; omega), e4, nadd, c_byte B' (by omega), bds, c_kindN hbyte, bds, e3, ru]
    by_cases c : kd (b (s + j)) = κ
    · rw [if_pos (by rw [c]), e4, e5, nadd, c_byte B' (by omega), bds, if_pos c, ms3 _ _ (show (5 : Nat) ≠ 6 by decide), e5, nadd j 1]
      obtain ⟨M', g1, g2, g3, g4, g5⟩ := ih (j + 1) f (mset (mset M 15 6 (M 15 6 * nI 10 + nI (b (s + j)) - nI 48)) 15 5 (nI (j + 1))) (by omega) (by omega) (by simp (disch := omega) only [e2, ms1, ms2, ms3]) (by rw [mset_off _ _ _ (by decide), mset_off _ _ _ (by decide)]; exact e16) (by simp (disch := omega) only [e3, ms1, ms2, ms3]) (by simp (disch := omega) only [e4, ms1, ms2, ms3]) (by rw [ms1]) (fun hk2 => by
        have hd := kd2 (c.trans hk2)
        rw [ms3 _ _ (by decide), ms1, e6 hk2, nmul, nadd, nsub (by omega)]
        rfl)
      refine ⟨M', g1, fun a ha => by rw [g2 a ha, mset_off _ _ _ ha, mset_off _ _ _ ha], fun i h5 h6 => by rw [g3 i h5 h6, ms3 _ _ h5, ms3 _ _ h6], ?_, fun hk2 => ?_⟩
      · rw [g4, show j + 1 + ru b κ d (s + (j + 1)) = j + (ru b κ d (s + j + 1) + 1) from by rw [Nat.add_assoc s j 1]; omega]
      · rw [g5 hk2, show j + 1 + ru b κ d (s + (j + 1)) = j + (ru b κ d (s + j + 1) + 1) from by rw [Nat.add_assoc s j 1]; omega]
    · rw [if_neg (by rw [neq (by omega) (by omega)]; exact c), if_neg c]
      exact ⟨M, rfl, fun _ _ => rfl, fun _ _ _ => rfl, e5, e6⟩
/-- the token from the place p on: its start, width, kind -/
def tS (b : Nat → Nat) (n p : Nat) : Nat := sk b (n - p) p
def tW (b : Nat → Nat) (n p : Nat) : Nat := if tS b n p = n then 0 else if kd (b (tS b n p)) = 1 ∨ kd (b (tS b n p)) = 2 then ru b (kd (b (tS b n p))) (n - tS b n p) (tS b n p) else 1
def tK (b : Nat → Nat) (n p : Nat) : Nat := if tS b n p = n then 0 else if (kd (b (tS b n p)) = 1 ∧ 8 < tW b n p) ∨ (kd (b (tS b n p)) = 2 ∧ 3 < tW b n p) then 6 else kd (b (tS b n p))
theorem tS_b {b : Nat → Nat} {n p : Nat} (hp : p ≤ n) : p ≤ tS b n p ∧ tS b n p ≤ n ∧ (tS b n p < n → kd (b (tS b n p)) ≠ 5) := by
  obtain ⟨h1, h2, h3⟩ := sk_b b (n - p) p
  unfold tS
  exact ⟨h1, by omega, fun h z => h3 (by omega) ((kd32 _).mp z)⟩
theorem ru_pos {b : Nat → Nat} {n s : Nat} (hs : s < n) : 1 ≤ ru b (kd (b s)) (n - s) s := by
  rw [show n - s = n - s - 1 + 1 from by omega, ru, if_pos rfl]
  omega
theorem tW_b {b : Nat → Nat} {n p : Nat} (hp : p ≤ n) : tS b n p + tW b n p ≤ n ∧ (tS b n p < n → 1 ≤ tW b n p) := by
  obtain ⟨h1, h2, h3⟩ := tS_b (b := b) hp
  have h4 := (ru_b b (kd (b (tS b n p))) (n - tS b n p) (tS b n p)).1
  unfold tW
  by_cases c : tS b n p = n
  · rw [if_pos c]; exact ⟨by omega, fun h => by omega⟩
  · rw [if_neg c]
    have h5 := ru_pos (b := b) (n := n) (s := tS b n p) (by omega)
    split
    · exact ⟨by omega, fun _ => h5⟩
    · exact ⟨by omega, fun _ => by omega⟩
