/-! WATCH, BOTH, WAYS, on. -/
/-- the best of the first n sets and what it shows -/
def Wt (G : Nat → Nat) (at' : Nat → Nat) (many : Nat) : Nat → Option (Nat × Nat)
  | 0 => none
  | n + 1 => if Pc n = many then (match Wt G at' many n with
    | none => some (n, Rb G at' n (G 95))
    | some (b, m) => if m < Rb G at' n (G 95) then some (n, Rb G at' n (G 95)) else some (b, m)) else Wt G at' many n
theorem Wt_some {G : Nat → Nat} {at' : Nat → Nat} {many : Nat} : ∀ {n k : Nat}, k < n → Pc k = many → ∃ q, Wt G at' many n = some q
  | 0, k, h, _ => by omega
  | n + 1, k, h, e => by
    rw [Wt]
    by_cases c : Pc n = many
    · rw [if_pos c]
      cases Wt G at' many n with
      | none => exact ⟨_, rfl⟩
      | some q =>
        obtain ⟨b, m⟩ := q
        show ∃ q, (if m < _ then _ else _) = some q
        split <;> exact ⟨_, rfl⟩
    · rw [if_neg c]
      have : k ≠ n := fun z => c (z ▸ e)
      exact Wt_some (show k < n by omega) e
theorem Wt_le {G : Nat → Nat} (W : GW G) {at' : Nat → Nat} {many : Nat} : ∀ {n b m : Nat}, Wt G at' many n = some (b, m) → b < n ∧ m ≤ 250000000000
  | 0, b, m, h => by cases h
  | n + 1, b, m, h => by
    have hr : Rb G at' n (G 95) ≤ 250000000000 := by
      have h1 := Rb_le W at' n (Nat.le_refl _)
      have h2 : G 95 * 50000000000 ≤ 5 * 50000000000 := Nat.mul_le_mul_right _ W.creepers.2
      omega
    rw [Wt] at h
    by_cases c : Pc n = many
    · rw [if_pos c] at h
      cases hw : Wt G at' many n with
      | none =>
        rw [hw] at h
        cases h
        exact ⟨Nat.lt_succ_self _, hr⟩
      | some q =>
        obtain ⟨b', m'⟩ := q
        rw [hw] at h
        have ih := Wt_le W hw
        have h : (if m' < Rb G at' n (G 95) then some (n, Rb G at' n (G 95)) else some (b', m')) = some (b, m) := h
        by_cases c2 : m' < Rb G at' n (G 95)
        · rw [if_pos c2] at h
          cases h
          exact ⟨Nat.lt_succ_self _, hr⟩
        · rw [if_neg c2] at h
          cases h
          exact ⟨by omega, ih.2⟩
    · rw [if_neg c] at h
      have ih := Wt_le W h
      exact ⟨by omega, ih.2⟩
def wb (o : Option (Nat × Nat)) (z : Int32) : Int32 := match o with
  | none => z
  | some (b, _) => nI b
def wm (o : Option (Nat × Nat)) (z : Int) : Int64 := match o with
  | none => lI z
  | some (_, m) => lI (m : Int)
theorem Pc5 : ∀ n, n < 32 → Pc n < 6 := by
  have h : ∀ i : Fin 32, Pc i.1 < 6 := by decide +kernel
  exact fun n hn => h ⟨n, hn⟩
section
variable {M : Mm} {G : Nat → Nat} {g : Nat}
theorem pow5 {n : Nat} (h : n ≤ 5) : 2 ^ n ≤ 32 := Nat.pow_le_pow_right (by decide) h
theorem c_watched (C : CG M g G) (W : GW G) {at' : Nat → Nat} {p : Nat} (hp : LY (p + 1) = .inr (0, 5)) (ha : ∀ c, c < G 95 → M (p + 1) c = nI (at' c) ∧ at' c ≤ G 0) : f_X2_watched g p M = some (wb (Wt G at' (min (G 3 / G 4) (G 95)) (2 ^ G 95)) (nI 0), M) := by
  have h2 := W.creepers
  have h1 := W.looks
  have h3 : G 3 / G 4 < 100 := dle (by omega)
  have h5 := pow5 h2.2
  have h6 := Nat.min_le_right (G 3 / G 4) (G 95)
  unfold f_X2_watched
  rw [c_eyes C W, bds, C.f14, minI (by omega) (by omega), shlI (G 95) (by omega)]
  simp only [lts]
  refine lp0 (fun f i => lp_X2_watched_30 g p (nI (min (G 3 / G 4) (G 95))) (nI (2 ^ G 95)) f (wb (Wt G at' (min (G 3 / G 4) (G 95)) i) (nI 0)) (wm (Wt G at' (min (G 3 / G 4) (G 95)) i) (-1)) (nI i) M) (2 ^ G 95) (by omega) (fun f i hi => ?_) (fun f => ?_)
  · have h7 := Pc5 i (by omega)
    have hr : Rb G at' i (G 95) ≤ 250000000000 := by
      have h1 := Rb_le W at' i (Nat.le_refl _)
      have h2 : G 95 * 50000000000 ≤ 5 * 50000000000 := Nat.mul_le_mul_right _ W.creepers.2
      omega
    rw [lp_X2_watched_30, Wt]
    by_cases c1 : Pc i = min (G 3 / G 4) (G 95)
    · rw [if_pos c1]
      simp (disch := omega) only [c_bits i (show i < 32 by omega), c_together C W hp ha (show i < 32 by omega), jns, bds, bvs, lts, gdt, nadd, nmul, nsub, nle, nlt, neq, nz0, nlt0, nle0, n0le, n0lt, nclamp, ndiv, nmod2, gdi, gdn, if_pos, if_neg, if_true, if_false]
      cases hw : Wt G at' (min (G 3 / G 4) (G 95)) i with
      | none =>
        have : ¬ (lg_cmp (lI (Rb G at' i (G 95) : Nat)) (wm none (-1)) ≤ 0) := by
          show ¬ (lg_cmp (lI (Rb G at' i (G 95) : Nat)) (lI (-1)) ≤ 0)
          rw [lg_le (by omega) (by omega)]
          omega
        rw [if_neg this]
        rfl
      | some q =>
        obtain ⟨b, m⟩ := q
        have hm := (Wt_le W hw).2
        show (if lg_cmp (lI (Rb G at' i (G 95) : Nat)) (lI (m : Int)) ≤ 0 then _ else _) = _
        by_cases c2 : m < Rb G at' i (G 95)
        · rw [if_neg (by rw [lg_le (by omega) (by omega)]; omega)]
          simp only [c2, if_true]
          try rfl
        · rw [if_pos (by rw [lg_le (by omega) (by omega)]; omega)]
          simp only [c2, if_false]
          try rfl
    · rw [if_neg c1]
      simp (disch := omega) only [c_bits i (show i < 32 by omega), jns, bds, bvs, lts, gdt, nadd, nmul, nsub, nle, nlt, neq, nz0, nlt0, nle0, n0le, n0lt, nclamp, ndiv, nmod2, gdi, gdn, if_pos, if_neg, if_true, if_false]
  · rw [lp_X2_watched_30]
    simp (disch := omega) only [jns, bds, bvs, lts, gdt, nadd, nmul, nsub, nle, nlt, neq, nz0, nlt0, nle0, n0le, n0lt, nclamp, ndiv, nmod2, gdi, gdn, if_pos, if_neg, if_true, if_false]
theorem r_watch_in (R : RG M G) (W : GW G) {at' : Nat → Nat} (ha : ∀ c, c < G 95 → M 86 (9 + c) = nI (at' c) ∧ at' c ≤ G 0) {i : Nat} (hi : i < 2 ^ G 95) (mm : Int32) (k : Int64 → Mm → Option (Int32 × Mm)) (y2 : Int32) (y3 : Int64) : lp_X10_watch_80 mm y2 y3 (nI i) k N0 (0 : Int64) (nI 0) M = k (lI (Rb G at' i (G 95) : Nat)) M := by
  have h2 := W.creepers
  have h3 := W.long
  have h5 := pow5 h2.2
  rw [l0]
  refine lp0 (fun f j => lp_X10_watch_80 mm y2 y3 (nI i) k f (lI (Rb G at' i j : Nat)) (nI j) M) (G 95) (by omega) (fun f j hj => ?_) (fun f => ?_)
  · have h4 := ha j hj
    have h6 := Mn_le W j
    have e : Rb G at' i (j + 1) = Rb G at' i j + (if i / 2 ^ j % 2 = 1 then Rk G j (at' j) (Mn G j) else 0) := rfl
    have h8 : i / 2 ^ j % 2 < 2 := Nat.mod_lt _ (by decide)
    rw [lp_X10_watch_80, e]
    by_cases c2 : i / 2 ^ j % 2 = 1
    · by_cases c3 : G 0 ≤ at' j
      · rw [Rk_wall c3]
        simp (disch := omega) only [R _, bitI i (show i < 32 by omega) j (show j < 5 by omega), c2, h4.1, l0, laddN, jns, bds, bvs, lts, gdt, nadd, nmul, nsub, nle, nlt, neq, nz0, nlt0, nle0, n0le, n0lt, nclamp, ndiv, nmod2, gdi, gdn, if_pos, if_neg, if_true, if_false]
      · simp (disch := omega) only [R _, bitI i (show i < 32 by omega) j (show j < 5 by omega), c2, h4.1, r_means R W hj, r_risks R W hj, laddN, jns, bds, bvs, lts, gdt, nadd, nmul, nsub, nle, nlt, neq, nz0, nlt0, nle0, n0le, n0lt, nclamp, ndiv, nmod2, gdi, gdn, if_pos, if_neg, if_true, if_false]
    · simp (disch := omega) only [R _, bitI i (show i < 32 by omega) j (show j < 5 by omega), c2, l0, laddN, jns, bds, bvs, lts, gdt, nadd, nmul, nsub, nle, nlt, neq, nz0, nlt0, nle0, n0le, n0lt, nclamp, ndiv, nmod2, gdi, gdn, if_pos, if_neg, if_true, if_false]
  · rw [lp_X10_watch_80]
    simp (disch := omega) only [R _, jns, bds, bvs, lts, gdt, nadd, nmul, nsub, nle, nlt, neq, nz0, nlt0, nle0, n0le, n0lt, nclamp, ndiv, nmod2, gdi, gdn, if_pos, if_neg, if_true, if_false]
theorem r_watched (R : RG M G) (W : GW G) {at' : Nat → Nat} (ha : ∀ c, c < G 95 → M 86 (9 + c) = nI (at' c) ∧ at' c ≤ G 0) {many : Nat} (hmany : many ≤ 5) : lp_X10_watch_48 (nI many) N0 (-1) 0 (nI 0) M = some (wb (Wt G at' many (2 ^ G 95)) (-1), M) := by
  have h2 := W.creepers
  have h3 := W.long
  have h5 := pow5 h2.2
  refine lp0 (fun f i => lp_X10_watch_48 (nI many) f (wb (Wt G at' many i) (-1)) (wm (Wt G at' many i) 0) (nI i) M) (2 ^ G 95) (by omega) (fun f i hi => ?_) (fun f => ?_)
  · have h7 := Pc5 i (by omega)
    have hr : Rb G at' i (G 95) ≤ 250000000000 := by
      have h1 := Rb_le W at' i (Nat.le_refl _)
      have h2 : G 95 * 50000000000 ≤ 5 * 50000000000 := Nat.mul_le_mul_right _ W.creepers.2
      omega
    rw [lp_X10_watch_48, Wt]
    by_cases c1 : Pc i = many
    · rw [if_pos c1]
      have inner := fun k y2 y3 => r_watch_in R W ha hi (nI many) k y2 y3
      simp (disch := omega) only [R _, shlI (G 95) (show G 95 < 6 by omega), r_count (show i < 32 by omega), inner, jns, bds, bvs, lts, gdt, nadd, nmul, nsub, nle, nlt, neq, nz0, nlt0, nle0, n0le, n0lt, nclamp, ndiv, nmod2, gdi, gdn, if_pos, if_neg, if_true, if_false]
      cases hw : Wt G at' many i with
      | none =>
        show (if (-1 : Int32) < 0 then _ else _) = _
        rw [if_pos (by decide)]
        rfl
      | some q =>
        obtain ⟨b, m⟩ := q
        have hm := Wt_le W hw
        show (if nI b < 0 then _ else if 0 < lg_cmp (lI (Rb G at' i (G 95) : Nat)) (lI (m : Int)) then _ else _) = _
        rw [if_neg (by rw [nlt0 (by omega)]; exact id)]
        by_cases c2 : m < Rb G at' i (G 95)
        · rw [if_pos (by rw [lg_pos (by omega) (by omega)]; omega)]
          simp only [c2, if_true]
          try rfl
        · rw [if_neg (by rw [lg_pos (by omega) (by omega)]; omega)]
          simp only [c2, if_false]
          try rfl
    · rw [if_neg c1]
      simp (disch := omega) only [R _, shlI (G 95) (show G 95 < 6 by omega), r_count (show i < 32 by omega), jns, bds, bvs, lts, gdt, nadd, nmul, nsub, nle, nlt, neq, nz0, nlt0, nle0, n0le, n0lt, nclamp, ndiv, nmod2, gdi, gdn, if_pos, if_neg, if_true, if_false]
  · rw [lp_X10_watch_48, R 95 (by decide), shlI _ (show G 95 < 6 by omega), if_pos (Int32.le_refl _)]
theorem Pcm : ∀ m, m < 6 → Pc (2 ^ m - 1) = m := by
  have h : ∀ i : Fin 6, Pc (2 ^ i.1 - 1) = i.1 := by decide +kernel
  exact fun n hn => h ⟨n, hn⟩
theorem watch_eq (W : GW G) (at' : Nat → Nat) {many : Nat} (h : many ≤ G 95) : ∃ b, b < 32 ∧ ∀ z, wb (Wt G at' many (2 ^ G 95)) z = nI b := by
  have h2 := W.creepers
  have h5 := pow5 h2.2
  have h3 : 2 ^ many ≤ 2 ^ G 95 := Nat.pow_le_pow_right (by decide) h
  have h4 : 0 < 2 ^ many := Nat.two_pow_pos _
  obtain ⟨⟨b, m⟩, hq⟩ := Wt_some (G := G) (at' := at') (n := 2 ^ G 95) (show 2 ^ many - 1 < 2 ^ G 95 by omega) (Pcm many (by omega))
  have := (Wt_le W hq).1
  exact ⟨b, by omega, fun z => by rw [hq]; rfl⟩
theorem r_allWays (R : RG M G) (W : GW G) : f_X10_allWays M = some (lI (Un G 0), M) := by
  have h2 := W.parts
  unfold f_X10_allWays Un
  rw [if_pos (by omega)]
  refine lp0 (fun f i => lp_X10_allWays_4 f (lI (Pr (fun k => if k < 0 then 100 - G (6 + k) else 100) i)) (nI (i + 1)) M) (G 92 - 1) (by omega) (fun f i hi => ?_) (fun f => ?_)
  · rw [lp_X10_allWays_4, Pr]
    simp (disch := omega) only [R _, l100, lmulN, jns, bds, bvs, lts, gdt, nadd, nmul, nsub, nle, nlt, neq, nz0, nlt0, nle0, n0le, n0lt, nclamp, ndiv, nmod2, gdi, gdn, if_pos, if_neg, if_true, if_false]
  · rw [lp_X10_allWays_4]
    simp (disch := omega) only [R _, jns, bds, bvs, lts, gdt, nadd, nmul, nsub, nle, nlt, neq, nz0, nlt0, nle0, n0le, n0lt, nclamp, ndiv, nmod2, gdi, gdn, if_pos, if_neg, if_true, if_false]
theorem r_both (R : RG M G) (W : GW G) {n : Nat} (hn : n ≤ 5) (k : Int64 → Mm → Option (Int64 × Mm)) (s : Nat) : lp_X10_both_60 (nI n) k N0 (lI s) (nI 0) M = k (lI (s * Pr (fun k => if k < n then 100 - G (6 + k) else 100) (G 92 - 1) : Nat)) M := by
  have h2 := W.parts
  refine Eq.trans ?_ (lp0 (fun f i => lp_X10_both_60 (nI n) k f (lI (s * Pr (fun k => if k < n then 100 - G (6 + k) else 100) i : Nat)) (nI i) M) (G 92 - 1) (by omega) (fun f i hi => ?_) (fun f => ?_))
  · simp only [Pr, Nat.mul_one]
  · have h3 := W.turns i (by omega)
    rw [lp_X10_both_60, Pr, ← Nat.mul_assoc]
    by_cases c1 : i < n
    · simp (disch := omega) only [R _, n64, lmulN, jns, bds, bvs, lts, gdt, nadd, nmul, nsub, nle, nlt, neq, nz0, nlt0, nle0, n0le, n0lt, nclamp, ndiv, nmod2, gdi, gdn, if_pos, if_neg, if_true, if_false]
    · simp (disch := omega) only [R _, l100, lmulN, jns, bds, bvs, lts, gdt, nadd, nmul, nsub, nle, nlt, neq, nz0, nlt0, nle0, n0le, n0lt, nclamp, ndiv, nmod2, gdi, gdn, if_pos, if_neg, if_true, if_false]
  · rw [lp_X10_both_60]
    simp (disch := omega) only [R _, jns, bds, bvs, lts, gdt, nadd, nmul, nsub, nle, nlt, neq, nz0, nlt0, nle0, n0le, n0lt, nclamp, ndiv, nmod2, gdi, gdn, if_pos, if_neg, if_true, if_false]
end
