/-! THE ODDS: class and reference come to the same numbers. -/
def lI (z : Int) : Int64 := Int64.ofInt z
theorem ladd (a b : Int) : lI a + lI b = lI (a + b) := (Int64.ofInt_add a b).symm
theorem lsub (a b : Int) : lI a - lI b = lI (a - b) := (Int64.ofInt_sub a b).symm
theorem lmul (a b : Int) : lI a * lI b = lI (a * b) := (Int64.ofInt_mul a b).symm
theorem lmulN (a b : Nat) : lI (a : Int) * lI (b : Int) = lI ((a * b : Nat) : Int) := by rw [lmul, Int.natCast_mul]
theorem laddN (a b : Nat) : lI (a : Int) + lI (b : Int) = lI ((a + b : Nat) : Int) := by rw [ladd, Int.natCast_add]
theorem l0 : (0 : Int64) = lI ((0 : Nat) : Int) := rfl
theorem l1 : (1 : Int64) = lI ((1 : Nat) : Int) := rfl
theorem l100 : (100 : Int64) = lI ((100 : Nat) : Int) := rfl
theorem n64 {a : Nat} (h : a < 2 ^ 31) : (nI a).toInt64 = lI (a : Int) := by
  rw [← Int64.toInt_inj, Int32.toInt_toInt64, ntoInt h, lI, Int64.toInt_ofInt_of_le (by omega) (by omega)]
def Pr (f : Nat → Nat) : Nat → Nat
  | 0 => 1
  | n + 1 => Pr f n * f n
theorem Pr_congr {f g : Nat → Nat} : ∀ {n : Nat}, (∀ k, k < n → f k = g k) → Pr f n = Pr g n
  | 0, _ => rfl
  | n + 1, h => by rw [Pr, Pr, Pr_congr (n := n) (fun k hk => h k (by omega)), h n (by omega)]
theorem Pr_split {f g h : Nat → Nat} {p : Nat} (e : f p = g p + h p) (hg : ∀ k, k ≠ p → f k = g k) (hh : ∀ k, k ≠ p → f k = h k) : ∀ {n : Nat}, p < n → Pr f n = Pr g n + Pr h n
  | 0, hp => by omega
  | n + 1, hp => by
    by_cases h1 : p = n
    · subst h1
      rw [Pr, Pr, Pr, e, ← Pr_congr (f := f) (g := g) (fun k hk => hg k (by omega)), ← Pr_congr (f := f) (g := h) (fun k hk => hh k (by omega)), Nat.mul_add]
    · rw [Pr, Pr, Pr, Pr_split e hg hh (n := n) (by omega), ← hg n (by omega), ← hh n (by omega), Nat.add_mul]
/-- the ways that he hasn't turned behind the first n parts -/
def Un (G : Nat → Nat) (n : Nat) : Nat := if n < G 92 then Pr (fun k => if k < n then 100 - G (6 + k) else 100) (G 92 - 1) else 0
/-- the ways that he turns first behind the part p -/
def Fw (G : Nat → Nat) (p : Nat) : Nat := Pr (fun k => if k < p then 100 - G (6 + k) else if k = p then G (6 + k) else 100) (G 92 - 1)
theorem Un_split {G : Nat → Nat} (W : GW G) {p : Nat} (hp : p < G 92) : Un G p = Un G (p + 1) + Fw G p := by
  have h2 := W.parts
  unfold Un Fw
  rw [if_pos hp]
  by_cases h : p + 1 < G 92
  · rw [if_pos h]
    have h3 := W.turns p (by omega)
    refine Pr_split (p := p) ?_ (fun k hk => ?_) (fun k hk => ?_) (by omega)
    · simp only [Nat.lt_irrefl, if_false, Nat.lt_succ_self, if_true]; omega
    · skip
      by_cases h4 : k < p
      · rw [if_pos h4, if_pos (by omega)]
      · rw [if_neg h4, if_neg (by omega)]
    · by_cases h4 : k < p
      · simp only [h4, if_true]
      · simp only [h4, if_false, hk]
  · rw [if_neg h, Nat.zero_add]
    refine Pr_congr (fun k hk => ?_)
    rw [if_pos (show k < p by omega), if_pos (show k < p by omega)]
theorem r_first {M : Mm} {G : Nat → Nat} (R : RG M G) (W : GW G) {p : Nat} (hp : p < G 92) : f_X10_first (nI p) M = some (lI (Fw G p), M) := by
  have h2 := W.parts
  unfold f_X10_first
  refine lp0 (fun f i => lp_X10_first_5 (nI p) f (lI (Pr (fun k => if k < p then 100 - G (6 + k) else if k = p then G (6 + k) else 100) i)) (nI i) M) (G 92 - 1) (by omega) (fun f i hi => ?_) (fun f => ?_)
  · have h3 := W.turns i (by omega)
    rw [lp_X10_first_5, Pr]
    by_cases c1 : i < p
    · simp (disch := omega) only [R _, n64, lmulN, jns, bds, bvs, lts, gdt, nadd, nmul, nsub, nle, nlt, neq, nz0, nlt0, nle0, n0le, n0lt, nclamp, ndiv, nmod2, gdi, gdn, if_pos, if_neg, if_true, if_false]
    · by_cases c2 : i = p
      · simp (disch := omega) only [R _, n64, lmulN, jns, bds, bvs, lts, gdt, nadd, nmul, nsub, nle, nlt, neq, nz0, nlt0, nle0, n0le, n0lt, nclamp, ndiv, nmod2, gdi, gdn, if_pos, if_neg, if_true, if_false]
      · simp (disch := omega) only [R _, n64, lmulN, l100, jns, bds, bvs, lts, gdt, nadd, nmul, nsub, nle, nlt, neq, nz0, nlt0, nle0, n0le, n0lt, nclamp, ndiv, nmod2, gdi, gdn, if_pos, if_neg, if_true, if_false]
  · rw [lp_X10_first_5]
    simp (disch := omega) only [R _, jns, bds, bvs, lts, gdt, nadd, nmul, nsub, nle, nlt, neq, nz0, nlt0, nle0, n0le, n0lt, nclamp, ndiv, nmod2, gdi, gdn, if_pos, if_neg, if_true, if_false]
    rfl
theorem c_unturned {M : Mm} {G : Nat → Nat} {g : Nat} (C : CG M g G) (W : GW G) {p : Nat} (hp : p < 1000) : f_X2_waysUnturned g (nI p) M = some (lI (Un G p), M) := by
  have h2 := W.parts
  unfold f_X2_waysUnturned Un
  by_cases c : p < G 92
  · rw [if_pos c]
    simp (disch := omega) only [C.f9, jns, bds, bvs, lts, gdt, nadd, nmul, nsub, nle, nlt, neq, nz0, nlt0, nle0, n0le, n0lt, nclamp, ndiv, nmod2, gdi, gdn, if_pos, if_neg, if_true, if_false]
    refine lp0 (fun f i => lp_X2_waysUnturned_15 g (nI p) f (lI (Pr (fun k => if k < p then 100 - G (6 + k) else 100) i)) (nI i) M) (G 92 - 1) (by omega) (fun f i hi => ?_) (fun f => ?_)
    · have h3 := W.turns i (by omega)
      have h4 := f_at (M := M) (ly4 C) (by decide) (show i < 5 by omega)
      rw [C.cha i (by omega)] at h4
      rw [lp_X2_waysUnturned_15, Pr]
      by_cases c1 : i < p
      · simp (disch := omega) only [C.f9, h4, n64, lmulN, jns, bds, bvs, lts, gdt, nadd, nmul, nsub, nle, nlt, neq, nz0, nlt0, nle0, n0le, n0lt, nclamp, ndiv, nmod2, gdi, gdn, if_pos, if_neg, if_true, if_false]
      · simp (disch := omega) only [C.f9, h4, n64, lmulN, l100, jns, bds, bvs, lts, gdt, nadd, nmul, nsub, nle, nlt, neq, nz0, nlt0, nle0, n0le, n0lt, nclamp, ndiv, nmod2, gdi, gdn, if_pos, if_neg, if_true, if_false]
    · rw [lp_X2_waysUnturned_15]
      simp (disch := omega) only [C.f9, jns, bds, bvs, lts, gdt, nadd, nmul, nsub, nle, nlt, neq, nz0, nlt0, nle0, n0le, n0lt, nclamp, ndiv, nmod2, gdi, gdn, if_pos, if_neg, if_true, if_false]
  · rw [if_neg c]
    simp (disch := omega) only [C.f9, jns, bds, bvs, lts, gdt, nadd, nmul, nsub, nle, nlt, neq, nz0, nlt0, nle0, n0le, n0lt, nclamp, ndiv, nmod2, gdi, gdn, if_pos, if_neg, if_true, if_false]
    rfl
theorem c_toTurn {M : Mm} {G : Nat → Nat} {g : Nat} (C : CG M g G) (W : GW G) {p : Nat} (hp : p < G 92) : f_X2_waysToTurn g (nI p) M = some (lI (Fw G p), M) := by
  have h2 := W.parts
  unfold f_X2_waysToTurn
  simp (disch := omega) only [c_unturned C W (show p < 1000 by omega), c_unturned C W (show p + 1 < 1000 by omega), lsub, jns, bds, bvs, lts, gdt, nadd, nmul, nsub, nle, nlt, neq, nz0, nlt0, nle0, n0le, n0lt, nclamp, ndiv, nmod2, gdi, gdn, if_pos, if_neg, if_true, if_false]
  rw [Un_split W hp]
  congr 3
  omega
/-- how far a creeper has come after so many tenths -/
def Go (G : Nat → Nat) (c a t : Nat) : Nat := min (G 0) (a + t / G (61 + c))
/-- a wobble at the end e would show it -/
def Sh (G : Nat → Nat) (c a x e : Nat) : Bool := decide (e < x ∧ Go G c a e < G 0 ∧ 0 < e % G (61 + c) ∧ G 5 + G 0 - Go G c a e ≤ e % G (61 + c) * 100 / G (61 + c))
def Sw (G : Nat → Nat) (c a x e : Nat) : Nat := if Sh G c a x e then G (66 + c) else 0
theorem Go_le (G : Nat → Nat) (c a t : Nat) : Go G c a t ≤ G 0 := Nat.min_le_left _ _
theorem Go_ge (G : Nat → Nat) {c a t : Nat} (h : a ≤ G 0) : a ≤ Go G c a t := Nat.le_min.mpr ⟨h, Nat.le_add_right _ _⟩
theorem dle {a b n : Nat} (h : a < n) : a / b < n := Nat.lt_of_le_of_lt (Nat.div_le_self a b) h
theorem r_gone {M : Mm} {G : Nat → Nat} (R : RG M G) (W : GW G) {c a t : Nat} (hc : c < G 95) (ha : a ≤ 1000) (ht : t < 10000) : f_X10_gone (nI c) (nI a) (nI t) M = some (nI (Go G c a t), M) := by
  have h1 := W.crp c hc
  have h2 := W.creepers
  have h3 := W.long
  have h4 : t / G (61 + c) < 10000 := dle ht
  unfold f_X10_gone
  simp (disch := omega) only [R _, r_less, jns, bds, bvs, lts, gdt, nadd, nmul, nsub, nle, nlt, neq, nz0, nlt0, nle0, n0le, n0lt, nclamp, ndiv, nmod2, gdi, gdn, if_pos, if_neg, if_true, if_false]
  rfl
theorem Sw_le {G : Nat → Nat} (W : GW G) {c a x e : Nat} (hc : c < G 95) : Sw G c a x e ≤ 100 := by
  have h1 := W.crp c hc
  unfold Sw
  split <;> omega
theorem modb {e p : Nat} (h : 1 ≤ p) : e % p < p := Nat.mod_lt _ h
theorem r_seenWays {M : Mm} {G : Nat → Nat} (R : RG M G) (W : GW G) {c a x p : Nat} (hc : c < G 95) (ha : a ≤ 1000) (hx : x < 10000) (hp : p < G 92) : f_X10_seenWays (nI c) (nI a) (nI x) (nI p) M = some (nI (Sw G c a x (En G (p + 1))), M) := by
  have h1 := W.crp c hc
  have h2 := W.creepers
  have h3 := W.long
  have h4 := W.parts
  have h5 := En_le W (show p + 1 ≤ G 92 by omega)
  have h6 := W.sees
  have h7 := Go_le G c a (En G (p + 1))
  have h8 : En G (p + 1) % G (61 + c) < G (61 + c) := modb h1.2.1
  have h9 : En G (p + 1) % G (61 + c) * 100 / G (61 + c) < 10000 := dle (by omega)
  unfold f_X10_seenWays Sw Sh
  by_cases c1 : En G (p + 1) < x
  · by_cases c2 : Go G c a (En G (p + 1)) < G 0
    · by_cases c3 : 0 < En G (p + 1) % G (61 + c)
      · by_cases c4 : G 5 + G 0 - Go G c a (En G (p + 1)) ≤ En G (p + 1) % G (61 + c) * 100 / G (61 + c)
        · simp only [c1, c2, c3, c4, and_self, decide_true, if_true]
          simp (disch := omega) only [R _, r_endOf R W hp, r_gone R W hc ha, jns, bds, bvs, lts, gdt, nadd, nmul, nsub, nle, nlt, neq, nz0, nlt0, nle0, n0le, n0lt, nclamp, ndiv, nmod2, gdi, gdn, if_pos, if_neg, if_true, if_false]
        · simp only [c1, c2, c3, c4, and_false, decide_false, if_false]
          simp (disch := omega) only [R _, r_endOf R W hp, r_gone R W hc ha, jns, bds, bvs, lts, gdt, nadd, nmul, nsub, nle, nlt, neq, nz0, nlt0, nle0, n0le, n0lt, nclamp, ndiv, nmod2, gdi, gdn, if_pos, if_neg, if_true, if_false]
          rfl
      · simp only [c1, c2, c3, and_false, false_and, decide_false, if_false]
        simp (disch := omega) only [R _, r_endOf R W hp, r_gone R W hc ha, jns, bds, bvs, lts, gdt, nadd, nmul, nsub, nle, nlt, neq, nz0, nlt0, nle0, n0le, n0lt, nclamp, ndiv, nmod2, gdi, gdn, if_pos, if_neg, if_true, if_false]
        rfl
    · simp only [c1, c2, and_false, false_and, decide_false, if_false]
      simp (disch := omega) only [R _, r_endOf R W hp, r_gone R W hc ha, jns, bds, bvs, lts, gdt, nadd, nmul, nsub, nle, nlt, neq, nz0, nlt0, nle0, n0le, n0lt, nclamp, ndiv, nmod2, gdi, gdn, if_pos, if_neg, if_true, if_false]
      rfl
  · simp only [c1, false_and, decide_false, if_false]
    simp (disch := omega) only [R _, r_endOf R W hp, jns, bds, bvs, lts, gdt, nadd, nmul, nsub, nle, nlt, neq, nz0, nlt0, nle0, n0le, n0lt, nclamp, ndiv, nmod2, gdi, gdn, if_pos, if_neg, if_true, if_false]
    rfl
theorem minI {a b : Nat} (ha : a < 2 ^ 31) (hb : b < 2 ^ 31) : (if nI a < nI b then nI a else nI b) = nI (min b a) := by
  by_cases h : a < b
  · rw [if_pos (nI_ltI ha hb |>.mpr h), Nat.min_eq_right (by omega)]
  · rw [if_neg (fun z => h ((nI_ltI ha hb).mp z)), Nat.min_eq_left (by omega)]
section
variable {M : Mm} {G : Nat → Nat} {g : Nat}
theorem c_reached (C : CG M g G) (W : GW G) {c a t : Nat} (hc : c < G 95) (ha : a ≤ 1000) (ht : t < 10000) : f_X2_reached g (nI c) (nI a) (nI t) M = some (nI (Go G c a t), M) := by
  have h1 := W.crp c hc
  have h2 := W.creepers
  have h3 := W.long
  have h4 : t / G (61 + c) < 10000 := dle ht
  have h5 := c_trait C W hc (show 1 < 7 by decide)
  rw [show 56 + 5 * 1 + c = 61 + c from by omega] at h5
  unfold f_X2_reached Go
  rw [h5, bds, f_by (by omega) (by omega), bds, C.f6, nadd, minI (by omega) (by omega)]
theorem c_isShown (C : CG M g G) (W : GW G) {c a x e : Nat} (hc : c < G 95) (ha : a ≤ 1000) (hx : x < 10000) (he : e < 10000) : f_X2_isShown g (nI c) (nI a) (nI x) (nI e) M = some (nI (Sh G c a x e).toNat, M) := by
  have h1 := W.crp c hc
  have h2 := W.creepers
  have h3 := W.long
  have h6 := W.sees
  have h7 := Go_le G c a e
  have h8 : e % G (61 + c) < G (61 + c) := modb h1.2.1
  have h9 : e % G (61 + c) * 100 / G (61 + c) < 10000 := dle (by omega)
  have h5 := c_trait C W hc (show 1 < 7 by decide)
  rw [show 56 + 5 * 1 + c = 61 + c from by omega] at h5
  have hl : f_X9_leftOver (nI e) (nI (G (61 + c))) M = some (nI (e % G (61 + c)), M) := f_left (by omega) (by omega) (by omega)
  have hb : f_X9_by (nI (e % G (61 + c) * 100)) (nI (G (61 + c))) M = some (nI (e % G (61 + c) * 100 / G (61 + c)), M) := f_by (by omega) (by omega)
  unfold f_X2_isShown Sh
  by_cases c1 : e < x
  · by_cases c3 : 0 < e % G (61 + c)
    · by_cases c2 : Go G c a e < G 0
      · by_cases c4 : G 5 + G 0 - Go G c a e ≤ e % G (61 + c) * 100 / G (61 + c)
        · simp only [c1, c2, c3, c4, and_self, decide_true]
          simp (disch := omega) only [h5, hl, hb, c_reached C W hc ha he, C.f6, C.f12, jns, bds, bvs, lts, gdt, nadd, nmul, nsub, nle, nlt, neq, nz0, nlt0, nle0, n0le, n0lt, nclamp, ndiv, nmod2, gdi, gdn, if_pos, if_neg, if_true, if_false]
          rfl
        · simp only [c1, c2, c3, c4, and_false, decide_false]
          simp (disch := omega) only [h5, hl, hb, c_reached C W hc ha he, C.f6, C.f12, jns, bds, bvs, lts, gdt, nadd, nmul, nsub, nle, nlt, neq, nz0, nlt0, nle0, n0le, n0lt, nclamp, ndiv, nmod2, gdi, gdn, if_pos, if_neg, if_true, if_false]
          rfl
      · simp only [c1, c2, c3, and_false, false_and, decide_false]
        simp (disch := omega) only [h5, hl, hb, c_reached C W hc ha he, C.f6, C.f12, jns, bds, bvs, lts, gdt, nadd, nmul, nsub, nle, nlt, neq, nz0, nlt0, nle0, n0le, n0lt, nclamp, ndiv, nmod2, gdi, gdn, if_pos, if_neg, if_true, if_false]
        rfl
    · simp only [c1, c3, and_false, false_and, decide_false]
      simp (disch := omega) only [h5, hl, hb, c_reached C W hc ha he, C.f6, C.f12, jns, bds, bvs, lts, gdt, nadd, nmul, nsub, nle, nlt, neq, nz0, nlt0, nle0, n0le, n0lt, nclamp, ndiv, nmod2, gdi, gdn, if_pos, if_neg, if_true, if_false]
      rfl
  · simp only [c1, false_and, decide_false]
    simp (disch := omega) only [h5, hl, hb, c_reached C W hc ha he, C.f6, C.f12, jns, bds, bvs, lts, gdt, nadd, nmul, nsub, nle, nlt, neq, nz0, nlt0, nle0, n0le, n0lt, nclamp, ndiv, nmod2, gdi, gdn, if_pos, if_neg, if_true, if_false]
    rfl
end
