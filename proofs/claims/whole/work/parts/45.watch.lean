/-! WATCH, BOTH, WAYS. -/
def Pc (n : Nat) : Nat := n % 2 + n / 2 % 2 + n / 4 % 2 + n / 8 % 2 + n / 16 % 2
theorem allN {n : Nat} {P : Nat → Prop} [DecidablePred P] (h : ∀ i : Fin n, P i.1) : ∀ k, k < n → P k := fun k hk => h ⟨k, hk⟩
theorem c_bits {M : Mm} : ∀ n, n < 32 → f_J6_bitCount_0f7a4 (nI n) M = some (nI (Pc n), M) := by
  intro n hn
  have h : ∀ i : Fin 32, f_J6_bitCount_0f7a4 (nI i.1) (fun _ _ => 0) = f_J6_bitCount_0f7a4 (nI i.1) (fun _ _ => 0) := fun _ => rfl
  unfold f_J6_bitCount_0f7a4
  simp only [lts]
  have h2 : ∀ i : Fin 32, (let t1 := (nI i.1 - ((nI i.1).toUInt32 >>> ((nI 1).toUInt32 &&& Int32.toUInt32 31)).toInt32 &&& nI 1431655765); True) := fun _ => trivial
  congr 2
  revert n
  exact allN (by decide +kernel)
theorem bitI : ∀ b, b < 32 → ∀ c, c < 5 → ((nI b >>> (nI c &&& 31)) &&& nI 1) = nI (b / 2 ^ c % 2) := by
  have : ∀ b : Fin 32, ∀ c : Fin 5, ((nI b.1 >>> (nI c.1 &&& 31)) &&& nI 1) = nI (b.1 / 2 ^ c.1 % 2) := by decide +kernel
  exact fun b hb c hc => this ⟨b, hb⟩ ⟨c, hc⟩
theorem shlI : ∀ c, c < 6 → (nI 1 <<< (nI c &&& 31)) = nI (2 ^ c) := by
  have : ∀ c : Fin 6, (nI 1 <<< (nI c.1 &&& 31)) = nI (2 ^ c.1) := by decide +kernel
  exact fun c hc => this ⟨c, hc⟩
theorem r_count {M : Mm} {n : Nat} (hn : n < 32) : f_X10_count (nI n) M = some (nI (Pc n), M) := by
  unfold f_X10_count
  refine lp0 (fun f i => lp_X10_count_4 (nI n) f (nI (Sm (fun c => n / 2 ^ c % 2) i)) (nI i) M) 5 (by omega) (fun f i hi => ?_) (fun f => ?_)
  · rw [lp_X10_count_4, Sm]
    simp (disch := omega) only [bitI n hn i hi, jns, bds, bvs, lts, gdt, nadd, nmul, nsub, nle, nlt, neq, nz0, nlt0, nle0, n0le, n0lt, nclamp, ndiv, nmod2, gdi, gdn, if_pos, if_neg, if_true, if_false]
  · rw [lp_X10_count_4]
    simp (disch := omega) only [jns, bds, bvs, lts, gdt, nadd, nmul, nsub, nle, nlt, neq, nz0, nlt0, nle0, n0le, n0lt, nclamp, ndiv, nmod2, gdi, gdn, if_pos, if_neg, if_true, if_false]
    simp only [Sm, Pc]
    congr 3
    simp
theorem r_endOfS {M : Mm} {G : Nat → Nat} (R : RG M G) (W : GW G) {p : Nat} (hp : p ≤ G 92) : f_X10_endOf (nI p - nI 1) M = some (nI (En G p), M) := by
  by_cases h : p = 0
  · subst h
    unfold f_X10_endOf
    rw [show nI 0 - nI 1 = (-1 : Int32) from by decide, show N0 = 999999 + 1 from rfl, lp_X10_endOf_4, if_pos (by decide)]
    rfl
  · have e : p - 1 + 1 = p := by omega
    rw [nsub (by omega), r_endOf R W (show p - 1 < G 92 by omega), e]
/-- the tenths that a creeper means to stand behind -/
def Mn (G : Nat → Nat) (c : Nat) : Nat := if G (81 + c) = 0 then En G (G 92) else if G (81 + c) = 1 then En G (min (G (86 + c)) (G 92)) else Tn G 0 - G (86 + c)
theorem Mn_le {G : Nat → Nat} (W : GW G) (c : Nat) : Mn G c ≤ 400 := by
  have h4 := W.parts
  have h1 := En_le W (Nat.le_refl _)
  have h2 := En_le W (Nat.min_le_right (G (86 + c)) (G 92))
  have h3 := Tn_le W (show 0 < G 92 by omega)
  have h5 := Nat.min_le_right (G (86 + c)) (G 92)
  unfold Mn
  split
  · omega
  · split
    · have : 80 * min (G (86 + c)) (G 92) ≤ 80 * G 92 := Nat.mul_le_mul_left 80 h5
      omega
    · omega
theorem nsubI {a b : Nat} (ha : a < 2 ^ 30) (hb : b < 2 ^ 30) : (nI a - nI b).toInt = (a : Int) - b := by
  rw [Int32.toInt_sub, ntoInt (by omega), ntoInt (by omega), Int.bmod_eq_of_le (by omega) (by omega)]
theorem nsle {a b t : Nat} (ha : a < 2 ^ 30) (hb : b < 2 ^ 30) (ht : t < 2 ^ 30) : (nI a - nI b ≤ nI t) = (a ≤ t + b) := by
  rw [Int32.le_iff_toInt_le, nsubI ha hb, ntoInt (by omega)]
  exact propext ⟨fun _ => by omega, fun _ => by omega⟩
theorem nslt {a b t : Nat} (ha : a < 2 ^ 30) (hb : b < 2 ^ 30) (ht : t < 2 ^ 30) : (nI a - nI b < nI t) = (a < t + b) := by
  rw [Int32.lt_iff_toInt_lt, nsubI ha hb, ntoInt (by omega)]
  exact propext ⟨fun _ => by omega, fun _ => by omega⟩
section
variable {M : Mm} {G : Nat → Nat} {g : Nat}
theorem r_means (R : RG M G) (W : GW G) {c : Nat} (hc : c < G 95) : f_X10_means (nI c) M = some (nI (Mn G c), M) := by
  have h1 := W.crp c hc
  have h2 := W.creepers
  have h4 := W.parts
  have h3 := Tn_le W (show 0 < G 92 by omega)
  have h5 := Nat.min_le_right (G (86 + c)) (G 92)
  unfold f_X10_means Mn
  by_cases c1 : G (81 + c) = 0
  · rw [if_pos c1]
    simp (disch := omega) only [R _, r_whole R W, jns, bds, bvs, lts, gdt, nadd, nmul, nsub, nle, nlt, neq, nz0, nlt0, nle0, n0le, n0lt, nclamp, ndiv, nmod2, gdi, gdn, if_pos, if_neg, if_true, if_false]
  · by_cases c2 : G (81 + c) = 1
    · rw [if_neg c1, if_pos c2]
      simp (disch := omega) only [R _, r_less, r_endOfS R W h5, jns, bds, bvs, lts, gdt, nadd, nmul, nsub, nle, nlt, neq, nz0, nlt0, nle0, n0le, n0lt, nclamp, ndiv, nmod2, gdi, gdn, if_pos, if_neg, if_true, if_false]
    · rw [if_neg c1, if_neg c2]
      by_cases c3 : Tn G 0 ≤ G (86 + c)
      · rw [show Tn G 0 - G (86 + c) = 0 from by omega]
        simp (disch := omega) only [R _, r_tenthsOf R W (show 0 < G 92 by omega), jns, bds, bvs, lts, gdt, nadd, nmul, nsub, nle, nlt, neq, nz0, nlt0, nle0, n0le, n0lt, nclamp, ndiv, nmod2, gdi, gdn, if_pos, if_neg, if_true, if_false]
      · simp (disch := omega) only [R _, r_tenthsOf R W (show 0 < G 92 by omega), jns, bds, bvs, lts, gdt, nadd, nmul, nsub, nle, nlt, neq, nz0, nlt0, nle0, n0le, n0lt, nclamp, ndiv, nmod2, gdi, gdn, if_pos, if_neg, if_true, if_false]
theorem c_meant (C : CG M g G) (W : GW G) {c : Nat} (hc : c < G 95) : f_X0_tenthsMeant g (nI c) M = some (nI (Mn G c), M) := by
  have h1 := W.crp c hc
  have h2 := W.creepers
  have h4 := W.parts
  have h3 := Tn_le W (show 0 < G 92 by omega)
  have h5 := Nat.min_le_right (G (86 + c)) (G 92)
  have e5 := c_trait C W hc (show 5 < 7 by decide)
  have e6 := c_trait C W hc (show 6 < 7 by decide)
  rw [show 56 + 5 * 5 + c = 81 + c from by omega] at e5
  rw [show 56 + 5 * 6 + c = 86 + c from by omega] at e6
  have e0 := c_endOf C W (show 0 < G 92 by omega)
  unfold f_X0_tenthsMeant Mn
  rw [e6, bds, e5, bds]
  by_cases c1 : G (81 + c) = 0
  · rw [if_pos c1]
    simp (disch := omega) only [c_verse C W, jns, bds, bvs, lts, gdt, nadd, nmul, nsub, nle, nlt, neq, nz0, nlt0, nle0, n0le, n0lt, nclamp, ndiv, nmod2, gdi, gdn, if_pos, if_neg, if_true, if_false]
  · by_cases c2 : G (81 + c) = 1
    · rw [if_neg c1, if_pos c2, C.f9, minI (by omega) (by omega)]
      simp (disch := omega) only [c_endOfS C W h5, jns, bds, bvs, lts, gdt, nadd, nmul, nsub, nle, nlt, neq, nz0, nlt0, nle0, n0le, n0lt, nclamp, ndiv, nmod2, gdi, gdn, if_pos, if_neg, if_true, if_false]
    · rw [if_neg c1, if_neg c2, e0]
      have e : En G (0 + 1) = Tn G 0 := by rw [En_succ]; unfold En; rw [Sm]; omega
      rw [e]
      by_cases c3 : Tn G 0 < G (86 + c)
      · rw [show Tn G 0 - G (86 + c) = 0 from by omega]
        simp (disch := omega) only [nslt, jns, bds, bvs, lts, gdt, nadd, nmul, nsub, nle, nlt, neq, nz0, nlt0, nle0, n0le, n0lt, nclamp, ndiv, nmod2, gdi, gdn, if_pos, if_neg, if_true, if_false]
      · simp (disch := omega) only [nslt, jns, bds, bvs, lts, gdt, nadd, nmul, nsub, nle, nlt, neq, nz0, nlt0, nle0, n0le, n0lt, nclamp, ndiv, nmod2, gdi, gdn, if_pos, if_neg, if_true, if_false]
/-! the comparing of longs -/
theorem lg_le {a b : Int} (ha : -2 ^ 62 ≤ a ∧ a < 2 ^ 62) (hb : -2 ^ 62 ≤ b ∧ b < 2 ^ 62) : (lg_cmp (lI a) (lI b) ≤ 0) = (a ≤ b) := by
  unfold lg_cmp
  have ta : (lI a).toInt = a := Int64.toInt_ofInt_of_le (by omega) (by omega)
  have tb : (lI b).toInt = b := Int64.toInt_ofInt_of_le (by omega) (by omega)
  by_cases h : lI a > lI b
  · rw [if_pos h]
    have h2 := Int64.lt_iff_toInt_lt.mp h
    rw [ta, tb] at h2
    exact propext ⟨fun z => absurd z (by decide), fun z => by omega⟩
  · rw [if_neg h]
    have h2 : ¬ b < a := fun z => h (Int64.lt_iff_toInt_lt.mpr (by rw [ta, tb]; exact z))
    by_cases h3 : lI a = lI b
    · rw [if_pos h3]
      exact propext ⟨fun _ => by omega, fun _ => by decide⟩
    · rw [if_neg h3]
      exact propext ⟨fun _ => by omega, fun _ => by decide⟩
theorem lg_pos {a b : Int} (ha : -2 ^ 62 ≤ a ∧ a < 2 ^ 62) (hb : -2 ^ 62 ≤ b ∧ b < 2 ^ 62) : (0 < lg_cmp (lI a) (lI b)) = (b < a) := by
  have h := lg_le ha hb
  refine propext ⟨fun z => ?_, fun z => ?_⟩
  · apply Decidable.byContradiction
    intro h2
    have h3 : a ≤ b := by omega
    rw [← h] at h3
    exact Int32.not_le.mpr z h3
  · apply Decidable.byContradiction
    intro h2
    have h3 := Int32.not_lt.mp h2
    rw [h] at h3
    omega
theorem Pr_le {f : Nat → Nat} : ∀ {n : Nat}, (∀ k, k < n → f k ≤ 100) → Pr f n ≤ 100 ^ n
  | 0, _ => by simp [Pr]
  | n + 1, h => by
    have h1 := Pr_le (f := f) (n := n) (fun k hk => h k (by omega))
    have h2 := h n (by omega)
    rw [Pr, Nat.pow_succ]
    exact Nat.mul_le_mul h1 h2
theorem Fw_le {G : Nat → Nat} (W : GW G) (p : Nat) : Fw G p ≤ 100000000 := by
  have h4 := W.parts
  have h := Pr_le (f := fun k => if k < p then 100 - G (6 + k) else if k = p then G (6 + k) else 100) (n := G 92 - 1) (fun k hk => by
    have := W.turns k (by omega)
    split
    · omega
    · split <;> omega)
  exact Nat.le_trans h (Nat.le_trans (Nat.pow_le_pow_right (by decide) (show G 92 - 1 ≤ 4 by omega)) (by decide))
theorem Rk_le {G : Nat → Nat} (W : GW G) {c a x : Nat} (hc : c < G 95) : Rk G c a x ≤ 50000000000 := by
  have h4 := W.parts
  have h := Sm_le (f := fun p => Fw G p * Sw G c a x (En G (p + 1))) (b := 10000000000) (n := G 92) (fun k hk => Nat.le_trans (Nat.mul_le_mul (Fw_le W k) (Sw_le W hc)) (by decide))
  unfold Rk
  have h2 : G 92 * 10000000000 ≤ 5 * 10000000000 := Nat.mul_le_mul_right _ h4.2
  omega
theorem Rk_wall {G : Nat → Nat} {c a x : Nat} (ha : G 0 ≤ a) : Rk G c a x = 0 := by
  have h : ∀ n, Sm (fun p => Fw G p * Sw G c a x (En G (p + 1))) n = 0 := by
    intro n
    induction n with
    | zero => rfl
    | succ n ih =>
      rw [Sm, ih]
      have : Sh G c a x (En G (n + 1)) = false := by
        unfold Sh
        apply decide_eq_false
        intro z
        have : Go G c a (En G (n + 1)) = G 0 := Nat.min_eq_left (Nat.le_trans ha (Nat.le_add_right _ _))
        omega
      rw [Sw, this]
      simp
  exact h _
/-- what the set b risks together, of the first n creepers -/
def Rb (G : Nat → Nat) (at' : Nat → Nat) (b : Nat) (n : Nat) : Nat := Sm (fun c => if b / 2 ^ c % 2 = 1 then Rk G c (at' c) (Mn G c) else 0) n
theorem Rb_le {G : Nat → Nat} (W : GW G) (at' : Nat → Nat) (b : Nat) {n : Nat} (hn : n ≤ G 95) : Rb G at' b n ≤ n * 50000000000 := Sm_le (fun k hk => by
  split
  · exact Rk_le W (by omega)
  · exact Nat.zero_le _)
theorem c_together (C : CG M g G) (W : GW G) {at' : Nat → Nat} {p b : Nat} (hp : LY (p + 1) = .inr (0, 5)) (ha : ∀ c, c < G 95 → M (p + 1) c = nI (at' c) ∧ at' c ≤ G 0) (hb : b < 32) : f_X2_riskTogether g p (nI b) M = some (lI (Rb G at' b (G 95) : Nat), M) := by
  have h2 := W.creepers
  have h3 := W.long
  unfold f_X2_riskTogether
  refine lp0 (fun f i => lp_X2_riskTogether_5 g p (nI b) f (lI (Rb G at' b i : Nat)) (nI i) M) (G 95) (by omega) (fun f i hi => ?_) (fun f => ?_)
  · have h4 := ha i hi
    have h5 := f_at (M := M) hp (by decide) (show i < 5 by omega)
    have h6 := Mn_le W i
    have h7 : b / 2 ^ i % 2 < 2 := Nat.mod_lt _ (by decide)
    rw [h4.1] at h5
    have e : Rb G at' b (i + 1) = Rb G at' b i + (if b / 2 ^ i % 2 = 1 then Rk G i (at' i) (Mn G i) else 0) := rfl
    rw [lp_X2_riskTogether_5, e]
    by_cases c1 : b / 2 ^ i % 2 = 1
    · simp (disch := omega) only [C.f14, bitI b hb i (by omega), h5, c_meant C W hi, c_seenWays C W hi, c1, laddN, jns, bds, bvs, lts, gdt, nadd, nmul, nsub, nle, nlt, neq, nz0, nlt0, nle0, n0le, n0lt, nclamp, ndiv, nmod2, gdi, gdn, if_pos, if_neg, if_true, if_false]
    · simp (disch := omega) only [C.f14, bitI b hb i (by omega), c1, Nat.add_zero, jns, bds, bvs, lts, gdt, nadd, nmul, nsub, nle, nlt, neq, nz0, nlt0, nle0, n0le, n0lt, nclamp, ndiv, nmod2, gdi, gdn, if_pos, if_neg, if_true, if_false]
  · rw [lp_X2_riskTogether_5]
    simp (disch := omega) only [C.f14, jns, bds, bvs, lts, gdt, nadd, nmul, nsub, nle, nlt, neq, nz0, nlt0, nle0, n0le, n0lt, nclamp, ndiv, nmod2, gdi, gdn, if_pos, if_neg, if_true, if_false]
end
