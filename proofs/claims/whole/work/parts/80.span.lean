/-! SPAN, FITS. -/
theorem l1n : (1 : Int64) = lI ((1 : Nat) : Int) := rfl
theorem l5 : (5 : Int64) = lI ((5 : Nat) : Int) := rfl
theorem c_waysOf {M : Mm} {n w k : Nat} (hn : n ≤ 9) (hw : w ≤ 100) (hk : k ≤ n) : f_X1_waysOf (nI n) (nI w) (nI k) M = some (lI (Tm n w k : Nat), M) := by
  unfold f_X1_waysOf
  refine Eq.trans (lp0 (fun f i => lp_X1_waysOf_5 (nI n) (nI w) (nI k) (fun (u6 : Int64) (M7 : Mm) => lp_X1_waysOf_42 (nI n) (nI k) u6 (fun (u11 : Int32) (M12 : Mm) => some ((u6 * u11.toInt64), M12)) N0 (nI 1) (nI 1) M7) f (lI (Pr (fun i => if i < k then w else 100 - w) i : Nat)) (nI i) M) n (R := lp_X1_waysOf_42 (nI n) (nI k) (lI (Pr (fun i => if i < k then w else 100 - w) n : Nat)) (fun (u11 : Int32) (M12 : Mm) => some ((lI (Pr (fun i => if i < k then w else 100 - w) n : Nat) * u11.toInt64), M12)) N0 (nI 1) (nI 1) M) (by omega) (fun f i hi => ?_) (fun f => ?_)) ?_
  · rw [lp_X1_waysOf_5, if_neg (by rw [nle (by omega) (by omega)]; omega), Pr]
    simp only [jns]
    by_cases c : i < k
    · rw [if_neg (by rw [nle (by omega) (by omega)]; omega), if_pos c, n64 (by omega), lmulN, nadd]
    · rw [if_pos (by rw [nle (by omega) (by omega)]; omega), if_neg c, nsub hw, n64 (by omega), lmulN, nadd]
  · rw [lp_X1_waysOf_5, if_pos (Int32.le_refl _)]
  · refine lp0 (fun f i => lp_X1_waysOf_42 (nI n) (nI k) (lI (Pr (fun i => if i < k then w else 100 - w) n : Nat)) (fun (u11 : Int32) (M12 : Mm) => some ((lI (Pr (fun i => if i < k then w else 100 - w) n : Nat) * u11.toInt64), M12)) f (nI (Cc n k i)) (nI (i + 1)) M) k (by omega) (fun f i hi => ?_) (fun f => ?_)
    · have hb := Cc_b n (by omega) k (by omega) hk i (by omega) (by omega)
      have hm : Cc n k i * (n - k + (i + 1)) ≤ 126 * 20 := mulb hb (by omega)
      rw [lp_X1_waysOf_42, if_neg (by rw [nlt (by omega) (by omega)]; omega), nsub hk, nadd, nmul, f_by (by omega) (by omega), bds, nadd, Cc]
    · have hb := Cc_b n (by omega) k (by omega) hk k (by omega) (Nat.le_refl _)
      rw [lp_X1_waysOf_42, if_pos (by rw [nlt (by omega) (by omega)]; omega), n64 (by omega), lmulN, Pr_pw hk, Cc_Ch n (by omega) k (by omega) hk]
      rfl
theorem Sm_zero {f : Nat → Nat} : ∀ {n : Nat}, (∀ k, k < n → f k = 0) → Sm f n = 0
  | 0, _ => rfl
  | n + 1, h => by rw [Sm, Sm_zero (n := n) (fun k hk => h k (by omega)), h n (by omega)]
theorem c_waysBetween {M : Mm} {n w a b : Nat} (hn : n ≤ 9) (hw : w ≤ 100) (hb : b ≤ n) (hab : a ≤ b + 1) : f_X1_waysBetween (nI n) (nI w) (nI a) (nI b) M = some (lI (Bt n w a b : Nat), M) := by
  unfold f_X1_waysBetween
  have z0 : Sm (fun k => if a ≤ k then Tm n w k else 0) a = 0 := Sm_zero (fun k hk => by rw [if_neg (by omega)])
  refine Eq.trans ?_ (lp0 (fun f i => lp_X1_waysBetween_6 (nI n) (nI w) (nI b) f (lI (Sm (fun k => if a ≤ k then Tm n w k else 0) (a + i) : Nat)) (nI (a + i)) M) (b + 1 - a) (by omega) (fun f i hi => ?_) (fun f => ?_))
  · simp only [Nat.add_zero, z0]
    rfl
  · rw [lp_X1_waysBetween_6, if_neg (by rw [nlt (by omega) (by omega)]; omega), c_waysOf hn hw (by omega), bds, nadd, laddN, ← Nat.add_assoc, Sm, if_pos (by omega)]
  · rw [lp_X1_waysBetween_6, show a + (b + 1 - a) = b + 1 from by omega, if_pos (by rw [nlt (by omega) (by omega)]; omega)]
    rfl
theorem r_wobbleIn {M : Mm} {n w k v : Nat} {y2 y3 : Int32} {y4 y6 : Int64} (hw : w ≤ 100) (hn : n ≤ 9 := by omega) (hk : k ≤ 9 := by omega) (K : Int64 → Mm → Option (Int64 × Mm)) : lp_X10_wobbleWays_22 (nI n) (nI w) y2 y3 y4 y6 (nI k) K N0 (lI (v : Int)) (nI 0) M = K (lI (v * Pr (fun i => if i < k then w else 100 - w) n : Nat)) M := by
  have h := lp0 (fun f2 i => lp_X10_wobbleWays_22 (nI n) (nI w) y2 y3 y4 y6 (nI k) K f2 (lI (v * Pr (fun i => if i < k then w else 100 - w) i : Nat)) (nI i) M) n (R := K (lI (v * Pr (fun i => if i < k then w else 100 - w) n : Nat)) M) (by omega) (fun f2 i hi => by
    show lp_X10_wobbleWays_22 _ _ _ _ _ _ _ _ _ _ _ _ = _
    rw [lp_X10_wobbleWays_22, if_neg (by rw [nle (by omega) (by omega)]; omega), Pr]
    simp only [jns]
    by_cases c : i < k
    · rw [if_neg (by rw [nle (by omega) (by omega)]; omega), if_pos c, n64 (by omega), lmulN, nadd, Nat.mul_assoc]
    · rw [if_pos (by rw [nle (by omega) (by omega)]; omega), if_neg c, nsub hw, n64 (by omega), lmulN, nadd, Nat.mul_assoc]) (fun f2 => by
    show lp_X10_wobbleWays_22 _ _ _ _ _ _ _ _ _ _ _ _ = _
    rw [lp_X10_wobbleWays_22, if_pos (Int32.le_refl _)])
  simp only [Pr, Nat.mul_one] at h
  exact h
theorem r_wobbleWays {M : Mm} {n w a b : Nat} (hn : n ≤ 9) (hw : w ≤ 100) (hb : b ≤ n) (ha : a ≤ 9) : f_X10_wobbleWays (nI n) (nI w) (nI a) (nI b) M = some (lI (Bt n w a b : Nat), M) := by
  unfold f_X10_wobbleWays
  refine lp0 (fun f k => lp_X10_wobbleWays_9 (nI n) (nI w) (nI a) (nI b) f (lI (Sm (fun k => if a ≤ k then Tm n w k else 0) k : Nat)) (lI (Ch n k : Nat)) (nI k) M) (b + 1) (by omega) (fun f k hk => ?_) (fun f => ?_)
  · have hc := Ch_b n (by omega) k (by omega)
    have hm : Ch n k * (n - k) ≤ 126 * 9 := mulb hc (by omega)
    rw [lp_X10_wobbleWays_9, if_neg (by rw [nlt (by omega) (by omega)]; omega)]
    rw [r_wobbleIn hw]
    have e : Ch n k * Pr (fun i => if i < k then w else 100 - w) n = Tm n w k := by
      rw [Pr_pw (by omega), Nat.mul_comm]
      rfl
    simp only [jns, lts]
    rw [e, nadd, n64 (by omega), nsub (by omega), n64 (by omega), nzlN (by omega) (by omega), gdt, lmulN, ldiv (by omega) (by omega), Sm]
    by_cases c : a ≤ k
    · rw [if_neg (by rw [nlt (by omega) (by omega)]; omega), if_pos c, laddN]
      rfl
    · rw [if_pos (by rw [nlt (by omega) (by omega)]; omega), if_neg c, l0, laddN]
      rfl
  · rw [lp_X10_wobbleWays_9, if_pos (by rw [nlt (by omega) (by omega)]; omega)]
    rfl
theorem c_isUsual {M : Mm} {n s : Nat} (h1 : 1 ≤ n) (hn : n ≤ 9) (hs : s ≤ 4000000000000000000) : f_X1_isUsual (lI (s : Int)) (nI n) M = some (nI (Nat.ble (5 * 100 ^ (n - 1)) s).toNat, M) := by
  have hp : 5 * 100 ^ (n - 1) ≤ 5 * 100 ^ 8 := Nat.mul_le_mul_left 5 (Nat.pow_le_pow_right (by omega) (by omega))
  unfold f_X1_isUsual
  refine lp0 (fun f i => lp_X1_isUsual_7 (lI (s : Int)) (nI n) (fun (u2 : Int64) (M3 : Mm) => if (lg_cmp (lI (s : Int)) u2) < 0 then (some ((nI 0), M3)) else (some ((nI 1), M3))) f (lI (5 * 100 ^ i : Nat)) (nI (i + 1)) M) (n - 1) (by omega) (fun f i hi => ?_) (fun f => ?_)
  · rw [lp_X1_isUsual_7, if_neg (by rw [nle (by omega) (by omega)]; omega), l100, lmulN, nadd, Nat.pow_succ, Nat.mul_assoc]
  · rw [lp_X1_isUsual_7, if_pos (by rw [nle (by omega) (by omega)]; omega)]
    cases h : Nat.ble (5 * 100 ^ (n - 1)) s
    · have h2 : ¬ 5 * 100 ^ (n - 1) ≤ s := fun z => by rw [Nat.ble_eq_true_of_le z] at h; cases h
      rw [if_pos (by rw [lg_neg (by omega) (by omega)]; omega)]
      rfl
    · have h2 := Nat.le_of_ble_eq_true h
      rw [if_neg (by rw [lg_neg (by omega) (by omega)]; omega)]
      rfl
section
variable {M : Mm} {n : Nat} {fp fm ft sn sk : Nat → Nat}
theorem c_isInSpan (N : NT M n fp fm ft sn sk) {c w : Nat} (hc : c < 5) (h1 : 1 ≤ sn c) (hw : w ≤ 100) : f_X1_isInSpan (nI c) (nI w) M = some (nI (Sp (sn c) (sk c) w).toNat, M) := by
  obtain ⟨s1, s2, s3, s4, s5, s6⟩ := N.s c hc
  obtain ⟨-, -, ck⟩ := chk_all h1 s1 s2
  obtain ⟨-, b1, b2⟩ := ck w hw
  have k75 : f_X9_at 75 (nI c) M = some (nI (sn c), M) := by
    rw [← s3]
    exact f_at (n := 5) rfl (by decide) (by omega)
  have k76 : f_X9_at 76 (nI c) M = some (nI (sk c), M) := by
    rw [← s5]
    exact f_at (n := 5) rfl (by decide) (by omega)
  unfold f_X1_isInSpan Sp
  rw [k75, bds, k76, bds, c_waysBetween s1 hw (Nat.le_refl _) (by omega), bds, c_isUsual h1 s1 b1, bds]
  simp only [jns]
  cases h : Nat.ble (5 * 100 ^ (sn c - 1)) (Bt (sn c) w (sk c) (sn c))
  · rw [if_pos (by decide)]; rfl
  · rw [if_neg (by decide), c_waysBetween s1 hw s2 (by omega), bds, c_isUsual h1 s1 b2, bds]
    cases h2 : Nat.ble (5 * 100 ^ (sn c - 1)) (Bt (sn c) w 0 (sk c))
    · rw [if_pos (by decide)]; rfl
    · rw [if_neg (by decide)]; rfl
theorem r_isSpanned (N : NT M n fp fm ft sn sk) {c w : Nat} (hc : c < 5) (h1 : 1 ≤ sn c) (hw : w ≤ 100) : f_X10_isSpanned (nI c) (nI w) M = some (nI (Sp (sn c) (sk c) w).toNat, M) := by
  obtain ⟨s1, s2, s3, s4, s5, s6⟩ := N.s c hc
  obtain ⟨-, -, ck⟩ := chk_all h1 s1 s2
  obtain ⟨-, b1, b2⟩ := ck w hw
  have hp : 5 * 100 ^ (sn c - 1) ≤ 5 * 100 ^ 8 := Nat.mul_le_mul_left 5 (Nat.pow_le_pow_right (by omega) (by omega))
  unfold f_X10_isSpanned Sp
  rw [gdi (by omega) hc, nclamp (by omega), s4, lts]
  refine lp0 (fun f i => lp_X10_isSpanned_15 (nI c) (nI w) (nI (sn c)) _ f (lI (5 * 100 ^ i : Nat)) (nI (i + 1)) M) (sn c - 1) (by omega) (fun f i hi => ?_) (fun f => ?_)
  · rw [lp_X10_isSpanned_15, if_neg (by rw [nle (by omega) (by omega)]; omega), l100, lmulN, nadd, Nat.pow_succ, Nat.mul_assoc]
  · rw [lp_X10_isSpanned_15, if_pos (by rw [nle (by omega) (by omega)]; omega)]
    rw [gdi (by omega) hc, s6, r_wobbleWays s1 hw (Nat.le_refl _) (by omega), bds]
    simp only [jns]
    cases h : Nat.ble (5 * 100 ^ (sn c - 1)) (Bt (sn c) w (sk c) (sn c))
    · have h2 : ¬ 5 * 100 ^ (sn c - 1) ≤ Bt (sn c) w (sk c) (sn c) := fun z => by rw [Nat.ble_eq_true_of_le z] at h; cases h
      rw [if_pos (by rw [lg_neg (by omega) (by omega)]; omega)]
      rfl
    · have h2 := Nat.le_of_ble_eq_true h
      rw [if_neg (by rw [lg_neg (by omega) (by omega)]; omega), gdi (by omega) hc, s6, r_wobbleWays s1 hw s2 (by omega), bds]
      cases h3 : Nat.ble (5 * 100 ^ (sn c - 1)) (Bt (sn c) w 0 (sk c))
      · have h4 : ¬ 5 * 100 ^ (sn c - 1) ≤ Bt (sn c) w 0 (sk c) := fun z => by rw [Nat.ble_eq_true_of_le z] at h3; cases h3
        rw [if_pos (by rw [lg_neg (by omega) (by omega)]; omega)]
        rfl
      · have h4 := Nat.le_of_ble_eq_true h3
        rw [if_neg (by rw [lg_neg (by omega) (by omega)]; omega)]
        rfl
theorem c_least (N : NT M n fp fm ft sn sk) {c : Nat} (hc : c < 5) (h1 : 1 ≤ sn c) : f_X1_leastWobble (nI c) M = some (nI (Lo (sn c) (sk c)), M) := by
  obtain ⟨s1, s2, s3, s4, s5, s6⟩ := N.s c hc
  obtain ⟨l1, l2, ck⟩ := chk_all h1 s1 s2
  unfold f_X1_leastWobble
  refine lp0 (fun f i => lp_X1_leastWobble_2 (nI c) f (nI i) M) (Lo (sn c) (sk c)) (by omega) (fun f i hi => ?_) (fun f => ?_)
  · rw [lp_X1_leastWobble_2, if_neg (by rw [nle (by omega) (by omega)]; omega), c_isInSpan N hc h1 (by omega), bds, (ck i (by omega)).1, decide_eq_false (by omega), if_pos (by decide), nadd]
  · rw [lp_X1_leastWobble_2]
    by_cases c2 : 100 ≤ Lo (sn c) (sk c)
    · rw [if_pos (by rw [nle (by omega) (by omega)]; exact c2)]
    · rw [if_neg (by rw [nle (by omega) (by omega)]; exact c2), c_isInSpan N hc h1 (by omega), bds, (ck _ (by omega)).1, decide_eq_true ⟨Nat.le_refl _, l1⟩, if_neg (by decide)]
theorem c_greatest (N : NT M n fp fm ft sn sk) {c : Nat} (hc : c < 5) (h1 : 1 ≤ sn c) : f_X1_greatestWobble (nI c) M = some (nI (Hi (sn c) (sk c)), M) := by
  obtain ⟨s1, s2, s3, s4, s5, s6⟩ := N.s c hc
  obtain ⟨l1, l2, ck⟩ := chk_all h1 s1 s2
  unfold f_X1_greatestWobble
  refine lp0 (fun f i => lp_X1_greatestWobble_3 (nI c) f (nI (100 - i)) M) (100 - Hi (sn c) (sk c)) (by omega) (fun f i hi => ?_) (fun f => ?_)
  · rw [lp_X1_greatestWobble_3, if_neg (by rw [nle0 (by omega)]; omega), c_isInSpan N hc h1 (by omega), bds, (ck (100 - i) (by omega)).1, decide_eq_false (by omega), if_pos (by decide), nI_dec (by omega)]
    rfl
  · rw [lp_X1_greatestWobble_3, show 100 - (100 - Hi (sn c) (sk c)) = Hi (sn c) (sk c) from by omega]
    by_cases c2 : Hi (sn c) (sk c) = 0
    · rw [if_pos (by rw [nle0 (by omega)]; exact c2)]
    · rw [if_neg (by rw [nle0 (by omega)]; exact c2), c_isInSpan N hc h1 (by omega), bds, (ck _ (by omega)).1, decide_eq_true ⟨l1, Nat.le_refl _⟩, if_neg (by decide)]
/-- what the reference has found among the first i -/
def Fz (lo hi : Nat) (b : Bool) (i : Nat) : Int32 := if i ≤ lo then -1 else if b then nI (min (i - 1) hi) else nI lo
theorem Fz_a {lo hi i : Nat} {b : Bool} (h : i ≤ lo) : Fz lo hi b i = -1 := if_pos h
theorem Fz_f {lo hi i : Nat} (h : ¬ i ≤ lo) : Fz lo hi false i = nI lo := if_neg h
theorem Fz_t {lo hi i : Nat} (h : ¬ i ≤ lo) : Fz lo hi true i = nI (min (i - 1) hi) := if_neg h
theorem r_spanOf (N : NT M n fp fm ft sn sk) {c : Nat} (hc : c < 5) (h1 : 1 ≤ sn c) (b : Bool) : f_X10_spanOf (nI c) (nI b.toNat) M = some (nI (if b then Hi (sn c) (sk c) else Lo (sn c) (sk c)), M) := by
  obtain ⟨s1, s2, s3, s4, s5, s6⟩ := N.s c hc
  obtain ⟨l1, l2, ck⟩ := chk_all h1 s1 s2
  unfold f_X10_spanOf
  refine lp0 (fun f i => lp_X10_spanOf_5 (nI c) (nI b.toNat) f (Fz (Lo (sn c) (sk c)) (Hi (sn c) (sk c)) b i) (nI i) M) 101 (by omega) (fun f i hi => ?_) (fun f => ?_)
  · rw [lp_X10_spanOf_5, if_neg (by rw [nlt (by omega) (by omega)]; omega), r_isSpanned N hc h1 (by omega), bds, (ck i (by omega)).1]
    simp only [jns]
    generalize Lo (sn c) (sk c) = lo at l1 ck ⊢
    generalize Hi (sn c) (sk c) = hi' at l1 l2 ck ⊢
    by_cases c1 : lo ≤ i ∧ i ≤ hi'
    · rw [decide_eq_true c1, if_neg (by decide)]
      cases b
      · rw [if_pos (by decide), Fz_f (show ¬ i + 1 ≤ lo by omega)]
        by_cases c2 : i ≤ lo
        · have : i = lo := by omega
          rw [Fz_a c2, if_neg (by decide), nadd, this]
        · rw [Fz_f c2, if_pos (nI_pos' (by omega)), nadd]
      · rw [if_neg (by decide), nadd, Fz_t (show ¬ i + 1 ≤ lo by omega), Nat.add_sub_cancel, Nat.min_eq_left c1.2]
    · rw [decide_eq_false c1, if_pos (by decide), nadd]
      by_cases c2 : i < lo
      · rw [Fz_a (by omega), Fz_a (by omega)]
      · cases b
        · rw [Fz_f (by omega), Fz_f (by omega)]
        · have : min (i - 1) hi' = min (i + 1 - 1) hi' := by omega
          rw [Fz_t (by omega), Fz_t (by omega), this]
  · rw [lp_X10_spanOf_5, if_pos (by decide)]
    cases b
    · rw [Fz_f (by omega)]; rfl
    · have : min (101 - 1) (Hi (sn c) (sk c)) = Hi (sn c) (sk c) := by omega
      rw [Fz_t (by omega), this]; rfl
end
/-- the stops of a creeper, for both -/
theorem t_stops {M : Mm} {g tl T : Nat} (I : IC M g tl) {n : Nat} {fp fm ft sn sk : Nat → Nat} (N : NT M n fp fm ft sn sk) {c : Nat} (hc : c < 5) : f_X9_at 75 (nI c) M = some (nI (sn c), M) := by
  obtain ⟨s1, s2, s3, s4, s5, s6⟩ := N.s c hc
  rw [← s3]
  exact f_at (n := 5) rfl (by decide) (by omega)
theorem r_spanWhy {M : Mm} {n : Nat} {fp fm ft sn sk : Nat → Nat} (N : NT M n fp fm ft sn sk) {c : Nat} (hc : c < 5) (h : f_X10_isCreeper (nI c) M = some (nI 1, M)) : f_X10_spanWhy (nI c) M = some (nI (if sn c = 0 then 6 else 0), M) := by
  obtain ⟨s1, s2, s3, s4, s5, s6⟩ := N.s c hc
  unfold f_X10_spanWhy
  rw [h, bds, if_neg (by decide), gdi (by omega) hc, nclamp (by omega), s4]
  by_cases c0 : sn c = 0
  · rw [if_pos (by rw [nz0 (by omega)]; exact c0), if_pos c0]
  · rw [if_neg (by rw [nz0 (by omega)]; exact c0), if_neg c0]
theorem op_span (x : Int32) (b : Bool) (T : Nat) : Same (f_X9_span x (nI b.toNat)) (f_X10_span x (nI b.toNat)) T T := by
  intro M I0
  obtain ⟨g, tl, I, h⟩ := id I0
  obtain ⟨n, fp, fm, ft, sn, sk, N⟩ := I.nt
  unfold f_X9_span f_X10_span
  simp only [jns]
  rcases t_creeper I h x with ⟨e1, e2⟩ | ⟨G, Q, mk, Qm, c, D, hc, rfl, e1, e2⟩
  · refine ⟨(-1 : Int32), mset M 0 11 (nI 1), mset (gdM (mset M 0 11 (nI 1))) 81 11 (nI 1), ?_, ?_, I0.no (Fr.rfl' M) (by omega)⟩
    · rw [e1]; rfl
    · have hw : f_X10_spanWhy x (gdM (mset M 0 11 (nI 1))) = some (nI 1, gdM (mset M 0 11 (nI 1))) := by
        unfold f_X10_spanWhy
        rw [e2 _ (fg M _)]; rfl
      rw [r_good, bvs, hw]; rfl
  · have hcr := D.W.creepers
    have hc5 : c < 5 := by omega
    obtain ⟨s1, -⟩ := N.s c hc5
    have hw := fun v => r_spanWhy (N.fr (fg M v)) hc5 (e2 _ (fg M v))
    by_cases c0 : sn c = 0
    · refine ⟨(-1 : Int32), mset M 0 11 (nI 6), mset (gdM (mset M 0 11 (nI 6))) 81 11 (nI 6), ?_, ?_, I0.no (Fr.rfl' M) (by omega)⟩
      · rw [e1, bds, if_neg (by decide), t_stops (T := T) I N hc5, bds, c0]; rfl
      · rw [r_good, bvs, hw, if_pos c0]; rfl
    · refine ⟨nI (if b then Hi (sn c) (sk c) else Lo (sn c) (sk c)), mset M 0 11 (nI 0), gdM (mset M 0 11 (nI 0)), ?_, ?_, I0.yes (Fr.rfl' M)⟩
      · rw [e1, bds, if_neg (by decide), t_stops (T := T) I N hc5, bds, if_neg (by rw [nz0 (by omega)]; exact c0)]
        cases b
        · rw [if_pos (by decide), c_least N hc5 (by omega)]; rfl
        · rw [if_neg (by decide), c_greatest N hc5 (by omega)]; rfl
      · rw [r_good, bvs, hw, if_neg c0, bds, if_pos (by decide), r_spanOf (N.fr (fg M _)) hc5 (by omega) b]
        rfl
theorem op_fits (x : Int32) (T : Nat) : Same (f_X9_fits x) (f_X10_fits x) T T := by
  intro M I0
  obtain ⟨g, tl, I, h⟩ := id I0
  obtain ⟨n, fp, fm, ft, sn, sk, N⟩ := I.nt
  unfold f_X9_fits f_X10_fits
  simp only [jns]
  rcases t_creeper I h x with ⟨e1, e2⟩ | ⟨G, Q, mk, Qm, c, D, hc, rfl, e1, e2⟩
  · refine ⟨(-1 : Int32), mset M 0 11 (nI 1), mset (gdM (mset M 0 11 (nI 1))) 81 11 (nI 1), ?_, ?_, I0.no (Fr.rfl' M) (by omega)⟩
    · rw [e1]; rfl
    · have hw : f_X10_spanWhy x (gdM (mset M 0 11 (nI 1))) = some (nI 1, gdM (mset M 0 11 (nI 1))) := by
        unfold f_X10_spanWhy
        rw [e2 _ (fg M _)]; rfl
      rw [r_good, bvs, hw]; rfl
  · have hcr := D.W.creepers
    have hc5 : c < 5 := by omega
    obtain ⟨s1, s2, -⟩ := N.s c hc5
    have hw := fun v => r_spanWhy (N.fr (fg M v)) hc5 (e2 _ (fg M v))
    by_cases c0 : sn c = 0
    · refine ⟨(-1 : Int32), mset M 0 11 (nI 6), mset (gdM (mset M 0 11 (nI 6))) 81 11 (nI 6), ?_, ?_, I0.no (Fr.rfl' M) (by omega)⟩
      · rw [e1, bds, if_neg (by decide), t_stops (T := T) I N hc5, bds, c0]; rfl
      · rw [r_good, bvs, hw, if_pos c0]; rfl
    · have hwb := (D.W.crp c hc).2.2.2.1
      obtain ⟨l1, l2, ck⟩ := chk_all (show 1 ≤ sn c by omega) s1 s2
      have k2 := c_trait D.C D.W hc (show 2 < 7 by decide)
      rw [show 56 + 5 * 2 + c = 66 + c from by omega] at k2
      have D2 := D.fr (fg M (nI 0))
      have N2 := N.fr (fg M (nI 0))
      have j1 := r_spanOf N2 hc5 (show 1 ≤ sn c by omega) false
      have j2 := r_spanOf N2 hc5 (show 1 ≤ sn c by omega) true
      simp only [Bool.toNat_true, Bool.toNat_false] at j1 j2
      rw [if_neg (by decide)] at j1
      rw [if_pos trivial] at j2
      refine ⟨nI (Sp (sn c) (sk c) (G (66 + c))).toNat, mset M 0 11 (nI 0), gdM (mset M 0 11 (nI 0)), ?_, ?_, I0.yes (Fr.rfl' M)⟩
      · rw [e1, bds, if_neg (by decide), t_stops (T := T) I N hc5, bds, if_neg (by rw [nz0 (by omega)]; exact c0), I.h8, bgv I.gg, k2, bds, c_isInSpan N hc5 (by omega) hwb, bds]
        cases Sp (sn c) (sk c) (G (66 + c))
        · rw [if_pos (by decide)]; rfl
        · rw [if_neg (by decide)]; rfl
      · rw [r_good, bvs, hw, if_neg c0, bds, if_pos (by decide), nadd, gdi (by omega) (by omega), nclamp (by omega), D2.R _ (by omega), j1, bds, j2, bds, r_withinN (by omega) (by omega) (by omega), bds, (ck _ hwb).1]
        by_cases c1 : Lo (sn c) (sk c) ≤ G (66 + c) ∧ G (66 + c) ≤ Hi (sn c) (sk c)
        · rw [if_pos c1, if_neg (by decide), decide_eq_true c1]; rfl
        · rw [if_neg c1, if_pos (by decide), decide_eq_false c1]; rfl
