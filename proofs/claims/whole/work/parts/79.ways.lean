/-! SPANS: the ways of wobbling. -/
/-- n over k, as the reference counts it -/
def Ch (n : Nat) : Nat → Nat
  | 0 => 1
  | k + 1 => Ch n k * (n - k) / (k + 1)
/-- n over k, as the class counts it, behind i steps -/
def Cc (n k : Nat) : Nat → Nat
  | 0 => 1
  | i + 1 => Cc n k i * (n - k + (i + 1)) / (i + 1)
def Tm (n w k : Nat) : Nat := w ^ k * (100 - w) ^ (n - k) * Ch n k
def Bt (n w a b : Nat) : Nat := Sm (fun k => if a ≤ k then Tm n w k else 0) (b + 1)
def Sp (n k w : Nat) : Bool := Nat.ble (5 * 100 ^ (n - 1)) (Bt n w k n) && Nat.ble (5 * 100 ^ (n - 1)) (Bt n w 0 k)
/-- least and greatest of every span -/
def spT : List (Nat × Nat) := [(0, 0), (0, 0), (0, 0), (0, 0), (0, 0), (0, 0), (0, 0), (0, 0), (0, 0), (0, 0), (0, 95), (5, 100), (0, 0), (0, 0), (0, 0), (0, 0), (0, 0), (0, 0), (0, 0), (0, 0), (0, 77), (3, 97), (23, 100), (0, 0), (0, 0), (0, 0), (0, 0), (0, 0), (0, 0), (0, 0), (0, 63), (2, 86), (14, 98), (37, 100), (0, 0), (0, 0), (0, 0), (0, 0), (0, 0), (0, 0), (0, 52), (2, 75), (10, 90), (25, 98), (48, 100), (0, 0), (0, 0), (0, 0), (0, 0), (0, 0), (0, 45), (2, 65), (8, 81), (19, 92), (35, 98), (55, 100), (0, 0), (0, 0), (0, 0), (0, 0), (0, 39), (1, 58), (7, 72), (16, 84), (28, 93), (42, 99), (61, 100), (0, 0), (0, 0), (0, 0), (0, 34), (1, 52), (6, 65), (13, 77), (23, 87), (35, 94), (48, 99), (66, 100), (0, 0), (0, 0), (0, 31), (1, 47), (5, 59), (12, 71), (20, 80), (29, 88), (41, 95), (53, 99), (69, 100), (0, 0), (0, 28), (1, 42), (5, 54), (10, 65), (17, 74), (26, 83), (35, 90), (46, 95), (58, 99), (72, 100)]
def Lo (n k : Nat) : Nat := (spT.getD (10 * n + k) (0, 0)).1
def Hi (n k : Nat) : Nat := (spT.getD (10 * n + k) (0, 0)).2
def chk (n k lo hi w : Nat) : Bool := (Sp n k w == (Nat.ble lo w && Nat.ble w hi)) && Nat.ble (Bt n w k n) 4000000000000000000 && Nat.ble (Bt n w 0 k) 4000000000000000000
def chkR (n k : Nat) : Bool := Nat.ble (Lo n k) (Hi n k) && Nat.ble (Hi n k) 100 && Al (fun w => chk n k (Lo n k) (Hi n k) w) 101
def chkA : Bool := Al (fun n => Al (fun k => chkR (n + 1) k) (n + 2)) 9
set_option maxRecDepth 100000 in
theorem chkA_t : chkA = true := by decide +kernel
theorem Al_get {P : Nat → Bool} : ∀ {n i : Nat}, Al P n = true → i < n → P i = true
  | 0, i, _, h => by omega
  | n + 1, i, h, hi => by
    rw [Al, Bool.and_eq_true] at h
    by_cases c : i = n
    · rw [c]; exact h.2
    · exact Al_get h.1 (by omega)
theorem chk_all {n k : Nat} (h1 : 1 ≤ n) (h9 : n ≤ 9) (hk : k ≤ n) : Lo n k ≤ Hi n k ∧ Hi n k ≤ 100 ∧ ∀ w, w ≤ 100 → (Sp n k w = decide (Lo n k ≤ w ∧ w ≤ Hi n k)) ∧ Bt n w k n ≤ 4000000000000000000 ∧ Bt n w 0 k ≤ 4000000000000000000 := by
  have h2 := Al_get (i := n - 1) chkA_t (by omega)
  have h3 := Al_get (i := k) h2 (by omega)
  rw [show n - 1 + 1 = n from by omega] at h3
  unfold chkR at h3
  rw [Bool.and_eq_true, Bool.and_eq_true] at h3
  refine ⟨Nat.le_of_ble_eq_true h3.1.1, Nat.le_of_ble_eq_true h3.1.2, fun w hw => ?_⟩
  have h4 := Al_get (i := w) h3.2 (by omega)
  unfold chk at h4
  rw [Bool.and_eq_true, Bool.and_eq_true] at h4
  refine ⟨?_, Nat.le_of_ble_eq_true h4.1.2, Nat.le_of_ble_eq_true h4.2⟩
  rw [eq_of_beq h4.1.1]
  by_cases c1 : Lo n k ≤ w
  · by_cases c2 : w ≤ Hi n k
    · rw [decide_eq_true ⟨c1, c2⟩, Nat.ble_eq_true_of_le c1, Nat.ble_eq_true_of_le c2]; rfl
    · rw [decide_eq_false (fun z => c2 z.2)]
      cases h : Nat.ble w (Hi n k)
      · rw [Bool.and_false]
      · exact absurd (Nat.le_of_ble_eq_true h) c2
  · rw [decide_eq_false (fun z => c1 z.1)]
    cases h : Nat.ble (Lo n k) w
    · rw [Bool.false_and]
    · exact absurd (Nat.le_of_ble_eq_true h) c1
theorem Ch_b : ∀ n, n < 10 → ∀ k, k < 11 → Ch n k ≤ 126 := by
  have h : ∀ n : Fin 10, ∀ k : Fin 11, Ch n.1 k.1 ≤ 126 := by decide +kernel
  exact fun n hn k hk => h ⟨n, hn⟩ ⟨k, hk⟩
theorem Cc_b : ∀ n, n < 10 → ∀ k, k < 10 → k ≤ n → ∀ i, i < 11 → i ≤ k → Cc n k i ≤ 126 := by
  have h : ∀ n : Fin 10, ∀ k : Fin 10, k.1 ≤ n.1 → ∀ i : Fin 11, i.1 ≤ k.1 → Cc n.1 k.1 i.1 ≤ 126 := by decide +kernel
  exact fun n hn k hk hkn i hi hik => h ⟨n, hn⟩ ⟨k, hk⟩ hkn ⟨i, hi⟩ hik
theorem Cc_Ch : ∀ n, n < 10 → ∀ k, k < 10 → k ≤ n → Cc n k k = Ch n k := by
  have h : ∀ n : Fin 10, ∀ k : Fin 10, k.1 ≤ n.1 → Cc n.1 k.1 k.1 = Ch n.1 k.1 := by decide +kernel
  exact fun n hn k hk hkn => h ⟨n, hn⟩ ⟨k, hk⟩ hkn
theorem Pr_pw {w v k : Nat} : ∀ {n : Nat}, k ≤ n → Pr (fun i => if i < k then w else v) n = w ^ k * v ^ (n - k)
  | 0, h => by
    have : k = 0 := by omega
    subst this
    rfl
  | n + 1, h => by
    rw [Pr]
    by_cases c : k ≤ n
    · rw [Pr_pw c, if_neg (by omega), show n + 1 - k = n - k + 1 from by omega, Nat.pow_succ, Nat.mul_assoc]
    · have hk : k = n + 1 := by omega
      subst hk
      have : Pr (fun i => if i < n + 1 then w else v) n = w ^ n := by
        rw [Pr_congr (g := fun i => if i < n then w else v) (fun k hk => by rw [if_pos (by omega), if_pos hk]), Pr_pw (Nat.le_refl n), Nat.sub_self, Nat.pow_zero, Nat.mul_one]
      rw [this, if_pos (by omega), Nat.sub_self, Nat.pow_zero, Nat.mul_one, Nat.pow_succ]
theorem ldiv {a b : Nat} (ha : a < 2 ^ 31) (hb : b < 2 ^ 31) : lI (a : Int) / lI (b : Int) = lI ((a / b : Nat) : Int) := by
  have h := Int64.ofInt_tdiv (a := (a : Int)) (b := (b : Int)) (by have : Int64.minValue.toInt = -2 ^ 63 := by decide
                                                                   omega) (by have : Int64.maxValue.toInt = 2 ^ 63 - 1 := by decide
                                                                              omega) (by have : Int64.minValue.toInt = -2 ^ 63 := by decide
                                                                                         omega) (by have : Int64.maxValue.toInt = 2 ^ 63 - 1 := by decide
                                                                                                    omega)
  exact h.symm
theorem nzlN {m : Nat} (h0 : 0 < m) (h : m < 2 ^ 31) : nzl (lI (m : Int)) = true := by
  unfold nzl
  rw [bne_iff_ne]
  intro z
  have h2 : (lI (m : Int)).toInt = m := Int64.toInt_ofInt_of_le (by omega) (by omega)
  rw [z] at h2
  have h3 : (0 : Int64).toInt = 0 := by decide
  omega
theorem lg_neg {a b : Int} (ha : -2 ^ 62 ≤ a ∧ a < 2 ^ 62) (hb : -2 ^ 62 ≤ b ∧ b < 2 ^ 62) : (lg_cmp (lI a) (lI b) < 0) = (a < b) := by
  unfold lg_cmp
  have ta : (lI a).toInt = a := Int64.toInt_ofInt_of_le (by omega) (by omega)
  have tb : (lI b).toInt = b := Int64.toInt_ofInt_of_le (by omega) (by omega)
  by_cases h : lI a > lI b
  · rw [if_pos h]
    have h2 := Int64.lt_iff_toInt_lt.mp h
    rw [ta, tb] at h2
    exact propext ⟨fun z => absurd z (by decide), fun z => by omega⟩
  · rw [if_neg h]
    have h2 : ¬ b < a := fun z => h (Int64.lt_iff_toInt_lt.mpr (by rw [ta, tb]; exact z))
    by_cases h3 : lI a = lI b
    · rw [if_pos h3]
      have h4 : a = b := by rw [← ta, ← tb, h3]
      exact propext ⟨fun z => absurd z (by decide), fun z => by omega⟩
    · rw [if_neg h3]
      have h4 : a ≠ b := fun z => h3 (by rw [z])
      exact propext ⟨fun _ => by omega, fun _ => by decide⟩
