/-! WORDS AND NUMBERS, read by both. -/
/-- both stand at the token from p on -/
def TKp (Mc Mr : Mm) (n : Nat) (b : Nat → Nat) (p : Nat) : Prop := (TBc Mc n b) ∧ (TBr Mr n b) ∧ (p ≤ n) ∧ (Mc 15 4 = nI (tS b n p)) ∧ (Mc 15 5 = nI (tW b n p)) ∧ (Mc 15 3 = nI (tK b n p)) ∧ (tK b n p = 2 → Mc 15 6 = nI (vN b (tS b n p) (tW b n p))) ∧ (Mr 81 4 = nI (tS b n p)) ∧ (Mr 81 5 = nI (tS b n p + tW b n p)) ∧ (Mr 81 6 = nI (rk (tK b n p))) ∧ (tK b n p = 1 → Mr 81 8 = nI (tW b n p) ∧ ∀ j, j < tW b n p → Mr 83 j = nI (b (tS b n p + j))) ∧ (tK b n p = 2 → Mr 81 7 = nI (vN b (tS b n p) (tW b n p))) ∧ (Mc 17 4 = Mr 81 9)
theorem TKp.B {Mc Mr : Mm} {n : Nat} {b : Nat → Nat} {p : Nat} (h : TKp Mc Mr n b p) : TBc Mc n b := h.1
theorem TKp.R {Mc Mr : Mm} {n : Nat} {b : Nat → Nat} {p : Nat} (h : TKp Mc Mr n b p) : TBr Mr n b := h.2.1
theorem TKp.hp {Mc Mr : Mm} {n : Nat} {b : Nat → Nat} {p : Nat} (h : TKp Mc Mr n b p) : p ≤ n := h.2.2.1
theorem TKp.c4 {Mc Mr : Mm} {n : Nat} {b : Nat → Nat} {p : Nat} (h : TKp Mc Mr n b p) : Mc 15 4 = nI (tS b n p) := h.2.2.2.1
theorem TKp.c5 {Mc Mr : Mm} {n : Nat} {b : Nat → Nat} {p : Nat} (h : TKp Mc Mr n b p) : Mc 15 5 = nI (tW b n p) := h.2.2.2.2.1
theorem TKp.c3 {Mc Mr : Mm} {n : Nat} {b : Nat → Nat} {p : Nat} (h : TKp Mc Mr n b p) : Mc 15 3 = nI (tK b n p) := h.2.2.2.2.2.1
theorem TKp.c6 {Mc Mr : Mm} {n : Nat} {b : Nat → Nat} {p : Nat} (h : TKp Mc Mr n b p) : tK b n p = 2 → Mc 15 6 = nI (vN b (tS b n p) (tW b n p)) := h.2.2.2.2.2.2.1
theorem TKp.r4 {Mc Mr : Mm} {n : Nat} {b : Nat → Nat} {p : Nat} (h : TKp Mc Mr n b p) : Mr 81 4 = nI (tS b n p) := h.2.2.2.2.2.2.2.1
theorem TKp.r5 {Mc Mr : Mm} {n : Nat} {b : Nat → Nat} {p : Nat} (h : TKp Mc Mr n b p) : Mr 81 5 = nI (tS b n p + tW b n p) := h.2.2.2.2.2.2.2.2.1
theorem TKp.r6 {Mc Mr : Mm} {n : Nat} {b : Nat → Nat} {p : Nat} (h : TKp Mc Mr n b p) : Mr 81 6 = nI (rk (tK b n p)) := h.2.2.2.2.2.2.2.2.2.1
theorem TKp.rl {Mc Mr : Mm} {n : Nat} {b : Nat → Nat} {p : Nat} (h : TKp Mc Mr n b p) : tK b n p = 1 → Mr 81 8 = nI (tW b n p) ∧ ∀ j, j < tW b n p → Mr 83 j = nI (b (tS b n p + j)) := h.2.2.2.2.2.2.2.2.2.2.1
theorem TKp.rv {Mc Mr : Mm} {n : Nat} {b : Nat → Nat} {p : Nat} (h : TKp Mc Mr n b p) : tK b n p = 2 → Mr 81 7 = nI (vN b (tS b n p) (tW b n p)) := h.2.2.2.2.2.2.2.2.2.2.2.1
theorem TKp.f4 {Mc Mr : Mm} {n : Nat} {b : Nat → Nat} {p : Nat} (h : TKp Mc Mr n b p) : Mc 17 4 = Mr 81 9 := h.2.2.2.2.2.2.2.2.2.2.2.2
/-- what the class's reading leaves as it was, and the reference's -/
def Wc (M M' : Mm) : Prop := (∀ a, a ≠ 15 → a ≠ 17 → M' a = M a) ∧ (M' 15 1 = M 15 1) ∧ (M' 17 3 = M 17 3)
theorem Wc.fr {M M' : Mm} (h : Wc M M') : ∀ a, a ≠ 15 → a ≠ 17 → M' a = M a := h.1
theorem Wc.f1 {M M' : Mm} (h : Wc M M') : M' 15 1 = M 15 1 := h.2.1
theorem Wc.f3 {M M' : Mm} (h : Wc M M') : M' 17 3 = M 17 3 := h.2.2
def Wr (M M' : Mm) : Prop := (∀ a, a ≠ 81 → a ≠ 83 → M' a = M a) ∧ (∀ k, k < 4 ∨ (10 < k ∧ k ≠ 13) → M' 81 k = M 81 k)
theorem Wr.fr {M M' : Mm} (h : Wr M M') : ∀ a, a ≠ 81 → a ≠ 83 → M' a = M a := h.1
theorem Wr.r {M M' : Mm} (h : Wr M M') : ∀ k, k < 4 ∨ (10 < k ∧ k ≠ 13) → M' 81 k = M 81 k := h.2
theorem Wc.rfl' (M : Mm) : Wc M M := ⟨fun _ _ _ => rfl, rfl, rfl⟩
theorem Wr.rfl' (M : Mm) : Wr M M := ⟨fun _ _ _ => rfl, fun _ _ => rfl⟩
theorem Wc.tr {M M1 M2 : Mm} (h : Wc M M1) (h' : Wc M1 M2) : Wc M M2 := ⟨fun a x y => by rw [h'.fr a x y, h.fr a x y], by rw [h'.f1, h.f1], by rw [h'.f3, h.f3]⟩
theorem Wr.tr {M M1 M2 : Mm} (h : Wr M M1) (h' : Wr M1 M2) : Wr M M2 := ⟨fun a x y => by rw [h'.fr a x y, h.fr a x y], fun k x => by rw [h'.r k x, h.r k x]⟩
/-- both have failed alike -/
def FL (Mc Mr : Mm) : Prop := Mc 17 4 = Mr 81 9 ∧ Mc 17 5 = Mr 81 10 ∧ Mr 81 13 = nI 1
section
variable {Mc Mr : Mm} {n p : Nat} {b : Nat → Nat}
theorem tK_pos (h : p ≤ n) (hk : tK b n p ≠ 0) : tS b n p < n ∧ p < tS b n p + tW b n p := by
  obtain ⟨t1, t2, -⟩ := tS_b (b := b) h
  obtain ⟨w1, w2⟩ := tW_b (b := b) h
  have : tS b n p ≠ n := fun z => hk (by unfold tK; rw [if_pos z])
  have := w2 (by omega)
  omega
theorem tK_le : tK b n p ≤ 6 := by
  have := kd_b (b (tS b n p))
  unfold tK
  repeat' split
  all_goals omega
theorem TKp.adv (t : TKp Mc Mr n b p) : ∃ Mc' Mr', f_X8_advance Mc = some Mc' ∧ f_X10_next Mr = some Mr' ∧ TKp Mc' Mr' n b (tS b n p + tW b n p) ∧ (∀ a, a ≠ 15 → Mc' a = Mc a) ∧ Mc' 15 1 = Mc 15 1 ∧ (∀ a, a ≠ 81 → a ≠ 83 → Mr' a = Mr a) ∧ (∀ k, k < 4 ∨ 8 < k → Mr' 81 k = Mr 81 k) := by
  have w1 := (tW_b (b := b) t.hp).1
  obtain ⟨Mc', a1, A⟩ := c_advance t.B t.c4 t.c5 w1
  obtain ⟨Mr', a2, N⟩ := r_next t.R t.r5 w1
  exact ⟨Mc', Mr', a1, a2, ⟨t.B.cong A.f2 (A.fr 16 (by decide)), t.R.cong (N.r 3 (by omega)) (N.fr 82 (by decide) (by decide)), w1, A.s, A.w, A.k, A.v, N.s, N.e, N.t, N.l, N.v, by rw [A.fr 17 (by decide), N.r 9 (by omega)]; exact t.f4⟩, A.fr, A.f1, N.fr, N.r⟩
/-- the letters of a word -/
def wP (b : Nat → Nat) (n p i j : Nat) : Bool := decide (nI (b (tS b n p + j)) = schar i j)
def wd (b : Nat → Nat) (n p i : Nat) : Bool := decide (tK b n p = 1) && decide (tW b n p = (stB i).length) && Al (wP b n p i) (tW b n p)
theorem slenN : ∀ i, i < 46 → slen i = nI (stB i).length ∧ (stB i).length ≤ 8 := by
  have h : ∀ i : Fin 46, slen i.1 = nI (stB i.1).length ∧ (stB i.1).length ≤ 8 := by decide +kernel
  exact fun i hi => h ⟨i, hi⟩
theorem stB23 : ∀ i, i < 23 → stB (i + 23) = stB i := by
  have h : ∀ i : Fin 23, stB (i.1 + 23) = stB i.1 := by decide +kernel
  exact fun i hi => h ⟨i, hi⟩
theorem schar23 {i : Nat} (hi : i < 23) (j : Nat) : schar (i + 23) j = schar i j := by
  unfold schar
  rw [stB23 i hi]
theorem c_isWord (t : TKp Mc Mr n b p) {i : Nat} (hi : i < 23) : f_X8_isWord i Mc = some (nI (wd b n p i).toNat, Mc) := by
  have h9 := t.B.n9
  have w1 := (tW_b (b := b) t.hp).1
  obtain ⟨l1, l2⟩ := slenN i (by omega)
  have hk := tK_le (b := b) (n := n) (p := p)
  unfold f_X8_isWord wd
  rw [t.c3, t.c5, l1]
  by_cases c1 : tK b n p = 1
  · rw [if_pos (by rw [c1]), decide_eq_true c1, Bool.true_and]
    by_cases c2 : tW b n p = (stB i).length
    · rw [if_pos (by rw [c2]), decide_eq_true c2, Bool.true_and]
      refine (lpA (fun f j => lp_X8_isWord_23 i f (nI j) Mc) (tW b n p) (wP b n p i) (T := some (nI 1, Mc)) (F := some (nI 0, Mc)) (by omega) (fun f j hj hP => ?_) (fun f j hj hP => ?_) (fun f => ?_)).trans ?_
      · rw [lp_X8_isWord_23, l1, if_neg (by rw [nle (by omega) (by omega)]; omega), t.c4, nadd, c_byte t.B (by omega), bds, gdi (by omega) (by omega), nclamp (by omega), if_pos (of_decide_eq_true hP), nadd]
      · rw [lp_X8_isWord_23, l1, if_neg (by rw [nle (by omega) (by omega)]; omega), t.c4, nadd, c_byte t.B (by omega), bds, gdi (by omega) (by omega), nclamp (by omega), if_neg (of_decide_eq_false hP)]
      · rw [lp_X8_isWord_23, l1, if_pos (by rw [nle (by omega) (by omega)]; omega)]
      · cases Al (wP b n p i) (tW b n p) <;> rfl
    · rw [if_neg (by rw [neq (by omega) (by omega)]; exact c2), decide_eq_false c2]
      rfl
  · rw [if_neg (by rw [neq (by omega) (by omega)]; exact c1), decide_eq_false c1]
    rfl
theorem rk_b (K : Nat) (h : K ≤ 6) : rk K < 100 ∧ (rk K = 2 ↔ K = 1) ∧ (rk K = 3 ↔ K = 2) ∧ (rk K = 59 ↔ K = 3) ∧ (rk K = 44 ↔ K = 4) := by
  unfold rk
  repeat' split
  all_goals omega
theorem rk_0 {K : Nat} (h : K ≤ 6) (h5 : K ≠ 5) : rk K = 0 ↔ K = 0 := by
  unfold rk
  repeat' split
  all_goals omega
theorem tK5 (h : p ≤ n) : tK b n p ≠ 5 := by
  obtain ⟨t1, t2, t3⟩ := tS_b (b := b) h
  unfold tK
  by_cases c : tS b n p = n
  · rw [if_pos c]; decide
  · rw [if_neg c]
    split
    · decide
    · exact t3 (by omega)
theorem r_isWord (t : TKp Mc Mr n b p) {i : Nat} (hi : i < 23) (h13 : Mr 81 13 = nI 0) : f_X10_isWord (i + 23) Mr = some (nI (wd b n p i).toNat, Mr) := by
  have h9 := t.B.n9
  have w1 := (tW_b (b := b) t.hp).1
  obtain ⟨l1, l2⟩ := slenN (i + 23) (by omega)
  have hk := rk_b _ (tK_le (b := b) (n := n) (p := p))
  rw [stB23 i hi] at l1 l2
  unfold f_X10_isWord wd
  rw [h13, if_pos (by decide), t.r6, l1]
  by_cases c1 : tK b n p = 1
  · obtain ⟨t1, t2⟩ := t.rl c1
    rw [if_pos (by rw [c1]; rfl), decide_eq_true c1, Bool.true_and, t1]
    by_cases c2 : tW b n p = (stB i).length
    · rw [if_pos (by rw [c2]), decide_eq_true c2, Bool.true_and]
      refine lp0 (fun f j => lp_X10_isWord_32 (i + 23) f (nI (Al (wP b n p i) j).toNat) (nI j) Mr) (tW b n p) (by omega) (fun f j hj => ?_) (fun f => ?_)
      · rw [lp_X10_isWord_32, t1, if_neg (by rw [nle (by omega) (by omega)]; omega), Al]
        simp only [jns]
        cases hA : Al (wP b n p i) j
        · rw [if_pos (by decide), nadd]
          rfl
        · rw [if_neg (by decide), gdi (by omega) (by omega), gdi (by omega) (by rw [stB23 i hi]; omega), nclamp (by omega), t2 j hj, schar23 hi, nadd]
          by_cases c3 : nI (b (tS b n p + j)) = schar i j
          · have : wP b n p i j = true := decide_eq_true c3
            rw [if_pos c3, this]; rfl
          · have : wP b n p i j = false := decide_eq_false c3
            rw [if_neg c3, this]; rfl
      · rw [lp_X10_isWord_32, t1, if_pos (Int32.le_refl _)]
        cases Al (wP b n p i) (tW b n p) <;> rfl
    · rw [if_neg (by rw [neq (by omega) (by omega)]; exact c2), decide_eq_false c2]
      rfl
  · rw [if_neg (by rw [neq (by omega) (by omega)]; omega), decide_eq_false c1]
    rfl
theorem wd_K {i : Nat} (h : wd b n p i = true) : tK b n p = 1 := by
  unfold wd at h
  rw [Bool.and_eq_true, Bool.and_eq_true] at h
  exact of_decide_eq_true h.1.1
/-- both fail with the number e -/
theorem both_fail (t : TKp Mc Mr n b p) (e : Nat) (h13 : Mr 81 13 = nI 0) : ∃ Mc' Mr', f_X5_fail (nI e) Mc = some (nI 0, Mc') ∧ f_X10_wrong (nI e) (Mr 81 4) Mr = some Mr' ∧ FL Mc' Mr' ∧ Wc Mc Mc' ∧ Wr Mr Mr' ∧ (∀ a, a ≠ 81 → Mr' a = Mr a) := by
  refine ⟨_, _, rfl, if_pos (by rw [h13]; rfl), ⟨?_, ?_, ?_⟩, ⟨fun a h1 h2 => ?_, ?_, ?_⟩, ⟨fun a h1 h2 => ?_, fun k hk => ?_⟩, fun a ha => ?_⟩
  · simp (disch := omega) only [ms1, ms1, ms2, ms3]
  · simp (disch := omega) only [ms1, ms1, ms2, ms3]; rw [t.c4, t.r4]
  · simp (disch := omega) only [ms1, ms1, ms2, ms3]
  · rw [mset_off _ _ _ h2, mset_off _ _ _ h2]
  · simp (disch := omega) only [ms1, ms1, ms2, ms3]
  · simp (disch := omega) only [ms1, ms1, ms2, ms3]
  · rw [mset_off _ _ _ h1, mset_off _ _ _ h1, mset_off _ _ _ h1]
  · rw [ms3 _ _ (by omega), ms3 _ _ (by omega), ms3 _ _ (by omega)]
  · rw [mset_off _ _ _ ha, mset_off _ _ _ ha, mset_off _ _ _ ha]
/-- a word that is due -/
theorem both_word (t : TKp Mc Mr n b p) {i : Nat} (hi : i < 23) (h13 : Mr 81 13 = nI 0) :
    (∃ Mc' Mr' p', f_X5_word i Mc = some (nI 1, Mc') ∧ f_X10_must (i + 23) Mr = some Mr' ∧ TKp Mc' Mr' n b p' ∧ p < p' ∧ Mr' 81 13 = nI 0 ∧ Wc Mc Mc' ∧ Wr Mr Mr') ∨
    (∃ Mc' Mr', f_X5_word i Mc = some (nI 0, Mc') ∧ f_X10_must (i + 23) Mr = some Mr' ∧ FL Mc' Mr' ∧ Wc Mc Mc' ∧ Wr Mr Mr') := by
  unfold f_X5_word f_X10_must f_X10_takes
  rw [c_isWord t hi, r_isWord t hi h13, h13, if_pos (by decide)]
  simp only [bds]
  cases hw : wd b n p i
  · right
    obtain ⟨Mc', Mr', a1, a2, a3, a4, a5, -⟩ := both_fail t 1 h13
    refine ⟨Mc', Mr', ?_, ?_, a3, a4, a5⟩
    · rw [if_pos (by decide), a1]; rfl
    · rw [if_pos (by decide), bds, if_pos (by decide), a2]; rfl
  · left
    obtain ⟨Mc', Mr', a1, a2, a3, a4, a5, a6, a7⟩ := t.adv
    have hk := wd_K hw
    refine ⟨Mc', Mr', _, ?_, ?_, a3, (tK_pos t.hp (by omega)).2, by rw [a7 13 (by omega)]; exact h13, ⟨fun a h1 _ => a4 a h1, a5, by rw [a4 17 (by decide)]⟩, ⟨a6, fun k hk => a7 k (by omega)⟩⟩
    · rw [if_neg (by decide), a1]; rfl
    · rw [if_neg (by decide), a2]; rfl
theorem rv_lt (t : TKp Mc Mr n b p) (h : tK b n p = 2) : vN b (tS b n p) (tW b n p) < 1000 := by
  have hs := (tK_pos t.hp (b := b) (by omega)).1
  have h1 : kd (b (tS b n p)) = 2 ∧ tW b n p ≤ 3 := by
    revert h
    unfold tK
    rw [if_neg (by omega)]
    split
    · omega
    · omega
  have h2 : tW b n p = ru b 2 (n - tS b n p) (tS b n p) := by
    unfold tW
    rw [if_neg (by omega), if_pos (.inr h1.1), h1.1]
  have h3 := vN_lt (b := b) (s := tS b n p) (j := tW b n p) (fun i hi => (ru_b b 2 (n - tS b n p) (tS b n p)).2 i (by omega))
  have h4 : 10 ^ tW b n p ≤ 10 ^ 3 := Nat.pow_le_pow_right (by omega) h1.2
  omega
/-- a number that is due, if there is room -/
theorem both_number (t : TKp Mc Mr n b p) {a c : Nat} (ha : a < 1000) (hc : c < 1000) (h13 : Mr 81 13 = nI 0) :
    (∃ Mc' Mr' p' v, a ≤ v ∧ v ≤ c ∧ f_X5_whole (nI a) (nI c) (nI 1) Mc = some (nI 1, Mc') ∧ f_X10_number (nI a) (nI c) Mr = some (nI v, Mr') ∧ Mc' 17 6 = nI v ∧ TKp Mc' Mr' n b p' ∧ p < p' ∧ Mr' 81 13 = nI 0 ∧ Wc Mc Mc' ∧ Wr Mr Mr') ∨
    (∃ Mc' Mr', f_X5_whole (nI a) (nI c) (nI 1) Mc = some (nI 0, Mc') ∧ f_X10_number (nI a) (nI c) Mr = some (nI a, Mr') ∧ FL Mc' Mr' ∧ Wc Mc Mc' ∧ Wr Mr Mr') := by
  have hk := tK_le (b := b) (n := n) (p := p)
  have hr := rk_b _ hk
  unfold f_X5_whole f_X10_number
  simp only [jns]
  rw [h13, if_pos (show nI 0 = (0 : Int32) from rfl), t.c3, t.r6]
  by_cases c1 : tK b n p = 2
  · have hv := rv_lt t c1
    rw [if_pos (show nI (tK b n p) = nI 2 by rw [c1]), if_pos (show nI (rk (tK b n p)) = nI 3 by rw [c1]; rfl), t.c6 c1, t.rv c1, r_withinN (by omega) (by omega) (by omega)]
    simp only [bds]
    by_cases c2 : a ≤ vN b (tS b n p) (tW b n p) ∧ vN b (tS b n p) (tW b n p) ≤ c
    · left
      rw [if_pos c2]
      have t' : TKp (mset Mc 17 6 (nI (vN b (tS b n p) (tW b n p)))) Mr n b p := ⟨t.B.cong (by rw [mset_off _ _ _ (by decide)]) (by rw [mset_off _ _ _ (by decide)]), t.R, t.hp, by rw [mset_off _ _ _ (by decide)]; exact t.c4, by rw [mset_off _ _ _ (by decide)]; exact t.c5, by rw [mset_off _ _ _ (by decide)]; exact t.c3, by rw [mset_off _ _ _ (by decide)]; exact t.c6, t.r4, t.r5, t.r6, t.rl, t.rv, by rw [ms3 _ _ (by decide)]; exact t.f4⟩
      obtain ⟨Mc', Mr', a1, a2, a3, a4, a5, a6, a7⟩ := t'.adv
      refine ⟨Mc', Mr', _, _, c2.1, c2.2, ?_, ?_, ?_, a3, (tK_pos t.hp (by omega)).2, by rw [a7 13 (by omega)]; exact h13, ⟨fun x h1 h2 => by rw [a4 x h1, mset_off _ _ _ h2], by rw [a5, mset_off _ _ _ (by decide)], by rw [a4 17 (by decide), ms3 _ _ (by decide)]⟩, ⟨a6, fun k hk => a7 k (by omega)⟩⟩
      · rw [if_neg (by rw [nlt (by omega) (by omega)]; omega), if_pos (by rw [nle (by omega) (by omega)]; exact c2.2), if_neg (by decide), a1]; rfl
      · rw [if_neg (by decide), a2]; rfl
      · rw [a4 17 (by decide), ms1]
    · right
      rw [if_neg c2]
      obtain ⟨Mc', Mr', a1, a2, a3, a4, a5, -⟩ := both_fail t 4 h13
      refine ⟨Mc', Mr', ?_, ?_, a3, a4, a5⟩
      · by_cases c3 : vN b (tS b n p) (tW b n p) < a
        · rw [if_pos (by rw [nlt (by omega) (by omega)]; exact c3), a1]; rfl
        · rw [if_neg (by rw [nlt (by omega) (by omega)]; exact c3), if_neg (by rw [nle (by omega) (by omega)]; omega), a1]; rfl
      · rw [if_pos (by decide), a2]; rfl
  · right
    obtain ⟨Mc', Mr', a1, a2, a3, a4, a5, -⟩ := both_fail t 1 h13
    refine ⟨Mc', Mr', ?_, ?_, a3, a4, a5⟩
    · rw [if_neg (by rw [neq (by omega) (by omega)]; exact c1), a1]; rfl
    · rw [if_neg (by rw [neq (by omega) (by omega)]; omega), a2]; rfl
/-! the reference, once it has failed -/
theorem fl0 {M : Mm} (h : M 81 13 = nI 1) : ¬ M 81 13 = 0 := by rw [h]; decide
theorem fl_wrong {M : Mm} (h : M 81 13 = nI 1) (x y : Int32) : f_X10_wrong x y M = some M := if_neg (fl0 h)
theorem fl_isWord {M : Mm} (h : M 81 13 = nI 1) (i : Nat) : f_X10_isWord i M = some (nI 0, M) := if_neg (fl0 h)
theorem fl_takes {M : Mm} (h : M 81 13 = nI 1) (i : Nat) : f_X10_takes i M = some (nI 0, M) := by
  unfold f_X10_takes
  rw [fl_isWord h, bds, if_pos (by decide)]
theorem fl_must {M : Mm} (h : M 81 13 = nI 1) (i : Nat) : f_X10_must i M = some M := if_neg (fl0 h)
theorem fl_number {M : Mm} (h : M 81 13 = nI 1) (x y : Int32) : f_X10_number x y M = some (x, M) := if_neg (fl0 h)
theorem fl_told {M : Mm} (h : M 81 13 = nI 1) (i : Nat) (x y : Int32) : f_X10_told i x y M = some (x, M) := by
  unfold f_X10_told
  rw [fl_must h, bvs, fl_number h]; rfl
theorem fl_comma {M : Mm} (h : M 81 13 = nI 1) : f_X10_comma M = some (nI 0, M) := if_neg (fl0 h)
/-- a word and a number -/
theorem both_told (t : TKp Mc Mr n b p) {i a c : Nat} (hi : i < 23) (ha : a < 1000) (hc : c < 1000) (h13 : Mr 81 13 = nI 0) :
    (∃ Mc' Mr' p' v, a ≤ v ∧ v ≤ c ∧ f_X5_told i (nI a) (nI c) Mc = some (nI 1, Mc') ∧ f_X10_told (i + 23) (nI a) (nI c) Mr = some (nI v, Mr') ∧ Mc' 17 6 = nI v ∧ TKp Mc' Mr' n b p' ∧ p < p' ∧ Mr' 81 13 = nI 0 ∧ Wc Mc Mc' ∧ Wr Mr Mr') ∨
    (∃ Mc' Mr', f_X5_told i (nI a) (nI c) Mc = some (nI 0, Mc') ∧ f_X10_told (i + 23) (nI a) (nI c) Mr = some (nI a, Mr') ∧ FL Mc' Mr' ∧ Wc Mc Mc' ∧ Wr Mr Mr') := by
  unfold f_X5_told f_X10_told
  simp only [jns]
  rcases both_word t hi h13 with ⟨Mc1, Mr1, p1, a1, a2, t1, hp1, h1, w1, w2⟩ | ⟨Mc1, Mr1, a1, a2, f, w1, w2⟩
  · rw [a1, a2]
    simp only [bds, bvs]
    rcases both_number t1 ha hc h1 with ⟨Mc2, Mr2, p2, v, b1, b2, b3, b4, b5, t2, hp2, h2, w3, w4⟩ | ⟨Mc2, Mr2, b3, b4, f, w3, w4⟩
    · left
      refine ⟨Mc2, Mr2, p2, v, b1, b2, ?_, ?_, b5, t2, by omega, h2, w1.tr w3, w2.tr w4⟩
      · rw [if_neg (by decide), b3, bds, if_neg (by decide)]
      · rw [b4]; rfl
    · right
      refine ⟨Mc2, Mr2, ?_, ?_, f, w1.tr w3, w2.tr w4⟩
      · rw [if_neg (by decide), b3, bds, if_pos (by decide)]
      · rw [b4]; rfl
  · right
    refine ⟨Mc1, Mr1, ?_, ?_, f, w1, w2⟩
    · rw [a1, bds, if_pos (by decide)]
    · rw [a2, bvs, fl_number f.2.2]; rfl
end
