/-! FILMS: film, law, says, off. -/
theorem t_filmed {M : Mm} {g tl T : Nat} (I : IC M g tl) (h : NG M g ∨ ∃ G Q mk Qm, IG M g G Q mk Qm T) (x : Int32) :
    (f_X9_isFilmed x M = some (nI 0, M) ∧ ∀ M', Fr M M' → f_X10_isFilmed x M' = some (nI 0, M')) ∨
    (∃ G Q mk Qm p, IG M g G Q mk Qm T ∧ p + 1 < G 92 ∧ x = nI p ∧ f_X9_isFilmed x M = some (nI 1, M) ∧ ∀ M', Fr M M' → f_X10_isFilmed x M' = some (nI 1, M')) := by
  unfold f_X9_isFilmed f_X10_isFilmed
  simp only [jns]
  rcases h with N | ⟨G, Q, mk, Qm, D⟩
  · left
    refine ⟨?_, fun M' F => ?_⟩
    · rw [I.h8, bgv I.gg, N.z 9 (by omega) (by omega)]
      by_cases h : x < 0
      · rw [if_pos h]
      · rw [if_neg h, if_pos (Int32.le_trans (show nI 0 - nI 1 ≤ 0 by decide) (Int32.not_lt.mp h))]
    · rw [F.r 14 (by omega) (by omega) (by omega), N.hg]
      rfl
  · have hpar := D.W.parts
    rw [I.h8, bgv I.gg, D.C.f9, nsub (by omega)]
    by_cases hx : ∃ p, p + 1 < G 92 ∧ x = nI p
    · right
      obtain ⟨p, hp, rfl⟩ := hx
      refine ⟨G, Q, mk, Qm, p, D, hp, rfl, ?_, fun M' F => ?_⟩
      · rw [if_neg (by rw [nlt0 (by omega)]; exact id), if_neg (by rw [nle (by omega) (by omega)]; omega)]
      · rw [(D.fr F).hg, if_neg (by decide), (D.fr F).R 92 (by decide), nsub (by omega), r_w6 (by omega) (by omega), bds, if_neg (by decide)]
    · left
      refine ⟨?_, fun M' F => ?_⟩
      · by_cases h : x < 0
        · rw [if_pos h]
        · rw [if_neg h]
          rcases i32 x with h7 | ⟨v, hv, rfl⟩
          · exact absurd h7 h
          · rw [if_pos (by rw [nle (by omega) hv]; exact Nat.le_of_not_lt fun z => hx ⟨v, by omega, rfl⟩)]
      · rw [(D.fr F).hg, if_neg (by decide), (D.fr F).R 92 (by decide)]
        by_cases c : G 92 = 1
        · have hw : f_X10_within x (nI 0) (nI (G 92) - nI 2) M' = some (nI 0, M') := by
            unfold f_X10_within
            simp only [jns]
            by_cases c1 : x < nI 0
            · rw [if_pos c1]
            · rw [if_neg c1, c, if_pos (Int32.lt_of_lt_of_le (show nI 1 - nI 2 < nI 0 by decide) (Int32.not_lt.mp c1))]
          rw [hw]; rfl
        · rw [nsub (by omega), r_w5 (by omega) (fun ⟨v, h1, h2⟩ => hx ⟨v, by omega, h2⟩)]; rfl
theorem Sm_congr {f g : Nat → Nat} : ∀ {n : Nat}, (∀ k, k < n → f k = g k) → Sm f n = Sm g n
  | 0, _ => rfl
  | n + 1, h => by rw [Sm, Sm, Sm_congr (n := n) (fun k hk => h k (by omega)), h n (by omega)]
theorem Fc_le (fp fm ft : Nat → Nat) (p s t n : Nat) : Fc fp fm ft p s t n ≤ n := by
  have := Sm_le (f := fun k => if fp k = p ∧ fm k = s ∧ ft k = t then 1 else 0) (b := 1) (n := n) (fun k _ => by split <;> omega)
  unfold Fc
  omega
section
variable {M : Mm} {n : Nat} {fp fm ft sn sk : Nat → Nat}
theorem c_counted (N : NT M n fp fm ft sn sk) {p s t : Nat} (hp : p < 5) (hs : s < 2) (ht : t < 2) : f_X1_counted (nI p) (nI (2 * s + t)) M = some (nI (Fc fp fm ft p s t n), M) := by
  have e : p * 4 + (2 * s + t) = 4 * p + 2 * s + t := by omega
  unfold f_X1_counted
  rw [nmul, nadd, f_at (q := 74) (n := 20) rfl (by decide) (by omega), e, N.f p hp s hs t ht]
  rfl
/-- the law of a part: of n films, so many turned -/
def Lw (a b : Nat) : Int32 := if b = 0 then -1 else nI (a * 100 / b)
theorem c_lawOf (N : NT M n fp fm ft sn sk) {p : Nat} (hp : p < 5) : f_X1_lawOf (nI p) M = some (Lw (Fc fp fm ft p 0 1 n + Fc fp fm ft p 1 1 n) (Fc fp fm ft p 0 1 n + Fc fp fm ft p 1 1 n + Fc fp fm ft p 0 0 n + Fc fp fm ft p 1 0 n), M) := by
  have h30 := N.n30
  have l1 := Fc_le fp fm ft p 0 1 n
  have l2 := Fc_le fp fm ft p 1 1 n
  have l3 := Fc_le fp fm ft p 0 0 n
  have l4 := Fc_le fp fm ft p 1 0 n
  have k1 := c_counted N hp (show 0 < 2 by omega) (show 1 < 2 by omega)
  have k2 := c_counted N hp (show 1 < 2 by omega) (show 1 < 2 by omega)
  have k3 := c_counted N hp (show 0 < 2 by omega) (show 0 < 2 by omega)
  have k4 := c_counted N hp (show 1 < 2 by omega) (show 0 < 2 by omega)
  simp only [Nat.mul_zero, Nat.zero_add, Nat.mul_one, Nat.add_zero] at k1 k2 k3 k4
  unfold f_X1_lawOf Lw
  rw [k1, bds, k2, bds, k3, bds, k4, bds, lts, nadd, nadd, nadd]
  by_cases c : Fc fp fm ft p 0 1 n + Fc fp fm ft p 1 1 n + Fc fp fm ft p 0 0 n + Fc fp fm ft p 1 0 n = 0
  · rw [if_pos c, c]; rfl
  · rw [if_neg c, if_neg (by rw [nz0 (by omega)]; exact c), nmul, f_by (by omega) (by omega)]; rfl
theorem c_lawBy (N : NT M n fp fm ft sn sk) {p : Nat} (hp : p < 5) (b : Bool) : f_X1_lawBy (nI p) (nI b.toNat) M = some (Lw (Fc fp fm ft p b.toNat 1 n) (Fc fp fm ft p b.toNat 1 n + Fc fp fm ft p b.toNat 0 n), M) := by
  have h30 := N.n30
  have l1 := Fc_le fp fm ft p b.toNat 1 n
  have l2 := Fc_le fp fm ft p b.toNat 0 n
  have hb := tb b
  have k1 := c_counted N hp (show b.toNat < 2 by omega) (show 1 < 2 by omega)
  have k2 := c_counted N hp (show b.toNat < 2 by omega) (show 0 < 2 by omega)
  have core : bd (f_X1_counted (nI p) (nI (2 * b.toNat) + (nI 1)) M) (fun v15_5 M15_4 => bd (f_X1_counted (nI p) (nI (2 * b.toNat)) M15_4) fun v25_7 M25_6 => if (v15_5 + v25_7) = 0 then (some ((-1 : Int32), M25_6)) else (bd (f_X9_by (v15_5 * (nI 100)) (v15_5 + v25_7) M25_6) fun v47_9 M47_8 => some (v47_9, M47_8))) = some (Lw (Fc fp fm ft p b.toNat 1 n) (Fc fp fm ft p b.toNat 1 n + Fc fp fm ft p b.toNat 0 n), M) := by
    rw [Nat.add_zero] at k2
    unfold Lw
    rw [nadd, k1, bds, k2, bds, nadd]
    by_cases c : Fc fp fm ft p b.toNat 1 n + Fc fp fm ft p b.toNat 0 n = 0
    · rw [if_pos c, c]; rfl
    · rw [if_neg c, if_neg (by rw [nz0 (by omega)]; exact c), nmul, f_by (by omega) (by omega)]; rfl
  unfold f_X1_lawBy
  simp only [jns]
  cases b
  · rw [if_pos (by decide)]; exact core
  · rw [if_neg (by decide)]; exact core
/-- films of a part with shoulders s (any, if s is 2), and of those that turned -/
def Fn (fp fm : Nat → Nat) (p s n : Nat) : Nat := Sm (fun k => if fp k = p ∧ (s = 2 ∨ fm k = s) then 1 else 0) n
def Ft (fp fm ft : Nat → Nat) (p s n : Nat) : Nat := Sm (fun k => if fp k = p ∧ (s = 2 ∨ fm k = s) then ft k else 0) n
theorem Fn_le (fp fm : Nat → Nat) (p s n : Nat) : Fn fp fm p s n ≤ n := by
  have := Sm_le (f := fun k => if fp k = p ∧ (s = 2 ∨ fm k = s) then 1 else 0) (b := 1) (n := n) (fun k _ => by split <;> omega)
  unfold Fn
  omega
theorem Fn2 (fp fm ft : Nat → Nat) (p : Nat) : ∀ n, (∀ k, k < n → fm k ≤ 1 ∧ ft k ≤ 1) → Fn fp fm p 2 n = Fc fp fm ft p 0 1 n + Fc fp fm ft p 1 1 n + Fc fp fm ft p 0 0 n + Fc fp fm ft p 1 0 n ∧ Ft fp fm ft p 2 n = Fc fp fm ft p 0 1 n + Fc fp fm ft p 1 1 n
  | 0, _ => ⟨rfl, rfl⟩
  | n + 1, h => by
    obtain ⟨h1, h2⟩ := Fn2 fp fm ft p n (fun k hk => h k (by omega))
    obtain ⟨h3, h4⟩ := h n (by omega)
    have a1 : Fn fp fm p 2 (n + 1) = Fn fp fm p 2 n + if fp n = p ∧ (2 = 2 ∨ fm n = 2) then 1 else 0 := rfl
    have a2 : Ft fp fm ft p 2 (n + 1) = Ft fp fm ft p 2 n + if fp n = p ∧ (2 = 2 ∨ fm n = 2) then ft n else 0 := rfl
    have a3 : ∀ s t, Fc fp fm ft p s t (n + 1) = Fc fp fm ft p s t n + if fp n = p ∧ fm n = s ∧ ft n = t then 1 else 0 := fun _ _ => rfl
    rw [a1, a2, a3, a3, a3, a3, h1, h2]
    by_cases c : fp n = p
    · have : (fm n = 0 ∨ fm n = 1) ∧ (ft n = 0 ∨ ft n = 1) := by omega
      rcases this with ⟨z1 | z1, z2 | z2⟩ <;> simp [c, z1, z2] <;> omega
    · simp [c]
theorem Fn1 (fp fm ft : Nat → Nat) (p : Nat) {s : Nat} (hs : s < 2) : ∀ n, (∀ k, k < n → fm k ≤ 1 ∧ ft k ≤ 1) → Fn fp fm p s n = Fc fp fm ft p s 1 n + Fc fp fm ft p s 0 n ∧ Ft fp fm ft p s n = Fc fp fm ft p s 1 n
  | 0, _ => ⟨rfl, rfl⟩
  | n + 1, h => by
    obtain ⟨h1, h2⟩ := Fn1 fp fm ft p hs n (fun k hk => h k (by omega))
    obtain ⟨h3, h4⟩ := h n (by omega)
    have h5 : s ≠ 2 := by omega
    have a1 : Fn fp fm p s (n + 1) = Fn fp fm p s n + if fp n = p ∧ (s = 2 ∨ fm n = s) then 1 else 0 := rfl
    have a2 : Ft fp fm ft p s (n + 1) = Ft fp fm ft p s n + if fp n = p ∧ (s = 2 ∨ fm n = s) then ft n else 0 := rfl
    have a3 : ∀ s t, Fc fp fm ft p s t (n + 1) = Fc fp fm ft p s t n + if fp n = p ∧ fm n = s ∧ ft n = t then 1 else 0 := fun _ _ => rfl
    rw [a1, a2, a3, a3, h1, h2]
    by_cases c : fp n = p
    · by_cases c2 : fm n = s
      · have : ft n = 0 ∨ ft n = 1 := by omega
        rcases this with z2 | z2 <;> simp [c, c2, z2] <;> omega
      · simp [c, c2, h5]
    · simp [c]
theorem r_lawOf (N : NT M n fp fm ft sn sk) {p s : Nat} (hp : p < 5) {y : Int32} (hy : (y = -1 ∧ s = 2) ∨ (y = nI s ∧ s < 2)) : f_X10_lawOf (nI p) y M = some (Lw (Ft fp fm ft p s n) (Fn fp fm p s n), M) := by
  have h30 := N.n30
  unfold f_X10_lawOf
  have hle := Fn_le fp fm p s
  refine lp0 (fun f i => lp_X10_lawOf_8 (nI p) y (fun (u12 : Int32) (u13 : Int32) (M14 : Mm) => if u12 = 0 then (some ((-1 : Int32), M14)) else (gd (nzi u12) <| some ((((nI 100) * u13) / u12), M14))) f (nI (Fn fp fm p s i)) (nI (Ft fp fm ft p s i)) (nI i) M) n (by omega) (fun f i hi => ?_) (fun f => ?_)
  · obtain ⟨p1, p2, p3, p4, p5, p6⟩ := N.p i hi
    have e1 : Fn fp fm p s (i + 1) = Fn fp fm p s i + if fp i = p ∧ (s = 2 ∨ fm i = s) then 1 else 0 := rfl
    have e2 : Ft fp fm ft p s (i + 1) = Ft fp fm ft p s i + if fp i = p ∧ (s = 2 ∨ fm i = s) then ft i else 0 := rfl
    rw [lp_X10_lawOf_8, N.r, if_neg (by rw [nle (by omega) (by omega)]; omega), gdi (by omega) (by omega), nclamp (by omega), p1, p2, e1, e2]
    simp only [jns, lts]
    rw [p3]
    by_cases c : fp i = p
    · rw [if_pos (by rw [c]), gdi (by omega) (by omega), gdi (by omega) (by omega)]
      rcases hy with ⟨rfl, rfl⟩ | ⟨rfl, hs⟩
      · rw [if_pos (by decide), if_pos ⟨c, .inl rfl⟩, if_pos ⟨c, .inl rfl⟩, nadd, nadd, nadd]
      · rw [if_neg (by rw [nlt0 (by omega)]; exact id)]
        by_cases c2 : fm i = s
        · rw [if_pos (by rw [c2]), if_pos ⟨c, .inr c2⟩, if_pos ⟨c, .inr c2⟩, nadd, nadd, nadd]
        · rw [if_neg (by rw [neq (by omega) (by omega)]; exact c2), if_neg (by omega), if_neg (by omega), nadd]
          rfl
    · rw [if_neg (by rw [neq (by omega) (by omega)]; exact c), if_neg (fun z => c z.1), if_neg (fun z => c z.1), nadd]
      rfl
  · rw [lp_X10_lawOf_8, N.r, if_pos (Int32.le_refl _)]
    have h1 := hle n
    have h2 : Ft fp fm ft p s n ≤ n * 1 := Sm_le (fun k hk => by
      split
      · exact (N.p k hk).2.2.2.2.2
      · omega)
    unfold Lw
    by_cases c : Fn fp fm p s n = 0
    · rw [if_pos c, c]; rfl
    · rw [if_neg c, if_neg (by rw [nz0 (by omega)]; exact c), gdn (by omega) (by omega), nmul, ndiv (by omega) (by omega) (by omega), Nat.mul_comm]
theorem Lw_none {a b : Nat} (h : a * 100 / b < 2 ^ 31) : (Lw a b = -1 ∧ b = 0) ∨ (b ≠ 0 ∧ Lw a b = nI (a * 100 / b) ∧ Lw a b ≠ -1) := by
  unfold Lw
  by_cases c : b = 0
  · rw [if_pos c]; exact .inl ⟨rfl, c⟩
  · rw [if_neg c]; exact .inr ⟨c, rfl, fun z => nneg h z.symm⟩
end
theorem op_law (x : Int32) (T : Nat) : Same (f_X9_law x) (f_X10_law x) T T := by
  intro M I0
  obtain ⟨g, tl, I, h⟩ := id I0
  obtain ⟨n, fp, fm, ft, sn, sk, N⟩ := I.nt
  unfold f_X9_law f_X10_law
  rcases t_filmed I h x with ⟨e1, e2⟩ | ⟨G, Q, mk, Qm, p, D, hp, rfl, e1, e2⟩
  · refine ⟨(-1 : Int32), mset M 0 11 (nI 1), mset (gdM (mset M 0 11 (nI 1))) 81 11 (nI 1), ?_, ?_, I0.no (Fr.rfl' M) (by omega)⟩
    · rw [e1]; rfl
    · rw [r_good, bvs, e2 _ (fg M _)]; rfl
  · have hpar := D.W.parts
    have h30 := N.n30
    have hcl := c_lawOf N (show p < 5 by omega)
    have hr := fun v => r_lawOf (N.fr (fg M v)) (show p < 5 by omega) (s := 2) (.inl ⟨rfl, rfl⟩)
    have hf := Fn2 fp fm ft p n (fun k hk => ⟨(N.p k hk).2.2.2.2.1, (N.p k hk).2.2.2.2.2⟩)
    have l1 := Fc_le fp fm ft p 0 1 n
    have l2 := Fc_le fp fm ft p 1 1 n
    rw [← hf.1, ← hf.2] at hcl
    have hd : Ft fp fm ft p 2 n * 100 / Fn fp fm p 2 n < 2 ^ 31 := dle (by omega)
    rcases Lw_none hd with ⟨w1, w2⟩ | ⟨w1, w2, w3⟩
    · refine ⟨(-1 : Int32), mset M 0 11 (nI 6), mset (gdM (mset M 0 11 (nI 6))) 81 11 (nI 6), ?_, ?_, I0.no (Fr.rfl' M) (by omega)⟩
      · rw [e1, bds, if_neg (by decide), hcl, bds, if_pos w1]; rfl
      · rw [r_good, bvs, e2 _ (fg M _), bds, if_neg (by decide), hr, bds, w1, if_neg (by decide)]; rfl
    · refine ⟨(Lw (Ft fp fm ft p 2 n) (Fn fp fm p 2 n)), mset M 0 11 (nI 0), gdM (mset M 0 11 (nI 0)), ?_, ?_, I0.yes (Fr.rfl' M)⟩
      · rw [e1, bds, if_neg (by decide), hcl, bds, if_neg w3]; rfl
      · rw [r_good, bvs, e2 _ (fg M _), bds, if_neg (by decide), hr, bds, if_pos (by rw [w2]; exact nI_pos' hd)]
theorem op_says (x : Int32) (b : Bool) (T : Nat) : Same (f_X9_says x (nI b.toNat)) (f_X10_says x (nI b.toNat)) T T := by
  intro M I0
  obtain ⟨g, tl, I, h⟩ := id I0
  obtain ⟨n, fp, fm, ft, sn, sk, N⟩ := I.nt
  unfold f_X9_says f_X10_says
  simp only [jns]
  rcases t_filmed I h x with ⟨e1, e2⟩ | ⟨G, Q, mk, Qm, p, D, hp, rfl, e1, e2⟩
  · refine ⟨(-1 : Int32), mset M 0 11 (nI 1), mset (gdM (mset M 0 11 (nI 1))) 81 11 (nI 1), ?_, ?_, I0.no (Fr.rfl' M) (by omega)⟩
    · rw [e1]; rfl
    · rw [r_good, bvs, e2 _ (fg M _)]; rfl
  · have hpar := D.W.parts
    have h30 := N.n30
    have hb := tb b
    have hcl := c_lawBy N (show p < 5 by omega) b
    have hr : ∀ v, f_X10_lawOf (nI p) (nI b.toNat) (gdM (mset M 0 11 v)) = _ := fun v => r_lawOf (N.fr (fg M v)) (show p < 5 by omega) (s := b.toNat) (.inr ⟨rfl, by omega⟩)
    have hf := Fn1 fp fm ft p (show b.toNat < 2 by omega) n (fun k hk => ⟨(N.p k hk).2.2.2.2.1, (N.p k hk).2.2.2.2.2⟩)
    have l1 := Fc_le fp fm ft p b.toNat 1 n
    rw [← hf.1, ← hf.2] at hcl
    have hd : Ft fp fm ft p b.toNat n * 100 / Fn fp fm p b.toNat n < 2 ^ 31 := dle (by omega)
    have core : ∀ v (K : Int32 → Mm → Option (Int32 × Mm)), (if nI b.toNat = 0 then bd (f_X10_lawOf (nI p) (nI 0) (gdM (mset M 0 11 v))) K else bd (f_X10_lawOf (nI p) (nI 1) (gdM (mset M 0 11 v))) K) = K (Lw (Ft fp fm ft p b.toNat n) (Fn fp fm p b.toNat n)) (gdM (mset M 0 11 v)) := fun v K => by
      have := hr v
      cases b
      · rw [if_pos (by decide)]
        rw [show (nI 0 : Int32) = nI (false : Bool).toNat from rfl, this]; rfl
      · rw [if_neg (by decide)]
        rw [show (nI 1 : Int32) = nI (true : Bool).toNat from rfl, this]; rfl
    rcases Lw_none hd with ⟨w1, w2⟩ | ⟨w1, w2, w3⟩
    · refine ⟨(-1 : Int32), mset M 0 11 (nI 6), mset (gdM (mset M 0 11 (nI 6))) 81 11 (nI 6), ?_, ?_, I0.no (Fr.rfl' M) (by omega)⟩
      · rw [e1, bds, if_neg (by decide), hcl, bds, if_pos w1]; rfl
      · rw [r_good, bvs, e2 _ (fg M _), bds, if_neg (by decide), core, w1, if_neg (by decide)]; rfl
    · refine ⟨(Lw (Ft fp fm ft p b.toNat n) (Fn fp fm p b.toNat n)), mset M 0 11 (nI 0), gdM (mset M 0 11 (nI 0)), ?_, ?_, I0.yes (Fr.rfl' M)⟩
      · rw [e1, bds, if_neg (by decide), hcl, bds, if_neg w3]; rfl
      · rw [r_good, bvs, e2 _ (fg M _), bds, if_neg (by decide), core, if_pos (by rw [w2]; exact nI_pos' hd)]
