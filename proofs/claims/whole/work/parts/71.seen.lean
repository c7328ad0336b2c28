/-! WHAT IS SEEN: about, play, often, led, size, creeper, trouble, fault, where. -/
theorem Inv.same {M M' : Mm} {T : Nat} (h : Inv M T) (F : Fr M M') (h0 : M' 0 11 = M 0 11) (h1 : M' 81 11 = M 81 11) : Inv M' T := h.fr F (.inr ⟨h0, h1⟩)
theorem ft0 (M : Mm) : Fr M (mset M 81 0 (nI 0)) := (Fr.rfl' M).b (.inl rfl) _
theorem op_fault (T : Nat) : Same f_X9_fault f_X10_fault T T := by
  intro M I0
  obtain ⟨g, tl, I, h⟩ := id I0
  refine ⟨M 0 12, M, mset M 81 0 (nI 0), rfl, ?_, I0.same (ft0 M) (by simp (disch := omega) only [ms1, ms1, ms2, ms3]) (by simp (disch := omega) only [ms1, ms1, ms2, ms3])⟩
  unfold f_X10_fault
  rw [ms3 _ _ (by omega), I.lf]
theorem op_trouble (T : Nat) : Same f_X9_trouble f_X10_trouble T T := by
  intro M I0
  obtain ⟨g, tl, I, h⟩ := id I0
  refine ⟨M 0 11, M, mset M 81 0 (nI 0), rfl, ?_, I0.same (ft0 M) (by simp (disch := omega) only [ms1, ms1, ms2, ms3]) (by simp (disch := omega) only [ms1, ms1, ms2, ms3])⟩
  unfold f_X10_trouble
  rw [ms3 _ _ (by omega), I.tr]
theorem op_where (T : Nat) : Same f_X9_where f_X10_where T T := by
  intro M I0
  obtain ⟨g, tl, I, h⟩ := id I0
  unfold f_X9_where f_X10_where
  by_cases c : M 0 11 = nI 4
  · refine ⟨M 0 13, M, mset M 81 0 (nI 0), if_pos c, ?_, I0.same (ft0 M) (by simp (disch := omega) only [ms1, ms1, ms2, ms3]) (by simp (disch := omega) only [ms1, ms1, ms2, ms3])⟩
    rw [ms3 _ _ (by omega), ← I.tr, if_pos c, ms3 _ _ (by omega), I.pl c]
  · refine ⟨-1, M, mset M 81 0 (nI 0), if_neg c, ?_, I0.same (ft0 M) (by simp (disch := omega) only [ms1, ms1, ms2, ms3]) (by simp (disch := omega) only [ms1, ms1, ms2, ms3])⟩
    rw [ms3 _ _ (by omega), ← I.tr, if_neg c]
theorem op_often (x : Int32) (T : Nat) (hT : T < 900000) : Same (f_X9_often x) (f_X10_often x) T T := by
  intro M I0
  obtain ⟨g, tl, I, h⟩ := id I0
  unfold f_X9_often f_X10_often
  rcases t_creeper I h x with ⟨e1, e2⟩ | ⟨G, Q, mk, Qm, c, D, hc, rfl, e1, e2⟩
  · refine ⟨(-1 : Int32), mset M 0 11 (nI 1), mset (gdM (mset M 0 11 (nI 1))) 81 11 (nI 1), ?_, ?_, I0.no (Fr.rfl' M) (by omega)⟩
    · rw [e1]; rfl
    · rw [r_good, bvs, e2 _ (fg M _)]; rfl
  · have hcr := D.W.creepers
    have q1 := D.qw.cnt c hc
    have q2 := D.qw.lk
    have q3 := D.qw.ps
    have k4 : f_X9_at 24 (nI c) M = some (nI (Q.seen c), M) := by
      rw [← D.K.seen c hc]
      exact p_at (p := 20) (k := 4) (.inl rfl) (by omega) (by omega) (by omega)
    have k5 : f_X9_at 25 (nI c) M = some (nI (Q.wrong c), M) := by
      rw [← D.K.wrong c hc]
      exact p_at (p := 20) (k := 5) (.inl rfl) (by omega) (by omega) (by omega)
    by_cases h0 : Q.seen c + Q.wrong c = 0
    · have H2 := (D.fr (fg M (nI 6))).H
      refine ⟨(-1 : Int32), mset M 0 11 (nI 6), mset (gdM (mset M 0 11 (nI 6))) 81 11 (nI 6), ?_, ?_, I0.no (Fr.rfl' M) (by omega)⟩
      · rw [e1, bds, if_neg (by decide), k4, bds, k5, bds, nadd, h0]
        rfl
      · rw [r_good, bvs, e2 _ (fg M _), bds, if_neg (by decide)]
        simp (disch := omega) only [H2.seen c hc, H2.wrong c hc, h0, jns, bds, bvs, lts, gdt, nadd, nmul, nsub, nle, nlt, neq, nz0, nlt0, nle0, n0le, n0lt, nclamp, ndiv, nmod2, gdi, gdn, if_pos, if_neg, if_true, if_false]
        rfl
    · have H2 := (D.fr (fg M (nI 0))).H
      refine ⟨(nI (Q.wrong c * 100 / (Q.seen c + Q.wrong c))), mset M 0 11 (nI 0), gdM (mset M 0 11 (nI 0)), ?_, ?_, I0.yes (Fr.rfl' M)⟩
      · rw [e1, bds, if_neg (by decide), k4, bds, k5, bds, nadd, if_neg (by rw [nz0 (by omega)]; exact h0), k5, bds, nmul, f_by (by omega) (by omega)]
        rfl
      · rw [r_good, bvs, e2 _ (fg M _), bds, if_neg (by decide)]
        have hm : 100 * Q.wrong c = Q.wrong c * 100 := Nat.mul_comm _ _
        simp (disch := omega) only [H2.seen c hc, H2.wrong c hc, hm, jns, bds, bvs, lts, gdt, nadd, nmul, nsub, nle, nlt, neq, nz0, nlt0, nle0, n0le, n0lt, nclamp, ndiv, nmod2, gdi, gdn, if_pos, if_neg, if_true, if_false]
theorem r_w5 {x : Int32} {b : Nat} (hb : b < 2 ^ 31) {M : Mm} (h : ¬ ∃ v, v ≤ b ∧ x = nI v) : f_X10_within x (nI 0) (nI b) M = some (nI 0, M) := by
  rcases r_withinI (M := M) x (show 0 < 2 ^ 31 by decide) hb with ⟨⟨v, h6, h7, h8⟩, -⟩ | ⟨-, h6⟩
  · exact absurd ⟨v, h7, h8⟩ h
  · exact h6
theorem r_w6 {v b : Nat} (hb : b < 2 ^ 31) (h : v ≤ b) (M : Mm) : f_X10_within (nI v) (nI 0) (nI b) M = some (nI 1, M) := by
  rcases r_withinI (M := M) (nI v) (show 0 < 2 ^ 31 by decide) hb with ⟨-, h6⟩ | ⟨h6, -⟩
  · exact h6
  · exact absurd ⟨v, by omega, h, rfl⟩ h6
theorem cls_goes {M : Mm} {g T : Nat} {G : Nat → Nat} {Q : Pl} {mk : Nat} {Qm : Nat → Pl} (D : IG M g G Q mk Qm T) {c : Nat} (hc : c < G 95) (ht : Q.touch < 0) : f_X0_goes g (nI c) (M 20 10) M = some (nI (Gb G Q.part Q.tenth c).toNat, M) := by
  rw [D.K.said]
  exact c_goes D.C D.W hc D.qw.part (D.qw.on D.W ht).1.1
theorem op_about (x y : Int32) (T : Nat) : Same (f_X9_about x y) (f_X10_about x y) T T := by
  intro M I0
  obtain ⟨g, tl, I, h⟩ := id I0
  unfold f_X9_about f_X10_about
  simp only [jns]
  rcases t_creeper I h x with ⟨e1, e2⟩ | ⟨G, Q, mk, Qm, c, D, hc, rfl, e1, e2⟩
  · refine ⟨(-1 : Int32), mset M 0 11 (nI 1), mset (gdM (mset M 0 11 (nI 1))) 81 11 (nI 1), ?_, ?_, I0.no (Fr.rfl' M) (by omega)⟩
    · rw [e1]; rfl
    · rw [r_good, bvs, e2 _ (fg M _)]; rfl
  · have hcr := D.W.creepers
    have D2 := D.fr (fg M (nI 0))
    have ka : ∀ k, 1 ≤ k → k ≤ 9 → f_X9_at (20 + k) (nI c) M = some (M (20 + k) c, M) := fun k h1 h2 => p_at (p := 20) (k := k) (.inl rfl) h1 h2 (by omega)
    by_cases hy : ∃ v, v ≤ 5 ∧ y = nI v
    · obtain ⟨v, hv, rfl⟩ := hy
      have hv6 : v = 0 ∨ v = 1 ∨ v = 2 ∨ v = 3 ∨ v = 4 ∨ v = 5 := by omega
      rcases hv6 with rfl | rfl | rfl | rfl | rfl | rfl
      · refine ⟨(nI (Q.at_ c)), mset M 0 11 (nI 0), gdM (mset M 0 11 (nI 0)), ?_, ?_, I0.yes (Fr.rfl' M)⟩
        · rw [e1, bds, if_neg (by decide), if_pos (by decide), ka 1 (by omega) (by omega), bds, D.K.at_ c hc]; rfl
        · rw [r_good, bvs, e2 _ (fg M _), bds, if_neg (by decide), r_w6 (by omega) (by omega), bds, if_neg (by decide), if_pos (by decide)]
          simp (disch := omega) only [D2.H.at_ c hc, jns, bds, bvs, lts, gdt, nadd, nmul, nsub, nle, nlt, neq, nz0, nlt0, nle0, n0le, n0lt, nclamp, ndiv, nmod2, gdi, gdn, if_pos, if_neg, if_true, if_false]
      · refine ⟨(nI (Q.into c)), mset M 0 11 (nI 0), gdM (mset M 0 11 (nI 0)), ?_, ?_, I0.yes (Fr.rfl' M)⟩
        · rw [e1, bds, if_neg (by decide), if_neg (by decide), if_pos (by decide), ka 2 (by omega) (by omega), bds, D.K.into c hc]; rfl
        · rw [r_good, bvs, e2 _ (fg M _), bds, if_neg (by decide), r_w6 (by omega) (by omega), bds, if_neg (by decide), if_neg (by decide), if_pos (by decide)]
          simp (disch := omega) only [D2.H.into c hc, jns, bds, bvs, lts, gdt, nadd, nmul, nsub, nle, nlt, neq, nz0, nlt0, nle0, n0le, n0lt, nclamp, ndiv, nmod2, gdi, gdn, if_pos, if_neg, if_true, if_false]
      · refine ⟨(Q.how c), mset M 0 11 (nI 0), gdM (mset M 0 11 (nI 0)), ?_, ?_, I0.yes (Fr.rfl' M)⟩
        · rw [e1, bds, if_neg (by decide), if_neg (by decide), if_neg (by decide), if_pos (by decide), ka 3 (by omega) (by omega), bds, D.K.how c hc]; rfl
        · rw [r_good, bvs, e2 _ (fg M _), bds, if_neg (by decide), r_w6 (by omega) (by omega), bds, if_neg (by decide), if_neg (by decide), if_neg (by decide), if_pos (by decide)]
          simp (disch := omega) only [D2.H.how c hc, jns, bds, bvs, lts, gdt, nadd, nmul, nsub, nle, nlt, neq, nz0, nlt0, nle0, n0le, n0lt, nclamp, ndiv, nmod2, gdi, gdn, if_pos, if_neg, if_true, if_false]
      · refine ⟨(nI (Q.seen c)), mset M 0 11 (nI 0), gdM (mset M 0 11 (nI 0)), ?_, ?_, I0.yes (Fr.rfl' M)⟩
        · rw [e1, bds, if_neg (by decide), if_neg (by decide), if_neg (by decide), if_neg (by decide), if_pos (by decide), ka 4 (by omega) (by omega), bds, D.K.seen c hc]; rfl
        · rw [r_good, bvs, e2 _ (fg M _), bds, if_neg (by decide), r_w6 (by omega) (by omega), bds, if_neg (by decide), if_neg (by decide), if_neg (by decide), if_neg (by decide), if_pos (by decide)]
          simp (disch := omega) only [D2.H.seen c hc, jns, bds, bvs, lts, gdt, nadd, nmul, nsub, nle, nlt, neq, nz0, nlt0, nle0, n0le, n0lt, nclamp, ndiv, nmod2, gdi, gdn, if_pos, if_neg, if_true, if_false]
      · refine ⟨(nI (Q.wrong c)), mset M 0 11 (nI 0), gdM (mset M 0 11 (nI 0)), ?_, ?_, I0.yes (Fr.rfl' M)⟩
        · rw [e1, bds, if_neg (by decide), if_neg (by decide), if_neg (by decide), if_neg (by decide), if_neg (by decide), if_pos (by decide), ka 5 (by omega) (by omega), bds, D.K.wrong c hc]; rfl
        · rw [r_good, bvs, e2 _ (fg M _), bds, if_neg (by decide), r_w6 (by omega) (by omega), bds, if_neg (by decide), if_neg (by decide), if_neg (by decide), if_neg (by decide), if_neg (by decide), if_pos (by decide)]
          simp (disch := omega) only [D2.H.wrong c hc, jns, bds, bvs, lts, gdt, nadd, nmul, nsub, nle, nlt, neq, nz0, nlt0, nle0, n0le, n0lt, nclamp, ndiv, nmod2, gdi, gdn, if_pos, if_neg, if_true, if_false]
      · rcases t_over D with ⟨ht, o1, o2⟩ | ⟨ht, o1, o2⟩
        · have k1 := cls_goes D hc ht
          have k2 := r_goesNow D2.R D.W hc D.qw.part (show Q.tenth < 10000 by have h1 := (D.qw.on D.W ht).1.1; have h2 := Tn_le D.W D.qw.part; omega) D2.H.part D2.H.tenth
          cases hb : Gb G Q.part Q.tenth c
          · rw [hb] at k1 k2
            refine ⟨(nI 0), mset M 0 11 (nI 0), gdM (mset M 0 11 (nI 0)), ?_, ?_, I0.yes (Fr.rfl' M)⟩
            · rw [e1, bds, if_neg (by decide), if_neg (by decide), if_neg (by decide), if_neg (by decide), if_neg (by decide), if_neg (by decide), if_pos (by decide), o1, bds, if_pos (by decide), I.h8, bgv I.gg, k1]; rfl
            · rw [r_good, bvs, e2 _ (fg M _), bds, if_neg (by decide), r_w6 (by omega) (by omega), bds, if_neg (by decide), if_neg (by decide), if_neg (by decide), if_neg (by decide), if_neg (by decide), if_neg (by decide), if_pos (show gdM (mset M 0 11 (nI 0)) 86 8 = (0 : Int32) from o2 _ (fg M _)), k2]; rfl
          · rw [hb] at k1 k2
            refine ⟨(nI 1), mset M 0 11 (nI 0), gdM (mset M 0 11 (nI 0)), ?_, ?_, I0.yes (Fr.rfl' M)⟩
            · rw [e1, bds, if_neg (by decide), if_neg (by decide), if_neg (by decide), if_neg (by decide), if_neg (by decide), if_neg (by decide), if_pos (by decide), o1, bds, if_pos (by decide), I.h8, bgv I.gg, k1]; rfl
            · rw [r_good, bvs, e2 _ (fg M _), bds, if_neg (by decide), r_w6 (by omega) (by omega), bds, if_neg (by decide), if_neg (by decide), if_neg (by decide), if_neg (by decide), if_neg (by decide), if_neg (by decide), if_pos (show gdM (mset M 0 11 (nI 0)) 86 8 = (0 : Int32) from o2 _ (fg M _)), k2]; rfl
        · refine ⟨(nI 0), mset M 0 11 (nI 0), gdM (mset M 0 11 (nI 0)), ?_, ?_, I0.yes (Fr.rfl' M)⟩
          · rw [e1, bds, if_neg (by decide), if_neg (by decide), if_neg (by decide), if_neg (by decide), if_neg (by decide), if_neg (by decide), if_pos (by decide), o1]; rfl
          · rw [r_good, bvs, e2 _ (fg M _), bds, if_neg (by decide), r_w6 (by omega) (by omega), bds, if_neg (by decide), if_neg (by decide), if_neg (by decide), if_neg (by decide), if_neg (by decide), if_neg (by decide), o2 _ (fg M _)]; rfl
    · have hn : ∀ k, k ≤ 5 → y ≠ nI k := fun k hk z => hy ⟨k, hk, z⟩
      refine ⟨(-1 : Int32), mset M 0 11 (nI 1), mset (gdM (mset M 0 11 (nI 1))) 81 11 (nI 1), ?_, ?_, I0.no (Fr.rfl' M) (by omega)⟩
      · rw [e1, bds, if_neg (by decide), if_neg (hn 0 (by omega)), if_neg (hn 1 (by omega)), if_neg (hn 2 (by omega)), if_neg (hn 3 (by omega)), if_neg (hn 4 (by omega)), if_neg (hn 5 (by omega))]
        rfl
      · rw [r_good, bvs, e2 _ (fg M _), bds, if_neg (by decide), r_w5 (by omega) hy]
        rfl
/-! the syllable that is said -/
/-- from the syllable i on, l tenths in: the syllable and what is left, in k steps at most -/
def Sy (G : Nat → Nat) (p : Nat) : Nat → Nat → Nat → Nat × Nat
  | 0, l, i => (i, l)
  | k + 1, l, i => if i + 1 < G (11 + p) ∧ G (16 + 4 * p + i) ≤ l then Sy G p k (l - G (16 + 4 * p + i)) (i + 1) else (i, l)
theorem Sy_sum (G : Nat → Nat) (p : Nat) : ∀ k l i, (Sy G p k l i).2 + Sm (fun k => G (16 + 4 * p + k)) (Sy G p k l i).1 = l + Sm (fun k => G (16 + 4 * p + k)) i ∧ i ≤ (Sy G p k l i).1 ∧ (Sy G p k l i).2 ≤ l ∧ (i < G (11 + p) → (Sy G p k l i).1 < G (11 + p))
  | 0, l, i => ⟨rfl, Nat.le_refl _, Nat.le_refl _, fun h => h⟩
  | k + 1, l, i => by
    rw [Sy]
    split
    · rename_i h
      obtain ⟨h1, h2, h3, h4⟩ := Sy_sum G p k (l - G (16 + 4 * p + i)) (i + 1)
      refine ⟨?_, by omega, by omega, fun _ => h4 h.1⟩
      rw [h1, Sm]
      omega
    · exact ⟨rfl, Nat.le_refl _, Nat.le_refl _, fun h => h⟩
theorem c_syll {M : Mm} {G : Nat → Nat} {g : Nat} (C : CG M g G) (W : GW G) {p i : Nat} (hp : p < G 92) (hi : i < G (11 + p)) : f_X0_syllable g (nI p) (nI i) M = some (nI (G (16 + 4 * p + i)), M) := by
  have h1 := W.syl p hp
  have h2 := W.parts
  have h3 := C.syl p hp i hi
  have e : p * 4 + i = 4 * p + i := by omega
  unfold f_X0_syllable
  rw [nmul, nadd, f_at (ly3 C) (by decide) (show p * 4 + i < 20 by omega), e, h3]
  rfl
theorem c_syllLoop {M : Mm} {G : Nat → Nat} {g : Nat} (C : CG M g G) (W : GW G) {p : Nat} (hp : p < G 92) : ∀ k l i f, G (11 + p) ≤ i + k + 1 → i < G (11 + p) → l < 10000 → k < f → lp_X3_syllableSaid_34 g (nI p) (nI (G (11 + p) - 1)) f (nI l) (nI i) M = some (nI (Sy G p k l i).1, M) := by
  have h1 := W.syl p hp
  intro k
  induction k with
  | zero =>
    intro l i f hk hi hl hf
    obtain ⟨f, rfl⟩ : ∃ g, f = g + 1 := ⟨f - 1, by omega⟩
    rw [lp_X3_syllableSaid_34, if_pos (by rw [nle (by omega) (by omega)]; omega)]
    rfl
  | succ k ih =>
    intro l i f hk hi hl hf
    obtain ⟨f, rfl⟩ : ∃ g, f = g + 1 := ⟨f - 1, by omega⟩
    have h2 := W.ten p hp i hi
    rw [lp_X3_syllableSaid_34, Sy]
    by_cases c : i + 1 < G (11 + p)
    · rw [if_neg (by rw [nle (by omega) (by omega)]; omega), c_syll C W hp hi, bds]
      by_cases c2 : G (16 + 4 * p + i) ≤ l
      · rw [if_neg (by rw [nlt (by omega) (by omega)]; omega), c_syll C W hp hi, bds, nsub c2, nadd, if_pos (show i + 1 < G (11 + p) ∧ G (16 + 4 * p + i) ≤ l from ⟨c, c2⟩)]
        exact ih _ _ _ (by omega) c (by omega) (by omega)
      · rw [if_pos (by rw [nlt (by omega) (by omega)]; omega), if_neg (fun z => c2 z.2)]
    · rw [if_pos (by rw [nle (by omega) (by omega)]; omega), if_neg (fun z => c z.1)]
theorem r_saidLoop {M : Mm} {G : Nat → Nat} (R : RG M G) (W : GW G) {p : Nat} (hp : p < G 92) {y1 : Int32} (kk : Int32 → Int32 → Mm → Option (Int32 × Mm)) : ∀ k l i f, G (11 + p) ≤ i + k + 1 → i < G (11 + p) → l < 10000 → k < f → lp_X10_said_17 y1 (nI p) kk f (nI l) (nI i) M = kk (nI (Sy G p k l i).2) (nI (Sy G p k l i).1) M := by
  have h1 := W.syl p hp
  have h3 := W.parts
  intro k
  induction k with
  | zero =>
    intro l i f hk hi hl hf
    obtain ⟨f, rfl⟩ : ∃ g, f = g + 1 := ⟨f - 1, by omega⟩
    have h2 := W.ten p hp i hi
    rw [lp_X10_said_17]
    by_cases c2 : l < G (16 + 4 * p + i)
    · simp (disch := omega) only [R _, jns, bds, bvs, lts, gdt, nadd, nmul, nsub, nle, nlt, neq, nz0, nlt0, nle0, n0le, n0lt, nclamp, ndiv, nmod2, gdi, gdn, if_pos, if_neg, if_true, if_false]
      rfl
    · simp (disch := omega) only [R _, jns, bds, bvs, lts, gdt, nadd, nmul, nsub, nle, nlt, neq, nz0, nlt0, nle0, n0le, n0lt, nclamp, ndiv, nmod2, gdi, gdn, if_pos, if_neg, if_true, if_false]
      rfl
  | succ k ih =>
    intro l i f hk hi hl hf
    obtain ⟨f, rfl⟩ : ∃ g, f = g + 1 := ⟨f - 1, by omega⟩
    have h2 := W.ten p hp i hi
    rw [lp_X10_said_17, Sy]
    by_cases c2 : l < G (16 + 4 * p + i)
    · rw [if_neg (show ¬ (i + 1 < G (11 + p) ∧ G (16 + 4 * p + i) ≤ l) from fun z => by have := z.2; omega)]
      simp (disch := omega) only [R _, jns, bds, bvs, lts, gdt, nadd, nmul, nsub, nle, nlt, neq, nz0, nlt0, nle0, n0le, n0lt, nclamp, ndiv, nmod2, gdi, gdn, if_pos, if_neg, if_true, if_false]
    · by_cases c : i + 1 < G (11 + p)
      · rw [if_pos (show i + 1 < G (11 + p) ∧ G (16 + 4 * p + i) ≤ l from ⟨c, by omega⟩)]
        have := ih (l - G (16 + 4 * p + i)) (i + 1) f (by omega) c (by omega) (by omega)
        simp (disch := omega) only [R _, jns, bds, bvs, lts, gdt, nadd, nmul, nsub, nle, nlt, neq, nz0, nlt0, nle0, n0le, n0lt, nclamp, ndiv, nmod2, gdi, gdn, if_pos, if_neg, if_true, if_false]
        exact this
      · rw [if_neg (show ¬ (i + 1 < G (11 + p) ∧ G (16 + 4 * p + i) ≤ l) from fun z => c z.1)]
        simp (disch := omega) only [R _, jns, bds, bvs, lts, gdt, nadd, nmul, nsub, nle, nlt, neq, nz0, nlt0, nle0, n0le, n0lt, nclamp, ndiv, nmod2, gdi, gdn, if_pos, if_neg, if_true, if_false]
theorem r_said {M : Mm} {G : Nat → Nat} {Q : Pl} (R : RG M G) (W : GW G) (H : RP M G Q) (hp : Q.part < G 92) (ht : Q.tenth ≤ Tn G Q.part) (x : Int32) : f_X10_said x M = if x = nI 1 then some (nI (Sy G Q.part 4 Q.tenth 0).1, M) else some (nI (Sy G Q.part 4 Q.tenth 0).2, M) := by
  have h1 := W.syl _ hp
  have h2 := Tn_le W hp
  unfold f_X10_said
  rw [H.part, H.tenth]
  exact r_saidLoop R W hp _ 4 Q.tenth 0 N0 (by omega) (by omega) (by omega) (by unfold N0; omega)
/-- the play's state: on, or over -/
theorem QW.ten {G : Nat → Nat} {Q : Pl} {T : Nat} (W : GW G) (h : QW G Q T) : Q.tenth ≤ Tn G Q.part ∧ (Q.touch < 0 → Q.tenth < Tn G Q.part) ∧ (¬ Q.touch < 0 → 1 ≤ Q.tenth) := by
  have hcr := W.creepers
  rcases h.st with ⟨h1, h2, -⟩ | ⟨k, hk, h1, h2, h3, -⟩
  · exact ⟨by omega, fun _ => h2, fun z => absurd (by rw [h1]; decide) z⟩
  · exact ⟨h3, fun z => by rw [h1, nlt0 (by omega)] at z; exact z.elim, fun _ => h2⟩
theorem c_partSaid {M : Mm} {g T : Nat} {G : Nat → Nat} {Q : Pl} {mk : Nat} {Qm : Nat → Pl} (D : IG M g G Q mk Qm T) : f_X3_partSaid 20 g M = some (nI Q.part, M) := by
  have hp := D.qw.part
  have hT := Tn_le D.W hp
  have hE := En_le D.W (show Q.part ≤ G 92 by omega)
  have hpp := D.W.parts
  have ht := (D.qw.ten D.W)
  unfold f_X3_partSaid
  simp only [jns]
  rcases t_over D with ⟨t, o1, -⟩ | ⟨t, o1, -⟩
  · have h2 := ht.2.1 t
    rw [o1, bds, if_pos (by decide), D.K.said, c_partOf D.C D.W hp (show En G Q.part ≤ En G Q.part + Q.tenth by omega) (.inr (by rw [En_succ]; omega)) (by omega)]
    rfl
  · have h2 := ht.2.2 t
    rw [o1, bds, if_neg (by decide), D.K.said, nsub (by omega), c_partOf D.C D.W hp (show En G Q.part ≤ En G Q.part + Q.tenth - 1 by omega) (.inr (by rw [En_succ]; omega)) (by omega)]
    rfl
theorem c_syllableSaid {M : Mm} {g T : Nat} {G : Nat → Nat} {Q : Pl} {mk : Nat} {Qm : Nat → Pl} (D : IG M g G Q mk Qm T) : f_X3_syllableSaid 20 g M = some (nI (Sy G Q.part 4 Q.tenth 0).1, M) := by
  have hp := D.qw.part
  have h1 := D.W.syl _ hp
  have hT := Tn_le D.W hp
  have hE := En_le D.W (show Q.part ≤ G 92 by omega)
  have hpp := D.W.parts
  have ht := (D.qw.ten D.W).1
  have k2 : f_X9_at (g + 2) (nI Q.part) M = some (nI (G (11 + Q.part)), M) := by
    rw [← D.C.syc _ hp]
    exact f_at (ly2 D.C) (by decide) (by omega)
  unfold f_X3_syllableSaid
  rw [c_partSaid D, bds, k2, bds, c_endOfS D.C D.W (by omega), bds, lts, D.K.said, nsub (show En G Q.part ≤ En G Q.part + Q.tenth by omega), Nat.add_sub_cancel_left, nsub (by omega)]
  exact c_syllLoop D.C D.W hp 4 Q.tenth 0 N0 (by omega) (by omega) (by omega) (by unfold N0; omega)
theorem c_tenthsOfSyllable {M : Mm} {g T : Nat} {G : Nat → Nat} {Q : Pl} {mk : Nat} {Qm : Nat → Pl} (D : IG M g G Q mk Qm T) : f_X3_tenthsOfSyllable 20 g M = some (nI (Sy G Q.part 4 Q.tenth 0).2, M) := by
  have hp := D.qw.part
  have h1 := D.W.syl _ hp
  have hT := Tn_le D.W hp
  have hE := En_le D.W (show Q.part ≤ G 92 by omega)
  have hpp := D.W.parts
  have ht := (D.qw.ten D.W).1
  obtain ⟨s1, -, s3, s4⟩ := Sy_sum G Q.part 4 Q.tenth 0
  have s4 := s4 (by omega)
  simp only [Sm, Nat.add_zero] at s1
  unfold f_X3_tenthsOfSyllable
  rw [c_partSaid D, bds, c_endOfS D.C D.W (by omega), bds, c_syllableSaid D, bds, D.K.said, nsub (show En G Q.part ≤ En G Q.part + Q.tenth by omega), Nat.add_sub_cancel_left]
  generalize (Sy G Q.part 4 Q.tenth 0).1 = b at s1 s4 ⊢
  generalize (Sy G Q.part 4 Q.tenth 0).2 = l at s1 s3 ⊢
  have e : l = Q.tenth - Sm (fun k => G (16 + 4 * Q.part + k)) b := by omega
  rw [e]
  refine Eq.trans ?_ (lp0 (fun f i => lp_X3_tenthsOfSyllable_29 g (nI Q.part) (nI b) f (nI (Q.tenth - Sm (fun k => G (16 + 4 * Q.part + k)) i)) (nI i) M) b (by omega) (fun f i hi => ?_) (fun f => ?_))
  · rfl
  · have m1 : Sm (fun k => G (16 + 4 * Q.part + k)) (i + 1) ≤ Sm (fun k => G (16 + 4 * Q.part + k)) b := Sm_mono (by omega)
    rw [Sm] at m1
    rw [lp_X3_tenthsOfSyllable_29, if_neg (by rw [nle (by omega) (by omega)]; omega), c_syll D.C D.W hp (show i < G (11 + Q.part) by omega), bds, nsub (by omega), nadd, Sm]
    congr 2
    omega
  · rw [lp_X3_tenthsOfSyllable_29, if_pos (Int32.le_refl _)]
theorem c_caughtBits {M : Mm} {g T : Nat} {G : Nat → Nat} {Q : Pl} {mk : Nat} {Qm : Nat → Pl} (D : IG M g G Q mk Qm T) : f_X3_caughtBits 20 g M = some (nI (if Q.touch < 0 then 0 else Cb G Q.at_ Q.touch (G 95)), M) := by
  have hcr := D.W.creepers
  have hlo := D.W.long
  have hat : ∀ c, c < G 95 → Q.at_ c ≤ 40 := fun c hc => by
    rcases D.qw.st with ⟨_, _, z⟩ | ⟨_, _, _, _, _, z⟩
    · have := z c hc; omega
    · have := z c hc; omega
  unfold f_X3_caughtBits
  rcases t_over D with ⟨t, o1, -⟩ | ⟨t, o1, -⟩
  · rw [if_pos t]
    refine lp0 (fun f i => lp_X3_caughtBits_4 20 g f (nI 0) (nI i) M) (G 95) (by omega) (fun f i hi => ?_) (fun f => ?_)
    · rw [lp_X3_caughtBits_4, D.C.f14, if_neg (by rw [nle (by omega) (by omega)]; omega), o1, bds]
      simp only [jns]
      rw [if_pos (by decide), nadd]
    · rw [lp_X3_caughtBits_4, D.C.f14, if_pos (Int32.le_refl _)]
  · rw [if_neg t]
    refine lp0 (fun f i => lp_X3_caughtBits_4 20 g f (nI (Cb G Q.at_ Q.touch i)) (nI i) M) (G 95) (by omega) (fun f i hi => ?_) (fun f => ?_)
    · have hb := Cb_lt (G := G) (at_ := Q.at_) (touch := Q.touch) i
      have hp : 2 ^ i ≤ 32 := pow5 (by omega)
      have k1 : f_X9_at (20 + 1) (nI i) M = some (nI (Q.at_ i), M) := by
        rw [← D.K.at_ i hi]
        exact p_at (p := 20) (k := 1) (.inl rfl) (by omega) (by omega) (by omega)
      rw [lp_X3_caughtBits_4, D.C.f14, if_neg (by rw [nle (by omega) (by omega)]; omega), o1, bds, Cb, D.K.touch]
      simp only [jns]
      rw [if_neg (by decide)]
      by_cases c1 : nI i = Q.touch
      · rw [if_pos c1, if_pos c1, nadd]
      · rw [if_neg c1, if_neg c1, k1, bds, c_isCaught D.C D.W hi (hat i hi), bds]
        cases c2 : Ct G i (Q.at_ i)
        · rw [if_pos (by decide), nadd]; rfl
        · rw [if_neg (by decide), lts, orI _ (by omega) _ (by omega) hb, nadd]; rfl
    · rw [lp_X3_caughtBits_4, D.C.f14, if_pos (Int32.le_refl _)]
theorem op_play (y : Int32) (T : Nat) : Same (f_X9_play y) (f_X10_play y) T T := by
  intro M I0
  obtain ⟨g, tl, I, h⟩ := id I0
  unfold f_X9_play f_X10_play
  simp only [jns]
  rcases t_game I h with ⟨e1, e2⟩ | ⟨G, Q, mk, Qm, D, e1, e2⟩
  · refine ⟨(-1 : Int32), mset M 0 11 (nI 1), mset (gdM (mset M 0 11 (nI 1))) 81 11 (nI 1), ?_, ?_, I0.no (Fr.rfl' M) (by omega)⟩
    · rw [e1]; rfl
    · rw [r_good, bvs, if_pos (e2 _ (fg M _))]; rfl
  · have D2 := D.fr (fg M (nI 0))
    have hgm : ∀ v, ¬ gdM (mset M 0 11 v) 81 14 = 0 := fun v => by rw [e2 _ (fg M v)]; decide
    have hsd := fun x => r_said D2.R D.W D2.H D.qw.part (D.qw.ten D.W).1 x
    by_cases hy : ∃ v, v ≤ 7 ∧ y = nI v
    · obtain ⟨v, hv, rfl⟩ := hy
      have hv6 : v = 0 ∨ v = 1 ∨ v = 2 ∨ v = 3 ∨ v = 4 ∨ v = 5 ∨ v = 6 ∨ v = 7 := by omega
      rcases hv6 with rfl | rfl | rfl | rfl | rfl | rfl | rfl | rfl
      · refine ⟨(nI Q.part), mset M 0 11 (nI 0), gdM (mset M 0 11 (nI 0)), ?_, ?_, I0.yes (Fr.rfl' M)⟩
        · rw [e1, bds, if_neg (by decide), if_pos (by decide), I.h8, bgv I.gg, c_partSaid D]; rfl
        · rw [r_good, bvs, if_neg (hgm _), r_w6 (by omega) (by omega), bds, if_neg (by decide), if_pos (by decide), D2.H.part]
      · refine ⟨(nI (Sy G Q.part 4 Q.tenth 0).1), mset M 0 11 (nI 0), gdM (mset M 0 11 (nI 0)), ?_, ?_, I0.yes (Fr.rfl' M)⟩
        · rw [e1, bds, if_neg (by decide), if_neg (by decide), if_pos (by decide), I.h8, bgv I.gg, c_syllableSaid D]; rfl
        · rw [r_good, bvs, if_neg (hgm _), r_w6 (by omega) (by omega), bds, if_neg (by decide), if_neg (by decide), if_pos (by decide), hsd, if_pos rfl]; rfl
      · refine ⟨(nI (Sy G Q.part 4 Q.tenth 0).2), mset M 0 11 (nI 0), gdM (mset M 0 11 (nI 0)), ?_, ?_, I0.yes (Fr.rfl' M)⟩
        · rw [e1, bds, if_neg (by decide), if_neg (by decide), if_neg (by decide), if_pos (by decide), I.h8, bgv I.gg, c_tenthsOfSyllable D]; rfl
        · rw [r_good, bvs, if_neg (hgm _), r_w6 (by omega) (by omega), bds, if_neg (by decide), if_neg (by decide), if_neg (by decide), if_pos (by decide), hsd, if_neg (by decide)]; rfl
      · refine ⟨(nI Q.loud), mset M 0 11 (nI 0), gdM (mset M 0 11 (nI 0)), ?_, ?_, I0.yes (Fr.rfl' M)⟩
        · rw [e1, bds, if_neg (by decide), if_neg (by decide), if_neg (by decide), if_neg (by decide), if_pos (by decide), D.K.loud]; rfl
        · rw [r_good, bvs, if_neg (hgm _), r_w6 (by omega) (by omega), bds, if_neg (by decide), if_neg (by decide), if_neg (by decide), if_neg (by decide), if_pos (by decide), D2.H.loud]
      · refine ⟨(nI Q.looked), mset M 0 11 (nI 0), gdM (mset M 0 11 (nI 0)), ?_, ?_, I0.yes (Fr.rfl' M)⟩
        · rw [e1, bds, if_neg (by decide), if_neg (by decide), if_neg (by decide), if_neg (by decide), if_neg (by decide), if_pos (by decide), D.K.looked]; rfl
        · rw [r_good, bvs, if_neg (hgm _), r_w6 (by omega) (by omega), bds, if_neg (by decide), if_neg (by decide), if_neg (by decide), if_neg (by decide), if_neg (by decide), if_pos (by decide), D2.H.looked]
      · refine ⟨(nI Q.passed), mset M 0 11 (nI 0), gdM (mset M 0 11 (nI 0)), ?_, ?_, I0.yes (Fr.rfl' M)⟩
        · rw [e1, bds, if_neg (by decide), if_neg (by decide), if_neg (by decide), if_neg (by decide), if_neg (by decide), if_neg (by decide), if_pos (by decide), D.K.passed]; rfl
        · rw [r_good, bvs, if_neg (hgm _), r_w6 (by omega) (by omega), bds, if_neg (by decide), if_neg (by decide), if_neg (by decide), if_neg (by decide), if_neg (by decide), if_neg (by decide), if_pos (by decide), D2.H.passed]
      · refine ⟨Q.touch, mset M 0 11 (nI 0), gdM (mset M 0 11 (nI 0)), ?_, ?_, I0.yes (Fr.rfl' M)⟩
        · rw [e1, bds, if_neg (by decide), if_neg (by decide), if_neg (by decide), if_neg (by decide), if_neg (by decide), if_neg (by decide), if_neg (by decide), if_pos (by decide), D.K.touch]; rfl
        · rw [r_good, bvs, if_neg (hgm _), r_w6 (by omega) (by omega), bds, if_neg (by decide), if_neg (by decide), if_neg (by decide), if_neg (by decide), if_neg (by decide), if_neg (by decide), if_neg (by decide), if_pos (by decide), D2.H.touch]
      · refine ⟨(nI (if Q.touch < 0 then 0 else Cb G Q.at_ Q.touch (G 95))), mset M 0 11 (nI 0), gdM (mset M 0 11 (nI 0)), ?_, ?_, I0.yes (Fr.rfl' M)⟩
        · rw [e1, bds, if_neg (by decide), if_neg (by decide), if_neg (by decide), if_neg (by decide), if_neg (by decide), if_neg (by decide), if_neg (by decide), if_neg (by decide), if_pos (by decide), I.h8, bgv I.gg, c_caughtBits D]; rfl
        · rw [r_good, bvs, if_neg (hgm _), r_w6 (by omega) (by omega), bds, if_neg (by decide), if_neg (by decide), if_neg (by decide), if_neg (by decide), if_neg (by decide), if_neg (by decide), if_neg (by decide), if_neg (by decide), D2.H.caught]
    · have hn : ∀ k, k ≤ 7 → y ≠ nI k := fun k hk z => hy ⟨k, hk, z⟩
      refine ⟨(-1 : Int32), mset M 0 11 (nI 1), mset (gdM (mset M 0 11 (nI 1))) 81 11 (nI 1), ?_, ?_, I0.no (Fr.rfl' M) (by omega)⟩
      · rw [e1, bds, if_neg (by decide), if_neg (hn 0 (by omega)), if_neg (hn 1 (by omega)), if_neg (hn 2 (by omega)), if_neg (hn 3 (by omega)), if_neg (hn 4 (by omega)), if_neg (hn 5 (by omega)), if_neg (hn 6 (by omega)), if_neg (hn 7 (by omega))]
        rfl
      · rw [r_good, bvs, if_neg (hgm _), r_w5 (by omega) hy]
        rfl
