/-! LED, SIZE, CREEPER. -/
theorem at_all {G : Nat → Nat} {Q : Pl} {T : Nat} (W : GW G) (h : QW G Q T) : ∀ c, c < G 95 → Q.at_ c < 100 := fun c hc => by
  have hlo := W.long
  rcases h.st with ⟨_, _, z⟩ | ⟨_, _, _, _, _, z⟩
  · have := z c hc; omega
  · have := z c hc; omega
theorem Ah_lt' (at_ : Nat → Nat) {n k : Nat} (hk : k < n) : Ah at_ n k < n := by
  have h : Ah at_ n k < Sm (fun _ => 1) n := Sm_lt (i := k) (fun j _ => tb _) hk (by show (bf at_ k k).toNat < 1; rw [bf_irr]; decide)
  have h2 := Sm_le (f := fun _ => 1) (b := 1) (n := n) (fun _ _ => Nat.le_refl _)
  omega
theorem op_led (x : Int32) (T : Nat) : ∀ M, Inv M T → ∃ k M1 b M2, f_L_led x M = some (k, M1) ∧ f_X10_led x M1 = some (b, M2) ∧ M2 81 0 = k ∧ (k = 0 → M2 96 0 = b) ∧ Inv M2 T := by
  intro M I0
  obtain ⟨g, tl, I, h⟩ := id I0
  have no : ∀ {M' : Mm}, (M' = mset M 81 0 (nI 1)) → Inv M' T := fun h => by
    subst h
    exact I0.same ((Fr.rfl' M).b (.inl rfl) _) (by simp (disch := omega) only [ms1, ms1, ms2, ms3]) (by simp (disch := omega) only [ms1, ms1, ms2, ms3])
  unfold f_L_led f_X10_led
  rcases h with N | ⟨G, Q, mk, Qm, D⟩
  · refine ⟨1, M, nI 0, mset M 81 0 (nI 1), ?_, ?_, ms1 _ _ _ _, fun z => absurd z (by decide), no rfl⟩
    · rw [I.h8, bgv I.gg, N.z 14 (by omega) (by omega)]
      by_cases c : x < 0
      · rw [if_pos c]
      · rw [if_neg c, if_neg (show ¬ x < nI 0 from c)]
    · rw [show N0 = 999999 + 1 from rfl, lp_X10_led_2, N.hg, if_pos (show nI 0 = 0 from rfl)]
  · have hcr := D.W.creepers
    have ha := at_all D.W D.qw
    by_cases hx : ∃ i, i < G 95 ∧ x = nI i
    · obtain ⟨i, hi, rfl⟩ := hx
      obtain ⟨M1, a1, f1, o1⟩ := c_orderAll D.C D.W (show PC 20 from .inl rfl) (fun c hc => ⟨D.K.at_ c hc, ha c hc⟩)
      have F1 : Fr M (mset M1 96 0 (nI (oC Q.at_ (G 95) i))) := (Fr.rfl' M).x (fun b hb => by rw [mset_off _ _ _ (by omega), f1 b (by omega)])
      have D1 := D.fr F1
      obtain ⟨M2, hM2⟩ : ∃ M2, M2 = mset M1 96 0 (nI (oC Q.at_ (G 95) i)) := ⟨_, rfl⟩
      rw [← hM2] at D1 F1
      obtain ⟨h3, h4⟩ := Ord_oC Q.at_ (G 95) i hi
      have k1 : f_X9_led (nI i) M = some (nI (oC Q.at_ (G 95) i), M1) := by
        unfold f_X9_led
        simp only [jns]
        rw [if_neg (by rw [nlt0 (by omega)]; exact id), I.h8, bgv I.gg, D.C.f14, if_pos (by rw [nlt (by omega) (by omega)]; exact hi), bgv I.gg, a1, bvs]
        have : f_X9_at 29 (nI i) M1 = some (M1 (20 + 9) i, M1) := p_at (p := 20) (k := 9) (.inl rfl) (by omega) (by omega) (by omega)
        rw [this, o1 i hi]
        rfl
      refine ⟨0, M2, nI (oC Q.at_ (G 95) i), mset M2 81 0 (nI 0), ?_, ?_, ms1 _ _ _ _, fun _ => ?_, ?_⟩
      · rw [if_neg (by rw [nlt0 (by omega)]; exact id), I.h8, bgv I.gg, D.C.f14, if_pos (by rw [nlt (by omega) (by omega)]; exact hi), k1, hM2]
        rfl
      · refine lp0 (fun f j => lp_X10_led_2 (nI i) (fun (u6 : Int32) (M7 : Mm) => some (u6, (mset M7 81 0 (nI 0)))) (fun  (M8 : Mm) => some ((nI 0), (mset M8 81 0 (nI 1)))) f (nI j) M2) (oC Q.at_ (G 95) i) (by omega) (fun f j hj => ?_) (fun f => ?_)
        · have hb := Ah_bound Q.at_ (G 95) j
          have hne : Ah Q.at_ (G 95) j ≠ i := fun z => by
            have := Ah_inj (show j < G 95 by omega) h3 (z.trans h4.symm)
            omega
          rw [lp_X10_led_2, D1.hg, if_neg (by decide)]
          simp (disch := omega) only [D1.R _, r_ahead D1.R D.W (fun c hc => ⟨D1.H.at_ c hc, ha c hc⟩) (show j < G 95 by omega), jns, bds, bvs, lts, gdt, nadd, nmul, nsub, nle, nlt, neq, nz0, nlt0, nle0, n0le, n0lt, nclamp, ndiv, nmod2, gdi, gdn, if_pos, if_neg, if_true, if_false]
        · rw [lp_X10_led_2, D1.hg, if_neg (by decide)]
          simp (disch := omega) only [D1.R _, r_ahead D1.R D.W (fun c hc => ⟨D1.H.at_ c hc, ha c hc⟩) h3, h4, jns, bds, bvs, lts, gdt, nadd, nmul, nsub, nle, nlt, neq, nz0, nlt0, nle0, n0le, n0lt, nclamp, ndiv, nmod2, gdi, gdn, if_pos, if_neg, if_true, if_false]
      · rw [mset_off _ _ _ (by omega), hM2, ms1]
      · refine I0.same (F1.b (.inl rfl) _) ?_ ?_
        · rw [mset_off _ _ _ (by omega), hM2, mset_off _ _ _ (by omega), f1 0 (by omega)]
        · rw [ms3 _ _ (by omega), hM2, mset_off _ _ _ (by omega), f1 81 (by omega)]
    · refine ⟨1, M, nI 0, mset M 81 0 (nI 1), ?_, ?_, ms1 _ _ _ _, fun z => absurd z (by decide), no rfl⟩
      · by_cases c : x < 0
        · rw [if_pos c]
        · rw [if_neg c, I.h8, bgv I.gg, D.C.f14]
          rcases i32 x with h7 | ⟨v, hv, rfl⟩
          · exact absurd h7 c
          · rw [if_neg (by rw [nlt hv (by omega)]; exact fun z => hx ⟨v, z, rfl⟩)]
      · refine lp0 (fun f j => lp_X10_led_2 x (fun (u6 : Int32) (M7 : Mm) => some (u6, (mset M7 81 0 (nI 0)))) (fun  (M8 : Mm) => some ((nI 0), (mset M8 81 0 (nI 1)))) f (nI j) M) (G 95) (by omega) (fun f j hj => ?_) (fun f => ?_)
        · have hb := Ah_lt' Q.at_ hj
          rw [lp_X10_led_2, D.hg, if_neg (by decide), D.R 95 (by decide), if_neg (by rw [nle (by omega) (by omega)]; omega), r_ahead D.R D.W (fun c hc => ⟨D.H.at_ c hc, ha c hc⟩) hj, bds, if_neg (fun z => hx ⟨_, hb, z.symm⟩), nadd]
        · rw [lp_X10_led_2, D.hg, if_neg (by decide), D.R 95 (by decide), if_pos (Int32.le_refl _)]
theorem op_size (x : Int32) (T : Nat) : Same (f_X9_size x) (f_X10_size x) T T := by
  intro M I0
  obtain ⟨g, tl, I, h⟩ := id I0
  have fin : Inv (mset M 81 0 (nI 0)) T := I0.same (ft0 M) (by simp (disch := omega) only [ms1, ms1, ms2, ms3]) (by simp (disch := omega) only [ms1, ms1, ms2, ms3])
  have m0 : ∀ a, a ≠ 81 → mset M 81 0 (nI 0) a = M a := fun a ha => mset_off _ _ _ ha
  have m81 : ∀ k, k ≠ 0 → mset M 81 0 (nI 0) 81 k = M 81 k := fun k hk => ms3 _ _ hk
  suffices hh : ∃ r, f_X9_size x M = some (r, M) ∧ f_X10_size x M = some (r, mset M 81 0 (nI 0)) by
    obtain ⟨r, h1, h2⟩ := hh
    exact ⟨r, M, _, h1, h2, fin⟩
  unfold f_X9_size f_X10_size
  rw [m81 2 (by omega), m81 14 (by omega), m81 19 (by omega), m81 26 (by omega), m0 84 (by omega), m0 86 (by omega)]
  obtain ⟨nn, fp, fm, ft, sn, sk, N2⟩ := I.nt
  by_cases h6 : x = nI 6
  · subst h6
    refine ⟨M 15 1, ?_, ?_⟩
    · rw [if_neg (by decide), if_neg (by decide), if_neg (by decide), if_neg (by decide), if_neg (by decide), if_neg (by decide), if_pos (by decide)]
    · rw [if_pos rfl, I.tp.r, I.tp.c]
  · by_cases hy : ∃ v, v ≤ 10 ∧ x = nI v
    · obtain ⟨v, hv, rfl⟩ := hy
      rcases h with N | ⟨G, Q, mk, Qm, D⟩
      · refine ⟨nI 0, ?_, ?_⟩
        · have hv6 : v = 0 ∨ v = 1 ∨ v = 2 ∨ v = 3 ∨ v = 4 ∨ v = 5 ∨ v = 7 ∨ v = 8 ∨ v = 9 ∨ v = 10 := by
            have : v ≠ 6 := fun z => h6 (by rw [z])
            omega
          rw [I.h8, bgv I.gg, bgv I.gg, bgv I.gg, bgv I.gg, bgv I.gg, bgv I.gg, bgv I.gg, N.z 6 (by omega) (by omega), N.z 7 (by omega) (by omega), N.z 9 (by omega) (by omega), N.z 13 (by omega) (by omega), N.z 14 (by omega) (by omega), N.seed, N.m0, N.fl]
          have k9 : f_X0_verseTenths g M = some (nI 0, M) := by
            unfold f_X0_verseTenths f_X0_endOf
            rw [N.z 9 (by omega) (by omega)]
            rfl
          have k10 : f_X0_eyes g M = some (nI 0, M) := by
            unfold f_X0_eyes
            rw [N.z 10 (by omega) (by omega), N.z 11 (by omega) (by omega), f_by (by omega) (by omega)]
            rfl
          rw [k9, k10]
          rcases hv6 with rfl | rfl | rfl | rfl | rfl | rfl | rfl | rfl | rfl | rfl <;> rfl
        · rw [if_neg h6, if_pos (show M 81 14 = (0 : Int32) from N.hg), r_w6 (by omega) hv, bds, if_neg (by decide)]
      · have D1 := D.fr (ft0 M)
        have hpar := D.W.parts
        have hcr := D.W.creepers
        have hee := D.W.eye
        have hlk := D.W.looks
        have hv6 : v = 0 ∨ v = 1 ∨ v = 2 ∨ v = 3 ∨ v = 4 ∨ v = 5 ∨ v = 7 ∨ v = 8 ∨ v = 9 ∨ v = 10 := by
          have : v ≠ 6 := fun z => h6 (by rw [z])
          omega
        rw [I.h8, bgv I.gg, bgv I.gg, bgv I.gg, bgv I.gg, bgv I.gg, bgv I.gg, bgv I.gg, D.C.f6, D.C.f7, D.C.f9, D.C.f13, D.C.f14, D.K.seed, D.m0, c_verse D.C D.W, c_eyes D.C D.W, N2.c, D.hg, D.R 0 (by decide), D.R 1 (by decide), D.R 92 (by decide), D.R 94 (by decide), D.R 95 (by decide), D.R 3 (by decide), D.R 4 (by decide), D.H.seed, D.m1, N2.r, r_whole D1.R D.W, gdn (by omega) (by omega), ndiv (by omega) (by omega) (by omega)]
        rcases hv6 with rfl | rfl | rfl | rfl | rfl | rfl | rfl | rfl | rfl | rfl <;> exact ⟨_, rfl, rfl⟩
    · have hn : ∀ k, k ≤ 10 → x ≠ nI k := fun k hk z => hy ⟨k, hk, z⟩
      refine ⟨-1, ?_, ?_⟩
      · rw [if_neg (hn 0 (by omega)), if_neg (hn 1 (by omega)), if_neg (hn 2 (by omega)), if_neg (hn 3 (by omega)), if_neg (hn 4 (by omega)), if_neg (hn 5 (by omega)), if_neg (hn 6 (by omega)), if_neg (hn 7 (by omega)), if_neg (hn 8 (by omega)), if_neg (hn 9 (by omega)), if_neg (hn 10 (by omega))]
      · rw [if_neg (hn 6 (by omega))]
        by_cases c : M 81 14 = 0
        · rw [if_pos c, r_w5 (by omega) hy]; rfl
        · rw [if_neg c, if_neg (hn 0 (by omega)), if_neg (hn 1 (by omega)), if_neg (hn 2 (by omega)), if_neg (hn 3 (by omega)), if_neg (hn 4 (by omega)), if_neg (hn 5 (by omega)), if_neg (hn 6 (by omega)), if_neg (hn 7 (by omega)), if_neg (hn 8 (by omega)), if_neg (hn 9 (by omega)), if_neg (hn 10 (by omega))]
theorem op_creeper (x y : Int32) (T : Nat) : Same (f_X9_creeper x y) (f_X10_creeper x y) T T := by
  intro M I0
  obtain ⟨g, tl, I, h⟩ := id I0
  unfold f_X9_creeper f_X10_creeper
  have fin : Inv (mset M 81 0 (nI 0)) T := I0.same (ft0 M) (by simp (disch := omega) only [ms1, ms1, ms2, ms3]) (by simp (disch := omega) only [ms1, ms1, ms2, ms3])
  have hh := h
  rcases t_creeper I h x with ⟨e1, e2⟩ | ⟨G, Q, mk, Qm, c, D, hc, rfl, e1, e2⟩
  · refine ⟨-1, M, _, ?_, ?_, fin⟩
    · by_cases c : x < 0
      · rw [if_pos c]
      · rw [if_neg c, I.h8, bgv I.gg]
        have e3 := e1
        unfold f_X9_isCreeper at e3
        simp only [jns] at e3
        rw [if_neg c, I.h8, bgv I.gg] at e3
        by_cases c2 : M g 14 ≤ x
        · rw [if_pos c2]
        · rw [if_neg c2] at e3
          exact absurd (congrArg Prod.fst (Option.some.inj e3)) (show ¬ nI 1 = nI 0 by decide)
    · rw [e2 _ (ft0 M)]; rfl
  · have hcr := D.W.creepers
    have D1 := D.fr (ft0 M)
    have hl : ¬ (nI c) < 0 := by rw [nlt0 (by omega)]; exact id
    have hm : ¬ M g 14 ≤ nI c := by rw [D.C.f14, nle (by omega) (by omega)]; omega
    by_cases hy : ∃ v, v ≤ 6 ∧ y = nI v
    · obtain ⟨v, hv, rfl⟩ := hy
      refine ⟨nI (G (56 + 5 * v + c)), M, _, ?_, ?_, fin⟩
      · rw [if_neg hl, I.h8, bgv I.gg, if_neg hm, if_neg (by rw [nlt0 (by omega)]; exact id), if_pos (by rw [nlt (by omega) (by omega)]; omega), bgv I.gg, c_trait D.C D.W hc (by omega)]
        rfl
      · rw [e2 _ (ft0 M), bds, if_neg (by decide)]
        have hv6 : v = 0 ∨ v = 1 ∨ v = 2 ∨ v = 3 ∨ v = 4 ∨ v = 5 ∨ v = 6 := by omega
        rcases hv6 with rfl | rfl | rfl | rfl | rfl | rfl | rfl
        · rw [if_pos rfl]; simp (disch := omega) only [D1.R _, jns, bds, bvs, lts, gdt, nadd, nmul, nsub, nle, nlt, neq, nz0, nlt0, nle0, n0le, n0lt, nclamp, ndiv, nmod2, gdi, gdn, if_pos, if_neg, if_true, if_false]
        · rw [if_neg (by decide), if_pos (by decide)]; simp (disch := omega) only [D1.R _, jns, bds, bvs, lts, gdt, nadd, nmul, nsub, nle, nlt, neq, nz0, nlt0, nle0, n0le, n0lt, nclamp, ndiv, nmod2, gdi, gdn, if_pos, if_neg, if_true, if_false]
        · rw [if_neg (by decide), if_neg (by decide), if_pos (by decide)]; simp (disch := omega) only [D1.R _, jns, bds, bvs, lts, gdt, nadd, nmul, nsub, nle, nlt, neq, nz0, nlt0, nle0, n0le, n0lt, nclamp, ndiv, nmod2, gdi, gdn, if_pos, if_neg, if_true, if_false]
        · rw [if_neg (by decide), if_neg (by decide), if_neg (by decide), if_pos (by decide)]; simp (disch := omega) only [D1.R _, jns, bds, bvs, lts, gdt, nadd, nmul, nsub, nle, nlt, neq, nz0, nlt0, nle0, n0le, n0lt, nclamp, ndiv, nmod2, gdi, gdn, if_pos, if_neg, if_true, if_false]
        · rw [if_neg (by decide), if_neg (by decide), if_neg (by decide), if_neg (by decide), if_pos (by decide)]; simp (disch := omega) only [D1.R _, jns, bds, bvs, lts, gdt, nadd, nmul, nsub, nle, nlt, neq, nz0, nlt0, nle0, n0le, n0lt, nclamp, ndiv, nmod2, gdi, gdn, if_pos, if_neg, if_true, if_false]
        · rw [if_neg (by decide), if_neg (by decide), if_neg (by decide), if_neg (by decide), if_neg (by decide), if_pos (by decide)]; simp (disch := omega) only [D1.R _, jns, bds, bvs, lts, gdt, nadd, nmul, nsub, nle, nlt, neq, nz0, nlt0, nle0, n0le, n0lt, nclamp, ndiv, nmod2, gdi, gdn, if_pos, if_neg, if_true, if_false]
        · rw [if_neg (by decide), if_neg (by decide), if_neg (by decide), if_neg (by decide), if_neg (by decide), if_neg (by decide), if_pos (by decide)]; simp (disch := omega) only [D1.R _, jns, bds, bvs, lts, gdt, nadd, nmul, nsub, nle, nlt, neq, nz0, nlt0, nle0, n0le, n0lt, nclamp, ndiv, nmod2, gdi, gdn, if_pos, if_neg, if_true, if_false]
    · have hn : ∀ k, k ≤ 6 → y ≠ nI k := fun k hk z => hy ⟨k, hk, z⟩
      refine ⟨-1, M, _, ?_, ?_, fin⟩
      · rw [if_neg hl, I.h8, bgv I.gg, if_neg hm]
        by_cases c : y < 0
        · rw [if_pos c]
        · rw [if_neg c]
          rcases i32 y with h7 | ⟨v, hv, rfl⟩
          · exact absurd h7 c
          · rw [if_neg (by rw [nlt hv (by omega)]; exact fun z => hy ⟨v, by omega, rfl⟩)]
      · rw [e2 _ (ft0 M), bds, if_neg (by decide), if_neg (hn 0 (by omega)), if_neg (hn 1 (by omega)), if_neg (hn 2 (by omega)), if_neg (hn 3 (by omega)), if_neg (hn 4 (by omega)), if_neg (hn 5 (by omega)), if_neg (hn 6 (by omega))]
