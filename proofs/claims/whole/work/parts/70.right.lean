/-! RIGHT, MARK, BACK. -/
theorem nI_dec {a : Nat} (h : 1 ≤ a) : nI a + (-1 : Int32) = nI (a - 1) := by
  rw [← nsub h, show (-1 : Int32) = -(nI 1) from by decide, ← Int32.sub_eq_add_neg]
theorem c_putRight {M : Mm} {G : Nat → Nat} {Q : Pl} (W : GW G) (K : CP M 20 G Q) {c : Nat} (hc : c < G 95) (hw : 1 ≤ Q.wrong c) :
    f_X3_putRight 20 (nI c) M = some (mset (mset (mset (mset M 21 c (nI (Q.there c))) 22 c (nI 0)) 23 c (nI 0)) 25 c (nI (Q.wrong c - 1))) := by
  have hcr := W.creepers
  have P : PC 20 := .inl rfl
  unfold f_X3_putRight
  rw [p_at (p := 20) (k := 6) P (by omega) (by omega) (by omega), bds, p_put (p := 20) (k := 1) P (by omega) (by omega) (by omega), bvs, p_put (p := 20) (k := 2) P (by omega) (by omega) (by omega), bvs, p_put (p := 20) (k := 3) P (by omega) (by omega) (by omega), bvs, p_add (p := 20) (k := 5) P (by omega) (by omega) (by omega), bvs]
  have e1 : M (20 + 6) c = nI (Q.there c) := K.there c hc
  have e2 : mset (mset (mset M (20 + 1) c (M (20 + 6) c)) (20 + 2) c (nI 0)) (20 + 3) c (nI 0) (20 + 5) c = nI (Q.wrong c) := by
    simp (disch := omega) only [ms1, ms1, ms2, ms3]; exact K.wrong c hc
  rw [e2, nI_dec hw, e1]
theorem op_right (x : Int32) (T : Nat) : Same (f_X9_right x) (f_X10_right x) T T := by
  intro M I0
  obtain ⟨g, tl, I, h⟩ := id I0
  unfold f_X9_right f_X10_right
  rcases t_creeper I h x with ⟨e1, e2⟩ | ⟨G, Q, mk, Qm, c, D, hc, rfl, e1, e2⟩
  · refine ⟨(nI 0), mset M 0 11 (nI 1), mset (gdM (mset M 0 11 (nI 1))) 81 11 (nI 1), ?_, ?_, I0.no (Fr.rfl' M) (by omega)⟩
    · rw [e1]; rfl
    · rw [r_good, bvs, e2 _ (fg M _)]; rfl
  · have hcr := D.W.creepers
    rcases t_over D with ⟨ht, o1, o2⟩ | ⟨ht, o1, o2⟩
    · have ka : f_X9_at 23 (nI c) M = some (Q.how c, M) := by
        rw [← D.K.how c hc]
        exact p_at (p := 20) (k := 3) (.inl rfl) (by omega) (by omega) (by omega)
      by_cases h5 : Q.how c = nI 5
      · have hw := D.qw.hw c hc h5
        obtain ⟨M1, hM1⟩ : ∃ M1, M1 = mset (mset (mset (mset M 21 c (nI (Q.there c))) 22 c (nI 0)) 23 c (nI 0)) 25 c (nI (Q.wrong c - 1)) := ⟨_, rfl⟩
        have F1 : Fp M M1 := (Fr.rfl' M).p.x (fun b hb => by rw [hM1, mset_off _ _ _ (by omega), mset_off _ _ _ (by omega), mset_off _ _ _ (by omega), mset_off _ _ _ (by omega)])
        have F3 := (F1.a (nI 0)).g
        have g86 : gdM (mset M1 0 11 (nI 0)) 86 = M 86 := by
          unfold gdM
          rw [hM1, mset_off _ _ _ (by omega), mset_off _ _ _ (by omega), mset_off _ _ _ (by omega), mset_off _ _ _ (by omega), mset_off _ _ _ (by omega), mset_off _ _ _ (by omega), mset_off _ _ _ (by omega)]
        obtain ⟨M3, hM3⟩ : ∃ M3, M3 = gdM (mset M1 0 11 (nI 0)) := ⟨_, rfl⟩
        rw [← hM3] at F3 g86
        have F2 : Fp M (mset (mset (mset (mset M3 86 (19 + c) (nI 0)) 86 (29 + c) (nI (Q.wrong c - 1))) 86 (9 + c) (nI (Q.there c))) 86 (14 + c) (nI 0)) := F3.x (fun b hb => by rw [mset_off _ _ _ (by omega), mset_off _ _ _ (by omega), mset_off _ _ _ (by omega), mset_off _ _ _ (by omega)])
        have e3 : f_X10_isCreeper (nI c) M3 = some (nI 1, M3) := by
          have R3 : RG M3 G := fun k hk => by rw [F3.c4 84 (by omega) (by omega)]; exact D.R k hk
          rcases r_isCreeper R3 D.W (by rw [F3.r 14 (by omega) (by omega) (by omega)]; exact D.hg) (nI c) with ⟨-, h6⟩ | ⟨h6, -⟩
          · exact h6
          · exact absurd ⟨c, hc, rfl⟩ h6
        have H3 : RP M3 G Q := RP.cong D.W D.H (fun k _ => by rw [g86])
        have k3 : ∀ a, a ≠ 0 → a ≠ 81 → M3 a = M1 a := fun a h1 h2 => by rw [hM3]; unfold gdM; rw [mset_off _ _ _ h2, mset_off _ _ _ h2, mset_off _ _ _ h1]
        refine ⟨nI 1, mset M1 0 11 (nI 0), _, ?_, ?_, g, tl, I.fp F2 ⟨?_, ?_⟩, .inr ⟨G, rgt c Q, mk, Qm, D.fp F2 ?_ ?_ (rgt_QW D.W hc D.qw ht) (Nat.le_refl _)⟩⟩
        · rw [e1, bds, if_neg (by decide), o1, bds, if_pos (by decide), ka, bds, if_pos h5, c_putRight D.W D.K hc hw, bvs, ← hM1]
          rfl
        · have z2 : M3 86 8 = nI 0 := by rw [g86]; exact o2 M (Fr.rfl' M)
          have z3 : M3 86 (19 + c) = nI 5 := by rw [H3.how c hc, h5]
          have z4 : M3 86 (29 + c) - nI 1 = nI (Q.wrong c - 1) := by rw [H3.wrong c hc, nsub hw]
          rw [r_good, bvs, ← hM3, e3, bds, if_neg (by decide), z2, if_neg (by decide)]
          simp (disch := omega) only [z3, jns, bds, bvs, lts, gdt, nadd, nmul, nsub, nle, nlt, neq, nz0, nlt0, nle0, n0le, n0lt, nclamp, ndiv, nmod2, gdi, gdn, if_pos, if_neg, if_true, if_false]
          simp (disch := omega) only [z4, H3.there c hc, ms1, ms2, ms3]
        · rw [hM3]; unfold gdM; simp (disch := omega) only [ms1, ms1, ms2, ms3]
        · rw [hM3]; unfold gdM; simp (disch := omega) only [ms1, ms1, ms2, ms3]; exact nI04
        · refine ⟨?_, ?_, ?_, ?_, ?_, ?_, fun k hk => ?_, fun k hk => ?_, fun k hk => ?_, fun k hk => ?_, fun k hk => ?_, fun k hk => ?_⟩
          · simp (disch := omega) only [k3, hM1, ms1, ms2, ms3]; exact D.K.said
          · simp (disch := omega) only [k3, hM1, ms1, ms2, ms3]; exact D.K.loud
          · simp (disch := omega) only [k3, hM1, ms1, ms2, ms3]; exact D.K.looked
          · simp (disch := omega) only [k3, hM1, ms1, ms2, ms3]; exact D.K.passed
          · simp (disch := omega) only [k3, hM1, ms1, ms2, ms3]; exact D.K.touch
          · simp (disch := omega) only [k3, hM1, ms1, ms2, ms3]; exact D.K.seed
          · show _ = nI (if k = c then Q.there c else Q.at_ k)
            by_cases hk2 : k = c
            · subst hk2; rw [if_pos rfl]; simp (disch := omega) only [k3, hM1, ms1, ms2, ms3]
            · rw [if_neg hk2]; simp (disch := omega) only [k3, hM1, ms1, ms2, ms3]; exact D.K.at_ k hk
          · show _ = nI (if k = c then 0 else Q.into k)
            by_cases hk2 : k = c
            · subst hk2; rw [if_pos rfl]; simp (disch := omega) only [k3, hM1, ms1, ms2, ms3]
            · rw [if_neg hk2]; simp (disch := omega) only [k3, hM1, ms1, ms2, ms3]; exact D.K.into k hk
          · show _ = if k = c then nI 0 else Q.how k
            by_cases hk2 : k = c
            · subst hk2; rw [if_pos rfl]; simp (disch := omega) only [k3, hM1, ms1, ms2, ms3]
            · rw [if_neg hk2]; simp (disch := omega) only [k3, hM1, ms1, ms2, ms3]; exact D.K.how k hk
          · simp (disch := omega) only [k3, hM1, ms1, ms2, ms3]; exact D.K.seen k hk
          · show _ = nI (if k = c then Q.wrong c - 1 else Q.wrong k)
            by_cases hk2 : k = c
            · subst hk2; rw [if_pos rfl]; simp (disch := omega) only [k3, hM1, ms1, ms2, ms3]
            · rw [if_neg hk2]; simp (disch := omega) only [k3, hM1, ms1, ms2, ms3]; exact D.K.wrong k hk
          · simp (disch := omega) only [k3, hM1, ms1, ms2, ms3]; exact D.K.there k hk
        · refine ⟨?_, ?_, ?_, ?_, ?_, ?_, ?_, ?_, ?_, fun k hk => ?_, fun k hk => ?_, fun k hk => ?_, fun k hk => ?_, fun k hk => ?_, fun k hk => ?_⟩
          · simp (disch := omega) only [ms1, ms1, ms2, ms3]; exact H3.part
          · simp (disch := omega) only [ms1, ms1, ms2, ms3]; exact H3.tenth
          · simp (disch := omega) only [ms1, ms1, ms2, ms3]; exact H3.loud
          · simp (disch := omega) only [ms1, ms1, ms2, ms3]; exact H3.looked
          · simp (disch := omega) only [ms1, ms1, ms2, ms3]; exact H3.passed
          · simp (disch := omega) only [ms1, ms1, ms2, ms3]; exact H3.touch
          · simp (disch := omega) only [ms1, ms1, ms2, ms3]; exact H3.seed
          · rw [if_pos (show (rgt c Q).touch < 0 from ht)]
            have h7 := H3.caught
            rw [if_pos ht] at h7
            simp (disch := omega) only [ms1, ms1, ms2, ms3]; exact h7
          · rw [if_pos (show (rgt c Q).touch < 0 from ht)]
            have h7 := H3.over
            rw [if_pos ht] at h7
            simp (disch := omega) only [ms1, ms1, ms2, ms3]; exact h7
          · show _ = nI (if k = c then Q.there c else Q.at_ k)
            by_cases hk2 : k = c
            · subst hk2; rw [if_pos rfl]; simp (disch := omega) only [ms1, ms1, ms2, ms3]
            · rw [if_neg hk2]; simp (disch := omega) only [ms1, ms1, ms2, ms3]; exact H3.at_ k hk
          · show _ = nI (if k = c then 0 else Q.into k)
            by_cases hk2 : k = c
            · subst hk2; rw [if_pos rfl]; simp (disch := omega) only [ms1, ms1, ms2, ms3]
            · rw [if_neg hk2]; simp (disch := omega) only [ms1, ms1, ms2, ms3]; exact H3.into k hk
          · show _ = if k = c then nI 0 else Q.how k
            by_cases hk2 : k = c
            · subst hk2; rw [if_pos rfl]; simp (disch := omega) only [ms1, ms1, ms2, ms3]
            · rw [if_neg hk2]; simp (disch := omega) only [ms1, ms1, ms2, ms3]; exact H3.how k hk
          · simp (disch := omega) only [ms1, ms1, ms2, ms3]; exact H3.seen k hk
          · show _ = nI (if k = c then Q.wrong c - 1 else Q.wrong k)
            by_cases hk2 : k = c
            · subst hk2; rw [if_pos rfl]; simp (disch := omega) only [ms1, ms1, ms2, ms3]
            · rw [if_neg hk2]; simp (disch := omega) only [ms1, ms1, ms2, ms3]; exact H3.wrong k hk
          · simp (disch := omega) only [ms1, ms1, ms2, ms3]; exact H3.there k hk
      · refine ⟨(nI 0), mset M 0 11 (nI 5), mset (gdM (mset M 0 11 (nI 5))) 81 11 (nI 5), ?_, ?_, I0.no (Fr.rfl' M) (by omega)⟩
        · rw [e1, bds, if_neg (by decide), o1, bds, if_pos (by decide), ka, bds, if_neg h5]
          rfl
        · have H2 := (D.fr (fg M (nI 5))).H
          rw [r_good, bvs, e2 _ (fg M _), bds, if_neg (by decide), o2 _ (fg M _), if_neg (by decide)]
          simp (disch := omega) only [H2.how c hc, h5, jns, bds, bvs, lts, gdt, nadd, nmul, nsub, nle, nlt, neq, nz0, nlt0, nle0, n0le, n0lt, nclamp, ndiv, nmod2, gdi, gdn, if_pos, if_neg, if_true, if_false]
          rfl
    · refine ⟨(nI 0), mset M 0 11 (nI 6), mset (gdM (mset M 0 11 (nI 6))) 81 11 (nI 6), ?_, ?_, I0.no (Fr.rfl' M) (by omega)⟩
      · rw [e1, bds, if_neg (by decide), o1]
        rfl
      · rw [r_good, bvs, e2 _ (fg M _), bds, if_neg (by decide), if_pos (o2 _ (fg M _))]
        rfl
theorem bpv {β : Type} {s : Nat} {k : Nat → Option β} (h : s < 3) : bp (30 + 1 + 10 * s) k = k (31 + 10 * s) := by
  unfold bp
  have : s = 0 ∨ s = 1 ∨ s = 2 := by omega
  rcases this with rfl | rfl | rfl <;> rfl
theorem PCm {s : Nat} (h : s < 3) : PC (31 + 10 * s) := by
  unfold PC
  omega
theorem op_mark (T : Nat) : Same f_X9_mark f_X10_mark T T := by
  intro M I0
  obtain ⟨g, tl, I, h⟩ := id I0
  unfold f_X9_mark f_X10_mark
  rcases t_game I h with ⟨e1, e2⟩ | ⟨G, Q, mk, Qm, D, e1, e2⟩
  · refine ⟨(-1 : Int32), mset M 0 11 (nI 1), mset (gdM (mset M 0 11 (nI 1))) 81 11 (nI 1), ?_, ?_, I0.no (Fr.rfl' M) (by omega)⟩
    · rw [e1]; rfl
    · rw [r_good, bvs, if_pos (e2 _ (fg M _))]; rfl
  · have hgm : ∀ v, ¬ gdM (mset M 0 11 v) 81 14 = 0 := fun v => by rw [e2 _ (fg M v)]; decide
    have hm3 := D.mk3
    by_cases hm : mk < 3
    · obtain ⟨M1, a1, K1, f1⟩ := c_become (M0 := M) D.W (p := 31 + 10 * mk) (q := 20) (PCm hm) (.inl rfl) (.inr (by omega)) D.K
      obtain ⟨M3, hM3⟩ : ∃ M3, M3 = gdM (mset (mset M1 0 10 (nI (mk + 1))) 0 11 (nI 0)) := ⟨_, rfl⟩
      have k3 : ∀ a, a ≠ 0 → a ≠ 81 → M3 a = M1 a := fun a h1 h2 => by rw [hM3]; unfold gdM; rw [mset_off _ _ _ h2, mset_off _ _ _ h2, mset_off _ _ _ h1, mset_off _ _ _ h1]
      have k81 : ∀ k, k ≠ 0 → k ≠ 11 → M3 81 k = M 81 k := fun k h1 h2 => by rw [hM3]; unfold gdM; rw [ms3 _ _ h2, ms3 _ _ h1, mset_off _ _ _ (by omega), mset_off _ _ _ (by omega), f1 81 (by omega)]
      have H3 : RP M3 G Q := RP.cong D.W D.H (fun k _ => by rw [k3 86 (by omega) (by omega), f1 86 (by omega)])
      obtain ⟨M4, a4, K4, f4, o4⟩ := r_keep_KP (M0 := M3) D.W (s := mk) (by omega) H3
      obtain ⟨M5, hM5⟩ : ∃ M5, M5 = mset M4 81 19 (nI (mk + 1)) := ⟨_, rfl⟩
      have k5 : ∀ a, a ≠ 0 → a ≠ 81 → a ≠ 87 → M5 a = M1 a := fun a h1 h2 h3 => by rw [hM5, mset_off _ _ _ h2, f4 a h3, k3 a h1 h2]
      have n1 : ∀ a, a < 31 ∨ 60 < a → M1 a = M a := fun a ha => f1 a (by omega)
      have g14 : M3 81 14 = nI 1 := by rw [k81 14 (by omega) (by omega)]; exact D.hg
      have g19 : M3 81 19 = nI mk := by rw [k81 19 (by omega) (by omega)]; exact D.m1
      have s19 : M4 81 19 = nI mk := by rw [f4 81 (by omega)]; exact g19
      have r81 : ∀ k, k ≠ 0 → k ≠ 11 → k ≠ 19 → M5 81 k = M 81 k := fun k h1 h2 h3 => by rw [hM5, ms3 _ _ h3, f4 81 (by omega), k81 k h1 h2]
      have r0 : ∀ k, k ≠ 10 → k ≠ 11 → M5 0 k = M 0 k := fun k h1 h2 => by rw [hM5, mset_off _ _ _ (by omega), f4 0 (by omega), hM3]; unfold gdM; rw [mset_off _ _ _ (by omega), mset_off _ _ _ (by omega), ms3 _ _ h2, ms3 _ _ h1, n1 0 (by omega)]
      have t0 : M5 0 11 = nI 0 := by rw [hM5, mset_off _ _ _ (by omega), f4 0 (by omega), hM3]; unfold gdM; simp (disch := omega) only [ms1, ms1, ms2, ms3]
      have t81 : M5 81 11 = nI 0 := by rw [hM5, ms3 _ _ (by omega), f4 81 (by omega), hM3]; unfold gdM; simp (disch := omega) only [ms1, ms1, ms2, ms3]
      obtain ⟨n, fp, fm, ft, sn, sk, N⟩ := I.nt
      refine ⟨nI mk, mset (mset M1 0 10 (nI (mk + 1))) 0 11 (nI 0), M5, ?_, ?_, g, tl, ⟨I.gg, ?_, ?_, ⟨I.tp.le, ?_, ?_, fun k hk => ?_⟩, ?_, ?_, fun h4 => ?_, ?_, ⟨n, fp, fm, ft, sn, sk, ⟨N.n30, ?_, ?_, fun k hk => ?_, fun p hp s hs t ht => ?_, fun c hc => ?_⟩⟩⟩, .inr ⟨G, Q, mk + 1, fun s => if s = mk then Q else Qm s, ⟨D.C.cong2 (fun a h1 h2 => ?_), fun k hk => ?_, D.W, ?_, RP.cong D.W D.H (fun k hk => ?_), D.K.cong7 (fun a h1 h2 => ?_), D.qw, by omega, ?_, ?_, fun s hs => ?_, fun s hs => ?_, fun s hs => ?_⟩⟩⟩
      · rw [e1, bds, if_neg (by decide)]
        simp only [jns]
        rw [D.m0, if_neg (by rw [nlt0 (by omega)]; exact id), if_pos (by rw [nlt (by omega) (by omega)]; exact hm), gdi (by omega) hm, nclamp (by omega), bpv hm, a1, bvs, n1 0 (by omega), D.m0, nadd, c_well, bds, ms1, nsub (by omega)]
        rfl
      · rw [r_good, bvs, ← hM3, if_neg (by rw [g14]; decide), g19, if_neg (by rw [neq (by omega) (by omega)]; omega), a4, bvs, s19, nadd, ms1, nsub (by omega), ← hM5]
        rfl
      · rw [r0 8 (by omega) (by omega)]; exact I.h8
      · rw [r0 9 (by omega) (by omega)]; exact I.h9
      · rw [k5 15 (by omega) (by omega) (by omega), n1 15 (by omega)]; exact I.tp.c
      · rw [r81 2 (by omega) (by omega) (by omega)]; exact I.tp.r
      · rw [k5 16 (by omega) (by omega) (by omega), n1 16 (by omega), k5 82 (by omega) (by omega) (by omega), n1 82 (by omega)]; exact I.tp.b k hk
      · rw [t0, t81]
      · rw [r0 12 (by omega) (by omega), r81 9 (by omega) (by omega) (by omega)]; exact I.lf
      · rw [t0] at h4; exact absurd h4 nI04
      · rw [r81 20 (by omega) (by omega) (by omega)]; exact I.lo
      · rw [k5 73 (by omega) (by omega) (by omega), n1 73 (by omega)]; exact N.c
      · rw [r81 26 (by omega) (by omega) (by omega)]; exact N.r
      · rw [k5 88 (by omega) (by omega) (by omega), n1 88 (by omega), k5 89 (by omega) (by omega) (by omega), n1 89 (by omega), k5 90 (by omega) (by omega) (by omega), n1 90 (by omega)]; exact N.p k hk
      · rw [k5 74 (by omega) (by omega) (by omega), n1 74 (by omega)]; exact N.f p hp s hs t ht
      · rw [k5 75 (by omega) (by omega) (by omega), n1 75 (by omega), k5 76 (by omega) (by omega) (by omega), n1 76 (by omega), k5 91 (by omega) (by omega) (by omega), n1 91 (by omega), k5 92 (by omega) (by omega) (by omega), n1 92 (by omega)]; exact N.s c hc
      · rw [k5 a (by omega) (by omega) (by omega), n1 a (by omega)]
      · rw [k5 84 (by omega) (by omega) (by omega), n1 84 (by omega)]; exact D.R k hk
      · rw [r81 14 (by omega) (by omega) (by omega)]; exact D.hg
      · rw [k5 86 (by omega) (by omega) (by omega), n1 86 (by omega)]
      · rw [k5 a (by omega) (by omega) (by omega), n1 a (by omega)]
      · rw [hM5, mset_off _ _ _ (by omega), f4 0 (by omega), hM3]; unfold gdM; simp (disch := omega) only [ms1, ms1, ms2, ms3]
      · rw [hM5, ms1]
      · have k87 : M5 87 = M4 87 := by rw [hM5, mset_off _ _ _ (by omega)]
        by_cases c : s = mk
        · subst c
          show KP M5 s G (if s = s then Q else Qm s)
          rw [if_pos rfl]
          exact KP.cong D.W hm K4 (fun k _ => by rw [k87])
        · show KP M5 s G (if s = mk then Q else Qm s)
          rw [if_neg c]
          exact KP.cong D.W (by omega) (o4 s _ c (KP.cong D.W (by omega) (D.mr s (by omega)) (fun k _ => by rw [k3 87 (by omega) (by omega), n1 87 (by omega)]))) (fun k _ => by rw [k87])
      · by_cases c : s = mk
        · subst c
          show CP M5 _ G (if s = s then Q else Qm s)
          rw [if_pos rfl]
          exact K1.cong7 (fun a h1 h2 => k5 a (by omega) (by omega) (by omega))
        · show CP M5 _ G (if s = mk then Q else Qm s)
          rw [if_neg c]
          exact (D.mc s (by omega)).cong7 (fun a h1 h2 => by rw [k5 a (by omega) (by omega) (by omega), f1 a (by omega)])
      · by_cases c : s = mk
        · show QW G (if s = mk then Q else Qm s) T
          rw [if_pos c]
          exact D.qw
        · show QW G (if s = mk then Q else Qm s) T
          rw [if_neg c]
          exact D.mq s (by omega)
    · refine ⟨(-1 : Int32), mset M 0 11 (nI 3), mset (gdM (mset M 0 11 (nI 3))) 81 11 (nI 3), ?_, ?_, I0.no (Fr.rfl' M) (by omega)⟩
      · rw [e1, bds, if_neg (by decide)]
        simp only [jns]
        rw [D.m0, if_neg (by rw [nlt0 (by omega)]; exact id), if_neg (by rw [nlt (by omega) (by omega)]; exact hm)]
        rfl
      · have h19 : gdM (mset M 0 11 (nI 3)) 81 19 = nI 3 := by
          rw [(fg M (nI 3)).r 19 (by omega) (by omega) (by omega), D.m1, show mk = 3 by omega]
        rw [r_good, bvs, if_neg (hgm _), if_pos h19]
        rfl
theorem op_back (x : Int32) (T : Nat) : Same (f_X9_back x) (f_X10_back x) T T := by
  intro M I0
  obtain ⟨g, tl, I, h⟩ := id I0
  have hm : ∃ mk, mk ≤ 3 ∧ M 0 10 = nI mk ∧ M 81 19 = nI mk ∧ (1 ≤ mk → ∃ G Q Qm, IG M g G Q mk Qm T) := by
    rcases h with N | ⟨G, Q, mk, Qm, D⟩
    · exact ⟨0, by omega, N.m0, N.m1, fun z => by omega⟩
    · exact ⟨mk, D.mk3, D.m0, D.m1, fun _ => ⟨G, Q, Qm, D⟩⟩
  obtain ⟨mk, hm3, m0, m1, hD⟩ := hm
  unfold f_X9_back f_X10_back
  simp only [jns]
  have hr19 : ∀ M', Fr M M' → M' 81 19 = nI mk := fun M' F => by rw [F.r 19 (by omega) (by omega) (by omega)]; exact m1
  by_cases hx : ∃ s, s < mk ∧ x = nI s
  · obtain ⟨s, hs, rfl⟩ := hx
    obtain ⟨G, Q, Qm, D⟩ := hD (by omega)
    obtain ⟨M1, a1, K1, f1⟩ := c_become (M0 := M) D.W (p := 20) (q := 31 + 10 * s) (.inl rfl) (PCm (by omega)) (.inl (by omega)) (D.mc s hs)
    have F1 : Fp M M1 := (Fr.rfl' M).p.x (fun a ha => f1 a (by omega))
    have F3 := (F1.a (nI 0)).g
    obtain ⟨M3, hM3⟩ : ∃ M3, M3 = gdM (mset M1 0 11 (nI 0)) := ⟨_, rfl⟩
    rw [← hM3] at F3
    have K3 : KP M3 s G (Qm s) := KP.cong D.W (by omega) (D.mr s hs) F3.m
    obtain ⟨M2, a2, H2, f2⟩ := r_bring_RP (M0 := M3) D.W (s := s) (by omega) K3
    have F2 : Fp M M2 := F3.x (fun a ha => f2 a (by omega))
    have k3 : ∀ a, a ≠ 0 → a ≠ 81 → M3 a = M1 a := fun a h1 h2 => by rw [hM3]; unfold gdM; rw [mset_off _ _ _ h2, mset_off _ _ _ h2, mset_off _ _ _ h1]
    refine ⟨nI 1, mset M1 0 11 (nI 0), M2, ?_, ?_, g, tl, I.fp F2 ⟨?_, ?_⟩, .inr ⟨G, Qm s, mk, Qm, D.fp F2 ?_ H2 (D.mq s hs) (Nat.le_refl _)⟩⟩
    · rw [if_neg (by rw [nlt0 (by omega)]; exact id), m0, if_neg (by rw [nle (by omega) (by omega)]; omega), if_pos (by rw [nlt (by omega) (by omega)]; omega), gdi (by omega) (by omega), nclamp (by omega), bpv (by omega), a1]
      rfl
    · rw [r_good, bvs, ← hM3, F3.r 19 (by omega) (by omega) (by omega), m1, nsub (by omega)]
      rcases r_withinI (M := M3) (nI s) (show 0 < 2 ^ 31 by decide) (show mk - 1 < 2 ^ 31 by omega) with ⟨-, h6⟩ | ⟨h6, -⟩
      · rw [h6, bds, if_neg (by decide), a2]; rfl
      · exact absurd ⟨s, by omega, by omega, rfl⟩ h6
    · rw [f2 0 (by omega), f2 81 (by omega), hM3]; unfold gdM; simp (disch := omega) only [ms1, ms1, ms2, ms3]
    · rw [f2 0 (by omega), hM3]; unfold gdM; simp (disch := omega) only [ms1, ms1, ms2, ms3]; exact nI04
    · exact K1.cong7 (fun a h1 h2 => by rw [f2 a (by omega), k3 a (by omega) (by omega)])
  · refine ⟨(nI 0), mset M 0 11 (nI 1), mset (gdM (mset M 0 11 (nI 1))) 81 11 (nI 1), ?_, ?_, I0.no (Fr.rfl' M) (by omega)⟩
    · by_cases c : x < 0
      · rw [if_pos c]; rfl
      · rw [if_neg c, m0]
        rcases i32 x with h7 | ⟨v, hv, rfl⟩
        · exact absurd h7 c
        · rw [if_pos (by rw [nle (by omega) hv]; exact Nat.le_of_not_lt fun z => hx ⟨v, z, rfl⟩)]
          rfl
    · rw [r_good, bvs, hr19 _ (fg M _)]
      by_cases c : mk = 0
      · subst c
        have hw : f_X10_within x (nI 0) (nI 0 - nI 1) (gdM (mset M 0 11 (nI 1))) = some (nI 0, gdM (mset M 0 11 (nI 1))) := by
          unfold f_X10_within
          simp only [jns]
          by_cases c : x < nI 0
          · rw [if_pos c]
          · rw [if_neg c, if_pos (Int32.lt_of_lt_of_le (show nI 0 - nI 1 < nI 0 by decide) (Int32.not_lt.mp c))]
        rw [hw]; rfl
      · rw [nsub (by omega)]
        rcases r_withinI (M := gdM (mset M 0 11 (nI 1))) x (show 0 < 2 ^ 31 by decide) (show mk - 1 < 2 ^ 31 by omega) with ⟨⟨v, h6, h7, h8⟩, -⟩ | ⟨-, h6⟩
        · exact absurd ⟨v, by omega, h8⟩ hx
        · rw [h6]; rfl
