/-! THE CALLS that move the play: start, tenths, round, bring, right, mark, back. -/
/-- what a call of the play leaves as it was -/
abbrev Fp (M M' : Mm) : Prop := (∀ a, 1 ≤ a → a ≤ 19 → M' a = M a) ∧ (∀ a, 30 ≤ a → a ≤ 60 → M' a = M a) ∧ (∀ a, 73 ≤ a → a ≤ 76 → M' a = M a) ∧ (∀ a, 82 ≤ a → a ≤ 85 → M' a = M a) ∧ (∀ a, 88 ≤ a → a ≤ 92 → M' a = M a) ∧ (∀ k, k < 132 → M' 87 k = M 87 k) ∧ (∀ k, k ≠ 11 → M' 0 k = M 0 k) ∧ (∀ k, k ≠ 0 → k ≠ 11 → k < 27 → M' 81 k = M 81 k)
theorem Fp.c1 {M M' : Mm} (h : Fp M M') : ∀ a, 1 ≤ a → a ≤ 19 → M' a = M a := h.1
theorem Fp.c2 {M M' : Mm} (h : Fp M M') : ∀ a, 30 ≤ a → a ≤ 60 → M' a = M a := h.2.1
theorem Fp.c3 {M M' : Mm} (h : Fp M M') : ∀ a, 73 ≤ a → a ≤ 76 → M' a = M a := h.2.2.1
theorem Fp.c4 {M M' : Mm} (h : Fp M M') : ∀ a, 82 ≤ a → a ≤ 85 → M' a = M a := h.2.2.2.1
theorem Fp.c5 {M M' : Mm} (h : Fp M M') : ∀ a, 88 ≤ a → a ≤ 92 → M' a = M a := h.2.2.2.2.1
theorem Fp.m {M M' : Mm} (h : Fp M M') : ∀ k, k < 132 → M' 87 k = M 87 k := h.2.2.2.2.2.1
theorem Fp.z {M M' : Mm} (h : Fp M M') : ∀ k, k ≠ 11 → M' 0 k = M 0 k := h.2.2.2.2.2.2.1
theorem Fp.r {M M' : Mm} (h : Fp M M') : ∀ k, k ≠ 0 → k ≠ 11 → k < 27 → M' 81 k = M 81 k := h.2.2.2.2.2.2.2
theorem Fr.p {M M' : Mm} (F : Fr M M') : Fp M M' := ⟨fun a x y => F.c1 a x (by omega), F.c2, F.c3, F.c4, F.c5, F.m, F.z, F.r⟩
theorem Fp.tr {M M' M2 : Mm} (h : Fp M M') (h' : Fp M' M2) : Fp M M2 :=
  ⟨fun a x y => by rw [h'.c1 a x y, h.c1 a x y], fun a x y => by rw [h'.c2 a x y, h.c2 a x y], fun a x y => by rw [h'.c3 a x y, h.c3 a x y], fun a x y => by rw [h'.c4 a x y, h.c4 a x y], fun a x y => by rw [h'.c5 a x y, h.c5 a x y], fun k x => by rw [h'.m k x, h.m k x], fun k x => by rw [h'.z k x, h.z k x], fun k x y z => by rw [h'.r k x y z, h.r k x y z]⟩
theorem Fp.x {M M' M2 : Mm} (h : Fp M M') (f : ∀ a, a < 20 ∨ (30 ≤ a ∧ a ≤ 60) ∨ (73 ≤ a ∧ a ≤ 76) ∨ (81 ≤ a ∧ a ≤ 85) ∨ (87 ≤ a ∧ a ≤ 92) → M2 a = M' a) : Fp M M2 :=
  h.tr ⟨fun a _ _ => f a (by omega), fun a _ _ => f a (by omega), fun a _ _ => f a (by omega), fun a _ _ => f a (by omega), fun a _ _ => f a (by omega), fun k _ => by rw [f 87 (by omega)], fun k _ => by rw [f 0 (by omega)], fun k _ _ _ => by rw [f 81 (by omega)]⟩
theorem Fp.a {M M' : Mm} (h : Fp M M') (v : Int32) : Fp M (mset M' 0 11 v) := h.tr (fa M' v).p
theorem Fp.g {M M' : Mm} (h : Fp M M') : Fp M (gdM M') := h.tr (Fr.rfl' M').g.p
theorem IG.fp {M M' : Mm} {g : Nat} {G : Nat → Nat} {Q Q' : Pl} {mk : Nat} {Qm : Nat → Pl} {T T' : Nat} (h : IG M g G Q mk Qm T) (F : Fp M M') (K : CP M' 20 G Q') (H : RP M' G Q') (q : QW G Q' T') (hT : T ≤ T') : IG M' g G Q' mk Qm T' := by
  refine ⟨h.C.cong2 (fun a h1 h2 => F.c1 a h1 (by omega)), fun k hk => ?_, h.W, ?_, H, K, q, h.mk3, ?_, ?_, fun s hs => ?_, fun s hs => ?_, fun s hs => (h.mq s hs).up hT⟩
  · rw [F.c4 84 (by omega) (by omega)]; exact h.R k hk
  · rw [F.r 14 (by omega) (by omega) (by omega)]; exact h.hg
  · rw [F.z 10 (by omega)]; exact h.m0
  · rw [F.r 19 (by omega) (by omega) (by omega)]; exact h.m1
  · have := h.mk3
    exact KP.cong h.W (by omega) (h.mr s hs) F.m
  · have := h.mk3
    exact (h.mc s hs).cong7 (fun a h1 h2 => F.c2 a (by omega) (by omega))
theorem NT.fp {M M' : Mm} {n : Nat} {fp fm ft sn sk : Nat → Nat} (h : NT M n fp fm ft sn sk) (F : Fp M M') : NT M' n fp fm ft sn sk := by
  refine ⟨h.n30, ?_, ?_, fun k hk => ?_, fun p hp s hs t ht => ?_, fun c hc => ?_⟩
  · rw [F.c3 73 (by omega) (by omega)]; exact h.c
  · rw [F.r 26 (by omega) (by omega) (by omega)]; exact h.r
  · rw [F.c5 88 (by omega) (by omega), F.c5 89 (by omega) (by omega), F.c5 90 (by omega) (by omega)]; exact h.p k hk
  · rw [F.c3 74 (by omega) (by omega)]; exact h.f p hp s hs t ht
  · rw [F.c3 75 (by omega) (by omega), F.c3 76 (by omega) (by omega), F.c5 91 (by omega) (by omega), F.c5 92 (by omega) (by omega)]; exact h.s c hc
theorem TP.fp {M M' : Mm} {tl : Nat} (h : TP M tl) (F : Fp M M') : TP M' tl := by
  refine ⟨h.le, ?_, ?_, fun k hk => ?_⟩
  · rw [F.c1 15 (by omega) (by omega)]; exact h.c
  · rw [F.r 2 (by omega) (by omega) (by omega)]; exact h.r
  · rw [F.c1 16 (by omega) (by omega), F.c4 82 (by omega) (by omega)]; exact h.b k hk
theorem IC.fp {M M' : Mm} {g tl : Nat} (h : IC M g tl) (F : Fp M M') (ht : M' 0 11 = M' 81 11 ∧ M' 0 11 ≠ nI 4) : IC M' g tl := by
  obtain ⟨n, fp, fm, ft, sn, sk, N⟩ := h.nt
  refine ⟨h.gg, ?_, ?_, h.tp.fp F, ht.1, ?_, fun h4 => absurd h4 ht.2, ?_, ⟨n, fp, fm, ft, sn, sk, N.fp F⟩⟩
  · rw [F.z 8 (by omega)]; exact h.h8
  · rw [F.z 9 (by omega)]; exact h.h9
  · rw [F.z 12 (by omega), F.r 9 (by omega) (by omega) (by omega)]; exact h.lf
  · rw [F.r 20 (by omega) (by omega) (by omega)]; exact h.lo
theorem nI04 : nI 0 ≠ nI 4 := by decide
theorem op_start (x : Int32) (T : Nat) : Same (f_X9_start x) (f_X10_start x) T T := by
  intro M I0
  obtain ⟨g, tl, I, h⟩ := id I0
  unfold f_X9_start f_X10_start
  rcases t_game I h with ⟨e1, e2⟩ | ⟨G, Q, mk, Qm, D, e1, e2⟩
  · refine ⟨(nI 0), mset M 0 11 (nI 1), mset (gdM (mset M 0 11 (nI 1))) 81 11 (nI 1), ?_, ?_, I0.no (Fr.rfl' M) (by omega)⟩
    · rw [e1]; rfl
    · rw [r_good, bvs, if_pos (e2 _ (fg M _))]; rfl
  · have hgm : ∀ v, ¬ gdM (mset M 0 11 v) 81 14 = 0 := fun v => by rw [e2 _ (fg M v)]; decide
    by_cases hx : inr x 0 65536
    · obtain ⟨s, -, hs, rfl⟩ := hx
      obtain ⟨M1, a1, K1, f1⟩ := c_begin (M0 := M) (G := G) D.W (show PC 20 from Or.inl rfl) s
      obtain ⟨M2, a2, H2, f2⟩ := r_begin_RP (M0 := gdM (mset M1 0 11 (nI 0))) D.W (G := G) s
      have F1 : Fp M M1 := (Fr.rfl' M).p.x (fun a ha => f1 a (by omega))
      have F3 : Fp M (gdM (mset M1 0 11 (nI 0))) := (F1.a _).g
      have hgm1 : ¬ gdM (mset M1 0 11 (nI 0)) 81 14 = 0 := by rw [F3.r 14 (by omega) (by omega) (by omega), D.hg]; decide
      have F2 : Fp M M2 := F3.x (fun a ha => f2 a (by omega))
      refine ⟨nI 1, mset M1 0 11 (nI 0), M2, ?_, ?_, g, tl, I.fp F2 ⟨?_, ?_⟩, .inr ⟨G, bg0 s, mk, Qm, D.fp F2 ?_ H2 (bg0_QW D.W (by omega) T) (Nat.le_refl _)⟩⟩
      · rw [e1, bds, if_neg (by decide)]
        simp only [jns]
        rw [if_neg (by rw [nlt0 (by omega)]; exact id), if_pos (by rw [nlt (by omega) (by omega)]; omega), a1]
        rfl
      · rw [r_good, bvs, if_neg hgm1]
        rcases r_withinI (M := gdM (mset M1 0 11 (nI 0))) (nI s) (show 0 < 2 ^ 31 by decide) (show 65536 < 2 ^ 31 by decide) with ⟨-, h6⟩ | ⟨h6, -⟩
        · rw [h6, bds, if_neg (by decide), a2]; rfl
        · exact absurd ⟨s, Nat.zero_le _, hs, rfl⟩ h6
      · rw [f2 0 (by omega), f2 81 (by omega)]; unfold gdM; simp (disch := omega) only [ms1, ms1, ms2, ms3]
      · rw [f2 0 (by omega)]; unfold gdM; simp (disch := omega) only [ms1, ms1, ms2, ms3]; exact nI04
      · refine K1.cong7 (fun a h1 h2 => ?_)
        rw [f2 a (by omega)]
        unfold gdM
        rw [mset_off _ _ _ (by omega), mset_off _ _ _ (by omega), mset_off _ _ _ (by omega)]
    · refine ⟨(nI 0), mset M 0 11 (nI 2), mset (gdM (mset M 0 11 (nI 2))) 81 11 (nI 2), ?_, ?_, I0.no (Fr.rfl' M) (by omega)⟩
      · rw [e1, bds, if_neg (by decide)]
        simp only [jns]
        by_cases c : x < 0
        · rw [if_pos c]; rfl
        · rw [if_neg c]
          rcases i32 x with h7 | ⟨v, hv, rfl⟩
          · exact absurd h7 c
          · rw [if_neg (by rw [nlt hv (by omega)]; exact fun z => hx ⟨v, by omega, by omega, rfl⟩)]
            rfl
      · rw [r_good, bvs, if_neg (hgm _)]
        rcases r_withinI (M := gdM (mset M 0 11 (nI 2))) x (show 0 < 2 ^ 31 by decide) (show 65536 < 2 ^ 31 by decide) with ⟨h6, -⟩ | ⟨-, h6⟩
        · exact absurd h6 hx
        · rw [h6]; rfl
theorem ey_now {M : Mm} {G : Nat → Nat} (h : M 81 20 = -1) : Ey M G (G 3 / G 4) := .inl ⟨h, rfl⟩
/-- over or not, for both -/
theorem t_over {M : Mm} {g T : Nat} {G : Nat → Nat} {Q : Pl} {mk : Nat} {Qm : Nat → Pl} (D : IG M g G Q mk Qm T) :
    (Q.touch < 0 ∧ f_X3_isOver 20 M = some (nI 0, M) ∧ ∀ M', Fr M M' → M' 86 8 = nI 0) ∨
    (¬ Q.touch < 0 ∧ f_X3_isOver 20 M = some (nI 1, M) ∧ ∀ M', Fr M M' → M' 86 8 = nI 1) := by
  have h1 := c_isOver D.K
  by_cases h : Q.touch < 0
  · rw [if_pos h] at h1
    exact .inl ⟨h, h1, fun M' F => by rw [(D.fr F).H.over, if_pos h]⟩
  · rw [if_neg h] at h1
    exact .inr ⟨h, h1, fun M' F => by rw [(D.fr F).H.over, if_neg h]⟩
theorem rn_passed {G : Nat → Nat} {m : Nat} : ∀ {k : Nat} {Q : Pl}, Q.passed ≤ (rn G m k Q).passed
  | 0, _ => Nat.le_refl _
  | k + 1, Q => by
    rw [rn]
    split
    · have h1 := rn_passed (G := G) (m := m) (k := k) (Q := (nx G m Q).1)
      have h2 : (nx G m Q).1.passed = Q.passed + 1 := nx_passed
      omega
    · exact Nat.le_refl _
theorem op_tenths (x : Int32) (T : Nat) (hT : T < 900000) : Same (f_X9_tenths x) (f_X10_tenths x) T (T + 400) := by
  intro M I0
  obtain ⟨g, tl, I, h⟩ := id I0
  have I1 := I0.up (show T ≤ T + 400 by omega)
  unfold f_X9_tenths f_X10_tenths
  rcases t_game I h with ⟨e1, e2⟩ | ⟨G, Q, mk, Qm, D, e1, e2⟩
  · refine ⟨(-1 : Int32), mset M 0 11 (nI 1), mset (gdM (mset M 0 11 (nI 1))) 81 11 (nI 1), ?_, ?_, I1.no (Fr.rfl' M) (by omega)⟩
    · rw [e1]; rfl
    · rw [r_good, bvs, if_pos (e2 _ (fg M _))]; rfl
  · have hgm : ∀ v, ¬ gdM (mset M 0 11 v) 81 14 = 0 := fun v => by rw [e2 _ (fg M v)]; decide
    by_cases hx : inr x 1 100
    · obtain ⟨n, hn1, hn, rfl⟩ := hx
      have hw : ∀ M', f_X10_within (nI n) (nI 1) (nI 100) M' = some (nI 1, M') := fun M' => by
        rcases r_withinI (M := M') (nI n) (show 1 < 2 ^ 31 by decide) (show 100 < 2 ^ 31 by decide) with ⟨-, h6⟩ | ⟨h6, -⟩
        · exact h6
        · exact absurd ⟨n, hn1, hn, rfl⟩ h6
      have cls : ∀ K : Option (Int32 × Mm), (if nI n < nI 1 then K else if nI n ≤ nI 100 then (bd (f_X3_isOver 20 M) fun v34_8 M34_7 => if v34_8 = 0 then (lp_X9_tenths_49 (nI n) (fun (u19 : Int32) (M20 : Mm) => bd (f_X9_well u19 M20) fun v91_22 M91_21 => some (v91_22, M91_21)) N0 (nI 0) M34_7) else (bd (f_X9_refused (nI 6) M34_7) fun v43_24 M43_23 => some (v43_24, M43_23))) else K) = (bd (f_X3_isOver 20 M) fun v34_8 M34_7 => if v34_8 = 0 then (lp_X9_tenths_49 (nI n) (fun (u19 : Int32) (M20 : Mm) => bd (f_X9_well u19 M20) fun v91_22 M91_21 => some (v91_22, M91_21)) N0 (nI 0) M34_7) else (bd (f_X9_refused (nI 6) M34_7) fun v43_24 M43_23 => some (v43_24, M43_23))) := fun K => by
        rw [if_neg (by rw [nlt (by omega) (by omega)]; omega), if_pos (by rw [nle (by omega) (by omega)]; exact hn)]
      rcases t_over D with ⟨ht, o1, o2⟩ | ⟨ht, o1, o2⟩
      · have hps := D.qw.ps
        obtain ⟨M1, a1, K1, f1⟩ := c_tenthsLoop D.W (g := g) (n := n) (was := Q.passed) (fun (u19 : Int32) (M20 : Mm) => bd (f_X9_well u19 M20) fun v91_22 M91_21 => some (v91_22, M91_21)) hn (by omega) M I.h8 D.C n N0 Q T M D.K D.qw (by omega) (Nat.le_refl _) rfl (by unfold N0; omega) (fun _ _ => rfl)
        rw [Nat.sub_self] at a1
        have F1 : Fp M M1 := (Fr.rfl' M).p.x (fun a ha => f1 a (by omega))
        have F3 : Fp M (gdM (mset M1 0 11 (nI 0))) := (F1.a _).g
        have g1 : ∀ a, a ≠ 0 → a ≠ 81 → gdM (mset M1 0 11 (nI 0)) a = M1 a := fun a h1 h2 => by unfold gdM; rw [mset_off _ _ _ h2, mset_off _ _ _ h2, mset_off _ _ _ h1]
        have R3 : RG (gdM (mset M1 0 11 (nI 0))) G := fun k hk => by rw [F3.c4 84 (by omega) (by omega)]; exact D.R k hk
        have H3 : RP (gdM (mset M1 0 11 (nI 0))) G Q := RP.cong D.W D.H (fun k hk => by rw [g1 86 (by omega) (by omega), f1 86 (by omega)])
        have he3 : Ey (gdM (mset M1 0 11 (nI 0))) G (G 3 / G 4) := ey_now (by rw [F3.r 20 (by omega) (by omega) (by omega)]; exact I.lo)
        obtain ⟨M2, a2, H2, f2⟩ := r_tenthsLoop D.W (m := G 3 / G 4) (n := n) (was := Q.passed) (fun (M16 : Mm) => some (((M16 86 4) - nI Q.passed), M16)) hn (by omega) (gdM (mset M1 0 11 (nI 0))) n N0 Q T _ R3 he3 H3 D.qw (by omega) ht (Nat.le_refl _) rfl (by unfold N0; omega) (fun _ _ _ => rfl)
        have F2 : Fp M M2 := F3.x (fun a ha => f2 a (by omega) (by omega))
        have hgm1 : ¬ gdM (mset M1 0 11 (nI 0)) 81 14 = 0 := by rw [F3.r 14 (by omega) (by omega) (by omega), D.hg]; decide
        refine ⟨nI ((rn G (G 3 / G 4) n Q).passed - Q.passed), mset M1 0 11 (nI 0), M2, ?_, ?_, g, tl, I.fp F2 ⟨?_, ?_⟩, .inr ⟨G, _, mk, Qm, D.fp F2 ?_ H2 ((rn_QW D.W D.qw).up (show T + n ≤ T + 400 by omega)) (by omega)⟩⟩
        · rw [e1, bds, if_neg (by decide)]
          simp only [jns]
          rw [cls, o1, bds, if_pos (by decide), a1]
          rfl
        · rw [r_good, bvs, if_neg hgm1, hw, bds, if_neg (by decide), H3.over, if_pos ht, if_neg (by decide), H3.passed, a2, H2.passed, nsub rn_passed]
        · rw [f2 0 (by omega) (by omega), f2 81 (by omega) (by omega)]; unfold gdM; simp (disch := omega) only [ms1, ms1, ms2, ms3]
        · rw [f2 0 (by omega) (by omega)]; unfold gdM; simp (disch := omega) only [ms1, ms1, ms2, ms3]; exact nI04
        · refine K1.cong7 (fun a h1 h2 => ?_)
          rw [f2 a (by omega) (by omega), g1 a (by omega) (by omega)]
      · refine ⟨(-1 : Int32), mset M 0 11 (nI 6), mset (gdM (mset M 0 11 (nI 6))) 81 11 (nI 6), ?_, ?_, I1.no (Fr.rfl' M) (by omega)⟩
        · rw [e1, bds, if_neg (by decide)]
          simp only [jns]
          rw [cls, o1]
          rfl
        · rw [r_good, bvs, if_neg (hgm _), hw, bds, if_neg (by decide), if_pos (o2 _ (fg M _))]
          rfl
    · refine ⟨(-1 : Int32), mset M 0 11 (nI 2), mset (gdM (mset M 0 11 (nI 2))) 81 11 (nI 2), ?_, ?_, I1.no (Fr.rfl' M) (by omega)⟩
      · rw [e1, bds, if_neg (by decide)]
        simp only [jns]
        by_cases c : x < nI 1
        · rw [if_pos c]; rfl
        · rw [if_neg c]
          rcases i32 x with h7 | ⟨v, hv, rfl⟩
          · exact absurd (Int32.lt_of_lt_of_le h7 (by decide : (0 : Int32) ≤ nI 1)) c
          · rw [nlt hv (by omega)] at c
            rw [if_neg (by rw [nle hv (by omega)]; exact fun z => hx ⟨v, by omega, by omega, rfl⟩)]
            rfl
      · rw [r_good, bvs, if_neg (hgm _)]
        rcases r_withinI (M := gdM (mset M 0 11 (nI 2))) x (show 1 < 2 ^ 31 by decide) (show 100 < 2 ^ 31 by decide) with ⟨h6, -⟩ | ⟨-, h6⟩
        · exact absurd h6 hx
        · rw [h6]; rfl
theorem Lf_le {G : Nat → Nat} (W : GW G) (Q : Pl) : Lf G Q ≤ En G (G 92) ∧ En G (G 92) ≤ 400 := by
  have h1 := En_le W (Nat.le_refl _)
  have h2 := W.parts
  unfold Lf
  omega
theorem op_round (T : Nat) (hT : T < 900000) : Same f_X9_round f_X10_round T (T + 400) := by
  intro M I0
  obtain ⟨g, tl, I, h⟩ := id I0
  have I1 := I0.up (show T ≤ T + 400 by omega)
  unfold f_X9_round f_X10_round
  rcases t_game I h with ⟨e1, e2⟩ | ⟨G, Q, mk, Qm, D, e1, e2⟩
  · refine ⟨(-1 : Int32), mset M 0 11 (nI 1), mset (gdM (mset M 0 11 (nI 1))) 81 11 (nI 1), ?_, ?_, I1.no (Fr.rfl' M) (by omega)⟩
    · rw [e1]; rfl
    · rw [r_good, bvs, if_pos (e2 _ (fg M _))]; rfl
  · have hgm : ∀ v, ¬ gdM (mset M 0 11 v) 81 14 = 0 := fun v => by rw [e2 _ (fg M v)]; decide
    rcases t_over D with ⟨ht, o1, o2⟩ | ⟨ht, o1, o2⟩
    · have hl := Lf_le D.W Q
      obtain ⟨M1, a1, K1, f1⟩ := c_roundLoop D.W (g := g) (n := En G (G 92)) (fun (u16 : Int32) (M17 : Mm) => bd (f_X9_well u16 M17) fun v78_19 M78_18 => some (v78_19, M78_18)) (by omega) M I.h8 D.C (Lf G Q) N0 Q T 0 M D.K D.qw (by omega) ht (Nat.le_refl _) (by omega) (by unfold N0; omega) (fun _ _ => rfl)
      have F1 : Fp M M1 := (Fr.rfl' M).p.x (fun a ha => f1 a (by omega))
      have F3 : Fp M (gdM (mset M1 0 11 (nI 0))) := (F1.a _).g
      have g1 : ∀ a, a ≠ 0 → a ≠ 81 → gdM (mset M1 0 11 (nI 0)) a = M1 a := fun a h1 h2 => by unfold gdM; rw [mset_off _ _ _ h2, mset_off _ _ _ h2, mset_off _ _ _ h1]
      have R3 : RG (gdM (mset M1 0 11 (nI 0))) G := fun k hk => by rw [F3.c4 84 (by omega) (by omega)]; exact D.R k hk
      have H3 : RP (gdM (mset M1 0 11 (nI 0))) G Q := RP.cong D.W D.H (fun k hk => by rw [g1 86 (by omega) (by omega), f1 86 (by omega)])
      have he3 : Ey (gdM (mset M1 0 11 (nI 0))) G (G 3 / G 4) := ey_now (by rw [F3.r 20 (by omega) (by omega) (by omega)]; exact I.lo)
      obtain ⟨M2, a2, z2, H2, q2, f2⟩ := r_roundLoop D.W (m := G 3 / G 4) (fun (u7 : Int32) (M8 : Mm) => if u7 = 0 then (some ((nI 2), M8)) else (some ((nI 1), M8))) (gdM (mset M1 0 11 (nI 0))) (Lf G Q) N0 Q T _ R3 he3 H3 D.qw (by omega) ht (Nat.le_refl _) (by unfold N0; omega) (fun _ _ _ => rfl)
      have F2 : Fp M M2 := F3.x (fun a ha => f2 a (by omega) (by omega))
      have hgm1 : ¬ gdM (mset M1 0 11 (nI 0)) 81 14 = 0 := by rw [F3.r 14 (by omega) (by omega) (by omega), D.hg]; decide
      refine ⟨nI (rd G (G 3 / G 4) (Lf G Q) Q).2, mset M1 0 11 (nI 0), M2, ?_, ?_, g, tl, I.fp F2 ⟨?_, ?_⟩, .inr ⟨G, _, mk, Qm, D.fp F2 ?_ H2 (q2.up (by omega)) (by omega)⟩⟩
      · rw [e1, bds, if_neg (by decide), o1, bds, if_pos (by decide), I.h8, bgv I.gg, c_verse D.C D.W, bds, a1]
        rfl
      · rw [r_good, bvs, if_neg hgm1, H3.over, if_pos ht, if_neg (by decide), a2]
        rcases z2 with z2 | z2
        · rw [z2]; rfl
        · rw [z2]; rfl
      · rw [f2 0 (by omega) (by omega), f2 81 (by omega) (by omega)]; unfold gdM; simp (disch := omega) only [ms1, ms1, ms2, ms3]
      · rw [f2 0 (by omega) (by omega)]; unfold gdM; simp (disch := omega) only [ms1, ms1, ms2, ms3]; exact nI04
      · refine K1.cong7 (fun a h1 h2 => ?_)
        rw [f2 a (by omega) (by omega), g1 a (by omega) (by omega)]
    · refine ⟨(-1 : Int32), mset M 0 11 (nI 6), mset (gdM (mset M 0 11 (nI 6))) 81 11 (nI 6), ?_, ?_, I1.no (Fr.rfl' M) (by omega)⟩
      · rw [e1, bds, if_neg (by decide), o1]
        rfl
      · rw [r_good, bvs, if_neg (hgm _), if_pos (o2 _ (fg M _))]
        rfl
/-- a creeper brought to a place -/
def brg (c a : Nat) (Q : Pl) : Pl := (mkPl Q.part Q.tenth Q.loud Q.looked Q.passed Q.seed Q.touch (fun k => if k = c then a else Q.at_ k) (fun k => if k = c then 0 else Q.into k) Q.how Q.seen Q.wrong Q.there)
theorem brg_QW {G : Nat → Nat} (W : GW G) {Q : Pl} {T c a : Nat} (h : QW G Q T) (ht : Q.touch < 0) (ha : a < G 0) : QW G (brg c a Q) T := by
  have ho := h.on W ht
  refine ⟨h.part, .inl ⟨ho.2, ho.1.1, fun k hk => ?_⟩, fun k hk => ?_, h.how, h.hw, h.there, h.seed, h.loud, h.cnt, h.lk, h.ps⟩
  · show (if k = c then a else Q.at_ k) < G 0
    have := ho.1.2 k hk
    split <;> omega
  · show (if k = c then 0 else Q.into k) < G (61 + k)
    have h1 := h.into k hk
    have h2 := (W.crp k hk).2.1
    split <;> omega
theorem op_bring (x y : Int32) (T : Nat) : Same (f_X9_bring x y) (f_X10_bring x y) T T := by
  intro M I0
  obtain ⟨g, tl, I, h⟩ := id I0
  unfold f_X9_bring f_X10_bring
  rcases t_creeper I h x with ⟨e1, e2⟩ | ⟨G, Q, mk, Qm, c, D, hc, rfl, e1, e2⟩
  · refine ⟨(nI 0), mset M 0 11 (nI 1), mset (gdM (mset M 0 11 (nI 1))) 81 11 (nI 1), ?_, ?_, I0.no (Fr.rfl' M) (by omega)⟩
    · rw [e1]; rfl
    · rw [r_good, bvs, e2 _ (fg M _)]; rfl
  · have hcr := D.W.creepers
    have hlo := D.W.long
    have hp : ∀ M', Fr M M' → M' 84 0 - nI 1 = nI (G 0 - 1) := fun M' F => by rw [(D.fr F).R 0 (by decide), nsub (by omega)]
    rcases c_isBelowWall D.C D.W I.h8 y with ⟨⟨a, ha, rfl⟩, ew⟩ | ⟨ha, ew⟩
    · have hw : ∀ M', f_X10_within (nI a) (nI 0) (nI (G 0 - 1)) M' = some (nI 1, M') := fun M' => by
        rcases r_withinI (M := M') (nI a) (show 0 < 2 ^ 31 by decide) (show G 0 - 1 < 2 ^ 31 by omega) with ⟨-, h6⟩ | ⟨h6, -⟩
        · exact h6
        · exact absurd ⟨a, by omega, by omega, rfl⟩ h6
      rcases t_over D with ⟨ht, o1, o2⟩ | ⟨ht, o1, o2⟩
      · have F1 : Fp M (mset (mset M 21 c (nI a)) 22 c (nI 0)) := (Fr.rfl' M).p.x (fun b hb => by rw [mset_off _ _ _ (by omega), mset_off _ _ _ (by omega)])
        have F3 := (F1.a (nI 0)).g
        have F2 : Fp M (mset (mset (gdM (mset (mset (mset M 21 c (nI a)) 22 c (nI 0)) 0 11 (nI 0))) 86 (9 + c) (nI a)) 86 (14 + c) (nI 0)) := F3.x (fun b hb => by rw [mset_off _ _ _ (by omega), mset_off _ _ _ (by omega)])
        have e3 : f_X10_isCreeper (nI c) (gdM (mset (mset (mset M 21 c (nI a)) 22 c (nI 0)) 0 11 (nI 0))) = some (nI 1, gdM (mset (mset (mset M 21 c (nI a)) 22 c (nI 0)) 0 11 (nI 0))) := by
          have R3 : RG (gdM (mset (mset (mset M 21 c (nI a)) 22 c (nI 0)) 0 11 (nI 0))) G := fun k hk => by rw [F3.c4 84 (by omega) (by omega)]; exact D.R k hk
          rcases r_isCreeper R3 D.W (by rw [F3.r 14 (by omega) (by omega) (by omega)]; exact D.hg) (nI c) with ⟨-, h6⟩ | ⟨h6, -⟩
          · exact h6
          · exact absurd ⟨c, hc, rfl⟩ h6
        refine ⟨nI 1, mset (mset (mset M 21 c (nI a)) 22 c (nI 0)) 0 11 (nI 0), _, ?_, ?_, g, tl, I.fp F2 ⟨?_, ?_⟩, .inr ⟨G, brg c a Q, mk, Qm, D.fp F2 ?_ ?_ (brg_QW D.W D.qw ht ha) (Nat.le_refl _)⟩⟩
        · rw [e1, bds, if_neg (by decide), ew, bds, if_neg (by decide), o1, bds, if_pos (by decide), p_put (p := 20) (k := 1) (.inl rfl) (by omega) (by omega) (by omega), bvs, p_put (p := 20) (k := 2) (.inl rfl) (by omega) (by omega) (by omega), bvs]
          rfl
        · have z1 : gdM (mset (mset (mset M 21 c (nI a)) 22 c (nI 0)) 0 11 (nI 0)) 84 0 - nI 1 = nI (G 0 - 1) := by rw [F3.c4 84 (by omega) (by omega), D.R 0 (by decide), nsub (by omega)]
          have z2 : gdM (mset (mset (mset M 21 c (nI a)) 22 c (nI 0)) 0 11 (nI 0)) 86 8 = nI 0 := by
            have h8 := o2 M (Fr.rfl' M)
            unfold gdM
            simp (disch := omega) only [h8, ms1, ms2, ms3]
          rw [r_good, bvs, e3, bds, if_neg (by decide), z1, hw, bds, if_neg (by decide), z2, if_neg (by decide)]
          simp (disch := omega) only [jns, bds, bvs, lts, gdt, nadd, nmul, nsub, nle, nlt, neq, nz0, nlt0, nle0, n0le, n0lt, nclamp, ndiv, nmod2, gdi, gdn, if_pos, if_neg, if_true, if_false]
        · unfold gdM; simp (disch := omega) only [ms1, ms1, ms2, ms3]
        · unfold gdM; simp (disch := omega) only [ms1, ms1, ms2, ms3]; exact nI04
        · refine ⟨?_, ?_, ?_, ?_, ?_, ?_, fun k hk => ?_, fun k hk => ?_, fun k hk => ?_, fun k hk => ?_, fun k hk => ?_, fun k hk => ?_⟩
          · unfold gdM; simp (disch := omega) only [ms1, ms1, ms2, ms3]; exact D.K.said
          · unfold gdM; simp (disch := omega) only [ms1, ms1, ms2, ms3]; exact D.K.loud
          · unfold gdM; simp (disch := omega) only [ms1, ms1, ms2, ms3]; exact D.K.looked
          · unfold gdM; simp (disch := omega) only [ms1, ms1, ms2, ms3]; exact D.K.passed
          · unfold gdM; simp (disch := omega) only [ms1, ms1, ms2, ms3]; exact D.K.touch
          · unfold gdM; simp (disch := omega) only [ms1, ms1, ms2, ms3]; exact D.K.seed
          · show _ = nI (if k = c then a else Q.at_ k)
            unfold gdM
            by_cases hk2 : k = c
            · subst hk2; rw [if_pos rfl]; simp (disch := omega) only [ms1, ms1, ms2, ms3]
            · rw [if_neg hk2]; simp (disch := omega) only [ms1, ms1, ms2, ms3]; exact D.K.at_ k hk
          · show _ = nI (if k = c then 0 else Q.into k)
            unfold gdM
            by_cases hk2 : k = c
            · subst hk2; rw [if_pos rfl]; simp (disch := omega) only [ms1, ms1, ms2, ms3]
            · rw [if_neg hk2]; simp (disch := omega) only [ms1, ms1, ms2, ms3]; exact D.K.into k hk
          · unfold gdM; simp (disch := omega) only [ms1, ms1, ms2, ms3]; exact D.K.how k hk
          · unfold gdM; simp (disch := omega) only [ms1, ms1, ms2, ms3]; exact D.K.seen k hk
          · unfold gdM; simp (disch := omega) only [ms1, ms1, ms2, ms3]; exact D.K.wrong k hk
          · unfold gdM; simp (disch := omega) only [ms1, ms1, ms2, ms3]; exact D.K.there k hk
        · refine ⟨?_, ?_, ?_, ?_, ?_, ?_, ?_, ?_, ?_, fun k hk => ?_, fun k hk => ?_, fun k hk => ?_, fun k hk => ?_, fun k hk => ?_, fun k hk => ?_⟩
          · unfold gdM; simp (disch := omega) only [ms1, ms1, ms2, ms3]; exact D.H.part
          · unfold gdM; simp (disch := omega) only [ms1, ms1, ms2, ms3]; exact D.H.tenth
          · unfold gdM; simp (disch := omega) only [ms1, ms1, ms2, ms3]; exact D.H.loud
          · unfold gdM; simp (disch := omega) only [ms1, ms1, ms2, ms3]; exact D.H.looked
          · unfold gdM; simp (disch := omega) only [ms1, ms1, ms2, ms3]; exact D.H.passed
          · unfold gdM; simp (disch := omega) only [ms1, ms1, ms2, ms3]; exact D.H.touch
          · unfold gdM; simp (disch := omega) only [ms1, ms1, ms2, ms3]; exact D.H.seed
          · rw [if_pos (show (brg c a Q).touch < 0 from ht)]
            have h7 := D.H.caught
            rw [if_pos ht] at h7
            unfold gdM; simp (disch := omega) only [ms1, ms1, ms2, ms3]; exact h7
          · rw [if_pos (show (brg c a Q).touch < 0 from ht)]
            have h7 := D.H.over
            rw [if_pos ht] at h7
            unfold gdM; simp (disch := omega) only [ms1, ms1, ms2, ms3]; exact h7
          · show _ = nI (if k = c then a else Q.at_ k)
            unfold gdM
            by_cases hk2 : k = c
            · subst hk2; rw [if_pos rfl]; simp (disch := omega) only [ms1, ms1, ms2, ms3]
            · rw [if_neg hk2]; simp (disch := omega) only [ms1, ms1, ms2, ms3]; exact D.H.at_ k hk
          · show _ = nI (if k = c then 0 else Q.into k)
            unfold gdM
            by_cases hk2 : k = c
            · subst hk2; rw [if_pos rfl]; simp (disch := omega) only [ms1, ms1, ms2, ms3]
            · rw [if_neg hk2]; simp (disch := omega) only [ms1, ms1, ms2, ms3]; exact D.H.into k hk
          · unfold gdM; simp (disch := omega) only [ms1, ms1, ms2, ms3]; exact D.H.how k hk
          · unfold gdM; simp (disch := omega) only [ms1, ms1, ms2, ms3]; exact D.H.seen k hk
          · unfold gdM; simp (disch := omega) only [ms1, ms1, ms2, ms3]; exact D.H.wrong k hk
          · unfold gdM; simp (disch := omega) only [ms1, ms1, ms2, ms3]; exact D.H.there k hk
      · refine ⟨(nI 0), mset M 0 11 (nI 6), mset (gdM (mset M 0 11 (nI 6))) 81 11 (nI 6), ?_, ?_, I0.no (Fr.rfl' M) (by omega)⟩
        · rw [e1, bds, if_neg (by decide), ew, bds, if_neg (by decide), o1]
          rfl
        · rw [r_good, bvs, e2 _ (fg M _), bds, if_neg (by decide), hp _ (fg M _), hw, bds, if_neg (by decide), if_pos (o2 _ (fg M _))]
          rfl
    · refine ⟨(nI 0), mset M 0 11 (nI 2), mset (gdM (mset M 0 11 (nI 2))) 81 11 (nI 2), ?_, ?_, I0.no (Fr.rfl' M) (by omega)⟩
      · rw [e1, bds, if_neg (by decide), ew]
        rfl
      · rw [r_good, bvs, e2 _ (fg M _), bds, if_neg (by decide), hp _ (fg M _)]
        rcases r_withinI (M := gdM (mset M 0 11 (nI 2))) y (show 0 < 2 ^ 31 by decide) (show G 0 - 1 < 2 ^ 31 by omega) with ⟨⟨v, h6, h7, h8⟩, -⟩ | ⟨-, h6⟩
        · exact absurd ⟨v, by omega, h8⟩ ha
        · rw [h6]; rfl
/-- a creeper put right -/
def rgt (c : Nat) (Q : Pl) : Pl := (mkPl Q.part Q.tenth Q.loud Q.looked Q.passed Q.seed Q.touch (fun k => if k = c then Q.there c else Q.at_ k) (fun k => if k = c then 0 else Q.into k) (fun k => if k = c then nI 0 else Q.how k) Q.seen (fun k => if k = c then Q.wrong c - 1 else Q.wrong k) Q.there)
theorem rgt_QW {G : Nat → Nat} (W : GW G) {Q : Pl} {T c : Nat} (hc : c < G 95) (h : QW G Q T) (ht : Q.touch < 0) : QW G (rgt c Q) T := by
  have ho := h.on W ht
  refine ⟨h.part, .inl ⟨ho.2, ho.1.1, fun k hk => ?_⟩, fun k hk => ?_, fun k hk => ?_, fun k hk h5 => ?_, h.there, h.seed, h.loud, fun k hk => ?_, h.lk, h.ps⟩
  · show (if k = c then Q.there c else Q.at_ k) < G 0
    have := ho.1.2 k hk
    have := h.there c hc
    split <;> omega
  · show (if k = c then 0 else Q.into k) < G (61 + k)
    have h1 := h.into k hk
    have h2 := (W.crp k hk).2.1
    split <;> omega
  · show (if k = c then nI 0 else Q.how k) = -2 ∨ ∃ h, h < 6 ∧ (if k = c then nI 0 else Q.how k) = nI h
    by_cases hk2 : k = c
    · rw [if_pos hk2]; exact .inr ⟨0, by omega, rfl⟩
    · rw [if_neg hk2]; exact h.how k hk
  · have h5 : (if k = c then nI 0 else Q.how k) = nI 5 := h5
    show 1 ≤ (if k = c then Q.wrong c - 1 else Q.wrong k)
    by_cases hk2 : k = c
    · rw [if_pos hk2] at h5
      exact absurd h5 (by decide)
    · rw [if_neg hk2] at h5 ⊢
      exact h.hw k hk h5
  · show Q.seen k + (if k = c then Q.wrong c - 1 else Q.wrong k) ≤ Q.looked
    have h1 := h.cnt k hk
    by_cases hk2 : k = c
    · rw [if_pos hk2, ← hk2]; omega
    · rw [if_neg hk2]; exact h1
