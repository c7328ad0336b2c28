/-! A TENTH, on: the reference's tenth. -/
theorem At1_le {G : Nat → Nat} {part tenth : Nat} {into at_ : Nat → Nat} {c : Nat} : At1 G part tenth into at_ c ≤ at_ c + 1 := by
  unfold At1
  split <;> omega
theorem In1_lt {G : Nat → Nat} {part tenth : Nat} {into : Nat → Nat} {c : Nat} (h : into c < G (61 + c)) : In1 G part tenth into c < G (61 + c) := by
  unfold In1 Sp1
  split
  · omega
  · rename_i h1
    simp only [decide_eq_true_eq] at h1
    omega
theorem Lo1_le {G : Nat → Nat} (W : GW G) {part tenth : Nat} {into at_ : Nat → Nat} {c : Nat} : Lo1 G part tenth into at_ c ≤ 99 := by
  unfold Lo1
  split
  · exact Ld_le W _ _
  · exact Nat.zero_le _
theorem Sl_le {G : Nat → Nat} (W : GW G) (part tenth : Nat) (into at_ : Nat → Nat) : Sm (Lo1 G part tenth into at_) (G 95) ≤ 495 := by
  have h := Sm_le (f := Lo1 G part tenth into at_) (b := 99) (n := G 95) (fun c _ => Lo1_le W)
  have h2 : G 95 * 99 ≤ 5 * 99 := Nat.mul_le_mul_right _ W.creepers.2
  omega
/-- not over -/
def On (G : Nat → Nat) (Q : Pl) : Prop := Q.tenth < Tn G Q.part ∧ ∀ c, c < G 95 → Q.at_ c < G 0
theorem QW.on {G : Nat → Nat} {Q : Pl} {T : Nat} (W : GW G) (h : QW G Q T) (ht : Q.touch < 0) : On G Q ∧ Q.touch = -2 := by
  rcases h.st with ⟨h1, h2, h3⟩ | ⟨k, hk, h1, -⟩
  · exact ⟨⟨h2, h3⟩, h1⟩
  · rw [h1] at ht
    rw [nlt0 (by have := W.creepers; omega)] at ht
    exact ht.elim
theorem r_tenth {M : Mm} {G : Nat → Nat} (R : RG M G) (W : GW G) {m T : Nat} {Q : Pl} (he : Ey M G m) (H : RP M G Q) (hQ : QW G Q T) (ho : On G Q) (ht : Q.touch = -2) (hT : T < 1000000) :
    ∃ M', f_X10_tenth M = some (nI (if (nx G m Q).2 = 1 then 1 else 0), M') ∧ RP M' G (nx G m Q).1 ∧ ∀ a, a ≠ 86 → a ≠ 93 → M' a = M a := by
  have h2 := W.creepers
  have hl := W.long
  have hpar := W.parts
  have hTn := Tn_le W hQ.part
  have hEn := En_le W (show Q.part ≤ G 92 by have := hQ.part; omega)
  have hloud := hQ.loud
  have hps := hQ.ps
  have hto := ho.1
  have hpp := hQ.part
  have hsl := Sl_le W Q.part Q.tenth Q.into Q.at_
  have h40 : ∀ c, c < G 95 → Q.at_ c < 100 := fun c hc => by have := ho.2 c hc; omega
  have hin : ∀ c, c < G 95 → Q.into c < 100 := fun c hc => by have := hQ.into c hc; have := (W.crp c hc).2.2.1; omega
  unfold f_X10_tenth
  obtain ⟨M1, e1, A⟩ := r_creep (loud := Q.loud) (into := Q.into) (at_ := Q.at_) R W hQ.part (show Q.tenth < 10000 by omega) H.part H.tenth hin h40 _ ⟨fun _ _ => rfl, fun c hc => by omega, fun c hc => by omega, fun c hc => by omega, fun c _ hc => H.into c hc, fun c _ hc => H.at_ c hc, H.loud, fun _ _ _ => rfl⟩
  rw [e1]
  have x4 : M1 86 4 = nI Q.passed := by rw [A.rest 4 (by decide) (by omega)]; exact H.passed
  have x1 : M1 86 1 = nI Q.tenth := by rw [A.rest 1 (by decide) (by omega)]; exact H.tenth
  simp only [lts]
  rw [ms3 _ _ (show 1 ≠ 4 by decide), x4, x1, nadd, nadd, ms2 _ _ (show 84 ≠ 86 by decide), ms2 _ _ (show 84 ≠ 86 by decide), A.fr 84 (by decide), R 95 (by decide)]
  obtain ⟨X, hX⟩ : ∃ X, X = mset (mset M1 86 4 (nI (Q.passed + 1))) 86 1 (nI (Q.tenth + 1)) := ⟨_, rfl⟩
  rw [← hX]
  have fX : ∀ a, a ≠ 86 → X a = M a := fun a h => by rw [hX, mset_off _ _ _ h, mset_off _ _ _ h, A.fr a h]
  have RX : RG X G := fun k hk => by rw [fX 84 (by decide)]; exact R k hk
  have aX : ∀ c, c < G 95 → X 86 (9 + c) = nI (At1 G Q.part Q.tenth Q.into Q.at_ c) ∧ At1 G Q.part Q.tenth Q.into Q.at_ c ≤ G 0 := fun c hc => ⟨by rw [hX]; simp (disch := omega) only [ms1, ms1, ms2, ms3]; exact A.at1 c hc, by have := At1_le (G := G) (part := Q.part) (tenth := Q.tenth) (into := Q.into) (at_ := Q.at_) (c := c); have := ho.2 c hc; omega⟩
  obtain ⟨M2, e2, f2, r2, t2⟩ := r_touch (M0 := X) RX W aX _ (G 95) N0 X (-2) (Nat.le_refl _) (by unfold N0; omega) (fun _ _ => rfl) (fun _ _ => rfl) (by rw [hX]; simp (disch := omega) only [ms1, ms1, ms2, ms3]; rw [A.rest 5 (by decide) (by omega), H.touch, ht])
  rw [e2]
  have R2 : RG M2 G := fun k hk => by rw [f2 84 (by decide)]; exact RX k hk
  have g2 : ∀ a, a ≠ 86 → M2 a = M a := fun a h => by rw [f2 a h, fX a h]
  have m0 : M2 86 0 = nI Q.part := by rw [r2 0 (by decide), hX]; simp (disch := omega) only [ms1, ms1, ms2, ms3]; rw [A.rest 0 (by decide) (by omega)]; exact H.part
  have m1 : M2 86 1 = nI (Q.tenth + 1) := by rw [r2 1 (by decide), hX]; simp (disch := omega) only [ms1, ms1, ms2, ms3]
  have m2 : M2 86 2 = nI (crp G Q).loud := by rw [r2 2 (by decide), hX]; simp (disch := omega) only [ms1, ms1, ms2, ms3]; exact A.loud
  have m3 : M2 86 3 = nI Q.looked := by rw [r2 3 (by decide), hX]; simp (disch := omega) only [ms1, ms1, ms2, ms3]; rw [A.rest 3 (by decide) (by omega)]; exact H.looked
  have m4 : M2 86 4 = nI (Q.passed + 1) := by rw [r2 4 (by decide), hX]; simp (disch := omega) only [ms1, ms1, ms2, ms3]
  have m5 : M2 86 5 = (crp G Q).touch := t2
  have m6 : M2 86 6 = nI Q.seed := by rw [r2 6 (by decide), hX]; simp (disch := omega) only [ms1, ms1, ms2, ms3]; rw [A.rest 6 (by decide) (by omega)]; exact H.seed
  have m7 : M2 86 7 = nI 0 := by rw [r2 7 (by decide), hX]; simp (disch := omega) only [ms1, ms1, ms2, ms3]; rw [A.rest 7 (by decide) (by omega), H.caught, ht, if_pos (by decide)]
  have m8 : M2 86 8 = nI 0 := by rw [r2 8 (by decide), hX]; simp (disch := omega) only [ms1, ms1, ms2, ms3]; rw [A.rest 8 (by decide) (by omega), H.over, ht, if_pos (by decide)]
  have ma : ∀ c, c < G 95 → M2 86 (9 + c) = nI ((crp G Q).at_ c) := fun c hc => by rw [r2 (9 + c) (by omega)]; exact (aX c hc).1
  have mi : ∀ c, c < G 95 → M2 86 (14 + c) = nI ((crp G Q).into c) := fun c hc => by rw [r2 (14 + c) (by omega), hX]; simp (disch := omega) only [ms1, ms1, ms2, ms3]; exact A.into1 c hc
  have mw : ∀ c, c < G 95 → M2 86 (39 + c) = nI (Gb G Q.part Q.tenth c).toNat := fun c hc => by rw [r2 (39 + c) (by omega), hX]; simp (disch := omega) only [ms1, ms1, ms2, ms3]; exact A.went c hc
  have mk : ∀ k, 19 ≤ k → k < 39 → M2 86 k = M 86 k := fun k h h' => by rw [r2 k (by omega), hX]; simp (disch := omega) only [ms1, ms1, ms2, ms3]; exact A.rest k (by omega) (by omega)
  have hin1 : ∀ c, c < G 95 → (crp G Q).into c < 100 := fun c hc => by
    have := In1_lt (G := G) (part := Q.part) (tenth := Q.tenth) (hQ.into c hc)
    have := (W.crp c hc).2.2.1
    show In1 G Q.part Q.tenth Q.into c < 100
    omega
  rcases Tw_or (G := G) (at_ := At1 G Q.part Q.tenth Q.into Q.at_) (n := G 95) with ⟨h1, h4⟩ | ⟨i, h1, h5, h3, h4⟩
  · have ht5 : (crp G Q).touch = -2 := h4 (-2)
    have htl : (crp G Q).touch < 0 := by rw [ht5]; decide
    have ha1 : ∀ c, c < G 95 → (crp G Q).at_ c < G 0 := fun c hc => Nat.lt_of_le_of_ne (aX c hc).2 (h1 c hc)
    simp only [m5]
    rw [if_pos htl, m0, r_tenthsOf R2 W hQ.part, bds, m1]
    unfold nx
    rw [if_pos htl]
    by_cases c1 : Q.tenth + 1 < Tn G Q.part
    · rw [if_pos c1]
      simp (disch := omega) only [jns, bds, bvs, lts, gdt, nadd, nmul, nsub, nle, nlt, neq, nz0, nlt0, nle0, n0le, n0lt, nclamp, ndiv, nmod2, gdi, gdn, if_pos, if_neg, if_true, if_false]
      refine ⟨M2, rfl, ⟨m0, m1, m2, m3, m4, m5, m6, by rw [m7]; exact (congrArg nI (if_pos htl)).symm, by rw [m8]; exact (congrArg nI (if_pos htl)).symm, ma, mi, fun c hc => by rw [mk _ (by omega) (by omega)]; exact H.how c hc, fun c hc => by rw [mk _ (by omega) (by omega)]; exact H.seen c hc, fun c hc => by rw [mk _ (by omega) (by omega)]; exact H.wrong c hc, fun c hc => by rw [mk _ (by omega) (by omega)]; exact H.there c hc⟩, fun a h _ => g2 a h⟩
    · rw [if_neg c1]
      have he2 : ∀ Y : Mm, (∀ a, a ≠ 86 → Y a = M2 a) → Ey Y G m := fun Y hY => by unfold Ey; rw [hY 81 (by decide), g2 81 (by decide)]; exact he
      by_cases c2 : Q.part + 1 = G 92
      · rw [if_pos c2]
        have hpp2 : G 92 - 1 = Q.part := by omega
        obtain ⟨M3, e3, H3, f3⟩ := r_look (M := mset (mset M2 86 0 (nI (Q.part + 1))) 86 1 (nI 0)) (Q := (mkPl (Q.part + 1) (0) (crp G Q).loud (crp G Q).looked (crp G Q).passed (crp G Q).seed (crp G Q).touch (crp G Q).at_ (crp G Q).into (crp G Q).how (crp G Q).seen (crp G Q).wrong (crp G Q).there)) (wn := Gb G Q.part Q.tenth) (m := m) (fun k hk => by simp (disch := omega) only [ms1, ms1, ms2, ms3]; exact R2 k hk) W (he2 _ (fun a h => by rw [mset_off _ _ _ h, mset_off _ _ _ h])) ⟨by simp (disch := omega) only [ms1, ms1, ms2, ms3]; try rfl, by simp (disch := omega) only [ms1, ms1, ms2, ms3]; try rfl, by simp (disch := omega) only [ms1, ms1, ms2, ms3]; exact m2, by simp (disch := omega) only [ms1, ms1, ms2, ms3]; exact m3, by simp (disch := omega) only [ms1, ms1, ms2, ms3]; exact m4, by simp (disch := omega) only [ms1, ms1, ms2, ms3]; exact m5, by simp (disch := omega) only [ms1, ms1, ms2, ms3]; exact m6, by simp (disch := omega) only [ms1, ms1, ms2, ms3]; rw [m7]; exact (congrArg nI (if_pos htl)).symm, by simp (disch := omega) only [ms1, ms1, ms2, ms3]; rw [m8]; exact (congrArg nI (if_pos htl)).symm, fun c hc => by simp (disch := omega) only [ms1, ms1, ms2, ms3]; exact ma c hc, fun c hc => by simp (disch := omega) only [ms1, ms1, ms2, ms3]; exact mi c hc, fun c hc => by simp (disch := omega) only [ms1, ms1, ms2, ms3]; rw [mk _ (by omega) (by omega)]; exact H.how c hc, fun c hc => by simp (disch := omega) only [ms1, ms1, ms2, ms3]; rw [mk _ (by omega) (by omega)]; exact H.seen c hc, fun c hc => by simp (disch := omega) only [ms1, ms1, ms2, ms3]; rw [mk _ (by omega) (by omega)]; exact H.wrong c hc, fun c hc => by simp (disch := omega) only [ms1, ms1, ms2, ms3]; rw [mk _ (by omega) (by omega)]; exact H.there c hc⟩ (fun c hc => by simp (disch := omega) only [ms1, ms1, ms2, ms3]; exact mw c hc) hin1 ha1 hQ.seed htl rfl
        refine ⟨M3, ?_, H3, fun a h h' => by rw [f3 a h h', mset_off _ _ _ h, mset_off _ _ _ h, g2 a h]⟩
        have z1 : ¬ (nI 1 = 0) := by decide
        simp (disch := omega) only [R2 _, m0, hpp2, z1, e3, jns, bds, bvs, lts, gdt, nadd, nmul, nsub, nle, nlt, neq, nz0, nlt0, nle0, n0le, n0lt, nclamp, ndiv, nmod2, gdi, gdn, if_pos, if_neg, if_true, if_false]
        rfl
      · rw [if_neg c2]
        have hdr := r_draw m6 hQ.seed
        have hsd := Sd_lt Q.seed
        have htu := W.turns Q.part (by omega)
        have hlo : (crp G Q).loud < 1000000 := by
          show Q.loud + Sm (Lo1 G Q.part Q.tenth Q.into Q.at_) (G 95) < 1000000
          omega
        by_cases c3 : Sd Q.seed % 100 < G (6 + Q.part) + (crp G Q).loud
        · rw [if_pos c3]
          obtain ⟨M3, e3, H3, f3⟩ := r_look (M := mset (mset (mset M2 86 6 (nI (Sd Q.seed))) 86 0 (nI (Q.part + 1))) 86 1 (nI 0)) (Q := (mkPl (Q.part + 1) (0) (crp G Q).loud (crp G Q).looked (crp G Q).passed (Sd Q.seed) (crp G Q).touch (crp G Q).at_ (crp G Q).into (crp G Q).how (crp G Q).seen (crp G Q).wrong (crp G Q).there)) (wn := Gb G Q.part Q.tenth) (m := m) (fun k hk => by simp (disch := omega) only [ms1, ms1, ms2, ms3]; exact R2 k hk) W (he2 _ (fun a h => by rw [mset_off _ _ _ h, mset_off _ _ _ h, mset_off _ _ _ h])) ⟨by simp (disch := omega) only [ms1, ms1, ms2, ms3]; try rfl, by simp (disch := omega) only [ms1, ms1, ms2, ms3]; try rfl, by simp (disch := omega) only [ms1, ms1, ms2, ms3]; exact m2, by simp (disch := omega) only [ms1, ms1, ms2, ms3]; exact m3, by simp (disch := omega) only [ms1, ms1, ms2, ms3]; exact m4, by simp (disch := omega) only [ms1, ms1, ms2, ms3]; exact m5, by simp (disch := omega) only [ms1, ms1, ms2, ms3]; try rfl, by simp (disch := omega) only [ms1, ms1, ms2, ms3]; rw [m7]; exact (congrArg nI (if_pos htl)).symm, by simp (disch := omega) only [ms1, ms1, ms2, ms3]; rw [m8]; exact (congrArg nI (if_pos htl)).symm, fun c hc => by simp (disch := omega) only [ms1, ms1, ms2, ms3]; exact ma c hc, fun c hc => by simp (disch := omega) only [ms1, ms1, ms2, ms3]; exact mi c hc, fun c hc => by simp (disch := omega) only [ms1, ms1, ms2, ms3]; rw [mk _ (by omega) (by omega)]; exact H.how c hc, fun c hc => by simp (disch := omega) only [ms1, ms1, ms2, ms3]; rw [mk _ (by omega) (by omega)]; exact H.seen c hc, fun c hc => by simp (disch := omega) only [ms1, ms1, ms2, ms3]; rw [mk _ (by omega) (by omega)]; exact H.wrong c hc, fun c hc => by simp (disch := omega) only [ms1, ms1, ms2, ms3]; rw [mk _ (by omega) (by omega)]; exact H.there c hc⟩ (fun c hc => by simp (disch := omega) only [ms1, ms1, ms2, ms3]; exact mw c hc) hin1 ha1 hsd htl rfl
          refine ⟨M3, ?_, H3, fun a h h' => by rw [f3 a h h', mset_off _ _ _ h, mset_off _ _ _ h, mset_off _ _ _ h, g2 a h]⟩
          have z1 : ¬ (nI 1 = 0) := by decide
          simp (disch := omega) only [R2 _, m0, m2, z1, hdr, ms1, ms2, ms3, e3, jns, bds, bvs, lts, gdt, nadd, nmul, nsub, nle, nlt, neq, nz0, nlt0, nle0, n0le, n0lt, nclamp, ndiv, nmod2, gdi, gdn, if_pos, if_neg, if_true, if_false]
          rfl
        · rw [if_neg c3]
          refine ⟨mset (mset (mset M2 86 6 (nI (Sd Q.seed))) 86 0 (nI (Q.part + 1))) 86 1 (nI 0), ?_, ⟨by simp (disch := omega) only [ms1, ms1, ms2, ms3]; try rfl, by simp (disch := omega) only [ms1, ms1, ms2, ms3]; try rfl, by simp (disch := omega) only [ms1, ms1, ms2, ms3]; exact m2, by simp (disch := omega) only [ms1, ms1, ms2, ms3]; exact m3, by simp (disch := omega) only [ms1, ms1, ms2, ms3]; exact m4, by simp (disch := omega) only [ms1, ms1, ms2, ms3]; exact m5, by simp (disch := omega) only [ms1, ms1, ms2, ms3]; try rfl, by simp (disch := omega) only [ms1, ms1, ms2, ms3]; rw [m7]; exact (congrArg nI (if_pos htl)).symm, by simp (disch := omega) only [ms1, ms1, ms2, ms3]; rw [m8]; exact (congrArg nI (if_pos htl)).symm, fun c hc => by simp (disch := omega) only [ms1, ms1, ms2, ms3]; exact ma c hc, fun c hc => by simp (disch := omega) only [ms1, ms1, ms2, ms3]; exact mi c hc, fun c hc => by simp (disch := omega) only [ms1, ms1, ms2, ms3]; rw [mk _ (by omega) (by omega)]; exact H.how c hc, fun c hc => by simp (disch := omega) only [ms1, ms1, ms2, ms3]; rw [mk _ (by omega) (by omega)]; exact H.seen c hc, fun c hc => by simp (disch := omega) only [ms1, ms1, ms2, ms3]; rw [mk _ (by omega) (by omega)]; exact H.wrong c hc, fun c hc => by simp (disch := omega) only [ms1, ms1, ms2, ms3]; rw [mk _ (by omega) (by omega)]; exact H.there c hc⟩, fun a h h' => by rw [mset_off _ _ _ h, mset_off _ _ _ h, mset_off _ _ _ h, g2 a h]⟩
          simp (disch := omega) only [R2 _, m0, m2, hdr, ms1, ms2, ms3, jns, bds, bvs, lts, gdt, nadd, nmul, nsub, nle, nlt, neq, nz0, nlt0, nle0, n0le, n0lt, nclamp, ndiv, nmod2, gdi, gdn, if_pos, if_neg, if_true, if_false]
          rfl
  · have ht5 : (crp G Q).touch = nI i := h4 (-2)
    have htl : ¬ (crp G Q).touch < 0 := by rw [ht5, nlt0 (by omega)]; exact id
    simp only [m5]
    rw [if_neg htl]
    unfold nx
    rw [if_neg htl]
    obtain ⟨M3, e3, f3, r3, o3, k3⟩ := r_run R2 W (fun c hc => ⟨ma c hc, (aX c hc).2⟩) m5
    rw [e3]
    refine ⟨M3, rfl, ⟨by rw [r3 _ (by decide) (by decide)]; exact m0, by rw [r3 _ (by decide) (by decide)]; exact m1, by rw [r3 _ (by decide) (by decide)]; exact m2, by rw [r3 _ (by decide) (by decide)]; exact m3, by rw [r3 _ (by decide) (by decide)]; exact m4, by rw [r3 _ (by decide) (by decide)]; exact m5, by rw [r3 _ (by decide) (by decide)]; exact m6, by rw [k3, if_neg htl], by rw [o3, if_neg htl], fun c hc => by rw [r3 _ (by omega) (by omega)]; exact ma c hc, fun c hc => by rw [r3 _ (by omega) (by omega)]; exact mi c hc, fun c hc => by rw [r3 _ (by omega) (by omega), mk _ (by omega) (by omega)]; exact H.how c hc, fun c hc => by rw [r3 _ (by omega) (by omega), mk _ (by omega) (by omega)]; exact H.seen c hc, fun c hc => by rw [r3 _ (by omega) (by omega), mk _ (by omega) (by omega)]; exact H.wrong c hc, fun c hc => by rw [r3 _ (by omega) (by omega), mk _ (by omega) (by omega)]; exact H.there c hc⟩, fun a h _ => by rw [f3 a h, g2 a h]⟩
