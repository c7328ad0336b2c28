/-! A TENTH, on: the class goes on. -/
theorem c_goOn {M : Mm} {G : Nat → Nat} {g p : Nat} (C : CG M g G) (W : GW G) (P : PC p) {m T : Nat} {Q : Pl} (hm : m < 100) (H : CP M p G Q) (hQ : QW G Q T) (ho : On G Q) (ht : Q.touch = -2) (hT : T < 1000000) :
    ∃ M', f_X3_goOn p g (nI m) M = some (nI (nx G m Q).2, M') ∧ CP M' p G (nx G m Q).1 ∧ ∀ a, a < p ∨ p + 9 < a → M' a = M a := by
  have h2 := W.creepers
  have hl := W.long
  have hpar := W.parts
  have hpg := P.ge
  have hg := C.hg
  have hTn := Tn_le W hQ.part
  have hEn := En_le W (show Q.part ≤ G 92 by have := hQ.part; omega)
  have hloud := hQ.loud
  have hps := hQ.ps
  have hto := ho.1
  have hpp := hQ.part
  have hsl := Sl_le W Q.part Q.tenth Q.into Q.at_
  have h40 : ∀ c, c < G 95 → Q.at_ c < 100 := fun c hc => by have := ho.2 c hc; omega
  unfold f_X3_goOn
  obtain ⟨M1, e1, A⟩ := c_creepAll (loud := Q.loud) (into := Q.into) (at_ := Q.at_) C W P hQ.part ho.1 H.said hQ.into h40 ⟨fun _ _ _ _ _ => rfl, fun c hc => by omega, fun c hc => by omega, fun c hc => by omega, fun c _ hc => H.into c hc, fun c _ hc => H.at_ c hc, H.loud, fun _ _ => rfl⟩
  rw [e1]
  have x10 : M1 p 10 = nI (En G Q.part + Q.tenth) := by rw [A.rest 10 (by decide)]; exact H.said
  have x13 : M1 p 13 = nI Q.passed := by rw [A.rest 13 (by decide)]; exact H.passed
  simp only [bvs]
  rw [ms3 _ _ (show 13 ≠ 10 by decide), x10, x13, nadd, nadd]
  obtain ⟨X, hX⟩ : ∃ X, X = mset (mset M1 p 10 (nI (En G Q.part + Q.tenth + 1))) p 13 (nI (Q.passed + 1)) := ⟨_, rfl⟩
  rw [← hX]
  have fX : ∀ a, a ≠ p → X a = M1 a := fun a h => by rw [hX, mset_off _ _ _ h, mset_off _ _ _ h]
  have CX : CG X g G := C.cong (fun a h => by rw [fX a (by omega), A.fr a (by omega) (by omega) (by omega) (by omega)])
  have aX : ∀ c, c < G 95 → X (p + 1) c = nI (At1 G Q.part Q.tenth Q.into Q.at_ c) ∧ At1 G Q.part Q.tenth Q.into Q.at_ c ≤ G 0 := fun c hc => ⟨by rw [fX _ (by omega)]; exact A.at1 c hc, by have := At1_le (G := G) (part := Q.part) (tenth := Q.tenth) (into := Q.into) (at_ := Q.at_) (c := c); have := ho.2 c hc; omega⟩
  rw [c_firstAtWall CX W P aX]
  simp only [bds]
  obtain ⟨Y, hY⟩ : ∃ Y, Y = mset X p 14 (crp G Q).touch := ⟨_, rfl⟩
  rw [show mset X p 14 (Tw G (At1 G Q.part Q.tenth Q.into Q.at_) (G 95) (-2)) = Y from hY.symm]
  have fY : ∀ a, a ≠ p → Y a = M1 a := fun a h => by rw [hY, mset_off _ _ _ h, fX a h]
  have CY : CG Y g G := C.cong (fun a h => by rw [fY a (by omega), A.fr a (by omega) (by omega) (by omega) (by omega)])
  have y9 : Y p 9 = nI Q.seed := by rw [hY, hX]; simp (disch := omega) only [ms1, ms1, ms2, ms3]; rw [A.rest 9 (by decide)]; exact H.seed
  have y10 : Y p 10 = nI (En G Q.part + Q.tenth + 1) := by rw [hY, hX]; simp (disch := omega) only [ms1, ms1, ms2, ms3]
  have y11 : Y p 11 = nI (crp G Q).loud := by rw [hY, hX]; simp (disch := omega) only [ms1, ms1, ms2, ms3]; exact A.loud
  have y12 : Y p 12 = nI Q.looked := by rw [hY, hX]; simp (disch := omega) only [ms1, ms1, ms2, ms3]; rw [A.rest 12 (by decide)]; exact H.looked
  have y13 : Y p 13 = nI (Q.passed + 1) := by rw [hY, hX]; simp (disch := omega) only [ms1, ms1, ms2, ms3]
  have y14 : Y p 14 = (crp G Q).touch := by rw [hY]; simp (disch := omega) only [ms1, ms1, ms2, ms3]
  have ya : ∀ c, c < G 95 → Y (p + 1) c = nI ((crp G Q).at_ c) := fun c hc => by rw [fY _ (by omega)]; exact A.at1 c hc
  have yi : ∀ c, c < G 95 → Y (p + 2) c = nI ((crp G Q).into c) := fun c hc => by rw [fY _ (by omega)]; exact A.into1 c hc
  have yw : ∀ c, c < G 95 → Y (p + 7) c = nI (Gb G Q.part Q.tenth c).toNat := fun c hc => by rw [fY _ (by omega)]; exact A.went c hc
  have yk : ∀ a, a ≠ p → a ≠ p + 1 → a ≠ p + 2 → a ≠ p + 7 → Y a = M a := fun a h0 h1 h2 h7 => by rw [fY a h0, A.fr a h0 h1 h2 h7]
  have yh : ∀ c, c < G 95 → Y (p + 3) c = Q.how c := fun c hc => by rw [yk _ (by omega) (by omega) (by omega) (by omega)]; exact H.how c hc
  have ys : ∀ c, c < G 95 → Y (p + 4) c = nI (Q.seen c) := fun c hc => by rw [yk _ (by omega) (by omega) (by omega) (by omega)]; exact H.seen c hc
  have yr : ∀ c, c < G 95 → Y (p + 5) c = nI (Q.wrong c) := fun c hc => by rw [yk _ (by omega) (by omega) (by omega) (by omega)]; exact H.wrong c hc
  have yt : ∀ c, c < G 95 → Y (p + 6) c = nI (Q.there c) := fun c hc => by rw [yk _ (by omega) (by omega) (by omega) (by omega)]; exact H.there c hc
  have hin1 : ∀ c, c < G 95 → (crp G Q).into c < 100 := fun c hc => by
    have := In1_lt (G := G) (part := Q.part) (tenth := Q.tenth) (hQ.into c hc)
    have := (W.crp c hc).2.2.1
    show In1 G Q.part Q.tenth Q.into c < 100
    omega
  unfold f_X3_isOver
  rw [y14]
  rcases Tw_or (G := G) (at_ := At1 G Q.part Q.tenth Q.into Q.at_) (n := G 95) with ⟨h1, h4⟩ | ⟨i, h1, h5, h3, h4⟩
  · have ht5 : (crp G Q).touch = -2 := h4 (-2)
    have htl : (crp G Q).touch < 0 := by rw [ht5]; decide
    have ha1 : ∀ c, c < G 95 → (crp G Q).at_ c < G 0 := fun c hc => Nat.lt_of_le_of_ne (aX c hc).2 (h1 c hc)
    rw [if_pos htl]
    simp only [bds]
    rw [if_pos (show nI 0 = 0 from rfl)]
    unfold f_X3_turnsNow
    have hpo : f_X0_partOf g (nI (En G Q.part + Q.tenth + 1) - nI 1) Y = some (nI Q.part, Y) := by
      rw [nsub (by omega)]
      exact c_partOf CY W hQ.part (by omega) (Or.inr (by rw [En_succ]; omega)) (by omega)
    have hen := c_endOf CY W hQ.part
    rw [En_succ] at hen
    rw [y10, hpo]
    simp only [bds]
    rw [hen]
    simp only [bds]
    unfold nx
    rw [if_pos htl]
    by_cases c1 : Q.tenth + 1 < Tn G Q.part
    · rw [if_pos c1]
      rw [if_neg (by rw [y10, neq (by omega) (by omega)]; omega)]
      simp only [bds]
      rw [if_pos (show nI 0 = 0 from rfl)]
      exact ⟨Y, rfl, ⟨by rw [y10, Nat.add_assoc]; rfl, y11, y12, y13, y14, y9, ya, yi, yh, ys, yr, yt⟩, fun a h => yk a (by omega) (by omega) (by omega) (by omega)⟩
    · rw [if_neg c1]
      rw [if_pos (by rw [y10, show En G Q.part + Q.tenth + 1 = En G Q.part + Tn G Q.part from by omega])]
      have z1 : ¬ (nI 1 = 0) := by decide
      by_cases c2 : Q.part + 1 = G 92
      · rw [if_pos c2]
        obtain ⟨M3, e3, H3, f3⟩ := c_look (M := Y) (Q := crp G Q) (wn := Gb G Q.part Q.tenth) (m := m) (s0 := 0) CY W P hm ⟨by simp (disch := omega) only [ms1, ms1, ms2, ms3]; try rfl, by simp (disch := omega) only [ms1, ms1, ms2, ms3]; exact y11, by simp (disch := omega) only [ms1, ms1, ms2, ms3]; exact y12, by simp (disch := omega) only [ms1, ms1, ms2, ms3]; exact y13, by simp (disch := omega) only [ms1, ms1, ms2, ms3]; exact y14, by simp (disch := omega) only [ms1, ms1, ms2, ms3]; exact y9, fun c hc => by simp (disch := omega) only [ms1, ms1, ms2, ms3]; exact ya c hc, fun c hc => by simp (disch := omega) only [ms1, ms1, ms2, ms3]; exact yi c hc, fun c hc => by simp (disch := omega) only [ms1, ms1, ms2, ms3]; exact yh c hc, fun c hc => by simp (disch := omega) only [ms1, ms1, ms2, ms3]; exact ys c hc, fun c hc => by simp (disch := omega) only [ms1, ms1, ms2, ms3]; exact yr c hc, fun c hc => by simp (disch := omega) only [ms1, ms1, ms2, ms3]; exact yt c hc⟩ yw hin1 ha1 hQ.seed
        refine ⟨M3, ?_, H3, fun a h => by rw [f3 a h, yk a (by omega) (by omega) (by omega) (by omega)]⟩
        have hpp2 : G 92 - 1 = Q.part := by omega
        simp only [jns]
        rw [CY.f9, nsub (by omega), hpp2, if_pos rfl]
        simp only [bds]
        rw [if_neg z1]
        exact e3
      · rw [if_neg c2]
        have hdr := c_draw y9 hQ.seed
        have hsd := Sd_lt Q.seed
        have htu := W.turns Q.part (by omega)
        have hlo : (crp G Q).loud < 1000000 := by
          show Q.loud + Sm (Lo1 G Q.part Q.tenth Q.into Q.at_) (G 95) < 1000000
          omega
        have CZ : CG (mset Y p 9 (nI (Sd Q.seed))) g G := CY.cong (fun a h => by rw [mset_off _ _ _ (by omega)])
        have hch := f_at (M := mset Y p 9 (nI (Sd Q.seed))) (ly4 CY) (by decide) (show Q.part < 5 by omega)
        rw [CZ.cha Q.part (by omega)] at hch
        have hne : ¬ nI Q.part = nI (G 92 - 1) := by rw [neq (by omega) (by omega)]; omega
        simp only [jns]
        rw [CY.f9, nsub (by omega), if_neg hne, hdr]
        simp only [bds]
        rw [hch]
        simp only [bds]
        rw [ms3 _ _ (show 11 ≠ 9 by decide), y11, nadd]
        have zf : ∀ a, a ≠ p → mset Y p 9 (nI (Sd Q.seed)) a = Y a := fun a h => mset_off _ _ _ h
        by_cases c3 : Sd Q.seed % 100 < G (6 + Q.part) + (crp G Q).loud
        · rw [if_pos c3]
          rw [if_neg (show ¬ nI (G (6 + Q.part) + (crp G Q).loud) ≤ nI (Sd Q.seed % 100) by rw [nle (by omega) (by omega)]; omega)]
          simp only [bds]
          rw [if_neg z1]
          obtain ⟨M3, e3, H3, f3⟩ := c_look (M := mset Y p 9 (nI (Sd Q.seed))) (Q := (mkPl (crp G Q).part (crp G Q).tenth (crp G Q).loud (crp G Q).looked (crp G Q).passed (Sd Q.seed) (crp G Q).touch (crp G Q).at_ (crp G Q).into (crp G Q).how (crp G Q).seen (crp G Q).wrong (crp G Q).there)) (wn := Gb G Q.part Q.tenth) (m := m) (s0 := 0) CZ W P hm ⟨by simp (disch := omega) only [ms1, ms1, ms2, ms3]; try rfl, by simp (disch := omega) only [ms1, ms1, ms2, ms3]; exact y11, by simp (disch := omega) only [ms1, ms1, ms2, ms3]; exact y12, by simp (disch := omega) only [ms1, ms1, ms2, ms3]; exact y13, by simp (disch := omega) only [ms1, ms1, ms2, ms3]; exact y14, by simp (disch := omega) only [ms1, ms1, ms2, ms3]; try rfl, fun c hc => by simp (disch := omega) only [ms1, ms1, ms2, ms3]; exact ya c hc, fun c hc => by simp (disch := omega) only [ms1, ms1, ms2, ms3]; exact yi c hc, fun c hc => by simp (disch := omega) only [ms1, ms1, ms2, ms3]; exact yh c hc, fun c hc => by simp (disch := omega) only [ms1, ms1, ms2, ms3]; exact ys c hc, fun c hc => by simp (disch := omega) only [ms1, ms1, ms2, ms3]; exact yr c hc, fun c hc => by simp (disch := omega) only [ms1, ms1, ms2, ms3]; exact yt c hc⟩ (fun c hc => by simp (disch := omega) only [ms1, ms1, ms2, ms3]; exact yw c hc) hin1 ha1 hsd
          exact ⟨M3, e3, H3, fun a h => by rw [f3 a h, zf a (by omega), yk a (by omega) (by omega) (by omega) (by omega)]⟩
        · rw [if_neg c3]
          rw [if_pos (show nI (G (6 + Q.part) + (crp G Q).loud) ≤ nI (Sd Q.seed % 100) by rw [nle (by omega) (by omega)]; omega)]
          simp only [bds]
          rw [if_pos (show nI 0 = 0 from rfl)]
          exact ⟨_, rfl, ⟨by simp (disch := omega) only [ms1, ms1, ms2, ms3]; rw [y10]; exact congrArg nI (show En G Q.part + Q.tenth + 1 = En G Q.part + Tn G Q.part + 0 by omega), by simp (disch := omega) only [ms1, ms1, ms2, ms3]; exact y11, by simp (disch := omega) only [ms1, ms1, ms2, ms3]; exact y12, by simp (disch := omega) only [ms1, ms1, ms2, ms3]; exact y13, by simp (disch := omega) only [ms1, ms1, ms2, ms3]; exact y14, by simp (disch := omega) only [ms1, ms1, ms2, ms3]; try rfl, fun c hc => by simp (disch := omega) only [ms1, ms1, ms2, ms3]; exact ya c hc, fun c hc => by simp (disch := omega) only [ms1, ms1, ms2, ms3]; exact yi c hc, fun c hc => by simp (disch := omega) only [ms1, ms1, ms2, ms3]; exact yh c hc, fun c hc => by simp (disch := omega) only [ms1, ms1, ms2, ms3]; exact ys c hc, fun c hc => by simp (disch := omega) only [ms1, ms1, ms2, ms3]; exact yr c hc, fun c hc => by simp (disch := omega) only [ms1, ms1, ms2, ms3]; exact yt c hc⟩, fun a h => by rw [zf a (by omega), yk a (by omega) (by omega) (by omega) (by omega)]⟩
  · have ht5 : (crp G Q).touch = nI i := h4 (-2)
    have htl : ¬ (crp G Q).touch < 0 := by rw [ht5, nlt0 (by omega)]; exact id
    rw [if_neg htl]
    simp only [bds]
    rw [if_neg (show ¬ nI 1 = 0 by decide)]
    unfold nx
    rw [if_neg htl]
    exact ⟨Y, rfl, ⟨by rw [y10, Nat.add_assoc]; rfl, y11, y12, y13, y14, y9, ya, yi, yh, ys, yr, yt⟩, fun a h => yk a (by omega) (by omega) (by omega) (by omega)⟩
