/-! HE LOOKS: at so many, in their order. -/
theorem mset_id {M : Mm} {q k : Nat} {v : Int32} (h : M q k = v) : mset M q k v = M := by
  funext a i
  rw [msd]
  split
  · rename_i hh
    rw [hh.1, hh.2, h]
  · rfl
/-- how many he looks at -/
def Ey (M : Mm) (G : Nat → Nat) (m : Nat) : Prop := (M 81 20 = -1 ∧ m = G 3 / G 4) ∨ (M 81 20 = nI m ∧ m < 100)
theorem Ey_lt {M : Mm} {G : Nat → Nat} {m : Nat} (W : GW G) (h : Ey M G m) : m < 100 := by
  rcases h with ⟨-, h⟩ | ⟨-, h⟩
  · have h1 := W.looks
    rw [h]
    exact dle (by omega)
  · exact h
theorem r_lookMany {M : Mm} {G : Nat → Nat} {m : Nat} (R : RG M G) (W : GW G) (h : Ey M G m) : f_X10_lookMany M = some (nI m, M) := by
  have h1 := W.looks
  have h2 := W.eye
  unfold f_X10_lookMany
  rcases h with ⟨h, h3⟩ | ⟨h, h3⟩
  · rw [h, if_pos (by decide)]
    simp (disch := omega) only [R _, jns, bds, bvs, lts, gdt, nadd, nmul, nsub, nle, nlt, neq, nz0, nlt0, nle0, n0le, n0lt, nclamp, ndiv, nmod2, gdi, gdn, if_pos, if_neg, if_true, if_false]
    rw [h3]
  · rw [h]
    simp (disch := omega) only [jns, bds, bvs, lts, gdt, nadd, nmul, nsub, nle, nlt, neq, nz0, nlt0, nle0, n0le, n0lt, nclamp, ndiv, nmod2, gdi, gdn, if_pos, if_neg, if_true, if_false]
abbrev B1 (G : Nat → Nat) (M0 : Mm) (at_ : Nat → Nat) (sh : Nat → Int32) (s i : Nat) (M : Mm) : Prop := (∀ a, a ≠ 86 → M a = M0 a) ∧ (∀ c, c < G 95 → M 86 (19 + c) = HwB G at_ sh s i c) ∧ (M 86 6 = nI (SdB G at_ sh s i)) ∧ (∀ k, k ≠ 6 → (k < 19 ∨ 24 ≤ k) → M 86 k = M0 86 k)
theorem B1.fr {G : Nat → Nat} {M0 : Mm} {at_ : Nat → Nat} {sh : Nat → Int32} {s i : Nat} {M : Mm} (h : B1 G M0 at_ sh s i M) : ∀ a, a ≠ 86 → M a = M0 a := h.1
theorem B1.how {G : Nat → Nat} {M0 : Mm} {at_ : Nat → Nat} {sh : Nat → Int32} {s i : Nat} {M : Mm} (h : B1 G M0 at_ sh s i M) : ∀ c, c < G 95 → M 86 (19 + c) = HwB G at_ sh s i c := h.2.1
theorem B1.seed {G : Nat → Nat} {M0 : Mm} {at_ : Nat → Nat} {sh : Nat → Int32} {s i : Nat} {M : Mm} (h : B1 G M0 at_ sh s i M) : M 86 6 = nI (SdB G at_ sh s i) := h.2.2.1
theorem B1.rest {G : Nat → Nat} {M0 : Mm} {at_ : Nat → Nat} {sh : Nat → Int32} {s i : Nat} {M : Mm} (h : B1 G M0 at_ sh s i M) : ∀ k, k ≠ 6 → (k < 19 ∨ 24 ≤ k) → M 86 k = M0 86 k := h.2.2.2
def Shn (G : Nat → Nat) (sh : Nat → Int32) : Prop := ∀ c, c < G 95 → sh c = -1 ∨ ∃ n, n < 10000 ∧ sh c = nI n
theorem r_find {M : Mm} {G : Nat → Nat} (R : RG M G) (W : GW G) {at_ : Nat → Nat} (ha : ∀ c, c < G 95 → M 86 (9 + c) = nI (at_ c) ∧ at_ c < 100) {i : Nat} (hi : i < G 95) (k : Int32 → Mm → Option Mm) : lp_X10_look_158 (nI i) k N0 (nI 0) M = k (nI (oC at_ (G 95) i)) M := by
  have h2 := W.creepers
  obtain ⟨h3, h4⟩ := Ord_oC at_ (G 95) i hi
  refine lp0 (fun f j => lp_X10_look_158 (nI i) k f (nI j) M) (oC at_ (G 95) i) (by omega) (fun f j hj => ?_) (fun f => ?_)
  · have hb := Ah_bound at_ (G 95) j
    have hne : Ah at_ (G 95) j ≠ i := fun z => by
      have := Ah_inj (show j < G 95 by omega) h3 (z.trans h4.symm)
      omega
    rw [lp_X10_look_158]
    simp (disch := omega) only [r_ahead R W ha (show j < G 95 by omega), jns, bds, bvs, lts, gdt, nadd, nmul, nsub, nle, nlt, neq, nz0, nlt0, nle0, n0le, n0lt, nclamp, ndiv, nmod2, gdi, gdn, if_pos, if_neg, if_true, if_false]
  · rw [lp_X10_look_158]
    simp (disch := omega) only [r_ahead R W ha h3, h4, jns, bds, bvs, lts, gdt, nadd, nmul, nsub, nle, nlt, neq, nz0, nlt0, nle0, n0le, n0lt, nclamp, ndiv, nmod2, gdi, gdn, if_pos, if_neg, if_true, if_false]
theorem r_look2 {M0 : Mm} {G : Nat → Nat} (R : RG M0 G) (W : GW G) {at_ : Nat → Nat} {sh : Nat → Int32} {s m : Nat} (hs : s < 65537) (he : Ey M0 G m) (ha : ∀ c, c < G 95 → M0 86 (9 + c) = nI (at_ c) ∧ at_ c < G 0) (hsh : ∀ c, c < G 95 → M0 93 c = sh c) (hn : Shn G sh) (k : Mm → Option Mm) (h0 : B1 G M0 at_ sh s 0 M0) :
    ∃ M', lp_X10_look_137 k N0 (nI 0) M0 = k M' ∧ B1 G M0 at_ sh s (min m (G 95)) M' := by
  have h2 := W.creepers
  have hl := W.long
  have hm := Ey_lt W he
  have hmin1 := Nat.min_le_left m (G 95)
  have hmin2 := Nat.min_le_right m (G 95)
  refine lpM (fun f i M => lp_X10_look_137 k f (nI i) M) (min m (G 95)) (B1 G M0 at_ sh s) k (by omega) (fun f i M hi2 T => ?_) (fun f M T => ?_) M0 h0
  · have R' : RG M G := fun k hk => by rw [T.fr 84 (by decide)]; exact R k hk
    have he' : Ey M G m := by unfold Ey; rw [T.fr 81 (by decide)]; exact he
    have ha' : ∀ c, c < G 95 → M 86 (9 + c) = nI (at_ c) ∧ at_ c < 100 := fun c hc => ⟨by rw [T.rest (9 + c) (by omega) (by omega)]; exact (ha c hc).1, by have := (ha c hc).2; omega⟩
    have hsd := SdB_lt (G := G) (at_ := at_) (sh := sh) hs i
    have hsd' := Sd_lt (SdB G at_ sh s i)
    obtain ⟨h3, h4⟩ := Ord_oC at_ (G 95) i (by omega)
    have h1 := W.crp _ h3
    have hh := r_isHidden R' W ha' h3
    have es : M 93 (oC at_ (G 95) i) = sh (oC at_ (G 95) i) := by rw [T.fr 93 (by decide)]; exact hsh _ h3
    have ea := (ha' _ h3).1
    have ha2 := (ha _ h3).2
    have hss := W.sees
    refine ⟨mset (mset M 86 6 (nI (SdB G at_ sh s (i + 1)))) 86 (19 + oC at_ (G 95) i) (hv G at_ sh (SdB G at_ sh s i) (oC at_ (G 95) i)).1, ?_, ?_⟩
    · rw [lp_X10_look_137]
      simp (disch := omega) only [R' _, r_lookMany R' W he', r_find R' W ha' (show i < G 95 by omega), hh, jns, bds, bvs, lts, gdt, nadd, nmul, nsub, nle, nlt, neq, nz0, nlt0, nle0, n0le, n0lt, nclamp, ndiv, nmod2, gdi, gdn, if_pos, if_neg, if_true, if_false]
      rw [SdB]
      unfold hv
      cases hd : Hd G at_ (oC at_ (G 95) i)
      · rcases hn _ h3 with hs1 | ⟨n, hn1, hn2⟩
        · rw [es, hs1]
          rw [if_pos rfl, if_pos (show (-1 : Int32) < 0 by decide), r_draw T.seed hsd]
          by_cases c1 : G (76 + oC at_ (G 95) i) ≤ Sd (SdB G at_ sh s i) % 100
          · simp (disch := omega) only [R' _, ms2, c1, Bool.false_eq_true, Bool.toNat_false, jns, bds, bvs, lts, gdt, nadd, nmul, nsub, nle, nlt, neq, nz0, nlt0, nle0, n0le, n0lt, nclamp, ndiv, nmod2, gdi, gdn, if_pos, if_neg, if_true, if_false]
          · simp (disch := omega) only [R' _, ms2, c1, Bool.false_eq_true, Bool.toNat_false, jns, bds, bvs, lts, gdt, nadd, nmul, nsub, nle, nlt, neq, nz0, nlt0, nle0, n0le, n0lt, nclamp, ndiv, nmod2, gdi, gdn, if_pos, if_neg, if_true, if_false]
        · rw [es, hn2]
          have hne : ¬ nI n = (-1 : Int32) := fun z => nneg (show n < 2 ^ 31 by omega) z.symm
          by_cases c1 : n < G 5 + G 0 - at_ (oC at_ (G 95) i)
          · simp (disch := omega) only [R' _, ea, Bool.toNat_false, hne, Bool.false_eq_true, mset_id T.seed, jns, bds, bvs, lts, gdt, nadd, nmul, nsub, nle, nlt, neq, nz0, nlt0, nle0, n0le, n0lt, nclamp, ndiv, nmod2, gdi, gdn, if_pos, if_neg, if_true, if_false]
          · simp (disch := omega) only [R' _, ea, Bool.toNat_false, hne, Bool.false_eq_true, mset_id T.seed, jns, bds, bvs, lts, gdt, nadd, nmul, nsub, nle, nlt, neq, nz0, nlt0, nle0, n0le, n0lt, nclamp, ndiv, nmod2, gdi, gdn, if_pos, if_neg, if_true, if_false]
      · simp (disch := omega) only [Bool.toNat_true, mset_id T.seed, jns, bds, bvs, lts, gdt, nadd, nmul, nsub, nle, nlt, neq, nz0, nlt0, nle0, n0le, n0lt, nclamp, ndiv, nmod2, gdi, gdn, if_pos, if_neg, if_true, if_false]
    · refine ⟨fun a h => ?_, fun c hc => ?_, ?_, fun k hk hd => ?_⟩
      · rw [mset_off _ _ _ h, mset_off _ _ _ h, T.fr a h]
      · rw [HwB]
        by_cases hci : c = oC at_ (G 95) i
        · rw [if_pos hci, hci]; simp (disch := omega) only [ms1, ms1, ms2, ms3]
        · rw [if_neg hci]; simp (disch := omega) only [ms1, ms1, ms2, ms3]; exact T.how c hc
      · simp (disch := omega) only [ms1, ms1, ms2, ms3]
      · simp (disch := omega) only [ms1, ms1, ms2, ms3]; exact T.rest k hk hd
  · have R' : RG M G := fun k hk => by rw [T.fr 84 (by decide)]; exact R k hk
    have he' : Ey M G m := by unfold Ey; rw [T.fr 81 (by decide)]; exact he
    rw [lp_X10_look_137]
    by_cases c1 : G 95 ≤ m
    · rw [Nat.min_eq_right c1]
      simp (disch := omega) only [R' _, jns, bds, bvs, lts, gdt, nadd, nmul, nsub, nle, nlt, neq, nz0, nlt0, nle0, n0le, n0lt, nclamp, ndiv, nmod2, gdi, gdn, if_pos, if_neg, if_true, if_false]
    · rw [Nat.min_eq_left (by omega)]
      simp (disch := omega) only [R' _, r_lookMany R' W he', jns, bds, bvs, lts, gdt, nadd, nmul, nsub, nle, nlt, neq, nz0, nlt0, nle0, n0le, n0lt, nclamp, ndiv, nmod2, gdi, gdn, if_pos, if_neg, if_true, if_false]
abbrev B2 (G : Nat → Nat) (M0 : Mm) (p : Nat) (at_ : Nat → Nat) (sh : Nat → Int32) (s i : Nat) (M : Mm) : Prop := (∀ a, a ≠ p → a ≠ p + 3 → M a = M0 a) ∧ (∀ c, c < G 95 → M (p + 3) c = HwB G at_ sh s i c) ∧ (M p 9 = nI (SdB G at_ sh s i)) ∧ (∀ k, k ≠ 9 → M p k = M0 p k)
theorem B2.fr {G : Nat → Nat} {M0 : Mm} {p : Nat} {at_ : Nat → Nat} {sh : Nat → Int32} {s i : Nat} {M : Mm} (h : B2 G M0 p at_ sh s i M) : ∀ a, a ≠ p → a ≠ p + 3 → M a = M0 a := h.1
theorem B2.how {G : Nat → Nat} {M0 : Mm} {p : Nat} {at_ : Nat → Nat} {sh : Nat → Int32} {s i : Nat} {M : Mm} (h : B2 G M0 p at_ sh s i M) : ∀ c, c < G 95 → M (p + 3) c = HwB G at_ sh s i c := h.2.1
theorem B2.seed {G : Nat → Nat} {M0 : Mm} {p : Nat} {at_ : Nat → Nat} {sh : Nat → Int32} {s i : Nat} {M : Mm} (h : B2 G M0 p at_ sh s i M) : M p 9 = nI (SdB G at_ sh s i) := h.2.2.1
theorem B2.rest {G : Nat → Nat} {M0 : Mm} {p : Nat} {at_ : Nat → Nat} {sh : Nat → Int32} {s i : Nat} {M : Mm} (h : B2 G M0 p at_ sh s i M) : ∀ k, k ≠ 9 → M p k = M0 p k := h.2.2.2
theorem c_howStands {M : Mm} {G : Nat → Nat} {g p c s : Nat} (C : CG M g G) (W : GW G) (P : PC p) {at_ : Nat → Nat} {sh : Nat → Int32} (hs : s < 65537) (hc : c < G 95) (ha : ∀ c, c < G 95 → M (p + 1) c = nI (at_ c) ∧ at_ c < G 0) (hsh : ∀ c, c < G 95 → M (p + 8) c = sh c) (hn : Shn G sh) (e9 : M p 9 = nI s) :
    f_X3_howStands p g (nI c) M = some ((hv G at_ sh s c).1, mset M p 9 (nI (hv G at_ sh s c).2)) := by
  have h2 := W.creepers
  have h1 := W.crp c hc
  have hl := W.long
  have hss := W.sees
  have h4 := P.ge
  have hsd' := Sd_lt s
  have ha' : ∀ c, c < G 95 → M (p + 1) c = nI (at_ c) ∧ at_ c < 100 := fun c hc => ⟨(ha c hc).1, by have := (ha c hc).2; omega⟩
  have hh := c_isHidden C W P ha' hc
  have a8 := p_at (M := M) P (show 1 ≤ 8 by decide) (show 8 ≤ 9 by decide) (show c < 5 by omega)
  have a1 := p_at (M := M) P (show 1 ≤ 1 by decide) (show 1 ≤ 9 by decide) (show c < 5 by omega)
  rw [(ha' c hc).1] at a1
  rw [hsh c hc] at a8
  have ha2 := (ha c hc).2
  unfold f_X3_howStands hv
  rw [hh, bds]
  cases hd : Hd G at_ c
  · rw [if_pos (by rw [nh0]), a8, bds]
    rcases hn c hc with hs1 | ⟨n, hn1, hn2⟩
    · rw [hs1, if_pos rfl, c_draw e9 hs, bds, c_trait (C.cong (fun b hb => by rw [mset_off _ _ _ (by omega)])) W hc (show 4 < 7 by decide), bds]
      rw [show 56 + 5 * 4 + c = 76 + c from by omega]
      by_cases c1 : G (76 + c) ≤ Sd s % 100
      · simp (disch := omega) only [c1, Bool.false_eq_true, jns, bds, bvs, lts, gdt, nadd, nmul, nsub, nle, nlt, neq, nz0, nlt0, nle0, n0le, n0lt, nclamp, ndiv, nmod2, gdi, gdn, if_pos, if_neg, if_true, if_false]
      · simp (disch := omega) only [c1, Bool.false_eq_true, jns, bds, bvs, lts, gdt, nadd, nmul, nsub, nle, nlt, neq, nz0, nlt0, nle0, n0le, n0lt, nclamp, ndiv, nmod2, gdi, gdn, if_pos, if_neg, if_true, if_false]
    · have hne : ¬ nI n = (-1 : Int32) := fun z => nneg (show n < 2 ^ 31 by omega) z.symm
      rw [hn2, if_neg hne, a1, bds, C.f12, C.f6]
      by_cases c1 : n < G 5 + G 0 - at_ c
      · simp (disch := omega) only [hne, Bool.false_eq_true, mset_id e9, jns, bds, bvs, lts, gdt, nadd, nmul, nsub, nle, nlt, neq, nz0, nlt0, nle0, n0le, n0lt, nclamp, ndiv, nmod2, gdi, gdn, if_pos, if_neg, if_true, if_false]
      · simp (disch := omega) only [hne, Bool.false_eq_true, mset_id e9, jns, bds, bvs, lts, gdt, nadd, nmul, nsub, nle, nlt, neq, nz0, nlt0, nle0, n0le, n0lt, nclamp, ndiv, nmod2, gdi, gdn, if_pos, if_neg, if_true, if_false]
  · rw [if_neg (by rw [nh0]; decide)]
    simp only [if_true]
    rw [mset_id e9]
theorem c_look2 {M0 : Mm} {G : Nat → Nat} {g p : Nat} (C : CG M0 g G) (W : GW G) (P : PC p) {at_ : Nat → Nat} {sh : Nat → Int32} {s m : Nat} (hs : s < 65537) (hm : m < 100) (ha : ∀ c, c < G 95 → M0 (p + 1) c = nI (at_ c) ∧ at_ c < G 0) (hsh : ∀ c, c < G 95 → M0 (p + 8) c = sh c) (hn : Shn G sh) (ho : ∀ q, q < G 95 → M0 (p + 9) q = nI (oC at_ (G 95) q)) (h0 : B2 G M0 p at_ sh s 0 M0) :
    ∃ M', lp_X3_lookAround_26 p g (nI m) N0 (nI 0) M0 = some M' ∧ B2 G M0 p at_ sh s (min m (G 95)) M' := by
  have h2 := W.creepers
  have h4 := P.ge
  have hg := C.hg
  have hmin1 := Nat.min_le_left m (G 95)
  have hmin2 := Nat.min_le_right m (G 95)
  refine lpM (fun f i M => lp_X3_lookAround_26 p g (nI m) f (nI i) M) (min m (G 95)) (B2 G M0 p at_ sh s) some (by omega) (fun f i M hi2 T => ?_) (fun f M T => ?_) M0 h0
  · have C' : CG M g G := C.cong (fun a h => T.fr a (by omega) (by omega))
    have hsd := SdB_lt (G := G) (at_ := at_) (sh := sh) hs i
    obtain ⟨h3, h5⟩ := Ord_oC at_ (G 95) i (by omega)
    have a9 := p_at (M := M) P (show 1 ≤ 9 by decide) (show 9 ≤ 9 by decide) (show i < 5 by omega)
    rw [T.fr (p + 9) (by omega) (by omega), ho i (by omega)] at a9
    have hw := c_howStands C' W P hsd h3 (fun c hc => by rw [T.fr (p + 1) (by omega) (by omega)]; exact ha c hc) (fun c hc => by rw [T.fr (p + 8) (by omega) (by omega)]; exact hsh c hc) hn T.seed
    refine ⟨mset (mset M p 9 (nI (SdB G at_ sh s (i + 1)))) (p + 3) (oC at_ (G 95) i) (hv G at_ sh (SdB G at_ sh s i) (oC at_ (G 95) i)).1, ?_, ?_⟩
    · rw [lp_X3_lookAround_26]
      simp (disch := omega) only [C'.f14, a9, hw, p_put P (show 1 ≤ 3 by decide) (show 3 ≤ 9 by decide) (show oC at_ (G 95) i < 5 by omega), jns, bds, bvs, lts, gdt, nadd, nmul, nsub, nle, nlt, neq, nz0, nlt0, nle0, n0le, n0lt, nclamp, ndiv, nmod2, gdi, gdn, if_pos, if_neg, if_true, if_false]
      rfl
    · refine ⟨fun a h h' => ?_, fun c hc => ?_, ?_, fun k hk => ?_⟩
      · rw [mset_off _ _ _ h', mset_off _ _ _ h, T.fr a h h']
      · rw [HwB]
        by_cases hci : c = oC at_ (G 95) i
        · rw [if_pos hci, hci]; simp (disch := omega) only [ms1, ms1, ms2, ms3]
        · rw [if_neg hci]; simp (disch := omega) only [ms1, ms1, ms2, ms3]; exact T.how c hc
      · simp (disch := omega) only [ms1, ms1, ms2, ms3]
      · simp (disch := omega) only [ms1, ms1, ms2, ms3]; exact T.rest k hk
  · have C' : CG M g G := C.cong (fun a h => T.fr a (by omega) (by omega))
    rw [lp_X3_lookAround_26]
    by_cases c1 : m ≤ G 95
    · rw [Nat.min_eq_left c1]
      simp (disch := omega) only [jns, bds, bvs, lts, gdt, nadd, nmul, nsub, nle, nlt, neq, nz0, nlt0, nle0, n0le, n0lt, nclamp, ndiv, nmod2, gdi, gdn, if_pos, if_neg, if_true, if_false]
    · rw [Nat.min_eq_right (by omega)]
      simp (disch := omega) only [C'.f14, jns, bds, bvs, lts, gdt, nadd, nmul, nsub, nle, nlt, neq, nz0, nlt0, nle0, n0le, n0lt, nclamp, ndiv, nmod2, gdi, gdn, if_pos, if_neg, if_true, if_false]
/-! who goes back -/
def At3 (how : Nat → Int32) (at_ : Nat → Nat) (c : Nat) : Nat := if how c = nI 4 ∨ how c = nI 5 then 0 else at_ c
def Sn3 (how : Nat → Int32) (seen : Nat → Nat) (c : Nat) : Nat := if how c = nI 4 then seen c + 1 else seen c
def Wr3 (how : Nat → Int32) (wrong : Nat → Nat) (c : Nat) : Nat := if how c = nI 5 then wrong c + 1 else wrong c
def Hwn (G : Nat → Nat) (how : Nat → Int32) : Prop := ∀ c, c < G 95 → ∃ h, h < 6 ∧ how c = nI h
abbrev D1 (G : Nat → Nat) (M0 : Mm) (q3 q1 q4 q5 : Nat × Nat) (how : Nat → Int32) (at_ seen wrong : Nat → Nat) (i : Nat) (M : Mm) : Prop := (∀ c, c < i → M q1.1 (q1.2 + c) = nI (At3 how at_ c)) ∧ (∀ c, c < i → M q4.1 (q4.2 + c) = nI (Sn3 how seen c)) ∧ (∀ c, c < i → M q5.1 (q5.2 + c) = nI (Wr3 how wrong c)) ∧ (∀ c, i ≤ c → c < G 95 → M q1.1 (q1.2 + c) = nI (at_ c)) ∧ (∀ c, i ≤ c → c < G 95 → M q4.1 (q4.2 + c) = nI (seen c)) ∧ (∀ c, i ≤ c → c < G 95 → M q5.1 (q5.2 + c) = nI (wrong c))
theorem D1.at1 {G : Nat → Nat} {M0 : Mm} {q3 q1 q4 q5 : Nat × Nat} {how : Nat → Int32} {at_ seen wrong : Nat → Nat} {i : Nat} {M : Mm} (h : D1 G M0 q3 q1 q4 q5 how at_ seen wrong i M) : ∀ c, c < i → M q1.1 (q1.2 + c) = nI (At3 how at_ c) := h.1
theorem D1.sn1 {G : Nat → Nat} {M0 : Mm} {q3 q1 q4 q5 : Nat × Nat} {how : Nat → Int32} {at_ seen wrong : Nat → Nat} {i : Nat} {M : Mm} (h : D1 G M0 q3 q1 q4 q5 how at_ seen wrong i M) : ∀ c, c < i → M q4.1 (q4.2 + c) = nI (Sn3 how seen c) := h.2.1
theorem D1.wr1 {G : Nat → Nat} {M0 : Mm} {q3 q1 q4 q5 : Nat × Nat} {how : Nat → Int32} {at_ seen wrong : Nat → Nat} {i : Nat} {M : Mm} (h : D1 G M0 q3 q1 q4 q5 how at_ seen wrong i M) : ∀ c, c < i → M q5.1 (q5.2 + c) = nI (Wr3 how wrong c) := h.2.2.1
theorem D1.at0 {G : Nat → Nat} {M0 : Mm} {q3 q1 q4 q5 : Nat × Nat} {how : Nat → Int32} {at_ seen wrong : Nat → Nat} {i : Nat} {M : Mm} (h : D1 G M0 q3 q1 q4 q5 how at_ seen wrong i M) : ∀ c, i ≤ c → c < G 95 → M q1.1 (q1.2 + c) = nI (at_ c) := h.2.2.2.1
theorem D1.sn0 {G : Nat → Nat} {M0 : Mm} {q3 q1 q4 q5 : Nat × Nat} {how : Nat → Int32} {at_ seen wrong : Nat → Nat} {i : Nat} {M : Mm} (h : D1 G M0 q3 q1 q4 q5 how at_ seen wrong i M) : ∀ c, i ≤ c → c < G 95 → M q4.1 (q4.2 + c) = nI (seen c) := h.2.2.2.2.1
theorem D1.wr0 {G : Nat → Nat} {M0 : Mm} {q3 q1 q4 q5 : Nat × Nat} {how : Nat → Int32} {at_ seen wrong : Nat → Nat} {i : Nat} {M : Mm} (h : D1 G M0 q3 q1 q4 q5 how at_ seen wrong i M) : ∀ c, i ≤ c → c < G 95 → M q5.1 (q5.2 + c) = nI (wrong c) := h.2.2.2.2.2
theorem nIeq {a b : Nat} (ha : a < 100) (hb : b < 100) : (nI a = nI b) = (a = b) := neq (by omega) (by omega)
theorem r_look3 {M0 : Mm} {G : Nat → Nat} (R : RG M0 G) (W : GW G) {how : Nat → Int32} {at_ seen wrong : Nat → Nat} (hh : ∀ c, c < G 95 → M0 86 (19 + c) = how c) (hn : Hwn G how) (k : Mm → Option Mm) (h0 : D1 G M0 (86, 19) (86, 9) (86, 24) (86, 29) how at_ seen wrong 0 M0) :
    ∃ M', lp_X10_look_290 k N0 (nI 0) M0 = k M' ∧ D1 G M0 (86, 19) (86, 9) (86, 24) (86, 29) how at_ seen wrong (G 95) M' ∧ (∀ a, a ≠ 86 → M' a = M0 a) ∧ (∀ k, k < 9 ∨ (14 ≤ k ∧ k < 24) ∨ 34 ≤ k → M' 86 k = M0 86 k) := by
  have h2 := W.creepers
  refine lpM (fun f i M => lp_X10_look_290 k f (nI i) M) (G 95) (fun i M => D1 G M0 (86, 19) (86, 9) (86, 24) (86, 29) how at_ seen wrong i M ∧ (∀ a, a ≠ 86 → M a = M0 a) ∧ (∀ k, k < 9 ∨ (14 ≤ k ∧ k < 24) ∨ 34 ≤ k → M 86 k = M0 86 k)) k (by omega) (fun f i M hi2 T => ?_) (fun f M T => ?_) M0 ⟨h0, fun _ _ => rfl, fun _ _ => rfl⟩
  · obtain ⟨T, fr, rest⟩ := T
    have R' : RG M G := fun k hk => by rw [fr 84 (by decide)]; exact R k hk
    obtain ⟨h, hh6, hhe⟩ := hn i hi2
    have eh : M 86 (19 + i) = nI h := by rw [rest (19 + i) (by omega), hh i hi2, hhe]
    have ea : M 86 (9 + i) = nI (at_ i) := T.at0 i (Nat.le_refl _) hi2
    have es : M 86 (24 + i) = nI (seen i) := T.sn0 i (Nat.le_refl _) hi2
    have ew : M 86 (29 + i) = nI (wrong i) := T.wr0 i (Nat.le_refl _) hi2
    have q4 : (how i = nI 4) = (h = 4) := by rw [hhe, nIeq (by omega) (by omega)]
    have q5 : (how i = nI 5) = (h = 5) := by rw [hhe, nIeq (by omega) (by omega)]
    rw [lp_X10_look_290]
    by_cases c1 : 4 ≤ h
    · by_cases c2 : h = 4
      · have x1 : At3 how at_ i = 0 := by unfold At3; rw [if_pos (Or.inl (by rw [q4]; exact c2))]
        have x2 : Sn3 how seen i = seen i + 1 := by unfold Sn3; rw [if_pos (by rw [q4]; exact c2)]
        have x3 : Wr3 how wrong i = wrong i := by unfold Wr3; rw [if_neg (by rw [q5]; omega)]
        refine ⟨mset (mset M 86 (9 + i) (nI 0)) 86 (24 + i) (nI (seen i + 1)), ?_, ⟨?_, ?_, ?_, ?_, ?_, ?_⟩, ?_, ?_⟩
        · simp (disch := omega) only [R' _, eh, ms1, ms2, ms3, es, jns, bds, bvs, lts, gdt, nadd, nmul, nsub, nle, nlt, neq, nz0, nlt0, nle0, n0le, n0lt, nclamp, ndiv, nmod2, gdi, gdn, if_pos, if_neg, if_true, if_false]
        · intro c hc; show mset (mset M 86 (9 + i) (nI 0)) 86 (24 + i) (nI (seen i + 1)) 86 (9 + c) = _
          by_cases hci : c = i
          · subst hci; simp (disch := omega) only [x1, ms1, ms2, ms3]
          · simp (disch := omega) only [ms1, ms1, ms2, ms3]; exact T.at1 c (by omega)
        · intro c hc; show mset (mset M 86 (9 + i) (nI 0)) 86 (24 + i) (nI (seen i + 1)) 86 (24 + c) = _
          by_cases hci : c = i
          · subst hci; simp (disch := omega) only [x2, ms1, ms2, ms3]
          · simp (disch := omega) only [ms1, ms1, ms2, ms3]; exact T.sn1 c (by omega)
        · intro c hc; show mset (mset M 86 (9 + i) (nI 0)) 86 (24 + i) (nI (seen i + 1)) 86 (29 + c) = _
          by_cases hci : c = i
          · subst hci; simp (disch := omega) only [x3, ms1, ms2, ms3]; exact ew
          · simp (disch := omega) only [ms1, ms1, ms2, ms3]; exact T.wr1 c (by omega)
        · intro c hc hd; show mset (mset M 86 (9 + i) (nI 0)) 86 (24 + i) (nI (seen i + 1)) 86 (9 + c) = _
          simp (disch := omega) only [ms1, ms1, ms2, ms3]; exact T.at0 c (by omega) hd
        · intro c hc hd; show mset (mset M 86 (9 + i) (nI 0)) 86 (24 + i) (nI (seen i + 1)) 86 (24 + c) = _
          simp (disch := omega) only [ms1, ms1, ms2, ms3]; exact T.sn0 c (by omega) hd
        · intro c hc hd; show mset (mset M 86 (9 + i) (nI 0)) 86 (24 + i) (nI (seen i + 1)) 86 (29 + c) = _
          simp (disch := omega) only [ms1, ms1, ms2, ms3]; exact T.wr0 c (by omega) hd
        · intro a h; rw [mset_off _ _ _ h, mset_off _ _ _ h, fr a h]
        · intro k hk; simp (disch := omega) only [ms1, ms1, ms2, ms3]; exact rest k hk
      · have c3 : h = 5 := by omega
        have x1 : At3 how at_ i = 0 := by unfold At3; rw [if_pos (Or.inr (by rw [q5]; exact c3))]
        have x2 : Sn3 how seen i = seen i := by unfold Sn3; rw [if_neg (by rw [q4]; omega)]
        have x3 : Wr3 how wrong i = wrong i + 1 := by unfold Wr3; rw [if_pos (by rw [q5]; exact c3)]
        refine ⟨mset (mset M 86 (9 + i) (nI 0)) 86 (29 + i) (nI (wrong i + 1)), ?_, ⟨?_, ?_, ?_, ?_, ?_, ?_⟩, ?_, ?_⟩
        · simp (disch := omega) only [R' _, eh, ms1, ms2, ms3, ew, jns, bds, bvs, lts, gdt, nadd, nmul, nsub, nle, nlt, neq, nz0, nlt0, nle0, n0le, n0lt, nclamp, ndiv, nmod2, gdi, gdn, if_pos, if_neg, if_true, if_false]
        · intro c hc; show mset (mset M 86 (9 + i) (nI 0)) 86 (29 + i) (nI (wrong i + 1)) 86 (9 + c) = _
          by_cases hci : c = i
          · subst hci; simp (disch := omega) only [x1, ms1, ms2, ms3]
          · simp (disch := omega) only [ms1, ms1, ms2, ms3]; exact T.at1 c (by omega)
        · intro c hc; show mset (mset M 86 (9 + i) (nI 0)) 86 (29 + i) (nI (wrong i + 1)) 86 (24 + c) = _
          by_cases hci : c = i
          · subst hci; simp (disch := omega) only [x2, ms1, ms2, ms3]; exact es
          · simp (disch := omega) only [ms1, ms1, ms2, ms3]; exact T.sn1 c (by omega)
        · intro c hc; show mset (mset M 86 (9 + i) (nI 0)) 86 (29 + i) (nI (wrong i + 1)) 86 (29 + c) = _
          by_cases hci : c = i
          · subst hci; simp (disch := omega) only [x3, ms1, ms2, ms3]
          · simp (disch := omega) only [ms1, ms1, ms2, ms3]; exact T.wr1 c (by omega)
        · intro c hc hd; show mset (mset M 86 (9 + i) (nI 0)) 86 (29 + i) (nI (wrong i + 1)) 86 (9 + c) = _
          simp (disch := omega) only [ms1, ms1, ms2, ms3]; exact T.at0 c (by omega) hd
        · intro c hc hd; show mset (mset M 86 (9 + i) (nI 0)) 86 (29 + i) (nI (wrong i + 1)) 86 (24 + c) = _
          simp (disch := omega) only [ms1, ms1, ms2, ms3]; exact T.sn0 c (by omega) hd
        · intro c hc hd; show mset (mset M 86 (9 + i) (nI 0)) 86 (29 + i) (nI (wrong i + 1)) 86 (29 + c) = _
          simp (disch := omega) only [ms1, ms1, ms2, ms3]; exact T.wr0 c (by omega) hd
        · intro a h; rw [mset_off _ _ _ h, mset_off _ _ _ h, fr a h]
        · intro k hk; simp (disch := omega) only [ms1, ms1, ms2, ms3]; exact rest k hk
    · have x1 : At3 how at_ i = at_ i := by unfold At3; rw [if_neg (by rw [q4, q5]; omega)]
      have x2 : Sn3 how seen i = seen i := by unfold Sn3; rw [if_neg (by rw [q4]; omega)]
      have x3 : Wr3 how wrong i = wrong i := by unfold Wr3; rw [if_neg (by rw [q5]; omega)]
      refine ⟨M, ?_, ⟨?_, ?_, ?_, fun c hc hd => T.at0 c (by omega) hd, fun c hc hd => T.sn0 c (by omega) hd, fun c hc hd => T.wr0 c (by omega) hd⟩, fr, rest⟩
      · simp (disch := omega) only [R' _, eh, jns, bds, bvs, lts, gdt, nadd, nmul, nsub, nle, nlt, neq, nz0, nlt0, nle0, n0le, n0lt, nclamp, ndiv, nmod2, gdi, gdn, if_pos, if_neg, if_true, if_false]
      · intro c hc
        by_cases hci : c = i
        · subst hci; rw [x1]; exact ea
        · exact T.at1 c (by omega)
      · intro c hc
        by_cases hci : c = i
        · subst hci; rw [x2]; exact es
        · exact T.sn1 c (by omega)
      · intro c hc
        by_cases hci : c = i
        · subst hci; rw [x3]; exact ew
        · exact T.wr1 c (by omega)
  · rw [lp_X10_look_290, T.2.1 84 (by decide), R 95 (by decide), if_pos (Int32.le_refl _)]
