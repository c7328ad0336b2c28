/-! THE ONE'S LINE. -/
section
variable {Mc Mr : Mm} {g n p : Nat} {b : Nat → Nat} {G : Nat → Nat}
/-- the end of the one's line: the class, the reference -/
def oneC (M6 : Mm) : Option (Int32 × Mm) := bd (f_X5_told 7 (nI 1) (nI 60) M6) fun v66_9 M66_8 => if v66_9 = 0 then (some ((nI 0), M66_8)) else (bg (M66_8 17 3) fun g10 => bd (f_X5_told 8 (nI 1) (nI 20) (mset M66_8 g10 10 (M66_8 17 6))) fun v91_12 M91_11 => if v91_12 = 0 then (some ((nI 0), M91_11)) else (bg (M91_11 17 3) fun g13 => bd (f_X5_told 9 (nI 0) (nI 100) (mset M91_11 g13 11 (M91_11 17 6))) fun v116_15 M116_14 => if v116_15 = 0 then (some ((nI 0), M116_14)) else (bg (M116_14 17 3) fun g16 => some ((nI 1), (mset M116_14 g16 12 (M116_14 17 6))))))
def oneR (M7 : Mm) : Option Mm := bd (f_X10_told 30 (nI 1) (nI 60) M7) fun v166_10 M166_9 => bd (f_X10_told 31 (nI 1) (nI 20) (mset M166_9 85 3 v166_10)) fun v181_12 M181_11 => bd (f_X10_told 32 (nI 0) (nI 100) (mset M181_11 85 4 v181_12)) fun v196_14 M196_13 => if ((mset M196_13 85 5 v196_14) 81 13) = 0 then (some ((mset (mset M196_13 85 5 v196_14) 85 93 (nI 1)))) else (some ((mset M196_13 85 5 v196_14)))
theorem oneR_fl {M : Mm} (h : M 81 13 = nI 1) : oneR M = some (mset (mset (mset M 85 3 (nI 1)) 85 4 (nI 1)) 85 5 (nI 0)) := by
  unfold oneR
  rw [fl_told h, bds, fl_told (fm h _ _), bds, fl_told (fm (fm h _ _) _ _), bds, if_neg (fl0 (fm (fm (fm h _ _) _ _) _ _))]
theorem one_tail (t : TKp Mc Mr n b p) (hg : g = 1 ∨ g = 8) (hg3 : Mc 17 3 = nI g) (h13 : Mr 81 13 = nI 0) :
    (∃ Mc' Mr' p' a c d, (1 ≤ a ∧ a ≤ 60) ∧ (1 ≤ c ∧ c ≤ 20) ∧ d ≤ 100 ∧ oneC Mc = some (nI 1, Mc') ∧ oneR Mr = some Mr' ∧ TKp Mc' Mr' n b p' ∧ p < p' ∧ Mr' 81 13 = nI 0 ∧ (∀ x, x ≠ 15 → x ≠ 17 → x ≠ g → Mc' x = Mc x) ∧ Mc' 15 1 = Mc 15 1 ∧ Mc' 17 3 = Mc 17 3 ∧ Mc' g 10 = nI a ∧ Mc' g 11 = nI c ∧ Mc' g 12 = nI d ∧ (∀ k, k ≠ 10 → k ≠ 11 → k ≠ 12 → Mc' g k = Mc g k) ∧ Xr Mr Mr' ∧ ∀ k, Mr' 85 k = if k = 93 then nI 1 else if k = 5 then nI d else if k = 4 then nI c else if k = 3 then nI a else Mr 85 k) ∨
    (∃ Mc' Mr', oneC Mc = some (nI 0, Mc') ∧ oneR Mr = some Mr' ∧ FL Mc' Mr' ∧ Xc g Mc Mc' ∧ Xr Mr Mr') := by
  unfold oneC oneR
  rcases both_told t (i := 7) (a := 1) (c := 60) (by decide) (by decide) (by decide) h13 with ⟨Mc2, Mr2, p2, v2, b1, b2, b3, b4, b5, t2, hp2, o2, W2, V2⟩ | ⟨Mc2, Mr2, b3, b4, F, W2, V2⟩
  · have g2 : Mc2 17 3 = nI g := by rw [W2.f3]; exact hg3
    rw [b3, b4, bds, bds, if_neg (by decide), g2, bgv hg, b5]
    have t2' : TKp (mset Mc2 g 10 (nI v2)) (mset Mr2 85 3 (nI v2)) n b p2 := t2.cong (mset_off _ _ _ (by omega)) (mset_off _ _ _ (by omega)) (mset_off _ _ _ (by decide)) (mset_off _ _ _ (by decide)) (mset_off _ _ _ (by decide))
    rcases both_told t2' (i := 8) (a := 1) (c := 20) (by decide) (by decide) (by decide) (om o2 _ _) with ⟨Mc3, Mr3, p3, v3, d1, d2, d3, d4, d5, t3, hp3, o3, W3, V3⟩ | ⟨Mc3, Mr3, d3, d4, F, W3, V3⟩
    · have g3 : Mc3 17 3 = nI g := by rw [W3.f3, mset_off _ _ _ (by omega)]; exact g2
      rw [d3, d4, bds, bds, if_neg (by decide), g3, bgv hg, d5]
      have t3' : TKp (mset Mc3 g 11 (nI v3)) (mset Mr3 85 4 (nI v3)) n b p3 := t3.cong (mset_off _ _ _ (by omega)) (mset_off _ _ _ (by omega)) (mset_off _ _ _ (by decide)) (mset_off _ _ _ (by decide)) (mset_off _ _ _ (by decide))
      rcases both_told t3' (i := 9) (a := 0) (c := 100) (by decide) (by decide) (by decide) (om o3 _ _) with ⟨Mc4, Mr4, p4, v4, e1, e2, e3, e4, e5, t4, hp4, o4, W4, V4⟩ | ⟨Mc4, Mr4, e3, e4, F, W4, V4⟩
      · have g4 : Mc4 17 3 = nI g := by rw [W4.f3, mset_off _ _ _ (by omega)]; exact g3
        rw [e3, e4, bds, bds, if_neg (by decide), g4, bgv hg, e5, if_pos (show mset Mr4 85 5 (nI v4) 81 13 = 0 by rw [om o4]; rfl)]
        left
        refine ⟨mset Mc4 g 12 (nI v4), mset (mset Mr4 85 5 (nI v4)) 85 93 (nI 1), p4, v2, v3, v4, ⟨b1, b2⟩, ⟨d1, d2⟩, e2, rfl, rfl, t4.cong (mset_off _ _ _ (by omega)) (mset_off _ _ _ (by omega)) (by rw [mset_off _ _ _ (by decide), mset_off _ _ _ (by decide)]) (by rw [mset_off _ _ _ (by decide), mset_off _ _ _ (by decide)]) (by rw [mset_off _ _ _ (by decide), mset_off _ _ _ (by decide)]), by omega, om (om o4 _ _) _ _, fun x h1 h2 h3 => ?_, ?_, ?_, ?_, ?_, ms1 _ _ _ _, fun k h1 h2 h3 => ?_, ?_, fun k => ?_⟩
        · rw [mset_off _ _ _ h3, W4.fr x h1 h2, mset_off _ _ _ h3, W3.fr x h1 h2, mset_off _ _ _ h3, W2.fr x h1 h2]
        · rw [mset_off _ _ _ (by omega), W4.f1, mset_off _ _ _ (by omega), W3.f1, mset_off _ _ _ (by omega), W2.f1]
        · rw [mset_off _ _ _ (by omega), W4.f3, mset_off _ _ _ (by omega), W3.f3, mset_off _ _ _ (by omega), W2.f3]
        · rw [ms3 _ _ (by decide), W4.fr g (by omega) (by omega), ms3 _ _ (by decide), W3.fr g (by omega) (by omega), ms1]
        · rw [ms3 _ _ (by decide), W4.fr g (by omega) (by omega), ms1]
        · rw [ms3 _ _ h3, W4.fr g (by omega) (by omega), ms3 _ _ h2, W3.fr g (by omega) (by omega), ms3 _ _ h1, W2.fr g (by omega) (by omega)]
        · exact ((((V2.x.m _ _).tr V3.x).m _ _).tr V4.x |>.m _ _).m _ _
        · by_cases k1 : k = 93
          · subst k1; rw [ms1, if_pos rfl]
          · rw [ms3 _ _ k1, if_neg k1]
            by_cases k2 : k = 5
            · subst k2; rw [ms1, if_pos rfl]
            · rw [ms3 _ _ k2, if_neg k2, V4.fr 85 (by decide) (by decide)]
              by_cases k3 : k = 4
              · subst k3; rw [ms1, if_pos rfl]
              · rw [ms3 _ _ k3, if_neg k3, V3.fr 85 (by decide) (by decide)]
                by_cases k4 : k = 3
                · subst k4; rw [ms1, if_pos rfl]
                · rw [ms3 _ _ k4, if_neg k4, V2.fr 85 (by decide) (by decide)]
      · right
        rw [e3, e4, bds, bds, if_pos (by decide), if_neg (fl0 (fm F.2.2 _ _))]
        exact ⟨_, _, rfl, rfl, F.m _ _, (((W2.x g).m _ hg (.inl (by omega))).tr (W3.x g)).m _ hg (.inl (by omega)) |>.tr (W4.x g), (((V2.x.m _ _).tr V3.x).m _ _).tr V4.x |>.m _ _⟩
    · right
      rw [d3, d4, bds, bds, if_pos (by decide), fl_told (fm F.2.2 _ _), bds, if_neg (fl0 (fm (fm F.2.2 _ _) _ _))]
      exact ⟨_, _, rfl, rfl, (F.m _ _).m _ _, ((W2.x g).m _ hg (.inl (by omega))).tr (W3.x g), ((V2.x.m _ _).tr V3.x |>.m _ _).m _ _⟩
  · right
    rw [b3, b4, bds, bds, if_pos (by decide), fl_told (fm F.2.2 _ _), bds, fl_told (fm (fm F.2.2 _ _) _ _), bds, if_neg (fl0 (fm (fm (fm F.2.2 _ _) _ _) _ _))]
    exact ⟨_, _, rfl, rfl, ((F.m _ _).m _ _).m _ _, W2.x g, ((V2.x.m _ _).m _ _).m _ _⟩
/-- a number for which there is no room: it fails by form, bounds or room -/
theorem whole_full (t : TKp Mc Mr n b p) {a c : Nat} (ha : a < 1000) (hc : c < 1000) (h13 : Mr 81 13 = nI 0) : ∃ e Mc' Mr', (e = if tK b n p = 2 then (if a ≤ vN b (tS b n p) (tW b n p) ∧ vN b (tS b n p) (tW b n p) ≤ c then 5 else 4) else 1) ∧ f_X5_whole (nI a) (nI c) (nI 0) Mc = some (nI 0, Mc') ∧ f_X10_wrong (nI e) (Mr 81 4) Mr = some Mr' ∧ FL Mc' Mr' ∧ Wc Mc Mc' ∧ Wr Mr Mr' := by
  have hk := tK_le (b := b) (n := n) (p := p)
  unfold f_X5_whole
  simp only [jns]
  rw [t.c3]
  by_cases c1 : tK b n p = 2
  · have hv := rv_lt t c1
    rw [if_pos (show nI (tK b n p) = nI 2 by rw [c1]), if_pos c1, t.c6 c1]
    by_cases c2 : a ≤ vN b (tS b n p) (tW b n p) ∧ vN b (tS b n p) (tW b n p) ≤ c
    · obtain ⟨Mc', Mr', a1, a2, a3, a4, a5, -⟩ := both_fail t 5 h13
      refine ⟨5, Mc', Mr', by rw [if_pos c2], ?_, a2, a3, a4, a5⟩
      rw [if_neg (by rw [nlt (by omega) (by omega)]; omega), if_pos (by rw [nle (by omega) (by omega)]; exact c2.2), if_pos (by decide), a1]; rfl
    · obtain ⟨Mc', Mr', a1, a2, a3, a4, a5, -⟩ := both_fail t 4 h13
      refine ⟨4, Mc', Mr', by rw [if_neg c2], ?_, a2, a3, a4, a5⟩
      by_cases c3 : vN b (tS b n p) (tW b n p) < a
      · rw [if_pos (by rw [nlt (by omega) (by omega)]; exact c3), a1]; rfl
      · rw [if_neg (by rw [nlt (by omega) (by omega)]; exact c3), if_neg (by rw [nle (by omega) (by omega)]; omega), a1]; rfl
  · obtain ⟨Mc', Mr', a1, a2, a3, a4, a5, -⟩ := both_fail t 1 h13
    refine ⟨1, Mc', Mr', by rw [if_neg c1], ?_, a2, a3, a4, a5⟩
    rw [if_neg (by rw [neq (by omega) (by omega)]; exact c1), a1]; rfl
/-- a comma in the reference -/
theorem r_comma (t : TKp Mc Mr n b p) (h13 : Mr 81 13 = nI 0) (h : tK b n p ≠ 4) : f_X10_comma Mr = some (nI 0, Mr) := by
  have hr := rk_b _ (tK_le (b := b) (n := n) (p := p))
  unfold f_X10_comma
  rw [h13, if_pos (by decide), t.r6, if_neg (by rw [neq (by omega) (by omega)]; omega)]
theorem r_comma4 (t : TKp Mc Mr n b p) (h13 : Mr 81 13 = nI 0) (h : tK b n p = 4) {Mr' : Mm} (h2 : f_X10_next Mr = some Mr') : f_X10_comma Mr = some (nI 1, Mr') := by
  unfold f_X10_comma
  rw [h13, if_pos (by decide), t.r6, if_pos (by rw [h]; rfl), h2]; rfl
/-- the chances of the first k parts are read -/
abbrev CkS (Mc0 Mr0 : Mm) (g k : Nat) (w : Nat → Nat) (N R : Mm) : Prop := (∀ j, w j ≤ 100) ∧ (∀ j, j < k → N (g + 4) j = nI (w j)) ∧ (∀ j, k ≤ j → N (g + 4) j = Mc0 (g + 4) j) ∧ (∀ j, j < k → R 85 (6 + j) = nI (w j)) ∧ (∀ i, i < 6 ∨ 6 + k ≤ i → R 85 i = Mr0 85 i) ∧ (∀ x, x ≠ 15 → x ≠ 17 → x ≠ g + 4 → N x = Mc0 x) ∧ (N 15 1 = Mc0 15 1) ∧ (N 17 3 = Mc0 17 3) ∧ (Xr Mr0 R)
theorem CkS.w100 {Mc0 Mr0 : Mm} {g k : Nat} {w : Nat → Nat} {N R : Mm} (h : CkS Mc0 Mr0 g k w N R) : ∀ j, w j ≤ 100 := h.1
theorem CkS.c {Mc0 Mr0 : Mm} {g k : Nat} {w : Nat → Nat} {N R : Mm} (h : CkS Mc0 Mr0 g k w N R) : ∀ j, j < k → N (g + 4) j = nI (w j) := h.2.1
theorem CkS.cc {Mc0 Mr0 : Mm} {g k : Nat} {w : Nat → Nat} {N R : Mm} (h : CkS Mc0 Mr0 g k w N R) : ∀ j, k ≤ j → N (g + 4) j = Mc0 (g + 4) j := h.2.2.1
theorem CkS.r {Mc0 Mr0 : Mm} {g k : Nat} {w : Nat → Nat} {N R : Mm} (h : CkS Mc0 Mr0 g k w N R) : ∀ j, j < k → R 85 (6 + j) = nI (w j) := h.2.2.2.1
theorem CkS.rr {Mc0 Mr0 : Mm} {g k : Nat} {w : Nat → Nat} {N R : Mm} (h : CkS Mc0 Mr0 g k w N R) : ∀ i, i < 6 ∨ 6 + k ≤ i → R 85 i = Mr0 85 i := h.2.2.2.2.1
theorem CkS.fr {Mc0 Mr0 : Mm} {g k : Nat} {w : Nat → Nat} {N R : Mm} (h : CkS Mc0 Mr0 g k w N R) : ∀ x, x ≠ 15 → x ≠ 17 → x ≠ g + 4 → N x = Mc0 x := h.2.2.2.2.2.1
theorem CkS.f1 {Mc0 Mr0 : Mm} {g k : Nat} {w : Nat → Nat} {N R : Mm} (h : CkS Mc0 Mr0 g k w N R) : N 15 1 = Mc0 15 1 := h.2.2.2.2.2.2.1
theorem CkS.f3 {Mc0 Mr0 : Mm} {g k : Nat} {w : Nat → Nat} {N R : Mm} (h : CkS Mc0 Mr0 g k w N R) : N 17 3 = Mc0 17 3 := h.2.2.2.2.2.2.2.1
theorem CkS.xr {Mc0 Mr0 : Mm} {g k : Nat} {w : Nat → Nat} {N R : Mm} (h : CkS Mc0 Mr0 g k w N R) : Xr Mr0 R := h.2.2.2.2.2.2.2.2
theorem CkS.xc {Mc0 Mr0 N R : Mm} {k : Nat} {w : Nat → Nat} (h : CkS Mc0 Mr0 g k w N R) : Xc g Mc0 N := ⟨fun a x y _ _ z => h.fr a x y (by omega), h.f1, h.f3⟩
/-- what the reference does behind the chances -/
def chR (J : Mm → Option Mm) (M30 : Mm) : Option Mm := bd (f_X10_comma  M30) fun v111_32 M111_31 => if v111_32 = 0 then (J M111_31) else (jn (fun (s33 : Int32) (M34 : Mm) => bv (f_X10_wrong s33 (M34 81 4) M34) fun M152_36 => J M152_36) fun j35 => if (M111_31 81 6) = (nI 3) then (bd (f_X10_within (M111_31 81 7) (nI 0) (nI 100) M111_31) fun v137_39 M137_38 => if v137_39 = 0 then (j35 (nI 4) M137_38) else (j35 (nI 5) M137_38)) else (j35 (nI 1) M111_31))
theorem chR_fl {J : Mm → Option Mm} {M : Mm} (h : M 81 13 = nI 1) : chR J M = J M := by
  unfold chR
  rw [fl_comma h, bds, if_pos (by decide)]
/-- what the class does behind them -/
def chC (u23 : Int32) (M24 : Mm) : Option (Int32 × Mm) := bg (M24 17 3) fun g25 => jn (fun (M26 : Mm) => some ((nI 1), M26)) fun j27 => if u23 = ((M24 g25 9) - (nI 1)) then (j27  M24) else (bd (f_X5_fail (nI 1) M24) fun v130_29 M130_28 => if v130_29 = 0 then (some ((nI 0), M130_28)) else (j27  M130_28))
theorem r_ch_fl {J : Mm → Option Mm} {M : Mm} {m k f : Nat} (h : M 81 13 = nI 1) : lp_X10_oneLine_56 (nI m) (chR J) (f + 1) (nI k) M = J M := by
  rw [lp_X10_oneLine_56]
  by_cases c : nI m ≤ nI k
  · rw [if_pos c, chR_fl h]
  · rw [if_neg c, if_neg (fl0 h), chR_fl h]
theorem both_chLoop {Mc0 Mr0 : Mm} {m : Nat} {J : Mm → Option Mm} (hg : g = 1 ∨ g = 8) (hg3 : Mc0 17 3 = nI g) (h9 : Mc0 g 9 = nI (m + 1)) (hm : m ≤ 4) : ∀ d k f f' N R p w, k + d = m → 1 ≤ k → d + 1 < f → d + 1 < f' → TKp N R n b p → R 81 13 = nI 0 → CkS Mc0 Mr0 g k w N R →
    (∃ N' R' p' w, lp_X5_chances_39 chC f (nI k) N = some (nI 1, N') ∧ lp_X10_oneLine_56 (nI m) (chR J) f' (nI k) R = J R' ∧ TKp N' R' n b p' ∧ p ≤ p' ∧ R' 81 13 = nI 0 ∧ CkS Mc0 Mr0 g m w N' R') ∨
    (∃ N' R', lp_X5_chances_39 chC f (nI k) N = some (nI 0, N') ∧ lp_X10_oneLine_56 (nI m) (chR J) f' (nI k) R = J R' ∧ FL N' R' ∧ Xc g Mc0 N' ∧ Xr Mr0 R') := by
  intro d
  induction d with
  | zero =>
    intro k f f' N R p w hk hk1 hf hf' t h13 S
    obtain ⟨f, rfl⟩ : ∃ g, f = g + 1 := ⟨f - 1, by omega⟩
    obtain ⟨f', rfl⟩ : ∃ g, f' = g + 1 := ⟨f' - 1, by omega⟩
    have hkm : k = m := by omega
    subst hkm
    have e9 : N g 9 = nI (k + 1) := by rw [S.fr g (by omega) (by omega) (by omega)]; exact h9
    have e3 : N 17 3 = nI g := by rw [S.f3]; exact hg3
    rw [lp_X5_chances_39, lp_X10_oneLine_56, if_neg (by rw [nle (by omega) (by omega)]; omega), if_pos (Int32.le_refl _), t.c3]
    have hK := tK_le (b := b) (n := n) (p := p)
    by_cases c4 : tK b n p = 4
    · right
      obtain ⟨N1, R1, a1, a2, t1, w1, w2, w3, w4⟩ := t.adv
      have o1 : R1 81 13 = nI 0 := by rw [w4 13 (by omega)]; exact h13
      obtain ⟨e, N2, R2, he, b1, b2, F, W2, V2⟩ := whole_full t1 (a := 0) (c := 100) (by decide) (by decide) o1
      have W1 : Wc N N1 := ⟨fun a h _ => w1 a h, w2, by rw [w1 17 (by decide)]⟩
      have V1 : Wr R R1 := ⟨w3, fun k hk => w4 k (by omega)⟩
      refine ⟨N2, R2, ?_, ?_, F, S.xc.tr ((W1.x g).tr (W2.x g)), S.xr.tr (V1.x.tr V2.x)⟩
      · have e39 : N1 17 3 = nI g := by rw [w1 17 (by decide)]; exact e3
        have e99 : N1 g 9 = nI (k + 1) := by rw [w1 g (by omega)]; exact e9
        rw [if_pos (by rw [c4]), a1, bvs, e39, bgv hg]
        simp only [jns]
        rw [e99, nsub (by omega), Nat.add_sub_cancel, if_pos (Int32.le_refl _), b1, bds, if_pos (by decide)]
      · unfold chR
        rw [r_comma4 t h13 c4 a2, bds, if_neg (by decide)]
        simp only [jns]
        have hr := rk_b _ (tK_le (b := b) (n := n) (p := tS b n p + tW b n p))
        rw [t1.r6]
        by_cases c2 : tK b n (tS b n p + tW b n p) = 2
        · have hv := rv_lt t1 c2
          rw [if_pos c2] at he
          rw [if_pos (by rw [c2]; rfl), t1.rv c2, r_withinN (by omega) (by omega) (by omega), bds]
          by_cases c5 : 0 ≤ vN b (tS b n (tS b n p + tW b n p)) (tW b n (tS b n p + tW b n p)) ∧ vN b (tS b n (tS b n p + tW b n p)) (tW b n (tS b n p + tW b n p)) ≤ 100
          · rw [if_pos c5] at he ⊢
            subst he
            rw [if_neg (by decide), b2]; rfl
          · rw [if_neg c5] at he ⊢
            subst he
            rw [if_pos (by decide), b2]; rfl
        · rw [if_neg c2] at he
          subst he
          rw [if_neg (by rw [neq (by omega) (by omega)]; omega), b2]; rfl
    · left
      refine ⟨N, R, p, w, ?_, ?_, t, Nat.le_refl _, h13, S⟩
      · rw [if_neg (by rw [neq (by omega) (by omega)]; exact c4)]
        unfold chC
        simp only [jns]
        rw [e3, bgv hg, e9, nsub (by omega), Nat.add_sub_cancel, if_pos rfl]
      · unfold chR
        rw [r_comma t h13 c4, bds, if_pos (by decide)]
  | succ d ih =>
    intro k f f' N R p w hk hk1 hf hf' t h13 S
    obtain ⟨f, rfl⟩ : ∃ g, f = g + 1 := ⟨f - 1, by omega⟩
    obtain ⟨f', rfl⟩ : ∃ g, f' = g + 1 := ⟨f' - 1, by omega⟩
    have e9 : N g 9 = nI (m + 1) := by rw [S.fr g (by omega) (by omega) (by omega)]; exact h9
    have e3 : N 17 3 = nI g := by rw [S.f3]; exact hg3
    have hK := tK_le (b := b) (n := n) (p := p)
    have ly : LY (g + 4) = .inr (0, 5) := by rcases hg with rfl | rfl <;> rfl
    have rest : ∀ R2 : Mm, R2 81 13 = nI 1 → (bd (f_X10_number (nI 0) (nI 100) R2) fun v100_21 M100_20 => gd (inb ((nI 6) + nI k) 141) <| lp_X10_oneLine_56 (nI m) (chR J) f' (nI k + (nI 1)) (mset M100_20 85 ((nI 6) + nI k).toNatClampNeg v100_21)) = J (mset R2 85 (6 + k) (nI 0)) := fun R2 hR => by
      obtain ⟨f', rfl⟩ : ∃ g, f' = g + 1 := ⟨f' - 1, by omega⟩
      rw [fl_number hR, bds, nadd, gdi (by omega) (by omega), nclamp (by omega), nadd, r_ch_fl (fm hR _ _)]
    rw [lp_X5_chances_39, lp_X10_oneLine_56, if_neg (show ¬ nI 900 ≤ nI k by rw [nle (by omega) (by omega)]; omega), if_neg (show ¬ nI m ≤ nI k by rw [nle (by omega) (by omega)]; omega), t.c3, h13, if_pos (show nI 0 = (0 : Int32) from rfl)]
    simp only [jns]
    rw [if_neg (show ¬ nI k ≤ 0 by rw [nle0 (by omega)]; omega)]
    by_cases c4 : tK b n p = 4
    · obtain ⟨N1, R1, a1, a2, t1, w1, w2, w3, w4⟩ := t.adv
      have hp1 := (tK_pos t.hp (b := b) (by omega)).2
      have o1 : R1 81 13 = nI 0 := by rw [w4 13 (by omega)]; exact h13
      have e39 : N1 17 3 = nI g := by rw [w1 17 (by decide)]; exact e3
      have e99 : N1 g 9 = nI (m + 1) := by rw [w1 g (by omega)]; exact e9
      have W1 : Wc N N1 := ⟨fun a h _ => w1 a h, w2, by rw [w1 17 (by decide)]⟩
      have V1 : Wr R R1 := ⟨w3, fun k hk => w4 k (by omega)⟩
      rw [if_pos (by rw [c4]), a1, bvs, e39, bgv hg, e99, nsub (by omega), Nat.add_sub_cancel, if_neg (show ¬ nI m ≤ nI k by rw [nle (by omega) (by omega)]; omega), r_comma4 t h13 c4 a2, bds, if_neg (by decide)]
      rcases both_number t1 (a := 0) (c := 100) (by decide) (by decide) o1 with ⟨N2, R2, p2, v, b1, b2, b3, b4, b5, t2, hp2, o2, W2, V2⟩ | ⟨N2, R2, b3, b4, F, W2, V2⟩
      · have e32 : N2 17 3 = nI g := by rw [W2.f3]; exact e39
        rw [b3, bds, if_neg (by decide), e32, bgv hg, b5, f_put ly (by decide) (by omega), bvs, b4, bds, nadd, nadd, gdi (by omega) (by omega), nclamp (by omega)]
        have t2' : TKp (mset N2 (g + 4) k (nI v)) (mset R2 85 (6 + k) (nI v)) n b p2 := t2.cong (mset_off _ _ _ (by omega)) (mset_off _ _ _ (by omega)) (mset_off _ _ _ (by decide)) (mset_off _ _ _ (by decide)) (mset_off _ _ _ (by decide))
        have S' : CkS Mc0 Mr0 g (k + 1) (fun j => if j = k then v else w j) (mset N2 (g + 4) k (nI v)) (mset R2 85 (6 + k) (nI v)) := by
          have q4 : N2 (g + 4) = N (g + 4) := by rw [W2.fr _ (by omega) (by omega), W1.fr _ (by omega) (by omega)]
          have q85 : R2 85 = R 85 := by rw [V2.fr 85 (by decide) (by decide), V1.fr 85 (by decide) (by decide)]
          refine ⟨fun j => ?_, fun j hj => ?_, fun j hj => ?_, fun j hj => ?_, fun i hi => ?_, fun x h1 h2 h3 => ?_, ?_, ?_, (S.xr.tr (V1.x.tr V2.x)).m _ _⟩
          · have := S.w100 j
            dsimp only
            split <;> omega
          · dsimp only
            by_cases c : j = k
            · subst c; rw [ms1, if_pos rfl]
            · rw [ms3 _ _ c, if_neg c, q4]; exact S.c j (by omega)
          · rw [ms3 _ _ (by omega), q4]; exact S.cc j (by omega)
          · dsimp only
            by_cases c : j = k
            · subst c; rw [ms1, if_pos rfl]
            · rw [ms3 _ _ (by omega), if_neg c, q85]; exact S.r j (by omega)
          · rw [ms3 _ _ (by omega), q85]; exact S.rr i (by omega)
          · rw [mset_off _ _ _ h3, W2.fr x h1 h2, W1.fr x h1 h2]; exact S.fr x h1 h2 h3
          · rw [mset_off _ _ _ (by omega), W2.f1, W1.f1]; exact S.f1
          · rw [mset_off _ _ _ (by omega), W2.f3, W1.f3]; exact S.f3
        rcases ih (k + 1) f f' _ _ p2 _ (by omega) (by omega) (by omega) (by omega) t2' (om o2 _ _) S' with ⟨N', R', p', w', i1, i2, i3, i4, i5, i6⟩ | ⟨N', R', i1, i2, i3, i4, i5⟩
        · exact .inl ⟨N', R', p', w', i1, i2, i3, by omega, i5, i6⟩
        · exact .inr ⟨N', R', i1, i2, i3, i4, i5⟩
      · right
        refine ⟨N2, mset R2 85 (6 + k) (nI 0), ?_, ?_, F.m _ _, S.xc.tr ((W1.x g).tr (W2.x g)), (S.xr.tr (V1.x.tr V2.x)).m _ _⟩
        · rw [b3, bds, if_pos (by decide)]
        · obtain ⟨f', rfl⟩ : ∃ g, f' = g + 1 := ⟨f' - 1, by omega⟩
          rw [b4, bds, nadd, gdi (by omega) (by omega), nclamp (by omega), nadd, r_ch_fl (fm F.2.2 _ _)]
    · right
      obtain ⟨N1, R1, a1, a2, F, W1, V1, -⟩ := both_fail t 1 h13
      refine ⟨N1, mset R1 85 (6 + k) (nI 0), ?_, ?_, F.m _ _, S.xc.tr (W1.x g), (S.xr.tr V1.x).m _ _⟩
      · rw [if_neg (by rw [neq (by omega) (by omega)]; exact c4)]
        unfold chC
        simp only [jns]
        rw [e3, bgv hg, e9, nsub (by omega), Nat.add_sub_cancel, if_neg (by rw [neq (by omega) (by omega)]; omega), a1, bds, if_pos (by decide)]
      · rw [r_comma t h13 c4, bds, if_pos (by decide), a2, bvs, rest R1 F.2.2]
def onG (G w : Nat → Nat) (m a c d : Nat) : Nat → Nat := fun i => if i = 93 then 1 else if i = 5 then d else if i = 4 then c else if i = 3 then a else if 6 ≤ i ∧ i < 6 + m then w (i - 6) else G i
theorem one_PGm {Mc' Mr' : Mm} {w : Nat → Nat} {m a c d : Nat} (P : PGm Mc Mr g n b G) (hv1 : 1 ≤ G 92) (hm : m ≤ 5) (ha : 1 ≤ a ∧ a ≤ 60) (hc : 1 ≤ c ∧ c ≤ 20) (hd : d ≤ 100) (hw : ∀ j, w j ≤ 100) (f : ∀ x, x ≠ 15 → x ≠ 17 → x ≠ g → x ≠ g + 4 → Mc' x = Mc x) (f3 : Mc' 17 3 = Mc 17 3) (e10 : Mc' g 10 = nI a) (e11 : Mc' g 11 = nI c) (e12 : Mc' g 12 = nI d) (fk : ∀ k, k ≠ 10 → k ≠ 11 → k ≠ 12 → Mc' g k = Mc g k) (e4 : ∀ j, j < 5 → Mc' (g + 4) j = nI (if j < m then w j else G (6 + j))) (er : ∀ k, k < 141 → Mr' 85 k = nI (onG G w m a c d k)) : PGm Mc' Mr' g n b (onG G w m a c d) := by
  have hg := P.C.hg
  have ee : ∀ i, (i < 3 ∨ 11 ≤ i) → i ≠ 93 → onG G w m a c d i = G i := fun i h2 h3 => by
    unfold onG
    rw [if_neg h3, if_neg (by omega), if_neg (by omega), if_neg (by omega), if_neg (by omega)]
  have z93 : onG G w m a c d 93 = 1 := rfl
  have z5 : onG G w m a c d 5 = d := rfl
  have z4 : onG G w m a c d 4 = c := rfl
  have z3 : onG G w m a c d 3 = a := rfl
  have z6 : ∀ j, j < 5 → onG G w m a c d (6 + j) = if j < m then w j else G (6 + j) := fun j hj => by
    unfold onG
    rw [if_neg (by omega), if_neg (by omega), if_neg (by omega), if_neg (by omega)]
    by_cases c1 : j < m
    · rw [if_pos (by omega), if_pos c1, Nat.add_sub_cancel_left]
    · rw [if_neg (by omega), if_neg c1]
  generalize onG G w m a c d = G' at *
  have hv := P.v
  have hcr := P.cr
  have hgr := P.gr
  have C := P.C
  refine ⟨⟨hg, ?_, ?_, ?_, ?_, ?_, ?_, ?_, ?_, ?_, fun j hj => ?_, fun j hj => ?_, fun j hj k hk => ?_, fun i hi => ?_, fun i hi => ?_, fun i hi w' hw' => ?_⟩, by rw [f3]; exact P.g3, fun i hi => ?_, er, ?_, ?_, fun j hj => ?_, fun j hj k hk => ?_, .inr ⟨z93, ?_, ?_, ?_, ?_⟩, fun k hk => ?_, ?_, ?_, fun i hi => ?_, fun i hi => ?_, fun i hi => ?_, fun i hi hi5 => ?_, fun h92 q' hq' => ?_⟩
  · rw [fk 6 (by decide) (by decide) (by decide), ee 0 (by omega) (by omega)]; exact C.f6
  · rw [fk 7 (by decide) (by decide) (by decide), ee 1 (by omega) (by omega)]; exact C.f7
  · rw [fk 8 (by decide) (by decide) (by decide), ee 2 (by omega) (by omega)]; exact C.f8
  · rw [fk 9 (by decide) (by decide) (by decide), ee 92 (by omega) (by omega)]; exact C.f9
  · rw [e10, z3]
  · rw [e11, z4]
  · rw [e12, z5]
  · rw [fk 13 (by decide) (by decide) (by decide), ee 94 (by omega) (by omega)]; exact C.f13
  · rw [fk 14 (by decide) (by decide) (by decide), ee 95 (by omega) (by omega)]; exact C.f14
  · rw [ee 92 (by omega) (by omega)] at hj
    rw [f _ (by omega) (by omega) (by omega) (by omega), En_congr (G := G) (fun i h1 h2 => ee i (by omega) (by omega)) (fun p _ h2 => (P.syl p h2).2) (j + 1) (by omega) (by omega)]
    exact C.ends j hj
  · rw [ee 92 (by omega) (by omega)] at hj
    rw [f _ (by omega) (by omega) (by omega) (by omega), ee (11 + j) (by omega) (by omega)]; exact C.syc j hj
  · rw [ee 92 (by omega) (by omega)] at hj
    rw [ee (11 + j) (by omega) (by omega)] at hk
    have := (P.syl j hj).2
    rw [f _ (by omega) (by omega) (by omega) (by omega), ee (16 + 4 * j + k) (by omega) (by omega)]; exact C.syl j hj k hk
  · rw [ee 92 (by omega) (by omega)] at hi
    rw [e4 i (by omega), z6 i (by omega)]
  · rw [ee 94 (by omega) (by omega)] at hi
    rw [f _ (by omega) (by omega) (by omega) (by omega), ee (36 + i) (by omega) (by omega), ee (41 + i) (by omega) (by omega), ee (46 + i) (by omega) (by omega), ee (51 + i) (by omega) (by omega)]; exact C.grv i hi
  · rw [ee 95 (by omega) (by omega)] at hi
    rw [f _ (by omega) (by omega) (by omega) (by omega), ee (56 + 5 * w' + i) (by omega) (by omega)]; exact C.trt i hi w' hw'
  · rw [e4 i hi, z6 i hi]
  · rw [ee 91 (by omega) (by omega), ee 0 (by omega) (by omega), ee 94 (by omega) (by omega), ee 95 (by omega) (by omega), ee 1 (by omega) (by omega), ee 2 (by omega) (by omega)]; exact P.y
  · rw [ee 92 (by omega) (by omega)]; exact hv
  · rw [ee 92 (by omega) (by omega)] at hj
    rw [ee (11 + j) (by omega) (by omega)]; exact P.syl j hj
  · rw [ee 92 (by omega) (by omega)] at hj
    rw [ee (11 + j) (by omega) (by omega)] at hk
    have := (P.syl j hj).2
    rw [ee (16 + 4 * j + k) (by omega) (by omega)]; exact P.ten j hj k hk
  · rw [z3]; exact ha
  · rw [z4]; exact hc
  · rw [z5]; exact hd
  · rw [ee 92 (by omega) (by omega)]; exact hv1
  · rw [z6 k hk]
    split
    · exact hw k
    · exact P.tu k hk
  · rw [ee 94 (by omega) (by omega)]; exact hgr
  · rw [ee 95 (by omega) (by omega)]; exact hcr
  · rw [ee 94 (by omega) (by omega)] at hi
    rw [ee (36 + i) (by omega) (by omega), ee (41 + i) (by omega) (by omega), ee (46 + i) (by omega) (by omega), ee (51 + i) (by omega) (by omega), ee 0 (by omega) (by omega), ee 1 (by omega) (by omega)]; exact P.grv i hi
  · rw [ee 95 (by omega) (by omega)] at hi
    rw [ee 1 (by omega) (by omega), ee (56 + i) (by omega) (by omega), ee (61 + i) (by omega) (by omega), ee (66 + i) (by omega) (by omega), ee (71 + i) (by omega) (by omega), ee (76 + i) (by omega) (by omega), ee (81 + i) (by omega) (by omega), ee (86 + i) (by omega) (by omega)]
    exact P.crp i hi
  · rw [ee 95 (by omega) (by omega)] at hi
    obtain ⟨s, h2, h3, h4, h5, h6⟩ := P.nam i hi
    rw [f 18 (by omega) (by omega) (by omega) (by omega), f 19 (by omega) (by omega) (by omega) (by omega), ee (96 + i) (by omega) (by omega)]
    refine ⟨s, h2, h3, h4, h5, fun k hk => ?_⟩
    rw [ee (101 + 8 * i + k) (by omega) (by omega)]
    exact h6 k hk
  · rw [ee 95 (by omega) (by omega)] at hi
    rw [ee (81 + i) (by omega) (by omega), ee (86 + i) (by omega) (by omega)]; exact P.zw i hi hi5
  · rw [ee 92 (by omega) (by omega)] at h92
    rw [f _ (by omega) (by omega) (by omega) (by omega)]; exact P.zs h92 q' hq'
/-- from the chances' end to the line's -/
theorem one_end {N R : Mm} {w : Nat → Nat} {m p' : Nat} (P : PGm Mc Mr g n b G) (hv1 : 1 ≤ G 92) (hm : m ≤ 5) (t : TKp N R n b p') (hp : p < p') (o : R 81 13 = nI 0) (S : CkS Mc Mr g m w N R) : LineEnd g n b p Mc Mr (oneC N) (oneR R) := by
  have hg := P.C.hg
  rcases one_tail t hg (by rw [S.f3]; exact P.g3) o with ⟨Mc', Mr', p2, a, c, d, ha, hc, hd, b1, b2, t2, hp2, o2, f, f1, f3, e10, e11, e12, fk, xr, er⟩ | ⟨Mc', Mr', b1, b2, F, xc, xr⟩
  · left
    refine ⟨Mc', Mr', p2, onG G w m a c d, b1, b2, t2, by omega, o2, one_PGm P hv1 hm ha hc hd S.w100 (fun x h1 h2 h3 h4 => by rw [f x h1 h2 h3, S.fr x h1 h2 h4]) (by rw [f3, S.f3]) e10 e11 e12 (fun k h1 h2 h3 => by rw [fk k h1 h2 h3, S.fr g (by omega) (by omega) (by omega)]) (fun j hj => ?_) (fun k hk => ?_), ⟨fun x h1 h2 h3 h4 h5 => by rw [f x h1 h2 (by omega), S.fr x h1 h2 (by omega)], by rw [f1, S.f1], by rw [f3, S.f3]⟩, S.xr.tr xr⟩
    · rw [f (g + 4) (by omega) (by omega) (by omega)]
      by_cases c1 : j < m
      · rw [S.c j c1, if_pos c1]
      · rw [S.cc j (by omega), if_neg c1]; exact P.ch j hj
    · rw [er k]
      unfold onG
      by_cases k1 : k = 93
      · rw [if_pos k1, if_pos k1]
      · rw [if_neg k1, if_neg k1]
        by_cases k2 : k = 5
        · rw [if_pos k2, if_pos k2]
        · rw [if_neg k2, if_neg k2]
          by_cases k3 : k = 4
          · rw [if_pos k3, if_pos k3]
          · rw [if_neg k3, if_neg k3]
            by_cases k4 : k = 3
            · rw [if_pos k4, if_pos k4]
            · rw [if_neg k4, if_neg k4]
              by_cases k5 : 6 ≤ k ∧ k < 6 + m
              · have := S.r (k - 6) (by omega)
                rw [show 6 + (k - 6) = k from by omega] at this
                rw [if_pos k5, this]
              · rw [if_neg k5, S.rr k (by omega)]; exact P.r k hk
  · right
    exact ⟨Mc', Mr', b1, b2, F, S.xc.tr xc, S.xr.tr xr⟩
theorem both_one (t : TKp Mc Mr n b p) (P : PGm Mc Mr g n b G) (h13 : Mr 81 13 = nI 0) (hw : wd b n p 5 = true) : LineEnd g n b p Mc Mr (f_X5_oneLine Mc) (f_X10_oneLine Mr) := by
  have hg := P.C.hg
  have hk := wd_K hw
  have hv := P.v
  have ly := ly4 P.C
  have eC : f_X5_oneLine Mc = bg (Mc 17 3) fun g1 => if (Mc g1 9) = 0 then (bd (f_X5_fail (nI 6) Mc) fun v13_28 M13_27 => gd (zo v13_28) <| some (v13_28, M13_27)) else (bg (Mc 17 3) fun g2 => if (Mc g2 11) ≤ 0 then (bv (f_X8_advance  Mc) fun M37_3 => bg (M37_3 17 3) fun g5 => if (M37_3 g5 9) ≤ (nI 1) then (oneC  M37_3) else (bd (f_X5_chances  M37_3) fun v52_21 M52_20 => if v52_21 = 0 then (some ((nI 0), M52_20)) else (oneC  M52_20))) else (bd (f_X5_fail (nI 3) Mc) fun v29_25 M29_24 => gd (zo v29_25) <| some (v29_25, M29_24))) := rfl
  have eR : f_X10_oneLine Mr = (if (Mr 85 93) ≤ 0 then (if (Mr 85 92) = 0 then (bv (f_X10_begins (nI 6) Mr) fun M31_4 => if (M31_4 85 92) - (nI 1) ≤ 0 then (oneR  M31_4) else (bv (f_X10_must 29 M31_4) fun M51_16 => lp_X10_oneLine_56 ((M31_4 85 92) - (nI 1)) (chR oneR) N0 (nI 0) M51_16)) else (bv (f_X10_begins (nI 0) Mr) fun M31_4 => if (M31_4 85 92) - (nI 1) ≤ 0 then (oneR  M31_4) else (bv (f_X10_must 29 M31_4) fun M51_16 => lp_X10_oneLine_56 ((M31_4 85 92) - (nI 1)) (chR oneR) N0 (nI 0) M51_16))) else (bv (f_X10_begins (nI 3) Mr) fun M31_4 => if (M31_4 85 92) - (nI 1) ≤ 0 then (oneR  M31_4) else (bv (f_X10_must 29 M31_4) fun M51_16 => lp_X10_oneLine_56 ((M31_4 85 92) - (nI 1)) (chR oneR) N0 (nI 0) M51_16))) := rfl
  rw [eC, eR, P.g3, bgv hg, bgv hg, P.C.f9, P.C.f11, P.r 93 (by decide), P.r 92 (by decide)]
  have restF : ∀ M : Mm, M 81 13 = nI 1 → (if (M 85 92) - (nI 1) ≤ 0 then (oneR M) else (bv (f_X10_must 29 M) fun M51_16 => lp_X10_oneLine_56 ((M 85 92) - (nI 1)) (chR oneR) N0 (nI 0) M51_16)) = oneR M := fun M hM => by
    by_cases c : (M 85 92) - (nI 1) ≤ 0
    · rw [if_pos c]
    · rw [if_neg c, fl_must hM, bvs, show N0 = 999999 + 1 from rfl, lp_X10_oneLine_56]
      by_cases c2 : M 85 92 - nI 1 ≤ nI 0
      · rw [if_pos c2, chR_fl hM]
      · rw [if_neg c2, if_neg (fl0 hM), chR_fl hM]
  have failE : ∀ e, 0 < e ∧ e < 10 → LineEnd g n b p Mc Mr (bd (f_X5_fail (nI e) Mc) fun v M => gd (zo v) <| some (v, M)) (bv (f_X10_begins (nI e) Mr) fun M31_4 => if (M31_4 85 92) - (nI 1) ≤ 0 then (oneR  M31_4) else (bv (f_X10_must 29 M31_4) fun M51_16 => lp_X10_oneLine_56 ((M31_4 85 92) - (nI 1)) (chR oneR) N0 (nI 0) M51_16)) := fun e he => by
    obtain ⟨Mc1, Mr1, a1, a2, F, W1, V1, -⟩ := both_fail t e h13
    rw [a1, r_beginsE he a2 F.2.2, bvs, restF _ F.2.2, oneR_fl F.2.2]
    exact .inr ⟨_, _, rfl, rfl, ((F.m _ _).m _ _).m _ _, W1.x g, ((V1.x.m _ _).m _ _).m _ _⟩
  by_cases c0 : G 92 = 0
  · have h0 : G 93 = 0 := by
      rcases P.o with h | h
      · exact h.1
      · omega
    rw [c0, h0, if_pos (by decide), if_pos (by decide), if_pos (by decide)]
    exact failE 6 (by omega)
  · rw [if_neg (show ¬ nI (G 92) = 0 by rw [nz0 (by omega)]; exact c0), if_neg (show ¬ nI (G 92) = 0 by rw [nz0 (by omega)]; exact c0)]
    by_cases c1 : G 93 = 0
    · have h4 : G 4 = 0 := by
        rcases P.o with h | h
        · exact h.2
        · omega
      rw [h4, c1, if_pos (by decide), if_pos (by decide), r_begins0 h13]
      obtain ⟨Mc1, Mr1, a1, a2, t1, w1, w2, w3, w4⟩ := t.adv
      have hp1 := (tK_pos t.hp (b := b) (by omega)).2
      have o1 : Mr1 81 13 = nI 0 := by rw [w4 13 (by omega)]; exact h13
      have W1 : Wc Mc Mc1 := ⟨fun a h _ => w1 a h, w2, by rw [w1 17 (by decide)]⟩
      have V1 : Wr Mr Mr1 := ⟨w3, fun k hk => w4 k (by omega)⟩
      have g1 : Mc1 17 3 = nI g := by rw [W1.f3]; exact P.g3
      have g9 : Mc1 g 9 = nI (G 92) := by rw [W1.fr g (by omega) (by omega)]; exact P.C.f9
      have r92 : Mr1 85 92 = nI (G 92) := by rw [V1.fr 85 (by decide) (by decide)]; exact P.r 92 (by decide)
      have S0 : CkS Mc Mr g 0 (fun _ => 0) Mc1 Mr1 := ⟨fun _ => Nat.zero_le _, fun j hj => by omega, fun j _ => by rw [W1.fr _ (by omega) (by omega)], fun j hj => by omega, fun i _ => by rw [V1.fr 85 (by decide) (by decide)], fun x h1 h2 _ => W1.fr x h1 h2, W1.f1, W1.f3, V1.x⟩
      rw [a1, a2, bvs, bvs, g1, bgv hg, g9, r92, nsub (by omega)]
      by_cases c2 : G 92 = 1
      · rw [if_pos (by rw [c2]; decide), if_pos (by rw [c2]; decide)]
        exact one_end P (by omega) (by omega) t1 hp1 o1 S0
      · rw [if_neg (by rw [nle (by omega) (by omega)]; omega), if_neg (by rw [nle0 (by omega)]; omega)]
        unfold f_X5_chances
        rcases both_word t1 (i := 6) (by decide) o1 with ⟨Mc2, Mr2, p2, b1, b2, t2, hp2, o2, W2, V2⟩ | ⟨Mc2, Mr2, b1, b2, F, W2, V2⟩
        · rw [b1, b2, bds, if_neg (by decide), bvs, show N0 = 999999 + 1 from rfl, lp_X10_oneLine_56, if_neg (show ¬ nI (G 92 - 1) ≤ nI 0 by rw [nle (by omega) (by omega)]; omega), if_pos (show Mr2 81 13 = 0 by rw [o2]; rfl)]
          simp only [jns]
          rw [if_pos (show nI 0 ≤ (0 : Int32) by decide)]
          rcases both_number t2 (a := 0) (c := 100) (by decide) (by decide) o2 with ⟨Mc3, Mr3, p3, v, d1, d2, d3, d4, d5, t3, hp3, o3, W3, V3⟩ | ⟨Mc3, Mr3, d3, d4, F, W3, V3⟩
          · have g3 : Mc3 17 3 = nI g := by rw [W3.f3, W2.f3]; exact g1
            rw [d3, bds, if_neg (by decide), g3, bgv hg, d5, f_put ly (by decide) (by decide), bvs, d4, bds, nadd, nadd, gdi (by decide) (by decide), nclamp (by decide)]
            have t3' : TKp (mset Mc3 (g + 4) 0 (nI v)) (mset Mr3 85 6 (nI v)) n b p3 := t3.cong (mset_off _ _ _ (by omega)) (mset_off _ _ _ (by omega)) (mset_off _ _ _ (by decide)) (mset_off _ _ _ (by decide)) (mset_off _ _ _ (by decide))
            have q4 : Mc3 (g + 4) = Mc (g + 4) := by rw [W3.fr _ (by omega) (by omega), W2.fr _ (by omega) (by omega), W1.fr _ (by omega) (by omega)]
            have q85 : Mr3 85 = Mr 85 := by rw [V3.fr 85 (by decide) (by decide), V2.fr 85 (by decide) (by decide), V1.fr 85 (by decide) (by decide)]
            have S1 : CkS Mc Mr g 1 (fun _ => v) (mset Mc3 (g + 4) 0 (nI v)) (mset Mr3 85 6 (nI v)) := by
              refine ⟨fun _ => d2, fun j hj => ?_, fun j hj => ?_, fun j hj => ?_, fun i hi => ?_, fun x h1 h2 h3 => ?_, ?_, ?_, ((V1.x.tr V2.x).tr V3.x).m _ _⟩
              · have : j = 0 := by omega
                subst this; rw [ms1]
              · rw [ms3 _ _ (by omega), q4]
              · have : j = 0 := by omega
                subst this; rw [ms1]
              · rw [ms3 _ _ (by omega), q85]
              · rw [mset_off _ _ _ h3, W3.fr x h1 h2, W2.fr x h1 h2, W1.fr x h1 h2]
              · rw [mset_off _ _ _ (by omega), W3.f1, W2.f1, W1.f1]
              · rw [mset_off _ _ _ (by omega), W3.f3, W2.f3, W1.f3]
            have h9 : Mc g 9 = nI (G 92 - 1 + 1) := by rw [show G 92 - 1 + 1 = G 92 from by omega]; exact P.C.f9
            rcases both_chLoop (J := oneR) hg P.g3 h9 (by omega) (G 92 - 2) 1 (999999 + 1) 999999 _ _ p3 _ (by omega) (by omega) (by omega) (by omega) t3' (om o3 _ _) S1 with ⟨N', R', p', w', i1, i2, i3, i4, i5, i6⟩ | ⟨N', R', i1, i2, i3, i4, i5⟩
            · have i1' : lp_X5_chances_39 (fun (u23 : Int32) (M24 : Mm) => bg (M24 17 3) fun g25 => jn (fun (M26 : Mm) => some ((nI 1), M26)) fun j27 => if u23 = ((M24 g25 9) - (nI 1)) then (j27  M24) else (bd (f_X5_fail (nI 1) M24) fun v130_29 M130_28 => if v130_29 = 0 then (some ((nI 0), M130_28)) else (j27  M130_28))) (999999 + 1) (nI 1) (mset Mc3 (g + 4) 0 (nI v)) = some (nI 1, N') := i1
              rw [i2]
              simp only [jns] at i1'
              rw [i1', bds, if_neg (by decide)]
              exact one_end P (by omega) (by omega) i3 (by omega) i5 i6
            · have i1' : lp_X5_chances_39 (fun (u23 : Int32) (M24 : Mm) => bg (M24 17 3) fun g25 => jn (fun (M26 : Mm) => some ((nI 1), M26)) fun j27 => if u23 = ((M24 g25 9) - (nI 1)) then (j27  M24) else (bd (f_X5_fail (nI 1) M24) fun v130_29 M130_28 => if v130_29 = 0 then (some ((nI 0), M130_28)) else (j27  M130_28))) (999999 + 1) (nI 1) (mset Mc3 (g + 4) 0 (nI v)) = some (nI 0, N') := i1
              rw [i2, oneR_fl i3.2.2]
              simp only [jns] at i1'
              rw [i1', bds, if_pos (by decide)]
              exact .inr ⟨_, _, rfl, rfl, ((i3.m _ _).m _ _).m _ _, i4, ((i5.m _ _).m _ _).m _ _⟩
          · rw [d3, bds, if_pos (by decide), bds, if_pos (by decide), d4, bds, nadd, nadd, gdi (by decide) (by decide), nclamp (by decide), r_ch_fl (fm F.2.2 _ _), oneR_fl (fm F.2.2 _ _)]
            exact .inr ⟨_, _, rfl, rfl, (((F.m _ _).m _ _).m _ _).m _ _, ((W1.x g).tr (W2.x g)).tr (W3.x g), ((((V1.x.tr V2.x).tr V3.x).m _ _).m _ _ |>.m _ _).m _ _⟩
        · rw [b1, b2, bds, if_pos (by decide), bds, if_pos (by decide), bvs, show N0 = 999999 + 1 from rfl, r_ch_fl F.2.2, oneR_fl F.2.2]
          exact .inr ⟨_, _, rfl, rfl, ((F.m _ _).m _ _).m _ _, (W1.x g).tr (W2.x g), (((V1.x.tr V2.x).m _ _).m _ _).m _ _⟩
    · have h1 : G 93 = 1 ∧ 1 ≤ G 4 ∧ G 4 ≤ 20 := by
        rcases P.o with h | h
        · omega
        · exact ⟨h.1, h.2.2.1⟩
      rw [if_neg (show ¬ nI (G 4) ≤ 0 by rw [nle0 (by omega)]; omega), if_neg (show ¬ nI (G 93) ≤ 0 by rw [nle0 (by omega)]; omega)]
      exact failE 3 (by omega)
end
