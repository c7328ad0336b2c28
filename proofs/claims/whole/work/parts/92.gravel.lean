/-! THE GRAVEL'S LINE. -/
section
variable {Mc Mr : Mm} {g n p : Nat} {b : Nat → Nat} {G : Nat → Nat}
def gvG (G : Nat → Nat) (q a c d e : Nat) : Nat → Nat := gset (gset (gset (gset (gset G (36 + q) a) (41 + q) c) (46 + q) d) (51 + q) e) 94 (q + 1)
theorem gravel_PGm {Mc' Mr' : Mm} {q a c d e : Nat} (P : PGm Mc Mr g n b G) (h1 : G 91 = 1) (hq : G 94 = q) (hq5 : q < 5) (ha : a < G 1) (hc : 1 ≤ c) (hd : c ≤ d ∧ d ≤ G 0) (he : 1 ≤ e ∧ e ≤ 99) (f : ∀ x, x ≠ 15 → x ≠ 17 → x ≠ g → x ≠ g + 5 → Mc' x = Mc x) (f3 : Mc' 17 3 = Mc 17 3) (e13 : Mc' g 13 = nI (q + 1)) (fk : ∀ k, k ≠ 13 → Mc' g k = Mc g k) (fr : ∀ k, k < 4 * q → Mc' (g + 5) k = Mc (g + 5) k) (e0 : Mc' (g + 5) (4 * q) = nI a) (e1 : Mc' (g + 5) (4 * q + 1) = nI c) (e2 : Mc' (g + 5) (4 * q + 2) = nI d) (e3 : Mc' (g + 5) (4 * q + 3) = nI e) (er : ∀ k, k < 141 → Mr' 85 k = nI (gvG G q a c d e k)) : PGm Mc' Mr' g n b (gvG G q a c d e) := by
  have hg := P.C.hg
  have hy : (4 ≤ G 0 ∧ G 0 ≤ 40) ∧ (1 ≤ G 1 ∧ G 1 ≤ 6) ∧ 1 ≤ G 2 ∧ G 2 ≤ 9 := by
    rcases P.y with h | h
    · omega
    · exact h.2
  have ee : ∀ i, i < 36 ∨ 56 ≤ i → i ≠ 94 → gvG G q a c d e i = G i := fun i h2 h3 => by
    unfold gvG
    rw [gs2 _ _ h3, gs2 _ _ (by omega), gs2 _ _ (by omega), gs2 _ _ (by omega), gs2 _ _ (by omega)]
  have z94 : gvG G q a c d e 94 = q + 1 := gs1 _ _ _
  have z36 : ∀ j, j < 5 → gvG G q a c d e (36 + j) = if j = q then a else G (36 + j) := fun j hj => by
    unfold gvG
    rw [gs2 _ _ (by omega), gs2 _ _ (by omega), gs2 _ _ (by omega), gs2 _ _ (by omega)]
    by_cases c1 : j = q
    · subst c1; rw [gs1, if_pos rfl]
    · rw [gs2 _ _ (by omega), if_neg c1]
  have z41 : ∀ j, j < 5 → gvG G q a c d e (41 + j) = if j = q then c else G (41 + j) := fun j hj => by
    unfold gvG
    rw [gs2 _ _ (by omega), gs2 _ _ (by omega), gs2 _ _ (by omega)]
    by_cases c1 : j = q
    · subst c1; rw [gs1, if_pos rfl]
    · rw [gs2 _ _ (by omega), gs2 _ _ (by omega), if_neg c1]
  have z46 : ∀ j, j < 5 → gvG G q a c d e (46 + j) = if j = q then d else G (46 + j) := fun j hj => by
    unfold gvG
    rw [gs2 _ _ (by omega), gs2 _ _ (by omega)]
    by_cases c1 : j = q
    · subst c1; rw [gs1, if_pos rfl]
    · rw [gs2 _ _ (by omega), gs2 _ _ (by omega), gs2 _ _ (by omega), if_neg c1]
  have z51 : ∀ j, j < 5 → gvG G q a c d e (51 + j) = if j = q then e else G (51 + j) := fun j hj => by
    unfold gvG
    rw [gs2 _ _ (by omega)]
    by_cases c1 : j = q
    · subst c1; rw [gs1, if_pos rfl]
    · rw [gs2 _ _ (by omega), gs2 _ _ (by omega), gs2 _ _ (by omega), gs2 _ _ (by omega), if_neg c1]
  generalize gvG G q a c d e = G' at *
  have hv := P.v
  have hcr := P.cr
  have C := P.C
  have rowX : ∀ x, x ≠ 15 → x ≠ 17 → x ≠ g → x ≠ g + 5 → ∀ k, Mc' x k = Mc x k := fun x h2 h3 h4 h5 k => by rw [f x h2 h3 h4 h5]
  refine ⟨⟨hg, ?_, ?_, ?_, ?_, ?_, ?_, ?_, ?_, ?_, fun j hj => ?_, fun j hj => ?_, fun j hj k hk => ?_, fun i hi => ?_, fun i hi => ?_, fun i hi w hw => ?_⟩, by rw [f3]; exact P.g3, fun i hi => ?_, er, .inr ⟨?_, ?_, ?_, ?_⟩, ?_, fun j hj => ?_, fun j hj k hk => ?_, ?_, fun k hk => ?_, ?_, ?_, fun i hi => ?_, fun i hi => ?_, fun i hi => ?_, fun i hi hi5 => ?_, fun h92 q' hq' => ?_⟩
  · rw [fk 6 (by decide), ee 0 (by omega) (by omega)]; exact C.f6
  · rw [fk 7 (by decide), ee 1 (by omega) (by omega)]; exact C.f7
  · rw [fk 8 (by decide), ee 2 (by omega) (by omega)]; exact C.f8
  · rw [fk 9 (by decide), ee 92 (by omega) (by omega)]; exact C.f9
  · rw [fk 10 (by decide), ee 3 (by omega) (by omega)]; exact C.f10
  · rw [fk 11 (by decide), ee 4 (by omega) (by omega)]; exact C.f11
  · rw [fk 12 (by decide), ee 5 (by omega) (by omega)]; exact C.f12
  · rw [e13, z94]
  · rw [fk 14 (by decide), ee 95 (by omega) (by omega)]; exact C.f14
  · rw [ee 92 (by omega) (by omega)] at hj
    rw [f _ (by omega) (by omega) (by omega) (by omega), En_congr (G := G) (fun i h1 h2 => ee i (by omega) (by omega)) (fun p _ h2 => (P.syl p h2).2) (j + 1) (by omega) (by omega)]
    exact C.ends j hj
  · rw [ee 92 (by omega) (by omega)] at hj
    rw [f _ (by omega) (by omega) (by omega) (by omega), ee (11 + j) (by omega) (by omega)]; exact C.syc j hj
  · rw [ee 92 (by omega) (by omega)] at hj
    rw [ee (11 + j) (by omega) (by omega)] at hk
    have := (P.syl j hj).2
    rw [f _ (by omega) (by omega) (by omega) (by omega), ee (16 + 4 * j + k) (by omega) (by omega)]; exact C.syl j hj k hk
  · rw [ee 92 (by omega) (by omega)] at hi
    rw [f _ (by omega) (by omega) (by omega) (by omega), ee (6 + i) (by omega) (by omega)]; exact C.cha i hi
  · rw [z94] at hi
    rw [z36 i (by omega), z41 i (by omega), z46 i (by omega), z51 i (by omega)]
    by_cases c1 : i = q
    · subst c1
      rw [if_pos rfl, if_pos rfl, if_pos rfl, if_pos rfl]
      exact ⟨e0, e1, e2, e3⟩
    · rw [if_neg c1, if_neg c1, if_neg c1, if_neg c1, fr _ (by omega), fr _ (by omega), fr _ (by omega), fr _ (by omega)]
      exact C.grv i (by omega)
  · rw [ee 95 (by omega) (by omega)] at hi
    rw [f _ (by omega) (by omega) (by omega) (by omega), ee (56 + 5 * w + i) (by omega) (by omega)]; exact C.trt i hi w hw
  · rw [f _ (by omega) (by omega) (by omega) (by omega), ee (6 + i) (by omega) (by omega)]; exact P.ch i hi
  · rw [ee 91 (by omega) (by omega)]; exact h1
  · rw [ee 0 (by omega) (by omega)]; exact hy.1
  · rw [ee 1 (by omega) (by omega)]; exact hy.2.1
  · rw [ee 2 (by omega) (by omega)]; exact hy.2.2
  · rw [ee 92 (by omega) (by omega)]; exact hv
  · rw [ee 92 (by omega) (by omega)] at hj
    rw [ee (11 + j) (by omega) (by omega)]; exact P.syl j hj
  · rw [ee 92 (by omega) (by omega)] at hj
    rw [ee (11 + j) (by omega) (by omega)] at hk
    have := (P.syl j hj).2
    rw [ee (16 + 4 * j + k) (by omega) (by omega)]; exact P.ten j hj k hk
  · rw [ee 93 (by omega) (by omega), ee 4 (by omega) (by omega), ee 3 (by omega) (by omega), ee 5 (by omega) (by omega), ee 92 (by omega) (by omega)]; exact P.o
  · rw [ee (6 + k) (by omega) (by omega)]; exact P.tu k hk
  · rw [z94]; omega
  · rw [ee 95 (by omega) (by omega)]; exact hcr
  · rw [z94] at hi
    rw [z36 i (by omega), z41 i (by omega), z46 i (by omega), z51 i (by omega), ee 0 (by omega) (by omega), ee 1 (by omega) (by omega)]
    by_cases c1 : i = q
    · rw [if_pos c1, if_pos c1, if_pos c1, if_pos c1]
      exact ⟨ha, hc, hd.1, hd.2, he.1, he.2⟩
    · rw [if_neg c1, if_neg c1, if_neg c1, if_neg c1]
      exact P.grv i (by omega)
  · rw [ee 95 (by omega) (by omega)] at hi
    rw [ee 1 (by omega) (by omega), ee (56 + i) (by omega) (by omega), ee (61 + i) (by omega) (by omega), ee (66 + i) (by omega) (by omega), ee (71 + i) (by omega) (by omega), ee (76 + i) (by omega) (by omega), ee (81 + i) (by omega) (by omega), ee (86 + i) (by omega) (by omega)]
    exact P.crp i hi
  · rw [ee 95 (by omega) (by omega)] at hi
    obtain ⟨s, h2, h3, h4, h5, h6⟩ := P.nam i hi
    rw [f 18 (by omega) (by omega) (by omega) (by omega), f 19 (by omega) (by omega) (by omega) (by omega), ee (96 + i) (by omega) (by omega)]
    refine ⟨s, h2, h3, h4, h5, fun k hk => ?_⟩
    rw [ee (101 + 8 * i + k) (by omega) (by omega)]
    exact h6 k hk
  · rw [ee 95 (by omega) (by omega)] at hi
    rw [ee (81 + i) (by omega) (by omega), ee (86 + i) (by omega) (by omega)]; exact P.zw i hi hi5
  · rw [ee 92 (by omega) (by omega)] at h92
    rw [f _ (by omega) (by omega) (by omega) (by omega)]; exact P.zs h92 q' hq'
/-- the rest of the gravel's line in the reference, once it has failed -/
theorem r_gravelRest {M : Mm} (h : M 81 13 = nI 1) : (bd (f_X10_told 34 (nI 0) ((M 85 1) - (nI 1)) M) fun v55_7 M55_6 => bd (f_X10_told 35 (nI 1) (M55_6 85 0) M55_6) fun v69_9 M69_8 => bd (f_X10_told 36 v69_9 (M69_8 85 0) M69_8) fun v83_11 M83_10 => bd (f_X10_told 37 (nI 1) (nI 99) M83_10) fun v94_13 M94_12 => if (M94_12 81 13) = 0 then (gd (inb ((nI 36) + (M 85 94)) 141) <| gd (inb ((nI 41) + (M 85 94)) 141) <| gd (inb ((nI 46) + (M 85 94)) 141) <| gd (inb ((nI 51) + (M 85 94)) 141) <| some ((mset (mset (mset (mset (mset M94_12 85 ((nI 36) + (M 85 94)).toNatClampNeg v55_7) 85 ((nI 41) + (M 85 94)).toNatClampNeg v69_9) 85 ((nI 46) + (M 85 94)).toNatClampNeg v83_11) 85 ((nI 51) + (M 85 94)).toNatClampNeg v94_13) 85 94 (((mset (mset (mset (mset M94_12 85 ((nI 36) + (M 85 94)).toNatClampNeg v55_7) 85 ((nI 41) + (M 85 94)).toNatClampNeg v69_9) 85 ((nI 46) + (M 85 94)).toNatClampNeg v83_11) 85 ((nI 51) + (M 85 94)).toNatClampNeg v94_13) 85 94) + (nI 1))))) else (some M94_12)) = some M := by
  rw [fl_told h, bds, fl_told h, bds, fl_told h, bds, fl_told h, bds, if_neg (fl0 h)]
theorem both_gravel (t : TKp Mc Mr n b p) (P : PGm Mc Mr g n b G) (h13 : Mr 81 13 = nI 0) (hw : wd b n p 10 = true) : LineEnd g n b p Mc Mr (f_X5_gravelLine Mc) (f_X10_gravelLine Mr) := by
  have hg := P.C.hg
  have hk := wd_K hw
  have hgr := P.gr
  unfold f_X5_gravelLine f_X10_gravelLine
  simp only [jns, lts]
  rw [P.g3, bgv hg, bgv hg, P.C.f6, P.C.f13, P.r 91 (by decide), P.r 94 (by decide)]
  by_cases c0 : G 91 = 0
  · have h0 : G 0 = 0 ∧ G 94 = 0 := by
      rcases P.y with h | h
      · exact ⟨h.2.1, h.2.2.1⟩
      · omega
    obtain ⟨Mc1, Mr1, a1, a2, F, W1, V1, -⟩ := both_fail t 6 h13
    rw [h0.1, h0.2, c0, if_pos (by decide), a1, if_neg (by decide), if_pos (by decide), r_beginsE (by omega) a2 F.2.2, bvs, r_gravelRest F.2.2]
    right
    exact ⟨_, _, rfl, rfl, F, W1.x g, V1.x⟩
  · have hy : G 91 = 1 ∧ (4 ≤ G 0 ∧ G 0 ≤ 40) ∧ 1 ≤ G 1 ∧ G 1 ≤ 6 := by
      rcases P.y with h | h
      · omega
      · exact ⟨h.1, h.2.1, h.2.2.1⟩
    rw [if_neg (show ¬ nI (G 0) = 0 by rw [nz0 (by omega)]; omega)]
    by_cases c5 : G 94 = 5
    · obtain ⟨Mc1, Mr1, a1, a2, F, W1, V1, -⟩ := both_fail t 5 h13
      rw [c5, if_neg (by decide), a1, if_pos rfl, r_beginsE (by omega) a2 F.2.2, bvs, r_gravelRest F.2.2]
      right
      exact ⟨_, _, rfl, rfl, F, W1.x g, V1.x⟩
    · rw [if_pos (by rw [nlt (by omega) (by omega)]; omega), if_neg (by rw [neq (by omega) (by omega)]; exact c5), if_neg (show ¬ nI (G 91) = 0 by rw [nz0 (by omega)]; omega), r_begins0 h13]
      obtain ⟨Mc1, Mr1, a1, a2, t1, w1, w2, w3, w4⟩ := t.adv
      have hp1 := (tK_pos t.hp (b := b) (by omega)).2
      have o1 : Mr1 81 13 = nI 0 := by rw [w4 13 (by omega)]; exact h13
      have W1 : Wc Mc Mc1 := ⟨fun a h _ => w1 a h, w2, by rw [w1 17 (by decide)]⟩
      have V1 : Wr Mr Mr1 := ⟨w3, fun k hk => w4 k (by omega)⟩
      have g1 : Mc1 17 3 = nI g := by rw [W1.f3]; exact P.g3
      have r85 : ∀ k, k < 141 → Mr1 85 k = nI (G k) := fun k hk2 => by rw [V1.fr 85 (by decide) (by decide)]; exact P.r k hk2
      have ly := ly5 P.C
      have ck : ∀ k, Mc1 g k = Mc g k := fun k => by rw [W1.fr g (by omega) (by omega)]
      rw [a1, a2, bvs, bvs, g1, bgv hg, bgv hg, ck, ck, P.C.f13, P.C.f7, nsub (by omega), nmul, Nat.mul_comm (G 94) 4, r85 1 (by decide), nsub (by omega), r85 94 (by decide)]
      have z0 : nI (4 * G 94) + nI 0 = nI (4 * G 94) := by rw [nadd, Nat.add_zero]
      rcases both_told t1 (i := 11) (a := 0) (c := G 1 - 1) (by decide) (by decide) (by omega) o1 with ⟨Mc2, Mr2, p2, v2, b1, b2, b3, b4, b5, t2, hp2, o2, W2, V2⟩ | ⟨Mc2, Mr2, b3, b4, F, W2, V2⟩
      · have g2 : Mc2 17 3 = nI g := by rw [W2.f3]; exact g1
        have rr2 : ∀ k, Mr2 85 k = Mr1 85 k := fun k => by rw [V2.fr 85 (by decide) (by decide)]
        obtain ⟨N2, hN2⟩ : ∃ N2, N2 = mset Mc2 (g + 5) (4 * G 94) (nI v2) := ⟨_, rfl⟩
        have n2g : ∀ k, N2 g k = Mc g k := fun k => by rw [hN2, mset_off _ _ _ (by omega), W2.fr g (by omega) (by omega), ck]
        have n2t : N2 17 3 = nI g := by rw [hN2, mset_off _ _ _ (by omega)]; exact g2
        rw [b3, b4, bds, bds, if_neg (by decide), g2, bgv hg, z0, b5, f_put ly (by decide) (by omega), bvs, ← hN2, n2t, bgv hg, n2g, P.C.f6, rr2, r85 0 (by decide)]
        have t2' : TKp N2 Mr2 n b p2 := t2.cong (by rw [hN2]; exact mset_off _ _ _ (by omega)) (by rw [hN2]; exact mset_off _ _ _ (by omega)) rfl rfl rfl (by rw [hN2, mset_off _ _ _ (by omega)])
        rcases both_told t2' (i := 12) (a := 1) (c := G 0) (by decide) (by decide) (by omega) o2 with ⟨Mc3, Mr3, p3, v3, d1, d2, d3, d4, d5, t3, hp3, o3, W3, V3⟩ | ⟨Mc3, Mr3, d3, d4, F, W3, V3⟩
        · have g3 : Mc3 17 3 = nI g := by rw [W3.f3]; exact n2t
          have rr3 : ∀ k, Mr3 85 k = Mr1 85 k := fun k => by rw [V3.fr 85 (by decide) (by decide), rr2]
          obtain ⟨N3, hN3⟩ : ∃ N3, N3 = mset Mc3 (g + 5) (4 * G 94 + 1) (nI v3) := ⟨_, rfl⟩
          have n3g : ∀ k, N3 g k = Mc g k := fun k => by rw [hN3, mset_off _ _ _ (by omega), W3.fr g (by omega) (by omega), n2g]
          have n3t : N3 17 3 = nI g := by rw [hN3, mset_off _ _ _ (by omega)]; exact g3
          have n36 : N3 17 6 = nI v3 := by rw [hN3, mset_off _ _ _ (by omega)]; exact d5
          rw [d3, d4, bds, bds, if_neg (by decide), g3, bgv hg, nadd, d5, f_put ly (by decide) (by omega), bvs, ← hN3, n3t, bgv hg, n36, n3g, P.C.f6, rr3, r85 0 (by decide)]
          have t3' : TKp N3 Mr3 n b p3 := t3.cong (by rw [hN3]; exact mset_off _ _ _ (by omega)) (by rw [hN3]; exact mset_off _ _ _ (by omega)) rfl rfl rfl (by rw [hN3, mset_off _ _ _ (by omega)])
          rcases both_told t3' (i := 13) (a := v3) (c := G 0) (by decide) (by omega) (by omega) o3 with ⟨Mc4, Mr4, p4, v4, e1, e2, e3, e4, e5, t4, hp4, o4, W4, V4⟩ | ⟨Mc4, Mr4, e3, e4, F, W4, V4⟩
          · have g4 : Mc4 17 3 = nI g := by rw [W4.f3]; exact n3t
            have rr4 : ∀ k, Mr4 85 k = Mr1 85 k := fun k => by rw [V4.fr 85 (by decide) (by decide), rr3]
            obtain ⟨N4, hN4⟩ : ∃ N4, N4 = mset Mc4 (g + 5) (4 * G 94 + 2) (nI v4) := ⟨_, rfl⟩
            have n4g : ∀ k, N4 g k = Mc g k := fun k => by rw [hN4, mset_off _ _ _ (by omega), W4.fr g (by omega) (by omega), n3g]
            have n4t : N4 17 3 = nI g := by rw [hN4, mset_off _ _ _ (by omega)]; exact g4
            rw [e3, e4, bds, bds, if_neg (by decide), g4, bgv hg, nadd, e5, f_put ly (by decide) (by omega), bvs, ← hN4]
            have t4' : TKp N4 Mr4 n b p4 := t4.cong (by rw [hN4]; exact mset_off _ _ _ (by omega)) (by rw [hN4]; exact mset_off _ _ _ (by omega)) rfl rfl rfl (by rw [hN4, mset_off _ _ _ (by omega)])
            rcases both_told t4' (i := 14) (a := 1) (c := 99) (by decide) (by decide) (by decide) o4 with ⟨Mc5, Mr5, p5, v5, i1, i2, i3, i4, i5, t5, hp5, o5, W5, V5⟩ | ⟨Mc5, Mr5, i3, i4, F, W5, V5⟩
            · have g5 : Mc5 17 3 = nI g := by rw [W5.f3]; exact n4t
              have rr5 : ∀ k, Mr5 85 k = Mr1 85 k := fun k => by rw [V5.fr 85 (by decide) (by decide), rr4]
              obtain ⟨N5, hN5⟩ : ∃ N5, N5 = mset Mc5 (g + 5) (4 * G 94 + 3) (nI v5) := ⟨_, rfl⟩
              have n5g : ∀ k, N5 g k = Mc g k := fun k => by rw [hN5, mset_off _ _ _ (by omega), W5.fr g (by omega) (by omega), n4g]
              have n5t : N5 17 3 = nI g := by rw [hN5, mset_off _ _ _ (by omega)]; exact g5
              rw [i3, i4, bds, bds, if_neg (by decide), g5, bgv hg, nadd, i5, f_put ly (by decide) (by omega), bvs, ← hN5, n5t, bgv hg, n5g, P.C.f13, nadd, if_pos (by rw [o5]; rfl), nadd, nadd, nadd, nadd, gdi (by omega) (by omega), gdi (by omega) (by omega), gdi (by omega) (by omega), gdi (by omega) (by omega), nclamp (by omega), nclamp (by omega), nclamp (by omega), nclamp (by omega), ms3 _ _ (show 94 ≠ 51 + G 94 by omega), ms3 _ _ (show 94 ≠ 46 + G 94 by omega), ms3 _ _ (show 94 ≠ 41 + G 94 by omega), ms3 _ _ (show 94 ≠ 36 + G 94 by omega), rr5, r85 94 (by decide), nadd]
              left
              refine ⟨mset N5 g 13 (nI (G 94 + 1)), _, p5, gvG G (G 94) v2 v3 v4 v5, rfl, rfl, t5.cong (h6 := by rw [mset_off _ _ _ (by omega), hN5, mset_off _ _ _ (by omega)]) (by rw [mset_off _ _ _ (by omega), hN5, mset_off _ _ _ (by omega)]) (by rw [mset_off _ _ _ (by omega), hN5, mset_off _ _ _ (by omega)]) (by rw [mset_off _ _ _ (by decide), mset_off _ _ _ (by decide), mset_off _ _ _ (by decide), mset_off _ _ _ (by decide), mset_off _ _ _ (by decide)]) (by rw [mset_off _ _ _ (by decide), mset_off _ _ _ (by decide), mset_off _ _ _ (by decide), mset_off _ _ _ (by decide), mset_off _ _ _ (by decide)]) (by rw [mset_off _ _ _ (by decide), mset_off _ _ _ (by decide), mset_off _ _ _ (by decide), mset_off _ _ _ (by decide), mset_off _ _ _ (by decide)]), by omega, om (om (om (om (om o5 _ _) _ _) _ _) _ _) _ _, ?_, ?_, ?_⟩
              · refine gravel_PGm P hy.1 rfl (by omega) (by omega) d1 ⟨e1, e2⟩ ⟨i1, i2⟩ (fun x h1 h2 h3 h4 => ?_) ?_ (ms1 _ _ _ _) (fun k h1 => ?_) (fun k h1 => ?_) ?_ ?_ ?_ ?_ (fun k h1 => ?_)
                · rw [mset_off _ _ _ h3, hN5, mset_off _ _ _ h4, W5.fr x h1 h2, hN4, mset_off _ _ _ h4, W4.fr x h1 h2, hN3, mset_off _ _ _ h4, W3.fr x h1 h2, hN2, mset_off _ _ _ h4, W2.fr x h1 h2, W1.fr x h1 h2]
                · rw [mset_off _ _ _ (by omega), n5t, P.g3]
                · rw [ms3 _ _ h1, n5g]
                · rw [mset_off _ _ _ (by omega), hN5, ms3 _ _ (by omega), W5.fr _ (by omega) (by omega), hN4, ms3 _ _ (by omega), W4.fr _ (by omega) (by omega), hN3, ms3 _ _ (by omega), W3.fr _ (by omega) (by omega), hN2, ms3 _ _ (by omega), W2.fr _ (by omega) (by omega), W1.fr _ (by omega) (by omega)]
                · rw [mset_off _ _ _ (by omega), hN5, ms3 _ _ (by omega), W5.fr _ (by omega) (by omega), hN4, ms3 _ _ (by omega), W4.fr _ (by omega) (by omega), hN3, ms3 _ _ (by omega), W3.fr _ (by omega) (by omega), hN2, ms1]
                · rw [mset_off _ _ _ (by omega), hN5, ms3 _ _ (by omega), W5.fr _ (by omega) (by omega), hN4, ms3 _ _ (by omega), W4.fr _ (by omega) (by omega), hN3, ms1]
                · rw [mset_off _ _ _ (by omega), hN5, ms3 _ _ (by omega), W5.fr _ (by omega) (by omega), hN4, ms1]
                · rw [mset_off _ _ _ (by omega), hN5, ms1]
                · unfold gvG gset
                  by_cases k1 : k = 94
                  · subst k1; rw [ms1, if_pos rfl]
                  · rw [ms3 _ _ k1, if_neg k1]
                    by_cases k2 : k = 51 + G 94
                    · subst k2; rw [ms1, if_pos rfl]
                    · rw [ms3 _ _ k2, if_neg k2]
                      by_cases k3 : k = 46 + G 94
                      · subst k3; rw [ms1, if_pos rfl]
                      · rw [ms3 _ _ k3, if_neg k3]
                        by_cases k4 : k = 41 + G 94
                        · subst k4; rw [ms1, if_pos rfl]
                        · rw [ms3 _ _ k4, if_neg k4]
                          by_cases k5 : k = 36 + G 94
                          · subst k5; rw [ms1, if_pos rfl]
                          · rw [ms3 _ _ k5, if_neg k5, rr5, r85 k h1]
              · rw [hN5, hN4, hN3, hN2] at *
                exact ((((((((((W1.x g).tr (W2.x g)).m _ hg (.inl (by omega))).tr (W3.x g)).m _ hg (.inl (by omega))).tr (W4.x g)).m _ hg (.inl (by omega))).tr (W5.x g)).m _ hg (.inl (by omega)))).m _ hg (.inl (by omega))
              · exact ((((((((V1.x).tr V2.x).tr V3.x).tr V4.x).tr V5.x).m _ _).m _ _).m _ _ |>.m _ _).m _ _
            · right
              rw [i3, i4, bds, bds, if_pos (by decide), if_neg (fl0 F.2.2)]
              refine ⟨_, _, rfl, rfl, F, ?_, (((V1.x).tr V2.x).tr V3.x).tr V4.x |>.tr V5.x⟩
              rw [hN4, hN3, hN2] at *
              exact (((((((W1.x g).tr (W2.x g)).m _ hg (.inl (by omega))).tr (W3.x g)).m _ hg (.inl (by omega))).tr (W4.x g)).m _ hg (.inl (by omega))).tr (W5.x g)
          · right
            rw [e3, e4, bds, bds, if_pos (by decide), fl_told F.2.2, bds, if_neg (fl0 F.2.2)]
            refine ⟨_, _, rfl, rfl, F, ?_, (((V1.x).tr V2.x).tr V3.x).tr V4.x⟩
            rw [hN3, hN2] at *
            exact (((((W1.x g).tr (W2.x g)).m _ hg (.inl (by omega))).tr (W3.x g)).m _ hg (.inl (by omega))).tr (W4.x g)
        · right
          rw [d3, d4, bds, bds, if_pos (by decide), fl_told F.2.2, bds, fl_told F.2.2, bds, if_neg (fl0 F.2.2)]
          refine ⟨_, _, rfl, rfl, F, ?_, ((V1.x).tr V2.x).tr V3.x⟩
          rw [hN2] at *
          exact (((W1.x g).tr (W2.x g)).m _ hg (.inl (by omega))).tr (W3.x g)
      · right
        rw [b3, b4, bds, bds, if_pos (by decide), fl_told F.2.2, bds, fl_told F.2.2, bds, fl_told F.2.2, bds, if_neg (fl0 F.2.2)]
        exact ⟨_, _, rfl, rfl, F, (W1.x g).tr (W2.x g), (V1.x).tr V2.x⟩
end
