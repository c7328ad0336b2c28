/-! A CREEPER'S LINE, whole. -/
section
variable {Mc Mr : Mm} {g n p : Nat} {b : Nat → Nat} {G : Nat → Nat}
def crG (G b : Nat → Nat) (C s wl : Nat) (w : Nat → Nat) : Nat → Nat := fun i => if i = 95 then C + 1 else if i = 96 + C then wl else if 101 + 8 * C ≤ i ∧ i < 101 + 8 * C + wl then b (s + (i - (101 + 8 * C))) else if 56 ≤ i ∧ i < 91 ∧ (i - 56) % 5 = C then w ((i - 56) / 5) else G i
theorem creep_PGm {Mc' Mr' : Mm} {C s wl : Nat} {w : Nat → Nat} (P : PGm Mc Mr g n b G) (h1 : G 91 = 1) (hq : G 95 = C) (hC : C < 5) (hwl : wl ≤ 8) (hs : s + wl ≤ n) (w0 : w 0 < G 1) (w1 : 1 ≤ w 1 ∧ w 1 ≤ 20) (w2 : w 2 ≤ 100) (w3 : w 3 ≤ 199) (w4 : w 4 ≤ 100) (w5 : w 5 ≤ 2) (w6 : w 6 ≤ 20) (f : ∀ x, x ≠ 15 → x ≠ 17 → x ≠ 18 → x ≠ 19 → x ≠ g → x ≠ g + 6 → Mc' x = Mc x) (f3 : Mc' 17 3 = Mc 17 3) (e14 : Mc' g 14 = nI (C + 1)) (fk : ∀ k, k ≠ 14 → Mc' g k = Mc g k) (fr : ∀ k, k < 7 * C → Mc' (g + 6) k = Mc (g + 6) k) (et : ∀ j, j < 7 → Mc' (g + 6) (7 * C + j) = nI (w j)) (e18 : ∀ j, Mc' 18 j = if j = C then nI s else Mc 18 j) (e19 : ∀ j, Mc' 19 j = if j = C then nI wl else Mc 19 j) (er : ∀ k, k < 141 → Mr' 85 k = nI (crG G b C s wl w k)) : PGm Mc' Mr' g n b (crG G b C s wl w) := by
  have hg := P.C.hg
  have hy : (4 ≤ G 0 ∧ G 0 ≤ 40) ∧ (1 ≤ G 1 ∧ G 1 ≤ 6) ∧ 1 ≤ G 2 ∧ G 2 ≤ 9 := by
    rcases P.y with h | h
    · omega
    · exact h.2
  have ee : ∀ i, i < 56 ∨ (91 ≤ i ∧ i < 95) → crG G b C s wl w i = G i := fun i h2 => by
    unfold crG
    rw [if_neg (by omega), if_neg (by omega), if_neg (by omega), if_neg (by omega)]
  have z95 : crG G b C s wl w 95 = C + 1 := rfl
  have zt : ∀ c, c < 5 → ∀ j, j < 7 → crG G b C s wl w (56 + 5 * j + c) = if c = C then w j else G (56 + 5 * j + c) := fun c hc j hj => by
    unfold crG
    rw [if_neg (by omega), if_neg (by omega), if_neg (by omega)]
    by_cases c1 : c = C
    · rw [if_pos (by omega), if_pos c1, show (56 + 5 * j + c - 56) / 5 = j from by omega]
    · rw [if_neg (by omega), if_neg c1]
  have zn : ∀ c, c < 5 → crG G b C s wl w (96 + c) = if c = C then wl else G (96 + c) := fun c hc => by
    unfold crG
    rw [if_neg (by omega)]
    by_cases c1 : c = C
    · rw [if_pos (by omega), if_pos c1]
    · rw [if_neg (by omega), if_neg (by omega), if_neg (by omega), if_neg c1]
  have zl : ∀ k, k < wl → crG G b C s wl w (101 + 8 * C + k) = b (s + k) := fun k hk => by
    unfold crG
    rw [if_neg (by omega), if_neg (by omega), if_pos (by omega), show 101 + 8 * C + k - (101 + 8 * C) = k from by omega]
  have zo : ∀ c, c < C → ∀ k, k < 8 → crG G b C s wl w (101 + 8 * c + k) = G (101 + 8 * c + k) := fun c hc k hk => by
    unfold crG
    rw [if_neg (by omega), if_neg (by omega), if_neg (by omega), if_neg (by omega)]
  generalize crG G b C s wl w = G' at *
  have hv := P.v
  have hgr := P.gr
  have D := P.C
  refine ⟨⟨hg, ?_, ?_, ?_, ?_, ?_, ?_, ?_, ?_, ?_, fun j hj => ?_, fun j hj => ?_, fun j hj k hk => ?_, fun i hi => ?_, fun i hi => ?_, fun i hi x hx => ?_⟩, by rw [f3]; exact P.g3, fun i hi => ?_, er, .inr ⟨?_, ?_, ?_, ?_⟩, ?_, fun j hj => ?_, fun j hj k hk => ?_, ?_, fun k hk => ?_, ?_, ?_, fun i hi => ?_, fun i hi => ?_, fun i hi => ?_, fun i hi hi5 => ?_, fun h92 q' hq' => ?_⟩
  · rw [fk 6 (by decide), ee 0 (by omega)]; exact D.f6
  · rw [fk 7 (by decide), ee 1 (by omega)]; exact D.f7
  · rw [fk 8 (by decide), ee 2 (by omega)]; exact D.f8
  · rw [fk 9 (by decide), ee 92 (by omega)]; exact D.f9
  · rw [fk 10 (by decide), ee 3 (by omega)]; exact D.f10
  · rw [fk 11 (by decide), ee 4 (by omega)]; exact D.f11
  · rw [fk 12 (by decide), ee 5 (by omega)]; exact D.f12
  · rw [fk 13 (by decide), ee 94 (by omega)]; exact D.f13
  · rw [e14, z95]
  · rw [ee 92 (by omega)] at hj
    rw [f _ (by omega) (by omega) (by omega) (by omega) (by omega) (by omega), En_congr (G := G) (fun i h1 h2 => ee i (by omega)) (fun p _ h2 => (P.syl p h2).2) (j + 1) (by omega) (by omega)]
    exact D.ends j hj
  · rw [ee 92 (by omega)] at hj
    rw [f _ (by omega) (by omega) (by omega) (by omega) (by omega) (by omega), ee (11 + j) (by omega)]; exact D.syc j hj
  · rw [ee 92 (by omega)] at hj
    rw [ee (11 + j) (by omega)] at hk
    have := (P.syl j hj).2
    rw [f _ (by omega) (by omega) (by omega) (by omega) (by omega) (by omega), ee (16 + 4 * j + k) (by omega)]; exact D.syl j hj k hk
  · rw [ee 92 (by omega)] at hi
    rw [f _ (by omega) (by omega) (by omega) (by omega) (by omega) (by omega), ee (6 + i) (by omega)]; exact D.cha i hi
  · rw [ee 94 (by omega)] at hi
    rw [f _ (by omega) (by omega) (by omega) (by omega) (by omega) (by omega), ee (36 + i) (by omega), ee (41 + i) (by omega), ee (46 + i) (by omega), ee (51 + i) (by omega)]; exact D.grv i hi
  · rw [z95] at hi
    rw [zt i (by omega) x hx]
    by_cases c1 : i = C
    · subst c1; rw [if_pos rfl]; exact et x hx
    · rw [if_neg c1, fr _ (by omega)]; exact D.trt i (by omega) x hx
  · rw [f _ (by omega) (by omega) (by omega) (by omega) (by omega) (by omega), ee (6 + i) (by omega)]; exact P.ch i hi
  · rw [ee 91 (by omega)]; exact h1
  · rw [ee 0 (by omega)]; exact hy.1
  · rw [ee 1 (by omega)]; exact hy.2.1
  · rw [ee 2 (by omega)]; exact hy.2.2
  · rw [ee 92 (by omega)]; exact hv
  · rw [ee 92 (by omega)] at hj
    rw [ee (11 + j) (by omega)]; exact P.syl j hj
  · rw [ee 92 (by omega)] at hj
    rw [ee (11 + j) (by omega)] at hk
    have := (P.syl j hj).2
    rw [ee (16 + 4 * j + k) (by omega)]; exact P.ten j hj k hk
  · rw [ee 93 (by omega), ee 4 (by omega), ee 3 (by omega), ee 5 (by omega), ee 92 (by omega)]; exact P.o
  · rw [ee (6 + k) (by omega)]; exact P.tu k hk
  · rw [ee 94 (by omega)]; exact hgr
  · rw [z95]; omega
  · rw [ee 94 (by omega)] at hi
    rw [ee (36 + i) (by omega), ee (41 + i) (by omega), ee (46 + i) (by omega), ee (51 + i) (by omega), ee 0 (by omega), ee 1 (by omega)]; exact P.grv i hi
  · rw [z95] at hi
    have t0 := zt i (by omega) 0 (by decide)
    have t1 := zt i (by omega) 1 (by decide)
    have t2 := zt i (by omega) 2 (by decide)
    have t3 := zt i (by omega) 3 (by decide)
    have t4 := zt i (by omega) 4 (by decide)
    have t5 := zt i (by omega) 5 (by decide)
    have t6 := zt i (by omega) 6 (by decide)
    rw [ee 1 (by omega)]
    by_cases c1 : i = C
    · rw [if_pos c1] at t0 t1 t2 t3 t4 t5 t6
      exact ⟨Nat.lt_of_le_of_lt (Nat.le_of_eq t0) w0, Nat.le_trans w1.1 (Nat.le_of_eq t1.symm), Nat.le_trans (Nat.le_of_eq t1) w1.2, Nat.le_trans (Nat.le_of_eq t2) w2, Nat.le_trans (Nat.le_of_eq t3) w3, Nat.le_trans (Nat.le_of_eq t4) w4, Nat.le_trans (Nat.le_of_eq t5) w5, Nat.le_trans (Nat.le_of_eq t6) w6⟩
    · rw [if_neg c1] at t0 t1 t2 t3 t4 t5 t6
      obtain ⟨u0, u1, u1', u2, u3, u4, u5, u6⟩ := P.crp i (by omega)
      exact ⟨Nat.lt_of_le_of_lt (Nat.le_of_eq t0) u0, Nat.le_trans u1 (Nat.le_of_eq t1.symm), Nat.le_trans (Nat.le_of_eq t1) u1', Nat.le_trans (Nat.le_of_eq t2) u2, Nat.le_trans (Nat.le_of_eq t3) u3, Nat.le_trans (Nat.le_of_eq t4) u4, Nat.le_trans (Nat.le_of_eq t5) u5, Nat.le_trans (Nat.le_of_eq t6) u6⟩
  · rw [z95] at hi
    rw [zn i (by omega), e18, e19]
    by_cases c1 : i = C
    · rw [if_pos c1, if_pos c1, if_pos c1]
      refine ⟨s, rfl, rfl, hwl, hs, fun k hk => ?_⟩
      rw [c1]; exact zl k hk
    · rw [if_neg c1, if_neg c1, if_neg c1]
      obtain ⟨s', h2, h3, h4, h5, h6⟩ := P.nam i (by omega)
      refine ⟨s', h2, h3, h4, h5, fun k hk => ?_⟩
      rw [zo i (by omega) k (by omega)]
      exact h6 k hk
  · rw [z95] at hi
    have t5 := zt i hi5 5 (by decide)
    have t6 := zt i hi5 6 (by decide)
    rw [if_neg (by omega)] at t5 t6
    obtain ⟨u5, u6⟩ := P.zw i (by omega) hi5
    exact ⟨t5.trans u5, t6.trans u6⟩
  · rw [ee 92 (by omega)] at h92
    rw [f _ (by omega) (by omega) (by omega) (by omega) (by omega) (by omega)]; exact P.zs h92 q' hq'
theorem both_creeper (t : TKp Mc Mr n b p) (P : PGm Mc Mr g n b G) (h13 : Mr 81 13 = nI 0) (hw : wd b n p 15 = true) : LineEnd g n b p Mc Mr (f_X5_creeperLine Mc) (f_X10_creeperLine Mr) := by
  have hg := P.C.hg
  have hk := wd_K hw
  have hcr := P.cr
  have eC : f_X5_creeperLine Mc = bg (Mc 17 3) fun g1 => if (Mc g1 6) = 0 then (bd (f_X5_fail (nI 6) Mc) fun v13_38 M13_37 => gd (zo v13_38) <| some (v13_38, M13_37)) else (bg (Mc 17 3) fun g2 => if (Mc g2 14) < (nI 5) then (bv (f_X8_advance  Mc) fun M38_3 => bd (f_X5_name  M38_3) fun v42_6 M42_5 => if v42_6 = 0 then (ccE (nI 0) M42_5) else (bg (M42_5 17 3) fun g14 => tcS 11 (nI 0) (nI 0) ((M42_5 g14 7) - (nI 1)) (tcS 19 (nI 1) (nI 1) (nI 20) (tcS 20 (nI 2) (nI 0) (nI 100) (tcS 21 (nI 3) (nI 60) (nI 199) (tcS 22 (nI 4) (nI 0) (nI 100) ccW)))) M42_5)) else (bd (f_X5_fail (nI 5) Mc) fun v30_35 M30_34 => gd (zo v30_35) <| some (v30_35, M30_34))) := rfl
  have eR : f_X10_creeperLine Mr = (if (Mr 85 95) = (nI 5) then (bv (f_X10_begins (nI 5) Mr) fun M32 => if (M32 81 13) = 0 then (bv (f_X10_newName M32) fun M52_6 => crS 34 (nI 0) ((M52_6 85 1) - (nI 1)) (nI 56) (M32 85 95) (crS 42 (nI 1) (nI 20) (nI 61) (M32 85 95) (crS 43 (nI 0) (nI 100) (nI 66) (M32 85 95) (crS 44 (nI 60) (nI 199) (nI 71) (M32 85 95) (crS 45 (nI 0) (nI 100) (nI 76) (M32 85 95) (crW (M32 85 95)))))) M52_6) else some M32) else (if (Mr 85 91) = 0 then (bv (f_X10_begins (nI 6) Mr) fun M32 => if (M32 81 13) = 0 then (bv (f_X10_newName M32) fun M52_6 => crS 34 (nI 0) ((M52_6 85 1) - (nI 1)) (nI 56) (M32 85 95) (crS 42 (nI 1) (nI 20) (nI 61) (M32 85 95) (crS 43 (nI 0) (nI 100) (nI 66) (M32 85 95) (crS 44 (nI 60) (nI 199) (nI 71) (M32 85 95) (crS 45 (nI 0) (nI 100) (nI 76) (M32 85 95) (crW (M32 85 95)))))) M52_6) else some M32) else (bv (f_X10_begins (nI 0) Mr) fun M32 => if (M32 81 13) = 0 then (bv (f_X10_newName M32) fun M52_6 => crS 34 (nI 0) ((M52_6 85 1) - (nI 1)) (nI 56) (M32 85 95) (crS 42 (nI 1) (nI 20) (nI 61) (M32 85 95) (crS 43 (nI 0) (nI 100) (nI 66) (M32 85 95) (crS 44 (nI 60) (nI 199) (nI 71) (M32 85 95) (crS 45 (nI 0) (nI 100) (nI 76) (M32 85 95) (crW (M32 85 95)))))) M52_6) else some M32))) := rfl
  rw [eC, eR, P.g3, bgv hg, bgv hg, P.C.f6, P.C.f14, P.r 91 (by decide), P.r 95 (by decide)]
  have failE : ∀ (e : Nat) (K : Mm → Option Mm), 0 < e ∧ e < 10 → LineEnd g n b p Mc Mr (bd (f_X5_fail (nI e) Mc) fun v M => gd (zo v) <| some (v, M)) (bv (f_X10_begins (nI e) Mr) fun M32 => if (M32 81 13) = 0 then K M32 else some M32) := fun e K he => by
    obtain ⟨Mc1, Mr1, a1, a2, F, W1, V1, -⟩ := both_fail t e h13
    rw [a1, r_beginsE he a2 F.2.2, bvs, if_neg (fl0 F.2.2)]
    exact .inr ⟨_, _, rfl, rfl, F, W1.x g, V1.x⟩
  by_cases c0 : G 91 = 0
  · have h0 : G 0 = 0 ∧ G 95 = 0 := by
      rcases P.y with h | h
      · exact ⟨h.2.1, h.2.2.2⟩
      · omega
    rw [h0.1, h0.2, c0, if_pos (show nI 0 = (0 : Int32) from rfl), if_neg (show ¬ nI 0 = nI 5 by decide), if_pos (show nI 0 = (0 : Int32) from rfl)]
    exact failE 6 _ (by omega)
  · have hy : G 91 = 1 ∧ (4 ≤ G 0 ∧ G 0 ≤ 40) ∧ 1 ≤ G 1 ∧ G 1 ≤ 6 := by
      rcases P.y with h | h
      · omega
      · exact ⟨h.1, h.2.1, h.2.2.1⟩
    rw [if_neg (show ¬ nI (G 0) = 0 by rw [nz0 (by omega)]; omega)]
    by_cases c5 : G 95 = 5
    · rw [c5, if_neg (show ¬ nI 5 < nI 5 by decide), if_pos rfl]
      exact failE 5 _ (by omega)
    · rw [if_pos (show nI (G 95) < nI 5 by rw [nlt (by omega) (by omega)]; omega), if_neg (show ¬ nI (G 95) = nI 5 by rw [neq (by omega) (by omega)]; exact c5), if_neg (show ¬ nI (G 91) = 0 by rw [nz0 (by omega)]; omega), r_begins0 h13]
      obtain ⟨Mc1, Mr1, a1, a2, t1, w1, w2, w3, w4⟩ := t.adv
      have hp1 := (tK_pos t.hp (b := b) (by omega)).2
      have o1 : Mr1 81 13 = nI 0 := by rw [w4 13 (by omega)]; exact h13
      have W1 : Wc Mc Mc1 := ⟨fun a h _ => w1 a h, w2, by rw [w1 17 (by decide)]⟩
      have V1 : Wr Mr Mr1 := ⟨w3, fun k hk => w4 k (by omega)⟩
      have P1 : PGm Mc1 Mr1 g n b G := P.w (fun a h1 h2 => W1.fr a h1 h2) W1.f3 (V1.fr 85 (by decide) (by decide))
      rw [a1, a2, bvs, bvs, if_pos (show Mr1 81 13 = 0 by rw [o1]; rfl), P1.r 95 (by decide)]
      have hC5 : G 95 < 5 := by omega
      rcases both_name P1 t1 hC5 o1 with ⟨Mc2, Mr2, p2, s, wl, b1, b2, t2, hp2, o2, hwl, hs, NM⟩ | ⟨Mc2, Mr2, b1, b2, F, W2, V2⟩
      · have g2 : Mc2 17 3 = nI g := by rw [NM.fr 17 (by decide) (by decide) (by decide)]; exact P1.g3
        have g7 : Mc2 g 7 = nI (G 1) := by rw [NM.fr g (by omega) (by omega) (by omega)]; exact P1.C.f7
        have g14 : Mc2 g 14 = nI (G 95) := by rw [NM.fr g (by omega) (by omega) (by omega)]; exact P1.C.f14
        have r1 : Mr2 85 1 = nI (G 1) := by rw [NM.rr 1 (by omega) (by omega)]; exact P1.r 1 (by decide)
        have r95 : Mr2 85 95 = nI (G 95) := by rw [NM.rr 95 (by omega) (by omega)]; exact P1.r 95 (by decide)
        obtain ⟨zw1, zw2⟩ := P1.zw (G 95) (Nat.le_refl _) hC5
        have z1 : Mr2 85 (81 + G 95) = nI 0 := by rw [NM.rr _ (by omega) (by omega), P1.r _ (by omega), zw1]
        have z2 : Mr2 85 (86 + G 95) = nI 0 := by rw [NM.rr _ (by omega) (by omega), P1.r _ (by omega), zw2]
        have XN : Xc g Mc1 Mc2 := ⟨fun a h1 h2 h3 h4 _ => NM.fr a h1 h3 h4, NM.f1, by rw [NM.fr 17 (by decide) (by decide) (by decide)]⟩
        have XC0 : Xc g Mc Mc2 := (W1.x g).tr XN
        have XR0 : Xr Mr Mr2 := V1.x.tr NM.xr
        have S0 : TrS Mc2 Mr2 g (G 95) 0 (fun _ => 0) Mc2 Mr2 := ⟨fun j hj => by omega, fun _ _ => rfl, fun j hj => by omega, fun _ _ => rfl, fun _ _ _ _ => rfl, rfl, rfl, ⟨fun _ _ _ _ => rfl, fun _ _ => rfl⟩⟩
        have f5 := RF_crW (Mr0 := Mr2) (nI (G 95))
        have f4 := RF_crS (i := 45) (o := 76) (lo := nI 0) (hi := nI 100) f5 (show 76 + G 95 < 141 by omega)
        have f3 := RF_crS (i := 44) (o := 71) (lo := nI 60) (hi := nI 199) f4 (show 71 + G 95 < 141 by omega)
        have f2 := RF_crS (i := 43) (o := 66) (lo := nI 0) (hi := nI 100) f3 (show 66 + G 95 < 141 by omega)
        have f1 := RF_crS (i := 42) (o := 61) (lo := nI 1) (hi := nI 20) f2 (show 61 + G 95 < 141 by omega)
        rw [b1, b2, bds, bvs, if_neg (show ¬ nI 1 = (0 : Int32) by decide), g2, bgv hg, g7, r1, nsub (by omega)]
        have bad : ∀ A R, (∃ N' R', A = some (nI 0, N') ∧ R = some R' ∧ FL N' R' ∧ Xc g Mc2 N' ∧ Xr Mr2 R') → LineEnd g n b p Mc Mr A R := fun A R h => by
          obtain ⟨N', R', h1, h2, h3, h4, h5⟩ := h
          exact .inr ⟨N', R', h1, h2, h3, XC0.tr h4, XR0.tr h5⟩
        rcases cr_stage (k := 0) (i := 11) (lo := 0) (hi := G 1 - 1) f1 t2 S0 hg g2 g14 hC5 (by decide) (by decide) (by decide) (by omega) o2 with ⟨N1, R1, p3, v0, x1, x2, x3, x4, t3, hp3, o3, S1⟩ | h
        · rw [x3]
          refine Eq.mpr (congrArg (LineEnd g n b p Mc Mr _) x4) ?_
          rcases cr_stage (k := 1) (i := 19) (lo := 1) (hi := 20) f2 t3 S1 hg g2 g14 hC5 (by decide) (by decide) (by decide) (by decide) o3 with ⟨N2, R2, p4, v1, y1, y2, y3, y4, t4, hp4, o4, S2⟩ | h
          · rw [y3]
            refine Eq.mpr (congrArg (LineEnd g n b p Mc Mr _) y4) ?_
            rcases cr_stage (k := 2) (i := 20) (lo := 0) (hi := 100) f3 t4 S2 hg g2 g14 hC5 (by decide) (by decide) (by decide) (by decide) o4 with ⟨N3, R3, p5, v2, i1, i2, i3, i4, t5, hp5, o5, S3⟩ | h
            · rw [i3]
              refine Eq.mpr (congrArg (LineEnd g n b p Mc Mr _) i4) ?_
              rcases cr_stage (k := 3) (i := 21) (lo := 60) (hi := 199) f4 t5 S3 hg g2 g14 hC5 (by decide) (by decide) (by decide) (by decide) o5 with ⟨N4, R4, p6, v3, j1, j2, j3, j4, t6, hp6, o6, S4⟩ | h
              · rw [j3]
                refine Eq.mpr (congrArg (LineEnd g n b p Mc Mr _) j4) ?_
                rcases cr_stage (k := 4) (i := 22) (lo := 0) (hi := 100) f5 t6 S4 hg g2 g14 hC5 (by decide) (by decide) (by decide) (by decide) o6 with ⟨N5, R5, p7, v4, l1, l2, l3, l4, t7, hp7, o7, S5⟩ | h
                · rw [l3]
                  refine Eq.mpr (congrArg (LineEnd g n b p Mc Mr _) l4) ?_
                  rcases cr_way t7 S5 hg g2 g14 r95 z1 z2 hC5 o7 with ⟨N6, R6, p8, w', q1, q2, q3, q4, q5, t8, hp8, o8, S7⟩ | h
                  · rw [q4, q5]
                    left
                    have u0 : w' 0 = v0 := by rw [q1 0 (by decide)]; rfl
                    have u1 : w' 1 = v1 := by rw [q1 1 (by decide)]; rfl
                    have u2 : w' 2 = v2 := by rw [q1 2 (by decide)]; rfl
                    have u3 : w' 3 = v3 := by rw [q1 3 (by decide)]; rfl
                    have u4 : w' 4 = v4 := by rw [q1 4 (by decide)]; rfl
                    refine ⟨_, _, p8, crG G b (G 95) s wl w', rfl, rfl, t8.cong (mset_off _ _ _ (by omega)) (mset_off _ _ _ (by omega)) (mset_off _ _ _ (by decide)) (mset_off _ _ _ (by decide)) (mset_off _ _ _ (by decide)), by omega, om o8 _ _, ?_, (XC0.tr S7.xc).m _ hg (.inl (by omega)), (XR0.tr S7.xr).m _ _⟩
                    refine creep_PGm P hy.1 rfl hC5 hwl hs (by omega) (by omega) (by omega) (by omega) (by omega) q2 q3 (fun x h1 h2 h3 h4 h5 h6 => ?_) ?_ (ms1 _ _ _ _) (fun k h1 => ?_) (fun k h1 => ?_) (fun j hj => ?_) (fun j => ?_) (fun j => ?_) (fun k hk => ?_)
                    · rw [mset_off _ _ _ h5, S7.fr x h1 h2 h6, NM.fr x h1 h3 h4, W1.fr x h1 h2]
                    · rw [mset_off _ _ _ (by omega), S7.f3, g2, P.g3]
                    · rw [ms3 _ _ h1, S7.fr g (by omega) (by omega) (by omega), NM.fr g (by omega) (by omega) (by omega), W1.fr g (by omega) (by omega)]
                    · rw [mset_off _ _ _ (by omega), S7.co k h1, NM.fr _ (by omega) (by omega) (by omega), W1.fr _ (by omega) (by omega)]
                    · rw [mset_off _ _ _ (by omega)]; exact S7.c j hj
                    · rw [mset_off _ _ _ (by omega), S7.fr 18 (by decide) (by decide) (by omega), NM.c18, W1.fr 18 (by decide) (by decide)]
                    · rw [mset_off _ _ _ (by omega), S7.fr 19 (by decide) (by decide) (by omega), NM.c19, W1.fr 19 (by decide) (by decide)]
                    · unfold crG
                      by_cases k1 : k = 95
                      · subst k1; rw [ms1, if_pos rfl]
                      · rw [ms3 _ _ k1, if_neg k1]
                        by_cases k4 : 56 ≤ k ∧ k < 91 ∧ (k - 56) % 5 = G 95
                        · rw [if_neg (by omega), if_neg (by omega), if_pos k4]
                          have hd : k = 56 + 5 * ((k - 56) / 5) + G 95 := by omega
                          have := S7.r ((k - 56) / 5) (by omega)
                          rw [← hd] at this
                          exact this
                        · rw [S7.ro k (fun j hj => by omega)]
                          by_cases k2 : k = 96 + G 95
                          · subst k2; rw [if_pos rfl]; exact NM.r96
                          · rw [if_neg k2]
                            by_cases k3 : 101 + 8 * G 95 ≤ k ∧ k < 101 + 8 * G 95 + wl
                            · rw [if_pos k3]
                              have := NM.rl (k - (101 + 8 * G 95)) (by omega)
                              rw [show 101 + 8 * G 95 + (k - (101 + 8 * G 95)) = k from by omega] at this
                              exact this
                            · rw [if_neg k3, if_neg k4, NM.rr k k2 (by omega)]; exact P1.r k hk
                  · exact bad _ _ h
                · exact bad _ _ h
              · exact bad _ _ h
            · exact bad _ _ h
          · exact bad _ _ h
        · exact bad _ _ h
      · rw [b1, b2, bds, bvs, if_pos (show nI 0 = (0 : Int32) from rfl), ccE0]
        have f5 := RF_crW (Mr0 := Mr2) (nI (G 95))
        have f4 := RF_crS (i := 45) (o := 76) (lo := nI 0) (hi := nI 100) f5 (show 76 + G 95 < 141 by omega)
        have f3 := RF_crS (i := 44) (o := 71) (lo := nI 60) (hi := nI 199) f4 (show 71 + G 95 < 141 by omega)
        have f2 := RF_crS (i := 43) (o := 66) (lo := nI 0) (hi := nI 100) f3 (show 66 + G 95 < 141 by omega)
        have f1 := RF_crS (i := 42) (o := 61) (lo := nI 1) (hi := nI 20) f2 (show 61 + G 95 < 141 by omega)
        have f0 := RF_crS (i := 34) (o := 56) (lo := nI 0) (hi := (Mr2 85 1) - nI 1) f1 (show 56 + G 95 < 141 by omega)
        obtain ⟨R', e1, e2, e3⟩ := f0 Mc2 Mr2 F ⟨fun _ _ _ _ => rfl, fun _ _ => rfl⟩
        right
        exact ⟨Mc2, R', rfl, e1, e2, (W1.x g).tr (W2.x g), (V1.x.tr V2.x).tr e3⟩
end
