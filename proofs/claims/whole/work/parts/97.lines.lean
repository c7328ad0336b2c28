/-! THE LINES of a game. -/
section
variable {Mc Mr : Mm} {g n p : Nat} {b : Nat → Nat} {G : Nat → Nat}
theorem bvid {X : Option Mm} : (bv X fun M => some M) = X := by cases X <;> rfl
theorem both_line (t : TKp Mc Mr n b p) (P : PGm Mc Mr g n b G) (h13 : Mr 81 13 = nI 0) (j10 : Int32 → Mm → Option (Int32 × Mm)) : ∃ A, (bd (f_X8_isWord 0 Mc) fun v45_7 M45_6 => if v45_7 = 0 then (bd (f_X8_isWord 4 M45_6) fun v64_17 M64_16 => if v64_17 = 0 then (bd (f_X8_isWord 5 M64_16) fun v83_19 M83_18 => if v83_19 = 0 then (bd (f_X8_isWord 10 M83_18) fun v102_21 M102_20 => if v102_21 = 0 then (bd (f_X8_isWord 15 M102_20) fun v121_23 M121_22 => if v121_23 = 0 then (bd (f_X5_fail (nI 1) M121_22) fun v136_25 M136_24 => j10 v136_25 M136_24) else (bd (f_X5_creeperLine  M121_22) fun v128_27 M128_26 => j10 v128_27 M128_26)) else (bd (f_X5_gravelLine  M102_20) fun v109_30 M109_29 => j10 v109_30 M109_29)) else (bd (f_X5_oneLine  M83_18) fun v90_33 M90_32 => j10 v90_33 M90_32)) else (bd (f_X5_verseLine  M64_16) fun v71_36 M71_35 => j10 v71_36 M71_35)) else (bd (f_X5_yardLine  M45_6) fun v52_39 M52_38 => j10 v52_39 M52_38)) = bd A j10 ∧ LineEnd g n b p Mc Mr A (f_X10_readLine Mr) := by
  have hk : ∀ i, i < 23 → f_X10_isWord (i + 23) Mr = some (nI (wd b n p i).toNat, Mr) := fun i hi => r_isWord t hi h13
  unfold f_X10_readLine
  rw [c_isWord t (i := 0) (by decide), bds, hk 0 (by decide), bds]
  cases w0 : wd b n p 0
  · rw [if_pos (by decide), if_pos (by decide), c_isWord t (i := 4) (by decide), bds, hk 4 (by decide), bds]
    cases w4 : wd b n p 4
    · rw [if_pos (by decide), if_pos (by decide), c_isWord t (i := 5) (by decide), bds, hk 5 (by decide), bds]
      cases w5 : wd b n p 5
      · rw [if_pos (by decide), if_pos (by decide), c_isWord t (i := 10) (by decide), bds, hk 10 (by decide), bds]
        cases w10 : wd b n p 10
        · rw [if_pos (by decide), if_pos (by decide), c_isWord t (i := 15) (by decide), bds, hk 15 (by decide), bds]
          cases w15 : wd b n p 15
          · rw [if_pos (by decide), if_pos (by decide), bvid]
            obtain ⟨Mc1, Mr1, a1, a2, F, W1, V1, -⟩ := both_fail t 1 h13
            exact ⟨f_X5_fail (nI 1) Mc, rfl, .inr ⟨Mc1, Mr1, a1, a2, F, W1.x g, V1.x⟩⟩
          · rw [if_neg (by decide), if_neg (by decide), bvid]
            exact ⟨_, rfl, both_creeper t P h13 w15⟩
        · rw [if_neg (by decide), if_neg (by decide), bvid]
          exact ⟨_, rfl, both_gravel t P h13 w10⟩
      · rw [if_neg (by decide), if_neg (by decide), bvid]
        exact ⟨_, rfl, both_one t P h13 w5⟩
    · rw [if_neg (by decide), if_neg (by decide), bvid]
      exact ⟨_, rfl, both_verse t P h13 w4⟩
  · rw [if_neg (by decide), if_neg (by decide), bvid]
    exact ⟨_, rfl, both_yard t P h13 w0⟩
theorem both_lines {k1 k2 k3 k4 : Mm → Option (Int32 × Mm)} : ∀ d i f f' Mc Mr p G, n ≤ p + d → i ≤ p → d < f → d < f' → TKp Mc Mr n b p → Mr 81 13 = nI 0 → PGm Mc Mr g n b G →
    (∃ Mc' Mr' p' G', lp_X5_read_32 k1 k2 k3 f (nI i) Mc = (if tK b n p' = 0 then k1 Mc' else k2 Mc') ∧ (bv (f_X10_readLine Mr) fun M98_13 => lp_X10_game_77 k4 f' M98_13) = k4 Mr' ∧ TKp Mc' Mr' n b p' ∧ Mr' 81 13 = nI 0 ∧ PGm Mc' Mr' g n b G' ∧ Xc g Mc Mc' ∧ Xr Mr Mr') ∨
    (∃ Mc' Mr', lp_X5_read_32 k1 k2 k3 f (nI i) Mc = some (nI 0, Mc') ∧ (bv (f_X10_readLine Mr) fun M98_13 => lp_X10_game_77 k4 f' M98_13) = k4 Mr' ∧ FL Mc' Mr' ∧ Xc g Mc Mc' ∧ Xr Mr Mr') := by
  intro d
  induction d using Nat.strongRecOn with
  | ind d ih =>
    intro i f f' Mc Mr p G hn hi hf hf' t h13 P
    obtain ⟨f, rfl⟩ : ∃ g, f = g + 1 := ⟨f - 1, by omega⟩
    obtain ⟨f', rfl⟩ : ∃ g, f' = g + 1 := ⟨f' - 1, by omega⟩
    have h9 := t.B.n9
    have hp := t.hp
    obtain ⟨A, eA, L⟩ := both_line t P h13 (fun (s8 : Int32) (M9 : Mm) => if s8 = 0 then (some ((nI 0), M9)) else (if (M9 15 3) = 0 then (k1  M9) else (if (M9 15 3) = (nI 3) then (bv (f_X8_advance  M9) fun M204_11 => lp_X5_read_32 k1 k2 k3 f (nI i + (nI 1)) M204_11) else (k2  M9))))
    have eL : lp_X5_read_32 k1 k2 k3 (f + 1) (nI i) Mc = bd A (fun (s8 : Int32) (M9 : Mm) => if s8 = 0 then (some ((nI 0), M9)) else (if (M9 15 3) = 0 then (k1  M9) else (if (M9 15 3) = (nI 3) then (bv (f_X8_advance  M9) fun M204_11 => lp_X5_read_32 k1 k2 k3 f (nI i + (nI 1)) M204_11) else (k2  M9)))) := by
      rw [← eA, lp_X5_read_32, if_neg (show ¬ nI 900 < nI i by rw [nlt (by omega) (by omega)]; omega)]
      rfl
    rw [eL]
    rcases L with ⟨Mc1, Mr1, p1, G1, a1, a2, t1, hp1, o1, P1, X1, Y1⟩ | ⟨Mc1, Mr1, a1, a2, F, X1, Y1⟩
    · have hp1n := t1.hp
      have hK := tK_le (b := b) (n := n) (p := p1)
      have hr := rk_b _ hK
      rw [a1, a2, bds, bvs, if_neg (show ¬ nI 1 = (0 : Int32) by decide), lp_X10_game_77, if_pos (show Mr1 81 13 = 0 by rw [o1]; rfl), t1.c3, t1.r6]
      by_cases c3 : tK b n p1 = 3
      · obtain ⟨Mc2, Mr2, b1, b2, t2, w1, w2, w3, w4⟩ := t1.adv
        have hp2 := (tK_pos t1.hp (b := b) (by omega)).2
        have hp2n := t2.hp
        have o2 : Mr2 81 13 = nI 0 := by rw [w4 13 (by omega)]; exact o1
        have W2 : Wc Mc1 Mc2 := ⟨fun a h _ => w1 a h, w2, by rw [w1 17 (by decide)]⟩
        have V2 : Wr Mr1 Mr2 := ⟨w3, fun k hk => w4 k (by omega)⟩
        have P2 : PGm Mc2 Mr2 g n b G1 := P1.w (fun a h1 h2 => W2.fr a h1 h2) W2.f3 (V2.fr 85 (by decide) (by decide))
        rw [if_neg (show ¬ nI (tK b n p1) = 0 by rw [nz0 (by omega)]; omega), if_pos (show nI (tK b n p1) = nI 3 by rw [c3]), if_pos (show nI (rk (tK b n p1)) = nI 59 by rw [c3]; rfl), b1, b2, bvs, bvs, nadd i 1]
        rcases ih (d - 1) (by omega) (i + 1) f f' Mc2 Mr2 _ G1 (by omega) (by omega) (by omega) (by omega) t2 o2 P2 with ⟨Mc3, Mr3, p3, G3, e1, e2, e3, e4, e5, e6, e7⟩ | ⟨Mc3, Mr3, e1, e2, e3, e4, e5⟩
        · exact .inl ⟨Mc3, Mr3, p3, G3, e1, e2, e3, e4, e5, (X1.tr (W2.x g)).tr e6, (Y1.tr V2.x).tr e7⟩
        · exact .inr ⟨Mc3, Mr3, e1, e2, e3, (X1.tr (W2.x g)).tr e4, (Y1.tr V2.x).tr e5⟩
      · left
        refine ⟨Mc1, Mr1, p1, G1, ?_, ?_, t1, o1, P1, X1, Y1⟩
        · by_cases c0 : tK b n p1 = 0
          · rw [if_pos (show nI (tK b n p1) = 0 by rw [c0]; rfl), if_pos c0]
          · rw [if_neg (show ¬ nI (tK b n p1) = 0 by rw [nz0 (by omega)]; exact c0), if_neg (show ¬ nI (tK b n p1) = nI 3 by rw [neq (by omega) (by omega)]; exact c3), if_neg c0]
        · rw [if_neg (by rw [neq (by omega) (by omega)]; omega)]
    · right
      refine ⟨Mc1, Mr1, ?_, ?_, F, X1, Y1⟩
      · rw [a1, bds, if_pos (by decide)]
      · rw [a2, bvs, lp_X10_game_77, if_neg (fl0 F.2.2)]
/-- the class's and the reference's end -/
def rk1 (M42 : Mm) : Option (Int32 × Mm) := bg (M42 17 3) fun g43 => bd (f_X0_isWhole g43 M42) fun v162_45 M162_44 => if v162_45 = 0 then (bd (f_X5_fail (nI 6) M162_44) fun v171_49 M171_48 => if v171_49 = 0 then (some ((nI 0), M171_48)) else (some ((nI 1), M171_48))) else (some ((nI 1), M162_44))
def rk2 (M52 : Mm) : Option (Int32 × Mm) := bd (f_X5_fail (nI 1) M52) fun v196_54 M196_53 => gd (zo v196_54) <| some (v196_54, M196_53)
def gk6 (J : Mm → Option (Int32 × Mm)) (M31 : Mm) : Option (Int32 × Mm) := bv (f_X10_wrong (nI 6) (M31 81 4) M31) fun M181_33 => J M181_33
def gk5 (J : Mm → Option (Int32 × Mm)) (M18 : Mm) : Option (Int32 × Mm) := if (M18 81 13) = 0 then (if (M18 85 91) = 0 then (gk6 J M18) else (if (M18 85 92) = 0 then (gk6 J M18) else (if (M18 85 93) = 0 then (gk6 J M18) else (if (M18 85 95) = 0 then (gk6 J M18) else (J M18))))) else (J M18)
def gk4 (J : Mm → Option (Int32 × Mm)) (M17 : Mm) : Option (Int32 × Mm) := if (M17 81 13) = 0 then (if (M17 81 6) = 0 then (gk5 J M17) else (bv (f_X10_wrong (nI 1) (M17 81 4) M17) fun M124_40 => gk5 J M124_40)) else (gk5 J M17)
theorem gk5_fl {J : Mm → Option (Int32 × Mm)} {M : Mm} (h : M 81 13 = nI 1) : gk5 J M = J M := if_neg (fl0 h)
theorem gk4_fl {J : Mm → Option (Int32 × Mm)} {M : Mm} (h : M 81 13 = nI 1) : gk4 J M = J M := by
  unfold gk4
  rw [if_neg (fl0 h), gk5_fl h]
theorem PGm.whole (P : PGm Mc Mr g n b G) (h1 : G 91 ≠ 0) (h2 : G 92 ≠ 0) (h3 : G 93 ≠ 0) (h4 : G 95 ≠ 0) : GW G := by
  have hy : (4 ≤ G 0 ∧ G 0 ≤ 40) ∧ (1 ≤ G 1 ∧ G 1 ≤ 6) ∧ 1 ≤ G 2 ∧ G 2 ≤ 9 := by
    rcases P.y with h | h
    · exact absurd h.1 h1
    · exact h.2
  have ho : (1 ≤ G 3 ∧ G 3 ≤ 60) ∧ (1 ≤ G 4 ∧ G 4 ≤ 20) ∧ G 5 ≤ 100 ∧ 1 ≤ G 92 := by
    rcases P.o with h | h
    · exact absurd h.1 h3
    · exact h.2
  have hv := P.v
  have hc := P.cr
  exact ⟨hy.1, hy.2.1, hy.2.2, ho.1, ho.2.1, ho.2.2.1, P.tu, P.syl, P.ten, by omega, P.gr, by omega, P.grv, P.crp⟩
theorem c_whole (P : PGm Mc Mr g n b G) : f_X0_isWhole g Mc = some (nI (if G 91 = 0 ∨ G 92 = 0 ∨ G 93 = 0 ∨ G 95 = 0 then 0 else 1), Mc) := by
  have hv := P.v
  have hc := P.cr
  have hy : (G 91 = 0 ∧ G 0 = 0) ∨ (G 91 = 1 ∧ 4 ≤ G 0 ∧ G 0 ≤ 40) := by
    rcases P.y with h | h
    · exact .inl ⟨h.1, h.2.1⟩
    · exact .inr ⟨h.1, h.2.1⟩
  have ho : (G 93 = 0 ∧ G 4 = 0) ∨ (G 93 = 1 ∧ 1 ≤ G 4 ∧ G 4 ≤ 20) := by
    rcases P.o with h | h
    · exact .inl h
    · exact .inr ⟨h.1, h.2.2.1⟩
  unfold f_X0_isWhole
  simp only [jns]
  rw [P.C.f6, P.C.f9, P.C.f11, P.C.f14]
  by_cases c1 : G 0 = 0
  · rw [if_pos (show nI (G 0) ≤ 0 by rw [c1]; decide), if_pos (by omega)]
  · rw [if_neg (show ¬ nI (G 0) ≤ 0 by rw [nle0 (by omega)]; exact c1)]
    by_cases c2 : G 92 = 0
    · rw [if_pos (show nI (G 92) ≤ 0 by rw [c2]; decide), if_pos (by omega)]
    · rw [if_neg (show ¬ nI (G 92) ≤ 0 by rw [nle0 (by omega)]; exact c2)]
      by_cases c3 : G 4 = 0
      · rw [if_pos (show nI (G 4) ≤ 0 by rw [c3]; decide), if_pos (by omega)]
      · rw [if_neg (show ¬ nI (G 4) ≤ 0 by rw [nle0 (by omega)]; exact c3)]
        by_cases c4 : G 95 = 0
        · rw [if_pos (show nI (G 95) ≤ 0 by rw [c4]; decide), if_pos (by omega)]
        · rw [if_neg (show ¬ nI (G 95) ≤ 0 by rw [nle0 (by omega)]; exact c4), if_neg (by omega)]
theorem both_read {k3 J : Mm → Option (Int32 × Mm)} (t : TKp Mc Mr n b p) (P : PGm Mc Mr g n b G) (h13 : Mr 81 13 = nI 0) :
    (∃ Mc' Mr' G', lp_X5_read_32 rk1 rk2 k3 N0 (nI 0) Mc = some (nI 1, Mc') ∧ (bv (f_X10_readLine Mr) fun M98_13 => lp_X10_game_77 (gk4 J) N0 M98_13) = J Mr' ∧ Mr' 81 13 = nI 0 ∧ Mc' 17 4 = Mr' 81 9 ∧ PGm Mc' Mr' g n b G' ∧ GW G' ∧ Xc g Mc Mc' ∧ Xr Mr Mr') ∨
    (∃ Mc' Mr', lp_X5_read_32 rk1 rk2 k3 N0 (nI 0) Mc = some (nI 0, Mc') ∧ (bv (f_X10_readLine Mr) fun M98_13 => lp_X10_game_77 (gk4 J) N0 M98_13) = J Mr' ∧ FL Mc' Mr' ∧ Xc g Mc Mc' ∧ Xr Mr Mr') := by
  have h9 := t.B.n9
  rcases both_lines (k1 := rk1) (k2 := rk2) (k3 := k3) (k4 := gk4 J) n 0 N0 N0 Mc Mr p G (by omega) (by omega) (by unfold N0; omega) (by unfold N0; omega) t h13 P with ⟨Mc1, Mr1, p1, G1, a1, a2, t1, o1, P1, X1, Y1⟩ | ⟨Mc1, Mr1, a1, a2, F, X1, Y1⟩
  · have hg := P1.C.hg
    have hK := tK_le (b := b) (n := n) (p := p1)
    have h5 := tK5 (b := b) t1.hp
    have hr := rk_0 hK h5
    have hr2 := rk_b _ hK
    have hv := P1.v
    have hc := P1.cr
    have h91 : G1 91 ≤ 1 := by
      rcases P1.y with h | h
      · omega
      · omega
    have h93 : G1 93 ≤ 1 := by
      rcases P1.o with h | h
      · omega
      · omega
    rw [a1, a2]
    unfold gk4
    rw [if_pos (show Mr1 81 13 = 0 by rw [o1]; rfl), t1.r6]
    by_cases c0 : tK b n p1 = 0
    · rw [if_pos c0, if_pos (show nI (rk (tK b n p1)) = 0 by rw [nz0 (by omega)]; exact hr.mpr c0)]
      unfold rk1 gk5
      rw [P1.g3, bgv hg, c_whole P1, bds, if_pos (show Mr1 81 13 = 0 by rw [o1]; rfl), P1.r 91 (by decide), P1.r 92 (by decide), P1.r 93 (by decide), P1.r 95 (by decide)]
      by_cases cw : G1 91 = 0 ∨ G1 92 = 0 ∨ G1 93 = 0 ∨ G1 95 = 0
      · right
        obtain ⟨Mc2, Mr2, b1, b2, F, W2, V2, -⟩ := both_fail t1 6 o1
        have e6 : gk6 J Mr1 = J Mr2 := by
          unfold gk6
          rw [b2, bvs]
        refine ⟨Mc2, Mr2, ?_, ?_, F, X1.tr (W2.x g), Y1.tr V2.x⟩
        · rw [if_pos cw, if_pos (by decide), b1, bds, if_pos (by decide)]
        · rw [e6]
          by_cases d1 : G1 91 = 0
          · rw [if_pos (by rw [d1]; rfl)]
          · rw [if_neg (by rw [nz0 (by omega)]; exact d1)]
            by_cases d2 : G1 92 = 0
            · rw [if_pos (by rw [d2]; rfl)]
            · rw [if_neg (by rw [nz0 (by omega)]; exact d2)]
              by_cases d3 : G1 93 = 0
              · rw [if_pos (by rw [d3]; rfl)]
              · rw [if_neg (by rw [nz0 (by omega)]; exact d3), if_pos (by rw [show G1 95 = 0 from by omega]; rfl)]
      · left
        refine ⟨Mc1, Mr1, G1, ?_, ?_, o1, t1.f4, P1, P1.whole (by omega) (by omega) (by omega) (by omega), X1, Y1⟩
        · rw [if_neg cw, if_neg (by decide)]
        · rw [if_neg (by rw [nz0 (by omega)]; omega), if_neg (by rw [nz0 (by omega)]; omega), if_neg (by rw [nz0 (by omega)]; omega), if_neg (by rw [nz0 (by omega)]; omega)]
    · right
      obtain ⟨Mc2, Mr2, b1, b2, F, W2, V2, -⟩ := both_fail t1 1 o1
      refine ⟨Mc2, Mr2, ?_, ?_, F, X1.tr (W2.x g), Y1.tr V2.x⟩
      · rw [if_neg c0]
        unfold rk2
        rw [b1]; rfl
      · rw [if_neg (by rw [nz0 (by omega)]; omega), b2, bvs, gk5_fl F.2.2]
  · right
    refine ⟨Mc1, Mr1, a1, ?_, F, X1, Y1⟩
    rw [a2, gk4_fl F.2.2]
end
