/-! THE CALL game. -/
/-- the class's end -/
def cgE (v30_7 : Int32) (M30_6 : Mm) : Option (Int32 × Mm) := if v30_7 = 0 then (bd (f_X9_refused (nI 4) (mset (mset (mset M30_6 15 1 (nI 0)) 0 12 ((mset M30_6 15 1 (nI 0)) 17 4)) 0 13 ((mset (mset M30_6 15 1 (nI 0)) 0 12 ((mset M30_6 15 1 (nI 0)) 17 4)) 17 5))) fun v70_18 M70_17 => some (v70_18, M70_17)) else (bg ((mset (mset (mset M30_6 15 1 (nI 0)) 0 12 ((mset M30_6 15 1 (nI 0)) 17 4)) 0 13 ((mset (mset M30_6 15 1 (nI 0)) 0 12 ((mset M30_6 15 1 (nI 0)) 17 4)) 17 5)) 0 8) fun g8 => bg ((mset (mset (mset M30_6 15 1 (nI 0)) 0 12 ((mset M30_6 15 1 (nI 0)) 17 4)) 0 13 ((mset (mset M30_6 15 1 (nI 0)) 0 12 ((mset M30_6 15 1 (nI 0)) 17 4)) 17 5)) 0 9) fun g9 => bv (f_X3_begin 20 (nI 0) (mset (mset (mset (mset (mset M30_6 15 1 (nI 0)) 0 12 ((mset M30_6 15 1 (nI 0)) 17 4)) 0 13 ((mset (mset M30_6 15 1 (nI 0)) 0 12 ((mset M30_6 15 1 (nI 0)) 17 4)) 17 5)) 0 8 (nI g9)) 0 9 (nI g8))) fun M97_10 => bv (f_X1_clear  (mset M97_10 0 10 (nI 0))) fun M109_12 => bg (M109_12 0 8) fun g14 => bd (f_X9_well (M109_12 g14 14) M109_12) fun v120_16 M120_15 => some (v120_16, M120_15))
/-- the reference's end -/
def rgE (M20 : Mm) : Option (Int32 × Mm) := if (M20 81 13) = 0 then (lp_X10_game_199  (fun  (M23 : Mm) => bv (f_X10_begin (nI 0) (mset M23 81 14 (nI 1))) fun M231_24 => lp_X10_game_246  (fun  (M27 : Mm) => some ((M27 84 95), M27)) N0 (nI 0) (mset (mset M231_24 81 19 (nI 0)) 81 26 (nI 0))) N0 (nI 0) M20) else (bd (f_X10_no (nI 4) M20) fun v193_29 M193_28 => some (v193_29, M193_28))
theorem Option_some2 {α : Type} {a c : α} (h : some a = some c) : a = c := Option.some.inj h
/-- a told game is refused -/
theorem game_bad {M Mc M2 : Mm} {g tl g' T : Nat} (I : IC M g tl) (h : NG M g ∨ ∃ G Q mk Qm, IG M g G Q mk Qm T) (hg' : g' = 9 - g) (X : ∀ a, a ≠ 15 → a ≠ 17 → a ≠ 18 → a ≠ 19 → (a < g' ∨ g' + 6 < a) → Mc a = M a)
    (c0 : ∀ k, k ≠ 11 → k ≠ 12 → k ≠ 13 → M2 0 k = M 0 k) (c1 : ∀ a, 1 ≤ a → a < 81 → a ≠ 15 → M2 a = Mc a) (c15 : M2 15 1 = nI 0) (ra : ∀ a, 82 ≤ a → a ≠ 83 → a ≠ 85 → M2 a = M a) (r2 : M2 81 2 = nI 0) (rk_ : ∀ k, 11 < k → k ≠ 13 → k < 27 → M2 81 k = M 81 k)
    (t1 : M2 0 11 = nI 4) (t2 : M2 81 11 = nI 4) (l : M2 0 12 = M2 81 9) (l2 : M2 0 13 = M2 81 10) : Inv M2 T := by
  have gg := I.gg
  obtain ⟨n, fp, fm, ft, sn, sk, N⟩ := I.nt
  have row : ∀ a, 20 ≤ a → a < 81 → M2 a = M a := fun a h1 h2 => by rw [c1 a (by omega) h2 (by omega), X a (by omega) (by omega) (by omega) (by omega) (by omega)]
  have rowg : ∀ a, g ≤ a → a ≤ g + 6 → M2 a = M a := fun a h1 h2 => by rw [c1 a (by omega) (by omega) (by omega), X a (by omega) (by omega) (by omega) (by omega) (by omega)]
  refine ⟨g, 0, ⟨gg, by rw [c0 8 (by decide) (by decide) (by decide)]; exact I.h8, by rw [c0 9 (by decide) (by decide) (by decide)]; exact I.h9, ⟨by omega, c15, r2, fun k hk => by omega⟩, by rw [t1, t2], l, fun _ => l2, by rw [rk_ 20 (by decide) (by decide) (by decide)]; exact I.lo, ⟨n, fp, fm, ft, sn, sk, ⟨N.n30, by rw [row 73 (by decide) (by decide)]; exact N.c, by rw [rk_ 26 (by decide) (by decide) (by decide)]; exact N.r, fun k hk => by rw [ra 88 (by decide) (by decide) (by decide), ra 89 (by decide) (by decide) (by decide), ra 90 (by decide) (by decide) (by decide)]; exact N.p k hk, fun p hp s hs t ht => by rw [row 74 (by decide) (by decide)]; exact N.f p hp s hs t ht, fun c hc => by rw [row 75 (by decide) (by decide), row 76 (by decide) (by decide), ra 91 (by decide) (by decide) (by decide), ra 92 (by decide) (by decide) (by decide)]; exact N.s c hc⟩⟩⟩, ?_⟩
  rcases h with N | ⟨G, Q, mk, Qm, D⟩
  · left
    exact ⟨by rw [rk_ 14 (by decide) (by decide) (by decide)]; exact N.hg, fun k h1 h2 => by rw [rowg g (by omega) (by omega)]; exact N.z k h1 h2, by rw [row 20 (by decide) (by decide)]; exact N.seed, by rw [c0 10 (by decide) (by decide) (by decide)]; exact N.m0, by rw [rk_ 19 (by decide) (by decide) (by decide)]; exact N.m1, by rw [row 73 (by decide) (by decide)]; exact N.fl⟩
  · right
    have m3 := D.mk3
    exact ⟨G, Q, mk, Qm, D.C.cong3 rowg, fun k hk => by rw [ra 84 (by decide) (by decide) (by decide)]; exact D.R k hk, D.W, by rw [rk_ 14 (by decide) (by decide) (by decide)]; exact D.hg, RP.cong D.W D.H (fun k _ => by rw [ra 86 (by decide) (by decide) (by decide)]), D.K.cong7 (fun a h1 h2 => row a (by omega) (by omega)), D.qw, D.mk3, by rw [c0 10 (by decide) (by decide) (by decide)]; exact D.m0, by rw [rk_ 19 (by decide) (by decide) (by decide)]; exact D.m1, fun s hs => KP.cong D.W (by omega) (D.mr s hs) (fun k _ => by rw [ra 87 (by decide) (by decide) (by decide)]), fun s hs => (D.mc s hs).cong7 (fun a h1 h2 => row a (by omega) (by omega)), D.mq⟩
theorem op_game (x : Int32) (T : Nat) : Same (f_X9_game x) (f_X10_game x) T T := by
  intro M I0
  obtain ⟨g, tl, I, h⟩ := id I0
  have gg := I.gg
  have tp := I.tp
  have hle := tp.le
  have eC : f_X9_game x M = (if x < 0 then (bd (f_X9_refused (nI 2) M) fun v17_4 M17_3 => some (v17_4, M17_3)) else (if x ≤ (M 15 1) then (bg (M 0 9) fun g5 => bd (f_X5_read g5 x M) fun v30_7 M30_6 => cgE v30_7 M30_6) else (bd (f_X9_refused (nI 2) M) fun v17_4 M17_3 => some (v17_4, M17_3)))) := rfl
  have eR : ∀ M, f_X10_game x M = bd (f_X10_within x (nI 0) ((gdM M) 81 2) (gdM M)) fun v10_4 M10_3 => if v10_4 = 0 then (bd (f_X10_no (nI 2) M10_3) fun v18_45 M18_44 => some (v18_45, M18_44)) else (lp_X10_game_39 x (fun  (M6 : Mm) => bv (f_X10_next  (mset (mset M6 81 3 x) 81 5 (nI 0))) fun M70_7 => bv (f_X10_readLine  M70_7) fun M74_9 => lp_X10_game_77 (gk4 rgE) N0 M74_9) N0 (nI 0) (mset (mset (mset M10_3 81 2 (nI 0)) 81 9 (nI 0)) 81 13 (nI 0))) := fun M => rfl
  by_cases hx : inr x 0 tl
  · obtain ⟨n, -, hn, rfl⟩ := hx
    obtain ⟨g', hg'⟩ : ∃ g', g' = 9 - g := ⟨_, rfl⟩
    have hgg : g' = 1 ∨ g' = 8 := by omega
    obtain ⟨b, hb⟩ : ∃ b : Nat → Nat, b = fun k => (M 82 k).toNatClampNeg := ⟨_, rfl⟩
    have hb' : ∀ k, k < n → b k < 256 ∧ M 82 k = nI (b k) ∧ M 16 k &&& nI 255 = nI (b k) := fun k hk => by
      obtain ⟨v, v1, v2, v3⟩ := tp.b k (by omega)
      have : b k = v := by rw [hb]; show (M 82 k).toNatClampNeg = v; rw [v2, nclamp (by omega)]
      rw [this]
      exact ⟨v1, v2, v3⟩
    obtain ⟨C5, e5, tb, d4, d5, d3, d6, q1, q3, q4, qf, z1, z2, z4⟩ := c_open (α := Int32 × Mm) (M := M) (g := g') (n := n) (b := b) hgg (by omega) (fun k hk => ⟨(hb' k hk).1, (hb' k hk).2.2⟩)
    -- the lockstep, over any memory of the reference
    have run : ∀ R : Mm, (∀ k, k < n → b k < 256 ∧ R 82 k = nI (b k)) → ∃ R4, (lp_X10_game_39 (nI n) (fun  (M6 : Mm) => bv (f_X10_next  (mset (mset M6 81 3 (nI n)) 81 5 (nI 0))) fun M70_7 => bv (f_X10_readLine  M70_7) fun M74_9 => lp_X10_game_77 (gk4 rgE) N0 M74_9) N0 (nI 0) (mset (mset (mset R 81 2 (nI 0)) 81 9 (nI 0)) 81 13 (nI 0))) = (bv (f_X10_readLine  R4) fun M74_9 => lp_X10_game_77 (gk4 rgE) N0 M74_9) ∧ R4 81 2 = nI 0 ∧ (∀ a, a ≠ 81 → a ≠ 83 → a ≠ 85 → R4 a = R a) ∧ (∀ k, k < 2 ∨ (10 < k ∧ k ≠ 13) → R4 81 k = R 81 k) ∧
        ((∃ Mc' Mr' G', lp_X5_read_32 rk1 rk2 (fun  (M55 : Mm) => bd (f_X5_fail (nI 1) M55) fun v215_57 M215_56 => gd (zo v215_57) <| some (v215_57, M215_56)) N0 (nI 0) C5 = some (nI 1, Mc') ∧ (bv (f_X10_readLine R4) fun M98_13 => lp_X10_game_77 (gk4 rgE) N0 M98_13) = rgE Mr' ∧ Mr' 81 13 = nI 0 ∧ Mc' 17 4 = Mr' 81 9 ∧ PGm Mc' Mr' g' n b G' ∧ GW G' ∧ Xc g' C5 Mc' ∧ Xr R4 Mr') ∨
        (∃ Mc' Mr', lp_X5_read_32 rk1 rk2 (fun  (M55 : Mm) => bd (f_X5_fail (nI 1) M55) fun v215_57 M215_56 => gd (zo v215_57) <| some (v215_57, M215_56)) N0 (nI 0) C5 = some (nI 0, Mc') ∧ (bv (f_X10_readLine R4) fun M98_13 => lp_X10_game_77 (gk4 rgE) N0 M98_13) = rgE Mr' ∧ FL Mc' Mr' ∧ Xc g' C5 Mc' ∧ Xr R4 Mr')) := fun R hR => by
      obtain ⟨R4, s1, s2, s4, s5, s6, s7, s8, s9, s10, s11, s12, s13, s14⟩ := r_open (M := R) (n := n) (b := b) (y1 := nI n) (by omega) hR (fun M70_7 => bv (f_X10_readLine  M70_7) fun M74_9 => lp_X10_game_77 (gk4 rgE) N0 M74_9)
      have t : TKp C5 R4 n b 0 := ⟨tb, s2, Nat.zero_le _, d4, d5, d3, d6, s4, s5, s6, s7, s8, by rw [q4, s10]⟩
      exact ⟨R4, s1, s9, s12, s13, both_read (J := rgE) t (PG0 hgg q3 z1 z2 z4 s14) s11⟩
    have rd : ∀ K : Int32 → Mm → Option (Int32 × Mm), bd (f_X5_read g' (nI n) M) K = bd (lp_X5_read_32 rk1 rk2 (fun  (M55 : Mm) => bd (f_X5_fail (nI 1) M55) fun v215_57 M215_56 => gd (zo v215_57) <| some (v215_57, M215_56)) N0 (nI 0) C5) K := fun K => by
      have : f_X5_read g' (nI n) M = lp_X5_read_32 rk1 rk2 (fun  (M55 : Mm) => bd (f_X5_fail (nI 1) M55) fun v215_57 M215_56 => gd (zo v215_57) <| some (v215_57, M215_56)) N0 (nI 0) C5 := by
        unfold f_X5_read
        rw [ms1, bgv hgg]
        exact e5 (lp_X5_read_32 rk1 rk2 (fun  (M55 : Mm) => bd (f_X5_fail (nI 1) M55) fun v215_57 M215_56 => gd (zo v215_57) <| some (v215_57, M215_56)) N0 (nI 0))
      rw [this]
    have cl : f_X9_game (nI n) M = bd (lp_X5_read_32 rk1 rk2 (fun  (M55 : Mm) => bd (f_X5_fail (nI 1) M55) fun v215_57 M215_56 => gd (zo v215_57) <| some (v215_57, M215_56)) N0 (nI 0) C5) cgE := by
      rw [eC, if_neg (by rw [nlt0 (by omega)]; exact id), tp.c, if_pos (by rw [nle (by omega) (by omega)]; exact hn), I.h9, ← hg', bgv hgg]
      exact rd cgE
    have qx : ∀ a, a ≠ 15 → a ≠ 17 → (a < g' ∨ g' + 6 < a) → C5 a = M a := qf
    have refE : ∀ M1 : Mm, M1 81 2 = M 81 2 → f_X10_game (nI n) M1 = lp_X10_game_39 (nI n) (fun  (M6 : Mm) => bv (f_X10_next  (mset (mset M6 81 3 (nI n)) 81 5 (nI 0))) fun M70_7 => bv (f_X10_readLine  M70_7) fun M74_9 => lp_X10_game_77 (gk4 rgE) N0 M74_9) N0 (nI 0) (mset (mset (mset (gdM M1) 81 2 (nI 0)) 81 9 (nI 0)) 81 13 (nI 0)) := fun M1 h1 => by
      have g2 : gdM M1 81 2 = nI tl := by unfold gdM; rw [ms3 _ _ (by decide), ms3 _ _ (by decide), h1]; exact tp.r
      rw [eR, g2, r_withinN (by omega) (by omega) (by omega), bds, if_pos (⟨Nat.zero_le _, hn⟩ : 0 ≤ n ∧ n ≤ tl), if_neg (by decide)]
    obtain ⟨R0, -, -, -, -, w⟩ := run M (fun k hk => ⟨(hb' k hk).1, (hb' k hk).2.1⟩)
    rcases w with ⟨Mc, Mr0, G0, u1, -, -, -, -, W0, XX, -⟩ | ⟨Mc, Mr0, u1, -, -, XX, -⟩
    · -- the game is taken
      have rowc : ∀ a, a ≠ 15 → a ≠ 17 → a ≠ 18 → a ≠ 19 → (a < g' ∨ g' + 6 < a) → Mc a = M a := fun a h1 h2 h3 h4 h5 => by rw [XX.fr a h1 h2 h3 h4 h5, qx a h1 h2 h5]
      have Mc0 : Mc 0 = M 0 := rowc 0 (by decide) (by decide) (by decide) (by decide) (by omega)
      obtain ⟨M3, hM3⟩ : ∃ M3, M3 = mset (mset (mset Mc 15 1 (nI 0)) 0 12 (Mc 17 4)) 0 13 (Mc 17 5) := ⟨_, rfl⟩
      obtain ⟨M4, hM4⟩ : ∃ M4, M4 = mset (mset M3 0 8 (nI g')) 0 9 (nI g) := ⟨_, rfl⟩
      obtain ⟨M5, a5, K5, f5⟩ := c_begin (M0 := M4) (G := G0) W0 (show PC 20 from Or.inl rfl) 0
      obtain ⟨M7, a7, f7, y1, y2, y3⟩ := c_forget (M := mset M5 0 10 (nI 0))
      obtain ⟨M1, hM1⟩ : ∃ M1, M1 = mset M7 0 11 (nI 0) := ⟨_, rfl⟩
      have m3o : ∀ a, a ≠ 0 → a ≠ 15 → M3 a = Mc a := fun a h1 h2 => by rw [hM3, mset_off _ _ _ h1, mset_off _ _ _ h1, mset_off _ _ _ h2]
      have m30 : ∀ k, k ≠ 12 → k ≠ 13 → M3 0 k = M 0 k := fun k h1 h2 => by rw [hM3, ms3 _ _ h2, ms3 _ _ h1, mset_off _ _ _ (by decide), Mc0]
      have m4o : ∀ a, a ≠ 0 → M4 a = M3 a := fun a h1 => by rw [hM4, mset_off _ _ _ h1, mset_off _ _ _ h1]
      have m7o : ∀ a, a ≠ 0 → a < 20 ∨ 76 < a → M7 a = M3 a := fun a h1 h2 => by rw [f7 a (by omega), mset_off _ _ _ h1, f5 a (by omega), m4o a h1]
      have m70 : ∀ k, k ≠ 10 → M7 0 k = M4 0 k := fun k h1 => by rw [f7 0 (by omega), ms3 _ _ h1, f5 0 (by omega)]
      have m1o : ∀ a, a ≠ 0 → M1 a = M7 a := fun a h1 => by rw [hM1, mset_off _ _ _ h1]
      have m1h : ∀ a, 81 ≤ a → M1 a = M a := fun a h1 => by rw [m1o a (by omega), m7o a (by omega) (by omega), m3o a (by omega) (by omega), rowc a (by omega) (by omega) (by omega) (by omega) (by omega)]
      have b8 : M7 0 8 = nI g' := by rw [m70 8 (by decide), hM4, ms3 _ _ (by decide), ms1]
      have g82 : gdM M1 82 = M 82 := by unfold gdM; rw [mset_off _ _ _ (by decide), mset_off _ _ _ (by decide), m1h 82 (by decide)]
      have g1o : ∀ a, a ≠ 81 → gdM M1 a = M1 a := fun a ha => by unfold gdM; rw [mset_off _ _ _ ha, mset_off _ _ _ ha]
      obtain ⟨R4, e1, e2, e3, e4, w⟩ := run (gdM M1) (fun k hk => by rw [g82]; exact ⟨(hb' k hk).1, (hb' k hk).2.1⟩)
      rcases w with ⟨Mc', Mr', G', v1, v2, v3, v4, P, W, -, Y⟩ | ⟨Mc', Mr', v1, -⟩
      · have hc := congrArg Prod.snd (Option_some2 (u1.symm.trans v1))
        dsimp only at hc
        subst hc
        obtain ⟨M5', a5', K5', -⟩ := c_begin (M0 := M4) (G := G') W (show PC 20 from Or.inl rfl) 0
        have h55 := Option_some2 (a5'.symm.trans a5)
        subst h55
        obtain ⟨M8, a8, f8, y8⟩ := rg_keep (M := Mr') (fun  (M23 : Mm) => bv (f_X10_begin (nI 0) (mset M23 81 14 (nI 1))) fun M231_24 => lp_X10_game_246  (fun  (M27 : Mm) => some ((M27 84 95), M27)) N0 (nI 0) (mset (mset M231_24 81 19 (nI 0)) 81 26 (nI 0)))
        obtain ⟨M9, a9, H9, f9⟩ := r_begin_RP (M0 := mset M8 81 14 (nI 1)) W (G := G') 0
        obtain ⟨M2, a2, f2, y2'⟩ := rg_stops (M := mset (mset M9 81 19 (nI 0)) 81 26 (nI 0)) (fun  (M27 : Mm) => some ((M27 84 95), M27))
        have o2 : ∀ a, a ≠ 81 → a ≠ 84 → a ≠ 86 → a ≠ 91 → a ≠ 92 → M2 a = Mr' a := fun a h1 h2 h3 h4 h5 => by rw [f2 a h4 h5, mset_off _ _ _ h1, mset_off _ _ _ h1, f9 a h3, mset_off _ _ _ h1, f8 a h2]
        have o1 : ∀ a, a ≠ 81 → a ≠ 83 → a ≠ 84 → a ≠ 85 → a ≠ 86 → a ≠ 91 → a ≠ 92 → M2 a = M1 a := fun a h1 h2 h3 h4 h5 h6 h7 => by rw [o2 a h1 h3 h5 h6 h7, Y.fr a h1 h2 h4, e3 a h1 h2 h4, g1o a h1]
        have o81 : ∀ k, k ≠ 14 → k ≠ 19 → k ≠ 26 → M2 81 k = Mr' 81 k := fun k h1 h2 h3 => by rw [f2 81 (by decide) (by decide), ms3 _ _ h3, ms3 _ _ h2, f9 81 (by decide), ms3 _ _ h1, f8 81 (by decide)]
        have o84 : ∀ k, k < 141 → M2 84 k = nI (G' k) := fun k hk => by rw [f2 84 (by decide) (by decide), mset_off _ _ _ (by decide), mset_off _ _ _ (by decide), f9 84 (by decide), mset_off _ _ _ (by decide), y8 k hk]; exact P.r k hk
        have low : ∀ a, a ≠ 0 → a < 20 → M2 a = M3 a := fun a h1 h2 => by rw [o1 a (by omega) (by omega) (by omega) (by omega) (by omega) (by omega) (by omega), m1o a h1, m7o a h1 (by omega)]
        have z0 : ∀ k, M2 0 k = M1 0 k := fun k => by rw [o1 0 (by decide) (by decide) (by decide) (by decide) (by decide) (by decide) (by decide)]
        have z0' : ∀ k, k ≠ 11 → k ≠ 10 → M2 0 k = M4 0 k := fun k h1 h2 => by rw [z0, hM1, ms3 _ _ h1, m70 k h2]
        have e7 : M7 g' 14 = nI (G' 95) := by rw [m7o g' (by omega) (by omega), m3o g' (by omega) (by omega)]; exact P.C.f14
        have c8 : M3 0 8 = nI g := by rw [m30 8 (by decide) (by decide)]; exact I.h8
        have c9 : M3 0 9 = nI g' := by rw [m30 9 (by decide) (by decide), hg']; exact I.h9
        refine ⟨nI (G' 95), M1, M2, ?_, ?_, g', 0, ⟨hgg, ?_, ?_, ⟨by omega, ?_, ?_, fun k hk => by omega⟩, ?_, ?_, fun h4 => ?_, ?_, ⟨0, fun _ => 0, fun _ => 0, fun _ => 0, fun _ => 0, fun _ => 0, ⟨by omega, ?_, ?_, fun k hk => by omega, fun p hp s hs t ht => ?_, fun c hc => ⟨Nat.zero_le _, Nat.le_refl _, ?_, ?_, ?_, ?_⟩⟩⟩⟩, .inr ⟨G', bg0 0, 0, fun _ => bg0 0, ⟨P.C.cong3 (fun a h1 h2 => ?_), fun k hk => o84 k hk, W, ?_, ?_, ?_, bg0_QW W (by omega) T, by omega, ?_, ?_, fun s hs => by omega, fun s hs => by omega, fun s hs => by omega⟩⟩⟩
        · rw [cl, u1, bds]
          unfold cgE
          rw [if_neg (by decide), mset_off _ _ _ (show (17 : Nat) ≠ 15 by decide), mset_off _ _ _ (show (17 : Nat) ≠ 0 by decide), mset_off _ _ _ (show (17 : Nat) ≠ 15 by decide), ← hM3, c8, bgv gg, c9, bgv hgg, ← hM4, a5, bvs, a7, bvs, b8, bgv hgg, e7]
          rw [hM1]; rfl
        · rw [refE M1 (by rw [m1h 81 (by decide)]), e1, v2]
          unfold rgE
          rw [if_pos (show Mr' 81 13 = 0 by rw [v3]; rfl), a8, a9, bvs, a2, o84 95 (by decide)]
        · rw [z0' 8 (by decide) (by decide), hM4, ms3 _ _ (by decide), ms1]
        · rw [z0' 9 (by decide) (by decide), hM4, ms1, show 9 - g' = g from by omega]
        · rw [low 15 (by decide) (by decide), hM3, mset_off _ _ _ (by decide), mset_off _ _ _ (by decide), ms1]
        · rw [o81 2 (by decide) (by decide) (by decide), Y.r 2 (by omega), e2]
        · rw [z0, hM1, ms1, o81 11 (by decide) (by decide) (by decide), Y.r 11 (by omega), e4 11 (by omega)]
          unfold gdM
          rw [ms1]
        · rw [z0' 12 (by decide) (by decide), hM4, ms3 _ _ (by decide), ms3 _ _ (by decide), hM3, ms3 _ _ (by decide), ms1, o81 9 (by decide) (by decide) (by decide)]
          exact v4
        · rw [z0, hM1, ms1] at h4
          exact absurd h4 nI04
        · rw [o81 20 (by decide) (by decide) (by decide), Y.r 20 (by omega), e4 20 (by omega)]
          unfold gdM
          rw [ms3 _ _ (by decide), ms3 _ _ (by decide), m1h 81 (by decide)]
          exact I.lo
        · rw [o1 73 (by decide) (by decide) (by decide) (by decide) (by decide) (by decide) (by decide), m1o 73 (by decide)]; exact y3
        · rw [f2 81 (by decide) (by decide), ms1]
        · rw [o1 74 (by decide) (by decide) (by decide) (by decide) (by decide) (by decide) (by decide), m1o 74 (by decide)]; exact y1 _ (by omega)
        · rw [o1 75 (by decide) (by decide) (by decide) (by decide) (by decide) (by decide) (by decide), m1o 75 (by decide)]; exact (y2 c hc).1
        · exact (y2' c hc).1
        · rw [o1 76 (by decide) (by decide) (by decide) (by decide) (by decide) (by decide) (by decide), m1o 76 (by decide)]; exact (y2 c hc).2
        · exact (y2' c hc).2
        · rw [low a (by omega) (by omega), m3o a (by omega) (by omega)]
        · rw [f2 81 (by decide) (by decide), ms3 _ _ (by decide), ms3 _ _ (by decide), f9 81 (by decide), ms1]
        · exact RP.cong W H9 (fun k _ => by rw [f2 86 (by decide) (by decide), mset_off _ _ _ (by decide), mset_off _ _ _ (by decide)])
        · refine K5'.cong7 (fun a h1 h2 => ?_)
          rw [o1 a (by omega) (by omega) (by omega) (by omega) (by omega) (by omega) (by omega), m1o a (by omega), f7 a (by omega), mset_off _ _ _ (by omega)]
        · rw [z0, hM1, ms3 _ _ (by decide), f7 0 (by omega), ms1]
        · rw [f2 81 (by decide) (by decide), ms3 _ _ (by decide), ms1]
      · have := congrArg Prod.fst (Option_some2 (u1.symm.trans v1))
        exact absurd this (show ¬ nI 1 = nI 0 by decide)
    · -- the game is refused
      have rowc : ∀ a, a ≠ 15 → a ≠ 17 → a ≠ 18 → a ≠ 19 → (a < g' ∨ g' + 6 < a) → Mc a = M a := fun a h1 h2 h3 h4 h5 => by rw [XX.fr a h1 h2 h3 h4 h5, qx a h1 h2 h5]
      have Mc0 : Mc 0 = M 0 := rowc 0 (by decide) (by decide) (by decide) (by decide) (by omega)
      obtain ⟨M3, hM3⟩ : ∃ M3, M3 = mset (mset (mset Mc 15 1 (nI 0)) 0 12 (Mc 17 4)) 0 13 (Mc 17 5) := ⟨_, rfl⟩
      obtain ⟨M1, hM1⟩ : ∃ M1, M1 = mset M3 0 11 (nI 4) := ⟨_, rfl⟩
      have m1o : ∀ a, a ≠ 0 → a ≠ 15 → M1 a = Mc a := fun a h1 h2 => by rw [hM1, mset_off _ _ _ h1, hM3, mset_off _ _ _ h1, mset_off _ _ _ h1, mset_off _ _ _ h2]
      have m1h : ∀ a, 81 ≤ a → M1 a = M a := fun a h1 => by rw [m1o a (by omega) (by omega), rowc a (by omega) (by omega) (by omega) (by omega) (by omega)]
      have g82 : gdM M1 82 = M 82 := by unfold gdM; rw [mset_off _ _ _ (by decide), mset_off _ _ _ (by decide), m1h 82 (by decide)]
      have g1o : ∀ a, a ≠ 81 → gdM M1 a = M1 a := fun a ha => by unfold gdM; rw [mset_off _ _ _ ha, mset_off _ _ _ ha]
      obtain ⟨R4, e1, e2, e3, e4, w⟩ := run (gdM M1) (fun k hk => by rw [g82]; exact ⟨(hb' k hk).1, (hb' k hk).2.1⟩)
      rcases w with ⟨Mc', Mr', G', v1, -⟩ | ⟨Mc', Mr', v1, v2, F, -, Y⟩
      · have := congrArg Prod.fst (Option_some2 (u1.symm.trans v1))
        exact absurd this (show ¬ nI 0 = nI 1 by decide)
      · have hc := congrArg Prod.snd (Option_some2 (u1.symm.trans v1))
        dsimp only at hc
        subst hc
        have o1 : ∀ a, a ≠ 81 → a ≠ 83 → a ≠ 85 → mset Mr' 81 11 (nI 4) a = M1 a := fun a h1 h2 h3 => by rw [mset_off _ _ _ h1, Y.fr a h1 h2 h3, e3 a h1 h2 h3, g1o a h1]
        refine ⟨-1, M1, mset Mr' 81 11 (nI 4), ?_, ?_, game_bad I h hg' rowc (fun k h1 h2 h3 => ?_) (fun a h1 h2 h3 => ?_) ?_ (fun a h1 h2 h3 => ?_) ?_ (fun k h1 h2 h3 => ?_) ?_ (ms1 _ _ _ _) ?_ ?_⟩
        · rw [cl, u1, bds]
          unfold cgE
          rw [if_pos (by decide), mset_off _ _ _ (show (17 : Nat) ≠ 15 by decide), mset_off _ _ _ (show (17 : Nat) ≠ 0 by decide), mset_off _ _ _ (show (17 : Nat) ≠ 15 by decide), ← hM3, hM1]
          rfl
        · rw [refE M1 (by rw [m1h 81 (by decide)]), e1, v2]
          unfold rgE
          rw [if_neg (fl0 F.2.2)]
          rfl
        · rw [o1 0 (by decide) (by decide) (by decide), hM1, ms3 _ _ h1, hM3, ms3 _ _ h3, ms3 _ _ h2, mset_off _ _ _ (by decide), Mc0]
        · rw [o1 a (by omega) (by omega) (by omega), m1o a (by omega) h3]
        · rw [o1 15 (by decide) (by decide) (by decide), hM1, mset_off _ _ _ (by decide), hM3, mset_off _ _ _ (by decide), mset_off _ _ _ (by decide), ms1]
        · rw [o1 a (by omega) h2 h3, m1h a (by omega)]
        · rw [ms3 _ _ (by decide), Y.r 2 (by omega), e2]
        · rw [ms3 _ _ (by omega), Y.r k (by omega), e4 k (by omega)]
          unfold gdM
          rw [ms3 _ _ (by omega), ms3 _ _ (by omega), m1h 81 (by decide)]
        · rw [o1 0 (by decide) (by decide) (by decide), hM1, ms1]
        · rw [o1 0 (by decide) (by decide) (by decide), hM1, ms3 _ _ (by decide), hM3, ms3 _ _ (by decide), ms1, ms3 _ _ (by decide)]
          exact F.1
        · rw [o1 0 (by decide) (by decide) (by decide), hM1, ms3 _ _ (by decide), hM3, ms1, ms3 _ _ (by decide)]
          exact F.2.1
  · refine ⟨-1, mset M 0 11 (nI 2), mset (gdM (mset M 0 11 (nI 2))) 81 11 (nI 2), ?_, ?_, I0.no (Fr.rfl' M) (by omega)⟩
    · rw [eC]
      by_cases c : x < 0
      · rw [if_pos c]; rfl
      · rw [if_neg c]
        rcases i32 x with h7 | ⟨v, hv, rfl⟩
        · exact absurd h7 c
        · rw [tp.c, if_neg (by rw [nle hv (by omega)]; exact fun z => hx ⟨v, by omega, by omega, rfl⟩)]
          rfl
    · have g2 : gdM (mset M 0 11 (nI 2)) 81 2 = nI tl := by unfold gdM; rw [ms3 _ _ (by decide), ms3 _ _ (by decide), mset_off _ _ _ (by decide)]; exact tp.r
      rw [eR, g2]
      rcases r_withinI (M := gdM (mset M 0 11 (nI 2))) x (show 0 < 2 ^ 31 by decide) (show tl < 2 ^ 31 by omega) with ⟨h6, -⟩ | ⟨-, h6⟩
      · exact absurd h6 hx
      · rw [h6]; rfl
