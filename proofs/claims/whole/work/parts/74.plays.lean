/-! PLAYS in the reference; wins, lasts, sent, looking. -/
theorem r_sentLoop {M0 : Mm} {G : Nat → Nat} {Q : Pl} (R : RG M0 G) (W : GW G) (H : RP M0 G Q) {e : Nat} (h4 : M0 81 30 = nI e) {y1 y2 y3 y4 : Int32} (k : Mm → Option Mm) :
    ∃ M', lp_X10_plays_123 y1 y2 y3 y4 k N0 (nI 0) M0 = k M' ∧ (∀ x, x ≠ 81 → M' x = M0 x) ∧ (∀ j, j ≠ 30 → M' 81 j = M0 81 j) ∧ M' 81 30 = nI (e + Sq G Q (G 95)) := by
  have hcr := W.creepers
  refine lpM (fun f i M => lp_X10_plays_123 y1 y2 y3 y4 k f (nI i) M) (G 95) (fun i M => (∀ x, x ≠ 81 → M x = M0 x) ∧ (∀ j, j ≠ 30 → M 81 j = M0 81 j) ∧ M 81 30 = nI (e + Sq G Q i)) k (by omega) (fun f i M hi T => ?_) (fun f M T => ?_) M0 ⟨fun _ _ => rfl, fun _ _ => rfl, h4⟩
  · obtain ⟨t1, t2, t3⟩ := T
    have R' : RG M G := fun k hk => by rw [t1 84 (by omega)]; exact R k hk
    have e1 : M 86 (24 + i) = nI (Q.seen i) := by rw [t1 86 (by omega)]; exact H.seen i hi
    have e2 : M 86 (29 + i) = nI (Q.wrong i) := by rw [t1 86 (by omega)]; exact H.wrong i hi
    refine ⟨mset M 81 30 (nI (e + Sq G Q i + (Q.seen i + Q.wrong i))), ?_, fun x hx => by rw [mset_off _ _ _ hx]; exact t1 x hx, fun j hj => by rw [ms3 _ _ hj]; exact t2 j hj, by rw [ms1, Nat.add_assoc]; rfl⟩
    rw [lp_X10_plays_123, R' 95 (by decide), if_neg (by rw [nle (by omega) (by omega)]; omega), nadd, nadd, gdi (by omega) (by omega), gdi (by omega) (by omega), nclamp (by omega), nclamp (by omega), e1, e2, t3, nadd, nadd, nadd]
  · rw [lp_X10_plays_123, T.1 84 (by omega), R 95 (by decide), if_pos (Int32.le_refl _)]
theorem r_plays {M0 : Mm} {G : Nat → Nat} {m most n : Nat} {Q : Pl} (R : RG M0 G) (W : GW G) (he : Ey M0 G m) (H : RP M0 G Q) (hs : Q.seed < 65537) (hmo : most < 1000) (hmo1 : 1 ≤ most) (hn : n ≤ 20) :
    ∃ M', f_X10_plays (nI n) (nI most) M0 = some M' ∧ (∀ a, a ≠ 81 → a ≠ 86 → a ≠ 87 → a ≠ 93 → a ≠ 94 → M' a = M0 a) ∧ (∀ k, k < 44 → M' 86 k = M0 86 k) ∧ (∀ k, k < 132 → M' 87 k = M0 87 k) ∧ (∀ k, k ≠ 29 → k ≠ 30 → M' 81 k = M0 81 k) ∧ M' 81 29 = nI (La G m most Q.seed n) ∧ M' 81 30 = nI (Se G m most Q.seed n) ∧ ∀ i, i < n → M' 94 i = (Pt G m most Q.seed i).touch := by
  have hcr := W.creepers
  obtain ⟨M1, a1, f1, g1, o1⟩ := r_keep (M0 := M0) (s := 3) (by omega)
  unfold f_X10_plays
  rw [a1, bvs, f1 86 (by omega), H.seed]
  obtain ⟨M2, a2, t1, t2, t3, t4, t5⟩ := lpM (fun f i M => lp_X10_plays_26 (nI n) (nI most) (nI Q.seed) (fun (M22 : Mm) => bv (f_X10_bringBack (nI 3) M22) fun M179_23 => some M179_23) f (nI i) M) n (fun i M => (∀ a, a ≠ 81 → a ≠ 86 → a ≠ 93 → a ≠ 94 → M a = M1 a) ∧ (∀ k, k ≠ 29 → k ≠ 30 → M 81 k = M0 81 k) ∧ M 81 29 = nI (La G m most Q.seed i) ∧ M 81 30 = nI (Se G m most Q.seed i) ∧ ∀ j, j < i → M 94 j = (Pt G m most Q.seed j).touch) (fun (M22 : Mm) => bv (f_X10_bringBack (nI 3) M22) fun M179_23 => some M179_23) (by omega) (fun f i M hi T => by
    obtain ⟨t1, t2, t3, t4, t5⟩ := T
    have R' : RG M G := fun k hk => by rw [t1 84 (by omega) (by omega) (by omega) (by omega), f1 84 (by omega)]; exact R k hk
    have he' : Ey M G m := by unfold Ey at he ⊢; rw [t2 20 (by omega) (by omega)]; exact he
    obtain ⟨M3, a3, H3, f3⟩ := r_begin_RP (M0 := M) W (G := G) ((Q.seed + i) % 65537)
    have R3 : RG M3 G := fun k hk => by rw [f3 84 (by omega)]; exact R' k hk
    have he3 : Ey M3 G m := by unfold Ey at he' ⊢; rw [f3 81 (by omega)]; exact he'
    have hq0 : QW G (bg0 ((Q.seed + i) % 65537)) 0 := bg0_QW W (Nat.mod_lt _ (by decide)) 0
    obtain ⟨M4, a4, H4, f4⟩ := r_playLoop W (m := m) (most := most) (y1 := nI n) (y3 := nI Q.seed) (y4 := nI i) (fun (M18 : Mm) => gd (inb (nI i) 20) <| lp_X10_plays_123 (nI n) (nI most) (nI Q.seed) (nI i) (fun (M20 : Mm) => lp_X10_plays_26 (nI n) (nI most) (nI Q.seed) (fun (M22 : Mm) => bv (f_X10_bringBack (nI 3) M22) fun M179_23 => some M179_23) f (nI i + (nI 1)) M20) N0 (nI 0) (mset (mset M18 94 (nI i).toNatClampNeg (M18 86 5)) 81 29 (((mset M18 94 (nI i).toNatClampNeg (M18 86 5)) 81 29) + ((mset M18 94 (nI i).toNatClampNeg (M18 86 5)) 86 4)))) hmo M3 most N0 _ 0 M3 R3 he3 H3 hq0 (by omega) (show (-2 : Int32) < 0 by decide) (Nat.zero_add _) hmo1 (by unfold N0; omega) (fun _ _ _ => rfl)
    have n4 : ∀ a, a ≠ 86 → a ≠ 93 → M4 a = M a := fun a h1 h2 => by rw [f4 a h1 h2, f3 a h1]
    obtain ⟨M5, hM5⟩ : ∃ M5, M5 = mset (mset M4 94 i (Pt G m most Q.seed i).touch) 81 29 (nI (La G m most Q.seed i + (Pt G m most Q.seed i).passed)) := ⟨_, rfl⟩
    have n5 : ∀ a, a ≠ 81 → a ≠ 94 → M5 a = M4 a := fun a h1 h2 => by rw [hM5, mset_off _ _ _ h1, mset_off _ _ _ h2]
    have R5 : RG M5 G := fun k hk => by rw [n5 84 (by omega) (by omega), n4 84 (by omega) (by omega)]; exact R' k hk
    have H5 : RP M5 G (Pt G m most Q.seed i) := RP.cong W H4 (fun k _ => by rw [n5 86 (by omega) (by omega)])
    have e30 : M5 81 30 = nI (Se G m most Q.seed i) := by rw [hM5, ms3 _ _ (by omega), mset_off _ _ _ (by omega), n4 81 (by omega) (by omega)]; exact t4
    obtain ⟨M6, a6, f6, g6, h6⟩ := r_sentLoop R5 W H5 e30 (y1 := nI n) (y2 := nI most) (y3 := nI Q.seed) (y4 := nI i) (fun (M20 : Mm) => lp_X10_plays_26 (nI n) (nI most) (nI Q.seed) (fun (M22 : Mm) => bv (f_X10_bringBack (nI 3) M22) fun M179_23 => some M179_23) f (nI i + (nI 1)) M20)
    refine ⟨M6, ?_, fun a h1 h2 h3 h4 => ?_, fun k h1 h2 => ?_, ?_, h6, fun j hj => ?_⟩
    · have e1 : nI Q.seed + nI i - (nI Q.seed + nI i) / nI 65537 * nI 65537 = nI ((Q.seed + i) % 65537) := by
        rw [nadd]; exact nmod (by omega) (by omega) (by omega)
      rw [lp_X10_plays_26, if_neg (by rw [nle (by omega) (by omega)]; omega), e1, a3, bvs, a4, gdi (by omega) (by omega), nclamp (by omega), H4.touch, mset_off _ _ _ (show (81 : Nat) ≠ 94 by omega), mset_off _ _ _ (show (86 : Nat) ≠ 94 by omega), n4 81 (by omega) (by omega), t3, H4.passed, nadd (La G m most Q.seed i)]
      show lp_X10_plays_123 _ _ _ _ _ _ _ (mset (mset M4 94 i (Pt G m most Q.seed i).touch) 81 29 (nI (La G m most Q.seed i + (Pt G m most Q.seed i).passed))) = _
      rw [← hM5, ← nadd i 1]
      exact a6
    · rw [f6 a h1, n5 a h1 h4, n4 a h2 h3, t1 a h1 h2 h3 h4]
    · rw [g6 k h2, hM5, ms3 _ _ h1, mset_off _ _ _ (by omega), n4 81 (by omega) (by omega), t2 k h1 h2]
    · rw [g6 29 (by omega), hM5, ms1]; rfl
    · rw [f6 94 (by omega), hM5, mset_off _ _ _ (by omega)]
      by_cases c : j = i
      · subst c; rw [ms1]
      · rw [ms3 _ _ c, n4 94 (by omega) (by omega), t5 j (by omega)]) (fun f M T => by
    rw [lp_X10_plays_26, if_pos (Int32.le_refl _)]) (mset (mset M1 81 29 (nI 0)) 81 30 (nI 0)) ⟨fun a h1 h2 h3 h4 => by rw [mset_off _ _ _ h1, mset_off _ _ _ h1], fun k h1 h2 => by rw [ms3 _ _ h2, ms3 _ _ h1, f1 81 (by omega)], by simp (disch := omega) only [ms1, ms1, ms2, ms3]; rfl, by simp (disch := omega) only [ms1, ms1, ms2, ms3]; rfl, fun j hj => by omega⟩
  obtain ⟨M3, a3, f3, g3⟩ := r_bringBack (M0 := M2) (s := 3) (by omega)
  refine ⟨M3, ?_, fun a h1 h2 h3 h4 h5 => ?_, fun k hk => ?_, fun k hk => ?_, fun k h1 h2 => ?_, ?_, ?_, fun i hi => ?_⟩
  · rw [a2, a3]; rfl
  · rw [f3 a h2, t1 a h1 h2 h4 h5, f1 a h3]
  · rw [g3 k hk, t1 87 (by omega) (by omega) (by omega) (by omega)]
    exact g1 k hk
  · rw [f3 87 (by omega), t1 87 (by omega) (by omega) (by omega) (by omega)]
    exact o1 k (.inl (by omega))
  · rw [f3 81 (by omega), t2 k h1 h2]
  · rw [f3 81 (by omega), t3]
  · rw [f3 81 (by omega), t4]
  · rw [f3 94 (by omega), t5 i hi]
/-- so many plays of so many tenths may be asked for -/
theorem t_plays (x y : Int32) : (∃ n most, 1 ≤ n ∧ n ≤ 20 ∧ 1 ≤ most ∧ most ≤ 999 ∧ x = nI n ∧ y = nI most ∧ (∀ M, f_X9_arePlays x y M = some (nI 1, M)) ∧ ∀ M, M 81 14 = nI 1 → f_X10_playWhy x y M = some (nI 0, M)) ∨
    ((∀ M, f_X9_arePlays x y M = some (nI 0, M)) ∧ ∀ M, M 81 14 = nI 1 → f_X10_playWhy x y M = some (nI 2, M)) := by
  have hx := fun M => r_withinI (M := M) x (show 1 < 2 ^ 31 by decide) (show 20 < 2 ^ 31 by decide)
  have hy := fun M => r_withinI (M := M) y (show 1 < 2 ^ 31 by decide) (show 999 < 2 ^ 31 by decide)
  by_cases cx : inr x 1 20
  · by_cases cy : inr y 1 999
    · left
      obtain ⟨n, n1, n2, rfl⟩ := cx
      obtain ⟨k, k1, k2, rfl⟩ := cy
      refine ⟨n, k, n1, n2, k1, k2, rfl, rfl, fun M => ?_, fun M h => ?_⟩
      · unfold f_X9_arePlays
        simp (disch := omega) only [jns, bds, bvs, lts, gdt, nadd, nmul, nsub, nle, nlt, neq, nz0, nlt0, nle0, n0le, n0lt, nclamp, ndiv, nmod2, gdi, gdn, if_pos, if_neg, if_true, if_false]
      · unfold f_X10_playWhy
        rcases hx M with ⟨-, h1⟩ | ⟨h1, -⟩
        · rcases hy M with ⟨-, h2⟩ | ⟨h2, -⟩
          · rw [h, if_neg (by decide), h1, bds]
            simp only [jns]
            rw [if_neg (by decide), h2, bds, if_neg (by decide)]
          · exact absurd ⟨k, k1, k2, rfl⟩ h2
        · exact absurd ⟨n, n1, n2, rfl⟩ h1
    · right
      refine ⟨fun M => ?_, fun M h => ?_⟩
      · obtain ⟨n, n1, n2, rfl⟩ := cx
        unfold f_X9_arePlays
        simp only [jns]
        rw [if_neg (by rw [nlt (by omega) (by omega)]; omega), if_neg (by rw [nlt (by omega) (by omega)]; omega)]
        by_cases c1 : y < nI 1
        · rw [if_pos c1]
        · rw [if_neg c1]
          rcases i32 y with h7 | ⟨v, hv, rfl⟩
          · exact absurd (Int32.lt_of_lt_of_le h7 (by decide : (0 : Int32) ≤ nI 1)) c1
          · rw [nlt hv (by omega)] at c1
            rw [if_pos (by rw [nlt (by omega) hv]; exact Nat.lt_of_not_le fun z => cy ⟨v, by omega, z, rfl⟩)]
      · unfold f_X10_playWhy
        rw [h, if_neg (by decide)]
        rcases hx M with ⟨-, h1⟩ | ⟨h1, -⟩
        · rcases hy M with ⟨h2, -⟩ | ⟨-, h2⟩
          · exact absurd h2 cy
          · rw [h1, bds]
            simp only [jns]
            rw [if_neg (by decide), h2]
            rfl
        · exact absurd cx h1
  · right
    refine ⟨fun M => ?_, fun M h => ?_⟩
    · unfold f_X9_arePlays
      simp only [jns]
      by_cases c1 : x < nI 1
      · rw [if_pos c1]
      · rw [if_neg c1]
        rcases i32 x with h7 | ⟨v, hv, rfl⟩
        · exact absurd (Int32.lt_of_lt_of_le h7 (by decide : (0 : Int32) ≤ nI 1)) c1
        · rw [nlt hv (by omega)] at c1
          rw [if_pos (by rw [nlt (by omega) hv]; exact Nat.lt_of_not_le fun z => cx ⟨v, by omega, z, rfl⟩)]
    · unfold f_X10_playWhy
      rw [h, if_neg (by decide)]
      rcases hx M with ⟨h1, -⟩ | ⟨-, h1⟩
      · exact absurd h1 cx
      · rw [h1]; rfl
/-- the frame of both plays -/
theorem fr_run {M M1 : Mm} (f : ∀ a, a < 61 ∨ 72 < a → M1 a = M a) : Fr M M1 := (Fr.rfl' M).x (fun a ha => f a (by omega))
theorem fr_plays {M0 M' : Mm} (f : ∀ a, a ≠ 81 → a ≠ 86 → a ≠ 87 → a ≠ 93 → a ≠ 94 → M' a = M0 a) (s : ∀ k, k < 44 → M' 86 k = M0 86 k) (m : ∀ k, k < 132 → M' 87 k = M0 87 k) (r : ∀ k, k ≠ 29 → k ≠ 30 → M' 81 k = M0 81 k) : Fr M0 M' :=
  ⟨fun a _ _ => f a (by omega) (by omega) (by omega) (by omega) (by omega), fun a _ _ => f a (by omega) (by omega) (by omega) (by omega) (by omega), fun a _ _ => f a (by omega) (by omega) (by omega) (by omega) (by omega), fun a _ _ => f a (by omega) (by omega) (by omega) (by omega) (by omega), fun a _ _ => f a (by omega) (by omega) (by omega) (by omega) (by omega), m, s, fun k _ => by rw [f 0 (by omega) (by omega) (by omega) (by omega) (by omega)], fun k _ _ _ => r k (by omega) (by omega)⟩
/-- both run the same plays -/
theorem both_plays {M : Mm} {g tl T : Nat} (I0 : Inv M T) (I : IC M g tl) {G : Nat → Nat} {Q : Pl} {mk : Nat} {Qm : Nat → Pl} (D : IG M g G Q mk Qm T) {n most : Nat} (hn : n ≤ 20) (h1 : 1 ≤ most) (h2 : most ≤ 999) :
    ∃ M1 M2, f_X4_run g (nI Q.seed) (nI n) (nI most) (nI (G 3 / G 4)) M = some M1 ∧ (∀ a, a < 61 ∨ 72 < a → M1 a = M a) ∧ M1 61 3 = nI (La G (G 3 / G 4) most Q.seed n) ∧ M1 61 4 = nI (Se G (G 3 / G 4) most Q.seed n) ∧ (∀ c, c < G 95 → M1 72 c = nI (Wi G (G 3 / G 4) most Q.seed c n)) ∧
      Fr M (gdM (mset M1 0 11 (nI 0))) ∧ f_X10_plays (nI n) (nI most) (gdM (mset M1 0 11 (nI 0))) = some M2 ∧ Inv M2 T ∧ M2 81 29 = nI (La G (G 3 / G 4) most Q.seed n) ∧ M2 81 30 = nI (Se G (G 3 / G 4) most Q.seed n) ∧ ∀ i, i < n → M2 94 i = (Pt G (G 3 / G 4) most Q.seed i).touch := by
  have hlo := D.W.looks
  have hm : G 3 / G 4 < 100 := dle (by omega)
  obtain ⟨M1, a1, f1, -, g3, g4, g5⟩ := c_run (m := G 3 / G 4) (n := n) (most := most) D.C D.W hm (by omega) hn D.qw.seed
  have F1 := fr_run f1
  have F3 : Fr M (gdM (mset M1 0 11 (nI 0))) := (F1.a _).g
  have D3 := D.fr F3
  have he3 : Ey (gdM (mset M1 0 11 (nI 0))) G (G 3 / G 4) := ey_now (by rw [F3.r 20 (by omega) (by omega) (by omega)]; exact I.lo)
  obtain ⟨M2, a2, f2, s2, m2, r2, k2, k3, k4⟩ := r_plays D3.R D.W he3 D3.H D.qw.seed (n := n) (most := most) (by omega) h1 hn
  have F2 := fr_plays f2 s2 m2 r2
  refine ⟨M1, M2, a1, f1, g3, g4, g5, F3, a2, I0.fr (F3.tr F2) (.inl ⟨?_, ?_⟩), k2, k3, k4⟩
  · rw [f2 0 (by omega) (by omega) (by omega) (by omega) (by omega), r2 11 (by omega) (by omega)]; unfold gdM; simp (disch := omega) only [ms1, ms1, ms2, ms3]
  · rw [f2 0 (by omega) (by omega) (by omega) (by omega) (by omega)]; unfold gdM; simp (disch := omega) only [ms1, ms1, ms2, ms3]; exact nI04
theorem op_lasts (x y : Int32) (T : Nat) : Same (f_X9_lasts x y) (f_X10_lasts x y) T T := by
  intro M I0
  obtain ⟨g, tl, I, h⟩ := id I0
  unfold f_X9_lasts f_X10_lasts
  rcases t_game I h with ⟨e1, e2⟩ | ⟨G, Q, mk, Qm, D, e1, e2⟩
  · refine ⟨(-1 : Int32), mset M 0 11 (nI 1), mset (gdM (mset M 0 11 (nI 1))) 81 11 (nI 1), ?_, ?_, I0.no (Fr.rfl' M) (by omega)⟩
    · rw [e1]; rfl
    · have hw : f_X10_playWhy x y (gdM (mset M 0 11 (nI 1))) = some (nI 1, gdM (mset M 0 11 (nI 1))) := by
        unfold f_X10_playWhy
        rw [if_pos (e2 _ (fg M _))]
      rw [r_good, bvs, hw]; rfl
  · rcases t_plays x y with ⟨n, most, h1, h2, h3, h4, rfl, rfl, h5, h6⟩ | ⟨h5, h6⟩
    · obtain ⟨M1, M2, a1, f1, g3, g4, g5, F3, a2, I2, k2, k3, k4⟩ := both_plays I0 I D h2 h3 h4
      refine ⟨nI (La G (G 3 / G 4) most Q.seed n), mset M1 0 11 (nI 0), M2, ?_, ?_, I2⟩
      · rw [e1, bds, if_neg (by decide), h5, bds, if_neg (by decide), I.h8, bgv I.gg, bgv I.gg, c_eyes D.C D.W, bds, D.K.seed, a1, bvs, g3]
        rfl
      · rw [r_good, bvs, h6 _ (D.fr F3).hg, bds, if_pos (by decide), a2, bvs, k2]
    · refine ⟨(-1 : Int32), mset M 0 11 (nI 2), mset (gdM (mset M 0 11 (nI 2))) 81 11 (nI 2), ?_, ?_, I0.no (Fr.rfl' M) (by omega)⟩
      · rw [e1, bds, if_neg (by decide), h5]; rfl
      · rw [r_good, bvs, h6 _ (D.fr (fg M _)).hg]; rfl
theorem op_sent (x y : Int32) (T : Nat) : Same (f_X9_sent x y) (f_X10_sent x y) T T := by
  intro M I0
  obtain ⟨g, tl, I, h⟩ := id I0
  unfold f_X9_sent f_X10_sent
  rcases t_game I h with ⟨e1, e2⟩ | ⟨G, Q, mk, Qm, D, e1, e2⟩
  · refine ⟨(-1 : Int32), mset M 0 11 (nI 1), mset (gdM (mset M 0 11 (nI 1))) 81 11 (nI 1), ?_, ?_, I0.no (Fr.rfl' M) (by omega)⟩
    · rw [e1]; rfl
    · have hw : f_X10_playWhy x y (gdM (mset M 0 11 (nI 1))) = some (nI 1, gdM (mset M 0 11 (nI 1))) := by
        unfold f_X10_playWhy
        rw [if_pos (e2 _ (fg M _))]
      rw [r_good, bvs, hw]; rfl
  · rcases t_plays x y with ⟨n, most, h1, h2, h3, h4, rfl, rfl, h5, h6⟩ | ⟨h5, h6⟩
    · obtain ⟨M1, M2, a1, f1, g3, g4, g5, F3, a2, I2, k2, k3, k4⟩ := both_plays I0 I D h2 h3 h4
      refine ⟨nI (Se G (G 3 / G 4) most Q.seed n), mset M1 0 11 (nI 0), M2, ?_, ?_, I2⟩
      · rw [e1, bds, if_neg (by decide), h5, bds, if_neg (by decide), I.h8, bgv I.gg, bgv I.gg, c_eyes D.C D.W, bds, D.K.seed, a1, bvs, g4]
        rfl
      · rw [r_good, bvs, h6 _ (D.fr F3).hg, bds, if_pos (by decide), a2, bvs, k3]
    · refine ⟨(-1 : Int32), mset M 0 11 (nI 2), mset (gdM (mset M 0 11 (nI 2))) 81 11 (nI 2), ?_, ?_, I0.no (Fr.rfl' M) (by omega)⟩
      · rw [e1, bds, if_neg (by decide), h5]; rfl
      · rw [r_good, bvs, h6 _ (D.fr (fg M _)).hg]; rfl
theorem r_winsLoop {M : Mm} {G : Nat → Nat} {m most s n c : Nat} (hn : n ≤ 20) (h : ∀ i, i < n → M 94 i = (Pt G m most s i).touch) : lp_X10_wins_48 (nI c) (nI n) N0 (nI 0) (nI 0) M = some (nI (Wi G m most s c n), M) := by
  refine lp0 (fun f i => lp_X10_wins_48 (nI c) (nI n) f (nI (Wi G m most s c i)) (nI i) M) n (by omega) (fun f i hi => ?_) (fun f => ?_)
  · have e : Wi G m most s c (i + 1) = Wi G m most s c i + if (Pt G m most s i).touch = nI c then 1 else 0 := rfl
    rw [lp_X10_wins_48, if_neg (by rw [nle (by omega) (by omega)]; omega), gdi (by omega) (by omega), nclamp (by omega), h i hi, e]
    simp only [jns]
    by_cases c1 : (Pt G m most s i).touch = nI c
    · rw [if_pos c1, if_pos c1, nadd, nadd]
    · rw [if_neg c1, if_neg c1, nadd, nadd]
  · rw [lp_X10_wins_48, if_pos (Int32.le_refl _)]
theorem op_wins (z x y : Int32) (T : Nat) : Same (f_X9_wins z x y) (f_X10_wins z x y) T T := by
  intro M I0
  obtain ⟨g, tl, I, h⟩ := id I0
  unfold f_X9_wins f_X10_wins
  simp only [jns]
  rcases t_creeper I h z with ⟨e1, e2⟩ | ⟨G, Q, mk, Qm, c, D, hc, rfl, e1, e2⟩
  · refine ⟨(-1 : Int32), mset M 0 11 (nI 1), mset (gdM (mset M 0 11 (nI 1))) 81 11 (nI 1), ?_, ?_, I0.no (Fr.rfl' M) (by omega)⟩
    · rw [e1]; rfl
    · rw [r_good, bvs, e2 _ (fg M _)]; rfl
  · have hcr := D.W.creepers
    rcases t_plays x y with ⟨n, most, h1, h2, h3, h4, rfl, rfl, h5, h6⟩ | ⟨h5, h6⟩
    · obtain ⟨M1, M2, a1, f1, g3, g4, g5, F3, a2, I2, k2, k3, k4⟩ := both_plays I0 I D h2 h3 h4
      have k72 : f_X9_at 72 (nI c) M1 = some (nI (Wi G (G 3 / G 4) most Q.seed c n), M1) := by
        rw [← g5 c hc]
        exact f_at (n := 5) rfl (by decide) (by omega)
      refine ⟨nI (Wi G (G 3 / G 4) most Q.seed c n), mset M1 0 11 (nI 0), M2, ?_, ?_, I2⟩
      · rw [e1, bds, if_neg (by decide), h5, bds, if_neg (by decide), I.h8, bgv I.gg, bgv I.gg, c_eyes D.C D.W, bds, D.K.seed, a1, bvs, k72]
        rfl
      · rw [r_good, bvs, e2 _ F3, bds, if_neg (by decide), h6 _ (D.fr F3).hg, bds, if_pos (by decide), a2, bvs]
        exact r_winsLoop h2 k4
    · refine ⟨(-1 : Int32), mset M 0 11 (nI 2), mset (gdM (mset M 0 11 (nI 2))) 81 11 (nI 2), ?_, ?_, I0.no (Fr.rfl' M) (by omega)⟩
      · rw [e1, bds, if_neg (by decide), h5]; rfl
      · rw [r_good, bvs, e2 _ (fg M _), bds, if_neg (by decide), h6 _ (D.fr (fg M _)).hg]; rfl
