/-! THE VERSE'S LINE, whole. -/
section
variable {Mc Mr : Mm} {g n p : Nat} {b : Nat → Nat} {G : Nat → Nat}
section
variable {Mc0 Mr0 : Mm}
/-- the syllables of one part behind its first -/
theorem both_syl (hg : g = 1 ∨ g = 8) (hg3 : Mc0 17 3 = nI g) {P : Nat} {kk : Int32 → Mm → Option Mm} (hP : P < 5) : ∀ d f f' J N R p H, J + d = 4 → 1 ≤ J → d + 1 < f → d + 1 < f' → TKp N R n b p → R 81 13 = nI 0 → VSt G Mc0 Mr0 g (P + 1) (11 + P) H N R → H (11 + P) = J →
    (∃ N' R' p' H' J', lp_X5_part_48 f (nI J) N = some (nI 1, N') ∧ (if (R 81 6) = nI 3 then lp_X10_verseLine_36 (nI P) kk f' (nI J) R else kk (nI J) R) = kk (nI J') R' ∧ TKp N' R' n b p' ∧ p ≤ p' ∧ R' 81 13 = nI 0 ∧ VSt G Mc0 Mr0 g (P + 1) (11 + P) H' N' R' ∧ H' (11 + P) = J' ∧ 1 ≤ J') ∨
    (∃ N' R', lp_X5_part_48 f (nI J) N = some (nI 0, N') ∧ (if (R 81 6) = nI 3 then lp_X10_verseLine_36 (nI P) kk f' (nI J) R else kk (nI J) R) = some R' ∧ FL N' R' ∧ Xc g Mc0 N' ∧ Xr Mr0 R') := by
  intro d
  induction d with
  | zero =>
    intro f f' J N R p H hJ hJ1 hf hf' t o S hH
    obtain ⟨f, rfl⟩ : ∃ g, f = g + 1 := ⟨f - 1, by omega⟩
    obtain ⟨f', rfl⟩ : ∃ g, f' = g + 1 := ⟨f' - 1, by omega⟩
    have hr := rk_b _ (tK_le (b := b) (n := n) (p := p))
    have hk := tK_le (b := b) (n := n) (p := p)
    rw [lp_X5_part_48, if_neg (show ¬ nI 900 ≤ nI J by rw [nle (by omega) (by omega)]; omega), t.c3, t.r6]
    simp only [jns]
    by_cases c : tK b n p = 2
    · right
      obtain ⟨N', R', a1, a2, F, W, V⟩ := sy_full t o (P := P) (J := J) (f := f') (kk := kk) (by omega) (by omega) (by omega)
      refine ⟨N', R', ?_, ?_, F, S.xc.tr (W.x g), S.xr.tr V.x⟩
      · rw [if_pos (show nI (tK b n p) = nI 2 by rw [c]), if_pos (show nI 4 ≤ nI J by rw [nle (by omega) (by omega)]; omega), a1, bds, if_pos (by decide)]
      · rw [if_pos (show nI (rk (tK b n p)) = nI 3 by rw [c]; rfl), a2]
    · left
      refine ⟨N, R, p, H, J, ?_, ?_, t, Nat.le_refl _, o, S, hH, hJ1⟩
      · rw [if_neg (by rw [neq (by omega) (by omega)]; exact c)]
      · rw [if_neg (by rw [neq (by omega) (by omega)]; omega)]
  | succ d ih =>
    intro f f' J N R p H hJ hJ1 hf hf' t o S hH
    obtain ⟨f, rfl⟩ : ∃ g, f = g + 1 := ⟨f - 1, by omega⟩
    obtain ⟨f', rfl⟩ : ∃ g, f' = g + 1 := ⟨f' - 1, by omega⟩
    have hr := rk_b _ (tK_le (b := b) (n := n) (p := p))
    have hk := tK_le (b := b) (n := n) (p := p)
    rw [lp_X5_part_48, if_neg (show ¬ nI 900 ≤ nI J by rw [nle (by omega) (by omega)]; omega), t.c3, t.r6]
    simp only [jns]
    by_cases c : tK b n p = 2
    · rw [if_pos (show nI (tK b n p) = nI 2 by rw [c]), if_neg (show ¬ nI 4 ≤ nI J by rw [nle (by omega) (by omega)]; omega), if_pos (show nI (rk (tK b n p)) = nI 3 by rw [c]; rfl), sy_room t hP (by omega)]
      unfold syB
      rcases both_number t (a := 1) (c := 20) (by decide) (by decide) o with ⟨N2, R2, p2, v, b1, b2, b3, b4, b5, t2, hp2, o2, W2, V2⟩ | ⟨N2, R2, b3, b4, F, W2, V2⟩
      · have S2 := S.w hg W2 V2
        have e3 : N2 17 3 = nI g := by rw [S2.f3]; exact hg3
        obtain ⟨N3, q1, q2, q3, q4, q5⟩ := S2.syl hg hH (by omega) ⟨b1, b2⟩
        have t3 : TKp N3 (mset R2 85 (16 + 4 * P + J) (nI v)) n b p2 := t2.cong q3 q4 (mset_off _ _ _ (by decide)) (mset_off _ _ _ (by decide)) (mset_off _ _ _ (by decide)) (by rw [q5])
        rw [b3, bds, if_neg (show ¬ nI 1 = (0 : Int32) by decide), e3, bgv hg, b5, q1, bvs, b4, bds, if_pos (show R2 81 13 = 0 by rw [o2]; rfl), nmul, nadd 16, nadd (16 + 4 * P) J, gdi (by omega) (by omega), nclamp (by omega), nadd J 1]
        rcases ih f f' (J + 1) N3 _ p2 _ (by omega) (by omega) (by omega) (by omega) t3 (om o2 _ _) q2 (by rw [gs2 _ _ (by omega), gs1]) with ⟨N', R', p', H', J', i1, i2, i3, i4, i5, i6, i7, i8⟩ | ⟨N', R', i1, i2, i3, i4, i5⟩
        · exact .inl ⟨N', R', p', H', J', i1, i2, i3, by omega, i5, i6, i7, i8⟩
        · exact .inr ⟨N', R', i1, i2, i3, i4, i5⟩
      · right
        refine ⟨N2, R2, ?_, ?_, F, S.xc.tr (W2.x g), S.xr.tr V2.x⟩
        · rw [b3, bds, if_pos (by decide)]
        · rw [b4, bds, if_neg (fl0 F.2.2)]
    · left
      refine ⟨N, R, p, H, J, ?_, ?_, t, Nat.le_refl _, o, S, hH, hJ1⟩
      · rw [if_neg (by rw [neq (by omega) (by omega)]; exact c)]
      · rw [if_neg (by rw [neq (by omega) (by omega)]; omega)]
/-- a part -/
theorem both_part (hg : g = 1 ∨ g = 8) (hg3 : Mc0 17 3 = nI g) {A : Nat} {kk : Int32 → Mm → Option Mm} {N R : Mm} {H : Nat → Nat} (t : TKp N R n b p) (o : R 81 13 = nI 0) (S : VSt G Mc0 Mr0 g A 200 H N R) :
    (∃ N' R' p' H' J', f_X5_part N = some (nI 1, N') ∧ lp_X10_verseLine_36 (nI A) kk N0 (nI 0) R = kk (nI J') R' ∧ TKp N' R' n b p' ∧ p < p' ∧ R' 81 13 = nI 0 ∧ VSt G Mc0 Mr0 g (A + 1) (11 + A) H' N' R' ∧ H' (11 + A) = J' ∧ 1 ≤ J') ∨
    (∃ N' R', f_X5_part N = some (nI 0, N') ∧ lp_X10_verseLine_36 (nI A) kk N0 (nI 0) R = some R' ∧ FL N' R' ∧ Xc g Mc0 N' ∧ Xr Mr0 R') := by
  have h5 := S.a5
  have e3 : N 17 3 = nI g := by rw [S.f3]; exact hg3
  unfold f_X5_part
  simp only [jns]
  rw [e3, bgv hg, S.h9, show N0 = 999999 + 1 from rfl]
  by_cases c5 : A = 5
  · right
    obtain ⟨N', R', a1, a2, F, W, V⟩ := sy_full t o (P := A) (J := 0) (f := 999999) (kk := kk) (by omega) (by omega) (by omega)
    refine ⟨N', R', ?_, a2, F, S.xc.tr (W.x g), S.xr.tr V.x⟩
    rw [if_pos (show nI 5 ≤ nI A by rw [nle (by omega) (by omega)]; omega), a1, bds, if_pos (by decide)]
  · rw [if_neg (show ¬ nI 5 ≤ nI A by rw [nle (by omega) (by omega)]; omega), sy_room t (by omega) (by omega)]
    unfold syB
    rcases both_number t (a := 1) (c := 20) (by decide) (by decide) o with ⟨N2, R2, p2, v, b1, b2, b3, b4, b5, t2, hp2, o2, W2, V2⟩ | ⟨N2, R2, b3, b4, F, W2, V2⟩
    · have S2 := S.w hg W2 V2
      have e32 : N2 17 3 = nI g := by rw [S2.f3]; exact hg3
      obtain ⟨N3, q1, q2, q3, q4, q5⟩ := S2.part hg (by omega)
      have e33 : N3 17 3 = nI g := by rw [q5]; exact e32
      have e36 : N3 17 6 = nI v := by rw [q5]; exact b5
      obtain ⟨N4, u1, u2, u3, u4, u5⟩ := q2.syl hg (J := 0) (v := v) (gs1 _ _ _) (by decide) ⟨b1, b2⟩
      have t4 : TKp N4 (mset R2 85 (16 + 4 * A + 0) (nI v)) n b p2 := t2.cong (by rw [u3, q3]) (by rw [u4, q4]) (mset_off _ _ _ (by decide)) (mset_off _ _ _ (by decide)) (mset_off _ _ _ (by decide)) (by rw [u5, q5])
      rw [b3, bds, if_neg (show ¬ nI 1 = (0 : Int32) by decide), e32, bgv hg, q1, bvs, e33, bgv hg, e36, u1, bvs, b4, bds, if_pos (show R2 81 13 = 0 by rw [o2]; rfl), nmul, nadd 16, nadd (16 + 4 * A) 0, gdi (by omega) (by omega), nclamp (by omega), nadd 0 1]
      rcases both_syl hg hg3 (P := A) (kk := kk) (by omega) 3 (999999 + 1) 999999 1 N4 _ p2 _ (by omega) (by omega) (by omega) (by omega) t4 (om o2 _ _) u2 (by rw [gs2 _ _ (by omega), gs1]) with ⟨N', R', p', H', J', i1, i2, i3, i4, i5, i6, i7, i8⟩ | ⟨N', R', i1, i2, i3, i4, i5⟩
      · exact .inl ⟨N', R', p', H', J', i1, i2, i3, by omega, i5, i6, i7, i8⟩
      · exact .inr ⟨N', R', i1, i2, i3, i4, i5⟩
    · right
      refine ⟨N2, R2, ?_, ?_, F, S.xc.tr (W2.x g), S.xr.tr V2.x⟩
      · rw [b3, bds, if_pos (by decide)]
      · rw [b4, bds, if_neg (fl0 F.2.2)]
/-- behind a part, in the reference -/
def kkV (k140 : Int32 → Mm → Option Mm) (n : Nat) (y1 : Int32) : Int32 → Mm → Option Mm := fun (u22 : Int32) (M23 : Mm) => gd (inb ((nI 11) + y1) 141) <| bd (f_X10_comma (mset M23 85 ((nI 11) + y1).toNatClampNeg u22)) fun v133_25 M133_24 => lp_X10_verseLine_23 k140 n (y1 + (nI 1)) v133_25 M133_24
theorem v23_1 {k140 : Int32 → Mm → Option Mm} {f : Nat} {y1 : Int32} {M : Mm} (o : M 81 13 = nI 0) : lp_X10_verseLine_23 k140 (f + 1) y1 (nI 1) M = lp_X10_verseLine_36 y1 (kkV k140 f y1) N0 (nI 0) M := by
  rw [lp_X10_verseLine_23, if_neg (by decide), if_pos (by rw [o]; rfl)]
  rfl
theorem v23_0 {k140 : Int32 → Mm → Option Mm} {f : Nat} {y1 : Int32} {M : Mm} : lp_X10_verseLine_23 k140 (f + 1) y1 (nI 0) M = k140 y1 M := by
  rw [lp_X10_verseLine_23, if_pos (by decide)]
/-- the parts behind the first -/
theorem both_parts (hg : g = 1 ∨ g = 8) (hg3 : Mc0 17 3 = nI g) {k140 : Int32 → Mm → Option Mm} : ∀ d f f' P N R p H J, P + d = 4 → d + 1 < f → d + 1 < f' → TKp N R n b p → R 81 13 = nI 0 → VSt G Mc0 Mr0 g (P + 1) (11 + P) H N R → H (11 + P) = J → 1 ≤ J →
    (∃ N' R' p' H' A', lp_X5_verseLine_34 f (nI P) N = some (nI 1, N') ∧ kkV k140 f' (nI P) (nI J) R = k140 (nI A') R' ∧ TKp N' R' n b p' ∧ p ≤ p' ∧ R' 81 13 = nI 0 ∧ VSt G Mc0 Mr0 g A' 200 H' N' R' ∧ 1 ≤ A') ∨
    (∃ N' R', lp_X5_verseLine_34 f (nI P) N = some (nI 0, N') ∧ kkV k140 f' (nI P) (nI J) R = some R' ∧ FL N' R' ∧ Xc g Mc0 N' ∧ Xr Mr0 R') := by
  intro d
  induction d with
  | zero =>
    intro f f' P N R p H J hP hf hf' t o S hH hJ
    obtain ⟨f, rfl⟩ : ∃ g, f = g + 1 := ⟨f - 1, by omega⟩
    obtain ⟨f', rfl⟩ : ∃ g, f' = g + 1 := ⟨f' - 1, by omega⟩
    have S1 := S.shut hH hJ
    have hk := tK_le (b := b) (n := n) (p := p)
    have t1 : TKp N (mset R 85 (11 + P) (nI J)) n b p := t.cong rfl rfl (mset_off _ _ _ (by decide)) (mset_off _ _ _ (by decide)) (mset_off _ _ _ (by decide))
    unfold kkV
    rw [lp_X5_verseLine_34, if_neg (show ¬ nI 900 ≤ nI P by rw [nle (by omega) (by omega)]; omega), t.c3, nadd 11 P, gdi (by omega) (by omega), nclamp (by omega), nadd P 1]
    by_cases c : tK b n p = 4
    · obtain ⟨N2, R2, a1, a2, t2, w1, w2, w3, w4⟩ := t1.adv
      have hp2 := (tK_pos t.hp (b := b) (by omega)).2
      have o2 : R2 81 13 = nI 0 := by rw [w4 13 (by omega)]; exact om o _ _
      have S2 := S1.w hg (⟨fun a h _ => w1 a h, w2, by rw [w1 17 (by decide)]⟩ : Wc N N2) (⟨w3, fun k hk => w4 k (by omega)⟩ : Wr _ R2)
      rw [if_pos (show nI (tK b n p) = nI 4 by rw [c]), a1, bvs, r_comma4 t1 (om o _ _) c a2, bds, v23_1 o2]
      rcases both_part hg hg3 (A := P + 1) (kk := kkV k140 f' (nI (P + 1))) t2 o2 S2 with ⟨N', R', p', H', J', i1, i2, i3, i4, i5, i6, i7, i8⟩ | ⟨N', R', i1, i2, i3, i4, i5⟩
      · have := i6.a5
        omega
      · right
        refine ⟨N', R', ?_, i2, i3, i4, i5⟩
        rw [i1, bds, if_pos (by decide)]
    · left
      refine ⟨N, mset R 85 (11 + P) (nI J), p, H, P + 1, ?_, ?_, t1, Nat.le_refl _, om o _ _, S1, by omega⟩
      · rw [if_neg (by rw [neq (by omega) (by omega)]; exact c)]
      · rw [r_comma t1 (om o _ _) c, bds, v23_0]
  | succ d ih =>
    intro f f' P N R p H J hP hf hf' t o S hH hJ
    obtain ⟨f, rfl⟩ : ∃ g, f = g + 1 := ⟨f - 1, by omega⟩
    obtain ⟨f', rfl⟩ : ∃ g, f' = g + 1 := ⟨f' - 1, by omega⟩
    have S1 := S.shut hH hJ
    have hk := tK_le (b := b) (n := n) (p := p)
    have t1 : TKp N (mset R 85 (11 + P) (nI J)) n b p := t.cong rfl rfl (mset_off _ _ _ (by decide)) (mset_off _ _ _ (by decide)) (mset_off _ _ _ (by decide))
    unfold kkV
    rw [lp_X5_verseLine_34, if_neg (show ¬ nI 900 ≤ nI P by rw [nle (by omega) (by omega)]; omega), t.c3, nadd 11 P, gdi (by omega) (by omega), nclamp (by omega), nadd P 1]
    by_cases c : tK b n p = 4
    · obtain ⟨N2, R2, a1, a2, t2, w1, w2, w3, w4⟩ := t1.adv
      have hp2 := (tK_pos t.hp (b := b) (by omega)).2
      have o2 : R2 81 13 = nI 0 := by rw [w4 13 (by omega)]; exact om o _ _
      have S2 := S1.w hg (⟨fun a h _ => w1 a h, w2, by rw [w1 17 (by decide)]⟩ : Wc N N2) (⟨w3, fun k hk => w4 k (by omega)⟩ : Wr _ R2)
      rw [if_pos (show nI (tK b n p) = nI 4 by rw [c]), a1, bvs, r_comma4 t1 (om o _ _) c a2, bds, v23_1 o2]
      rcases both_part hg hg3 (A := P + 1) (kk := kkV k140 f' (nI (P + 1))) t2 o2 S2 with ⟨N', R', p', H', J', i1, i2, i3, i4, i5, i6, i7, i8⟩ | ⟨N', R', i1, i2, i3, i4, i5⟩
      · rw [i1, i2, bds, if_neg (show ¬ nI 1 = (0 : Int32) by decide)]
        rcases ih f f' (P + 1) N' R' p' H' J' (by omega) (by omega) (by omega) i3 i5 i6 i7 i8 with ⟨N3, R3, p3, H3, A3, j1, j2, j3, j4, j5, j6, j7⟩ | h
        · exact .inl ⟨N3, R3, p3, H3, A3, j1, j2, j3, by omega, j5, j6, j7⟩
        · exact .inr h
      · right
        refine ⟨N', R', ?_, i2, i3, i4, i5⟩
        rw [i1, bds, if_pos (by decide)]
    · left
      refine ⟨N, mset R 85 (11 + P) (nI J), p, H, P + 1, ?_, ?_, t1, Nat.le_refl _, om o _ _, S1, by omega⟩
      · rw [if_neg (by rw [neq (by omega) (by omega)]; exact c)]
      · rw [r_comma t1 (om o _ _) c, bds, v23_0]
end
theorem verse_PGm {Mc' Mr' : Mm} {H : Nat → Nat} {A : Nat} (P : PGm Mc Mr g n b G) (h92 : G 92 = 0) (S : VSt G Mc Mr g A 200 H Mc' Mr') (hA : 1 ≤ A) : PGm Mc' (mset Mr' 85 92 (nI A)) g n b (gset H 92 A) := by
  have hg := P.C.hg
  have a5 := S.a5
  have b4 := S.b4
  have z92 : gset H 92 A 92 = A := gs1 _ _ _
  have eh : ∀ i, i < 11 ∨ 36 ≤ i → i ≠ 92 → gset H 92 A i = G i := fun i h1 h2 => by rw [gs2 _ _ h2]; exact S.ho i h1
  have ev : ∀ i, 11 ≤ i → i < 36 → gset H 92 A i = H i := fun i h1 h2 => gs2 _ _ (by omega)
  have er : ∀ k, k < 141 → mset Mr' 85 92 (nI A) 85 k = nI (gset H 92 A k) := fun k hk => by
    by_cases c : k = 92
    · subst c; rw [ms1, z92]
    · rw [ms3 _ _ c, gs2 _ _ c]; exact S.r k hk (by omega)
  have een : ∀ m, m ≤ A → En (gset H 92 A) m = En H m := fun m hm => En_eq (fun q hq => ev _ (by omega) (by omega)) (fun q hq k hk => by
    have := b4 q (by omega)
    exact ev _ (by omega) (by omega))
  generalize gset H 92 A = G' at *
  have hcr := P.cr
  have hgr := P.gr
  have C := P.C
  refine ⟨⟨hg, ?_, ?_, ?_, ?_, ?_, ?_, ?_, ?_, ?_, fun j hj => ?_, fun j hj => ?_, fun j hj k hk => ?_, fun i hi => ?_, fun i hi => ?_, fun i hi w hw => ?_⟩, by rw [S.f3]; exact P.g3, fun i hi => ?_, er, ?_, ?_, fun j hj => ?_, fun j hj k hk => ?_, ?_, fun k hk => ?_, ?_, ?_, fun i hi => ?_, fun i hi => ?_, fun i hi => ?_, fun i hi hi5 => ?_, fun h0 q' hq' => ?_⟩
  · rw [S.fk 6 (by decide), eh 0 (by omega) (by omega)]; exact C.f6
  · rw [S.fk 7 (by decide), eh 1 (by omega) (by omega)]; exact C.f7
  · rw [S.fk 8 (by decide), eh 2 (by omega) (by omega)]; exact C.f8
  · rw [S.h9, z92]
  · rw [S.fk 10 (by decide), eh 3 (by omega) (by omega)]; exact C.f10
  · rw [S.fk 11 (by decide), eh 4 (by omega) (by omega)]; exact C.f11
  · rw [S.fk 12 (by decide), eh 5 (by omega) (by omega)]; exact C.f12
  · rw [S.fk 13 (by decide), eh 94 (by omega) (by omega)]; exact C.f13
  · rw [S.fk 14 (by decide), eh 95 (by omega) (by omega)]; exact C.f14
  · rw [z92] at hj
    rw [een (j + 1) (by omega)]; exact S.he j hj
  · rw [z92] at hj
    rw [ev _ (by omega) (by omega)]; exact S.hs j hj
  · rw [z92] at hj
    rw [ev _ (by omega) (by omega)] at hk
    have := b4 j hj
    rw [ev _ (by omega) (by omega)]; exact S.ht j hj k hk
  · rw [z92] at hi
    rw [S.fr _ (by omega) (by omega) (by omega), eh (6 + i) (by omega) (by omega)]; exact P.ch i (by omega)
  · rw [eh 94 (by omega) (by omega)] at hi
    rw [S.fr _ (by omega) (by omega) (by omega), eh (36 + i) (by omega) (by omega), eh (41 + i) (by omega) (by omega), eh (46 + i) (by omega) (by omega), eh (51 + i) (by omega) (by omega)]; exact C.grv i hi
  · rw [eh 95 (by omega) (by omega)] at hi
    rw [S.fr _ (by omega) (by omega) (by omega), eh (56 + 5 * w + i) (by omega) (by omega)]; exact C.trt i hi w hw
  · rw [S.fr _ (by omega) (by omega) (by omega), eh (6 + i) (by omega) (by omega)]; exact P.ch i hi
  · rw [eh 91 (by omega) (by omega), eh 0 (by omega) (by omega), eh 94 (by omega) (by omega), eh 95 (by omega) (by omega), eh 1 (by omega) (by omega), eh 2 (by omega) (by omega)]; exact P.y
  · rw [z92]; exact a5
  · rw [z92] at hj
    rw [ev _ (by omega) (by omega)]; exact ⟨S.b1 j hj (by omega), b4 j hj⟩
  · rw [z92] at hj
    rw [ev _ (by omega) (by omega)] at hk
    have := b4 j hj
    rw [ev _ (by omega) (by omega)]; exact S.tt j hj k hk
  · rw [eh 93 (by omega) (by omega), eh 4 (by omega) (by omega), eh 3 (by omega) (by omega), eh 5 (by omega) (by omega), z92]
    rcases P.o with h | h
    · exact .inl h
    · omega
  · rw [eh (6 + k) (by omega) (by omega)]; exact P.tu k hk
  · rw [eh 94 (by omega) (by omega)]; exact hgr
  · rw [eh 95 (by omega) (by omega)]; exact hcr
  · rw [eh 94 (by omega) (by omega)] at hi
    rw [eh (36 + i) (by omega) (by omega), eh (41 + i) (by omega) (by omega), eh (46 + i) (by omega) (by omega), eh (51 + i) (by omega) (by omega), eh 0 (by omega) (by omega), eh 1 (by omega) (by omega)]; exact P.grv i hi
  · rw [eh 95 (by omega) (by omega)] at hi
    rw [eh 1 (by omega) (by omega), eh (56 + i) (by omega) (by omega), eh (61 + i) (by omega) (by omega), eh (66 + i) (by omega) (by omega), eh (71 + i) (by omega) (by omega), eh (76 + i) (by omega) (by omega), eh (81 + i) (by omega) (by omega), eh (86 + i) (by omega) (by omega)]
    exact P.crp i hi
  · rw [eh 95 (by omega) (by omega)] at hi
    obtain ⟨s, h2, h3, h4, h5, h6⟩ := P.nam i hi
    rw [S.fr 18 (by omega) (by omega) (by omega), S.fr 19 (by omega) (by omega) (by omega), eh (96 + i) (by omega) (by omega)]
    refine ⟨s, h2, h3, h4, h5, fun k hk => ?_⟩
    rw [eh (101 + 8 * i + k) (by omega) (by omega)]
    exact h6 k hk
  · rw [eh 95 (by omega) (by omega)] at hi
    rw [eh (81 + i) (by omega) (by omega), eh (86 + i) (by omega) (by omega)]; exact P.zw i hi hi5
  · rw [z92] at h0
    omega
theorem both_verse (t : TKp Mc Mr n b p) (P : PGm Mc Mr g n b G) (h13 : Mr 81 13 = nI 0) (hw : wd b n p 4 = true) : LineEnd g n b p Mc Mr (f_X5_verseLine Mc) (f_X10_verseLine Mr) := by
  have hg := P.C.hg
  have hk := wd_K hw
  have hv := P.v
  unfold f_X5_verseLine f_X10_verseLine
  simp only [jns]
  rw [P.g3, bgv hg, P.C.f9, P.r 92 (by decide)]
  by_cases c0 : G 92 = 0
  · rw [c0, if_pos (show nI 0 ≤ (0 : Int32) by decide), if_pos (show nI 0 ≤ (0 : Int32) by decide), r_begins0 h13]
    obtain ⟨Mc1, Mr1, a1, a2, t1, w1, w2, w3, w4⟩ := t.adv
    have hp1 := (tK_pos t.hp (b := b) (by omega)).2
    have o1 : Mr1 81 13 = nI 0 := by rw [w4 13 (by omega)]; exact h13
    have W1 : Wc Mc Mc1 := ⟨fun a h _ => w1 a h, w2, by rw [w1 17 (by decide)]⟩
    have V1 : Wr Mr Mr1 := ⟨w3, fun k hk => w4 k (by omega)⟩
    have S0 : VSt G Mc Mr g 0 200 G Mc1 Mr1 := ⟨by omega, by rw [W1.fr g (by omega) (by omega), P.C.f9, c0], fun q hq => by omega, fun q _ hq => by rw [W1.fr _ (by omega) (by omega)]; exact P.zs c0 q hq, fun q hq => by omega, fun q hq => by omega, fun q hq => by omega, fun q hq => by omega, fun q hq => by omega, fun _ _ => rfl, fun i hi _ => by rw [V1.fr 85 (by decide) (by decide)]; exact P.r i hi, fun k _ => by rw [W1.fr g (by omega) (by omega)], fun y h1 h2 _ => W1.fr y h1 h2, W1.f1, W1.f3, V1.x⟩
    rw [a1, a2, bvs, bvs, show N0 = 999999 + 1 from rfl, v23_1 o1]
    rcases both_part hg P.g3 (A := 0) (kk := kkV (fun (u28 : Int32) (M29 : Mm) => if (M29 81 13) = 0 then (some ((mset M29 85 92 u28))) else (some M29)) 999999 (nI 0)) t1 o1 S0 with ⟨N', R', p', H', J', i1, i2, i3, i4, i5, i6, i7, i8⟩ | ⟨N', R', i1, i2, i3, i4, i5⟩
    · rw [i1, i2, bds, if_neg (show ¬ nI 1 = (0 : Int32) by decide)]
      rcases both_parts hg P.g3 (k140 := fun (u28 : Int32) (M29 : Mm) => if (M29 81 13) = 0 then (some ((mset M29 85 92 u28))) else (some M29)) 4 (999999 + 1) 999999 0 N' R' p' H' J' (by omega) (by omega) (by omega) i3 i5 i6 i7 i8 with ⟨N3, R3, p3, H3, A3, j1, j2, j3, j4, j5, j6, j7⟩ | ⟨N3, R3, j1, j2, j3, j4, j5⟩
      · left
        refine ⟨N3, mset R3 85 92 (nI A3), p3, gset H3 92 A3, j1, ?_, j3.cong rfl rfl (mset_off _ _ _ (by decide)) (mset_off _ _ _ (by decide)) (mset_off _ _ _ (by decide)), by omega, om j5 _ _, verse_PGm P c0 j6 j7, j6.xc, j6.xr.m _ _⟩
        rw [j2, if_pos (show R3 81 13 = 0 by rw [j5]; rfl)]
      · exact .inr ⟨N3, R3, j1, j2, j3, j4, j5⟩
    · right
      refine ⟨N', R', ?_, i2, i3, i4, i5⟩
      rw [i1, bds, if_pos (by decide)]
  · rw [if_neg (show ¬ nI (G 92) ≤ 0 by rw [nle0 (by omega)]; exact c0), if_neg (show ¬ nI (G 92) ≤ 0 by rw [nle0 (by omega)]; exact c0)]
    obtain ⟨Mc1, Mr1, a1, a2, F, W1, V1, -⟩ := both_fail t 3 h13
    right
    refine ⟨Mc1, Mr1, ?_, ?_, F, W1.x g, V1.x⟩
    · rw [a1]; rfl
    · rw [r_beginsE (by omega) a2 F.2.2, bvs, show N0 = 999999 + 1 from rfl, lp_X10_verseLine_23, if_neg (by decide), if_neg (fl0 F.2.2), if_neg (fl0 F.2.2)]
end
