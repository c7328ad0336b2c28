/-! OFF, FILM, STOP. -/
/-- how far the laws of the first i parts are off -/
def Of (G fp fm ft : Nat → Nat) (n : Nat) : Nat → Int32
  | 0 => nI 0
  | i + 1 => if Lw (Ft fp fm ft i 2 n) (Fn fp fm i 2 n) = -1 then Of G fp fm ft n i else Of G fp fm ft n i + (if 0 ≤ Lw (Ft fp fm ft i 2 n) (Fn fp fm i 2 n) - nI (G (6 + i)) then Lw (Ft fp fm ft i 2 n) (Fn fp fm i 2 n) - nI (G (6 + i)) else -(Lw (Ft fp fm ft i 2 n) (Fn fp fm i 2 n) - nI (G (6 + i))))
theorem Lw_sgn {fp fm ft : Nat → Nat} {p n : Nat} (h30 : n ≤ 30) (ht : ∀ k, k < n → fm k ≤ 1 ∧ ft k ≤ 1) : (Lw (Ft fp fm ft p 2 n) (Fn fp fm p 2 n) = -1) ∨ (Lw (Ft fp fm ft p 2 n) (Fn fp fm p 2 n) ≠ -1 ∧ 0 ≤ Lw (Ft fp fm ft p 2 n) (Fn fp fm p 2 n)) := by
  have hf := Fn2 fp fm ft p n ht
  have l1 := Fc_le fp fm ft p 0 1 n
  have l2 := Fc_le fp fm ft p 1 1 n
  have hd : Ft fp fm ft p 2 n * 100 / Fn fp fm p 2 n < 2 ^ 31 := dle (by omega)
  rcases Lw_none hd with ⟨w1, w2⟩ | ⟨w1, w2, w3⟩
  · exact .inl w1
  · exact .inr ⟨w3, by rw [w2]; exact nI_pos' hd⟩
theorem op_off (T : Nat) : Same f_X9_off f_X10_off T T := by
  intro M I0
  obtain ⟨g, tl, I, h⟩ := id I0
  obtain ⟨n, fp, fm, ft, sn, sk, N⟩ := I.nt
  have h30 := N.n30
  have ht : ∀ k, k < n → fm k ≤ 1 ∧ ft k ≤ 1 := fun k hk => ⟨(N.p k hk).2.2.2.2.1, (N.p k hk).2.2.2.2.2⟩
  unfold f_X9_off f_X10_off
  rcases t_game I h with ⟨e1, e2⟩ | ⟨G, Q, mk, Qm, D, e1, e2⟩
  · refine ⟨(-1 : Int32), mset M 0 11 (nI 1), mset (gdM (mset M 0 11 (nI 1))) 81 11 (nI 1), ?_, ?_, I0.no (Fr.rfl' M) (by omega)⟩
    · rw [e1]; rfl
    · rw [r_good, bvs, if_pos (e2 _ (fg M _))]; rfl
  · have hpar := D.W.parts
    refine ⟨(Of G fp fm ft n (G 92 - 1)), mset M 0 11 (nI 0), gdM (mset M 0 11 (nI 0)), ?_, ?_, I0.yes (Fr.rfl' M)⟩
    · rw [e1, bds, if_neg (by decide)]
      refine lp0 (fun f i => lp_X9_off_17 (fun (u15 : Int32) (M16 : Mm) => bd (f_X9_well u15 M16) fun v71_18 M71_17 => some (v71_18, M71_17)) f (Of G fp fm ft n i) (nI i) M) (G 92 - 1) (by omega) (fun f i hi => ?_) (fun f => ?_)
      · have hcl := c_lawOf N (show i < 5 by omega)
        have hf := Fn2 fp fm ft i n ht
        rw [← hf.1, ← hf.2] at hcl
        have k4 : f_X9_at (g + 4) (nI i) M = some (nI (G (6 + i)), M) := by
          rw [← D.C.cha i (by omega)]
          exact f_at (ly4 D.C) (by decide) (by omega)
        rw [lp_X9_off_17, I.h8, bgv I.gg, D.C.f9, nsub (by omega), if_neg (by rw [nle (by omega) (by omega)]; omega), hcl, bds, Of]
        simp only [jns]
        rcases Lw_sgn (fp := fp) (p := i) h30 ht with w | ⟨w, -⟩
        · rw [if_pos w, if_pos w, nadd]
        · rw [if_neg w, if_neg w, I.h8, bgv I.gg, k4, bds, lts, nadd, Int32.zero_sub]
      · rw [lp_X9_off_17, I.h8, bgv I.gg, D.C.f9, nsub (by omega), if_pos (Int32.le_refl _)]
        rfl
    · have D2 := D.fr (fg M (nI 0))
      rw [r_good, bvs, if_neg (by rw [e2 _ (fg M _)]; decide)]
      refine lp0 (fun f i => lp_X10_off_21 f (Of G fp fm ft n i) (nI i) (gdM (mset M 0 11 (nI 0)))) (G 92 - 1) (by omega) (fun f i hi => ?_) (fun f => ?_)
      · have hr := r_lawOf (N.fr (fg M (nI 0))) (show i < 5 by omega) (s := 2) (.inl ⟨rfl, rfl⟩)
        rw [lp_X10_off_21, D2.R 92 (by decide), nsub (by omega), if_neg (by rw [nle (by omega) (by omega)]; omega), hr, bds, nadd, gdi (by omega) (by omega), nclamp (by omega), D2.R _ (by omega), lts, Of]
        simp only [jns]
        rcases Lw_sgn (fp := fp) (p := i) h30 ht with w | ⟨w, w2⟩
        · rw [if_pos w, if_neg (by rw [w]; decide), nadd, show nI 0 = 0 from rfl, Int32.add_zero]
        · rw [if_neg w, if_pos w2, nadd]
          split <;> rfl
      · rw [lp_X10_off_21, D2.R 92 (by decide), nsub (by omega), if_pos (Int32.le_refl _)]
/-- what a note leaves as it was -/
abbrev Fq (M M' : Mm) : Prop := (∀ a, 1 ≤ a → a ≤ 26 → M' a = M a) ∧ (∀ a, 30 ≤ a → a ≤ 60 → M' a = M a) ∧ (∀ a, 82 ≤ a → a ≤ 87 → M' a = M a) ∧ (∀ k, k ≠ 11 → M' 0 k = M 0 k) ∧ (∀ k, k ≠ 0 → k ≠ 11 → k ≠ 26 → k < 27 → M' 81 k = M 81 k)
theorem Fq.c1 {M M' : Mm} (h : Fq M M') : ∀ a, 1 ≤ a → a ≤ 26 → M' a = M a := h.1
theorem Fq.c2 {M M' : Mm} (h : Fq M M') : ∀ a, 30 ≤ a → a ≤ 60 → M' a = M a := h.2.1
theorem Fq.c4 {M M' : Mm} (h : Fq M M') : ∀ a, 82 ≤ a → a ≤ 87 → M' a = M a := h.2.2.1
theorem Fq.z {M M' : Mm} (h : Fq M M') : ∀ k, k ≠ 11 → M' 0 k = M 0 k := h.2.2.2.1
theorem Fq.r {M M' : Mm} (h : Fq M M') : ∀ k, k ≠ 0 → k ≠ 11 → k ≠ 26 → k < 27 → M' 81 k = M 81 k := h.2.2.2.2
theorem IG.fq {M M' : Mm} {g : Nat} {G : Nat → Nat} {Q : Pl} {mk : Nat} {Qm : Nat → Pl} {T : Nat} (h : IG M g G Q mk Qm T) (F : Fq M M') : IG M' g G Q mk Qm T := by
  refine ⟨h.C.cong2 (fun a h1 h2 => F.c1 a h1 (by omega)), fun k hk => ?_, h.W, ?_, RP.cong h.W h.H (fun k _ => by rw [F.c4 86 (by omega) (by omega)]), h.K.cong7 (fun a h1 h2 => F.c1 a (by omega) (by omega)), h.qw, h.mk3, ?_, ?_, fun s hs => ?_, fun s hs => ?_, h.mq⟩
  · rw [F.c4 84 (by omega) (by omega)]; exact h.R k hk
  · rw [F.r 14 (by omega) (by omega) (by omega) (by omega)]; exact h.hg
  · rw [F.z 10 (by omega)]; exact h.m0
  · rw [F.r 19 (by omega) (by omega) (by omega) (by omega)]; exact h.m1
  · have := h.mk3
    exact KP.cong h.W (by omega) (h.mr s hs) (fun k _ => by rw [F.c4 87 (by omega) (by omega)])
  · have := h.mk3
    exact (h.mc s hs).cong7 (fun a h1 h2 => F.c2 a (by omega) (by omega))
theorem IC.fq {M M' : Mm} {g tl : Nat} (h : IC M g tl) (F : Fq M M') (ht : M' 0 11 = M' 81 11 ∧ M' 0 11 ≠ nI 4) (N : ∃ n fp fm ft sn sk, NT M' n fp fm ft sn sk) : IC M' g tl := by
  refine ⟨h.gg, ?_, ?_, ⟨h.tp.le, ?_, ?_, fun k hk => ?_⟩, ht.1, ?_, fun h4 => absurd h4 ht.2, ?_, N⟩
  · rw [F.z 8 (by omega)]; exact h.h8
  · rw [F.z 9 (by omega)]; exact h.h9
  · rw [F.c1 15 (by omega) (by omega)]; exact h.tp.c
  · rw [F.r 2 (by omega) (by omega) (by omega) (by omega)]; exact h.tp.r
  · rw [F.c1 16 (by omega) (by omega), F.c4 82 (by omega) (by omega)]; exact h.tp.b k hk
  · rw [F.z 12 (by omega), F.r 9 (by omega) (by omega) (by omega) (by omega)]; exact h.lf
  · rw [F.r 20 (by omega) (by omega) (by omega) (by omega)]; exact h.lo
theorem NG.fq {M M' : Mm} {g : Nat} (h : NG M g) (gg : g = 1 ∨ g = 8) (F : Fr M M') : NG M' g := h.fr gg F
theorem c_addFilm {M : Mm} {p n q : Nat} (hp : p < 5) (b d : Bool) (h3 : M 73 3 = nI n) (h74 : M 74 (4 * p + 2 * b.toNat + d.toNat) = nI q) : f_X1_addFilm (nI p) (nI b.toNat) (nI d.toNat) M = some (mset (mset M 74 (4 * p + 2 * b.toNat + d.toNat) (nI (q + 1))) 73 3 (nI (n + 1))) := by
  have hb := tb b
  have hd := tb d
  have core : bv (f_X9_add 74 (((nI p * (nI 4)) + nI (2 * b.toNat)) + nI d.toNat) (nI 1) M) (fun M28_7 => some ((mset M28_7 73 3 ((M28_7 73 3) + (nI 1))))) = some (mset (mset M 74 (4 * p + 2 * b.toNat + d.toNat) (nI (q + 1))) 73 3 (nI (n + 1))) := by
    rw [nmul, nadd, nadd, f_add (q := 74) (n := 20) rfl (by decide) (by omega), bvs, mset_off _ _ _ (show (73 : Nat) ≠ 74 by omega), h3, nadd, Nat.mul_comm p 4, h74, nadd]
  unfold f_X1_addFilm
  simp only [jns]
  cases b <;> cases d
  · rw [if_pos (by decide), if_pos (by decide)]; exact core
  · rw [if_pos (by decide), if_neg (by decide)]; exact core
  · rw [if_neg (by decide), if_pos (by decide)]; exact core
  · rw [if_neg (by decide), if_neg (by decide)]; exact core
/-- a row with one more -/
def snoc (f : Nat → Nat) (n v : Nat) : Nat → Nat := fun k => if k = n then v else f k
theorem Fc_snoc (fp fm ft : Nat → Nat) (p s t n a b c : Nat) : Fc (snoc fp n a) (snoc fm n b) (snoc ft n c) p s t (n + 1) = Fc fp fm ft p s t n + if a = p ∧ b = s ∧ c = t then 1 else 0 := by
  have e : Fc (snoc fp n a) (snoc fm n b) (snoc ft n c) p s t n = Fc fp fm ft p s t n := by
    refine Sm_congr (fun k hk => ?_)
    unfold snoc
    rw [if_neg (show ¬ k = n by omega), if_neg (show ¬ k = n by omega), if_neg (show ¬ k = n by omega)]
  show Fc _ _ _ p s t n + (if snoc fp n a n = p ∧ snoc fm n b n = s ∧ snoc ft n c n = t then 1 else 0) = _
  rw [e]
  unfold snoc
  rw [if_pos rfl, if_pos rfl, if_pos rfl]
theorem op_film (x : Int32) (b d : Bool) (T : Nat) : Same (f_X9_film x (nI b.toNat) (nI d.toNat)) (f_X10_film x (nI b.toNat) (nI d.toNat)) T T := by
  intro M I0
  obtain ⟨g, tl, I, h⟩ := id I0
  obtain ⟨n, fp, fm, ft, sn, sk, N⟩ := I.nt
  have h30 := N.n30
  have hb := tb b
  have hd := tb d
  unfold f_X9_film f_X10_film
  simp only [jns]
  rcases t_filmed I h x with ⟨e1, e2⟩ | ⟨G, Q, mk, Qm, p, D, hp, rfl, e1, e2⟩
  · refine ⟨(-1 : Int32), mset M 0 11 (nI 1), mset (gdM (mset M 0 11 (nI 1))) 81 11 (nI 1), ?_, ?_, I0.no (Fr.rfl' M) (by omega)⟩
    · rw [e1]; rfl
    · rw [r_good, bvs, e2 _ (fg M _)]; rfl
  · have hpar := D.W.parts
    by_cases hn : n < 30
    · obtain ⟨M1, hM1⟩ : ∃ M1, M1 = mset (mset M 74 (4 * p + 2 * b.toNat + d.toNat) (nI (Fc fp fm ft p b.toNat d.toNat n + 1))) 73 3 (nI (n + 1)) := ⟨_, rfl⟩
      obtain ⟨M3, hM3⟩ : ∃ M3, M3 = gdM (mset M1 0 11 (nI 0)) := ⟨_, rfl⟩
      obtain ⟨M5, hM5⟩ : ∃ M5, M5 = mset (mset (mset (mset M3 88 n (nI p)) 89 n (nI b.toNat)) 90 n (nI d.toNat)) 81 26 (nI (n + 1)) := ⟨_, rfl⟩
      have n1 : ∀ a, a ≠ 73 → a ≠ 74 → M1 a = M a := fun a h1 h2 => by rw [hM1, mset_off _ _ _ h1, mset_off _ _ _ h2]
      have k3 : ∀ a, a ≠ 0 → a ≠ 81 → M3 a = M1 a := fun a h1 h2 => by rw [hM3]; unfold gdM; rw [mset_off _ _ _ h2, mset_off _ _ _ h2, mset_off _ _ _ h1]
      have r3 : ∀ k, k ≠ 0 → k ≠ 11 → M3 81 k = M 81 k := fun k h1 h2 => by rw [hM3]; unfold gdM; rw [ms3 _ _ h2, ms3 _ _ h1, mset_off _ _ _ (by omega), n1 81 (by omega) (by omega)]
      have k5 : ∀ a, a ≠ 88 → a ≠ 89 → a ≠ 90 → a ≠ 81 → M5 a = M3 a := fun a h1 h2 h3 h4 => by rw [hM5, mset_off _ _ _ h4, mset_off _ _ _ h3, mset_off _ _ _ h2, mset_off _ _ _ h1]
      have r5 : ∀ k, k ≠ 26 → M5 81 k = M3 81 k := fun k h1 => by rw [hM5, ms3 _ _ h1, mset_off _ _ _ (by omega), mset_off _ _ _ (by omega), mset_off _ _ _ (by omega)]
      have F : Fq M M5 := ⟨fun a h1 h2 => by rw [k5 a (by omega) (by omega) (by omega) (by omega), k3 a (by omega) (by omega), n1 a (by omega) (by omega)], fun a h1 h2 => by rw [k5 a (by omega) (by omega) (by omega) (by omega), k3 a (by omega) (by omega), n1 a (by omega) (by omega)], fun a h1 h2 => by rw [k5 a (by omega) (by omega) (by omega) (by omega), k3 a (by omega) (by omega), n1 a (by omega) (by omega)], fun k hk => by
        rw [k5 0 (by omega) (by omega) (by omega) (by omega), hM3]; unfold gdM; rw [mset_off _ _ _ (by omega), mset_off _ _ _ (by omega), ms3 _ _ hk, n1 0 (by omega) (by omega)], fun k h1 h2 h3 h4 => by rw [r5 k h3, r3 k h1 h2]⟩
      have e26 : M3 81 26 = nI n := by rw [r3 26 (by omega) (by omega)]; exact N.r
      have e3 : f_X10_isFilmed (nI p) M3 = some (nI 1, M3) := by
        unfold f_X10_isFilmed
        simp only [jns]
        rw [r3 14 (by omega) (by omega), D.hg, if_neg (by decide), k3 84 (by omega) (by omega), n1 84 (by omega) (by omega), D.R 92 (by decide), nsub (by omega), r_w6 (by omega) (by omega), bds, if_neg (by decide)]
      refine ⟨nI (n + 1), mset M1 0 11 (nI 0), M5, ?_, ?_, g, tl, I.fq F ⟨?_, ?_⟩ ⟨n + 1, snoc fp n p, snoc fm n b.toNat, snoc ft n d.toNat, sn, sk, ⟨by omega, ?_, ?_, fun k hk => ?_, fun p' hp' s' hs' t' ht' => ?_, fun c hc => ?_⟩⟩, .inr ⟨G, Q, mk, Qm, D.fq F⟩⟩
      · rw [e1, bds, if_neg (by decide), N.c, if_pos (by rw [nlt (by omega) (by omega)]; exact hn), c_addFilm (by omega) b d N.c (N.f p (by omega) _ (by omega) _ (by omega)), bvs, ← hM1, hM1, ms1]
        rfl
      · have x1 : ∀ (K : Int32 → Option (Int32 × Mm)), (if nI b.toNat = 0 then K (nI 0) else K (nI 1)) = K (nI b.toNat) := fun K => by
          cases b
          · exact if_pos rfl
          · exact if_neg (by decide)
        have x2 : ∀ (K : Int32 → Option (Int32 × Mm)), (if nI d.toNat = 0 then K (nI 0) else K (nI 1)) = K (nI d.toNat) := fun K => by
          cases d
          · exact if_pos rfl
          · exact if_neg (by decide)
        rw [r_good, bvs, ← hM3, e3, bds, if_neg (by decide), e26, if_neg (by rw [neq (by omega) (by omega)]; omega), gdi (by omega) (by omega), nclamp (by omega)]
        have y1 : mset M3 88 n (nI p) 81 26 = nI n := by rw [mset_off _ _ _ (by omega)]; exact e26
        have y2 : ∀ v, mset (mset M3 88 n (nI p)) 89 n v 81 26 = nI n := fun v => by rw [mset_off _ _ _ (by omega)]; exact y1
        have y3 : ∀ v w, mset (mset (mset M3 88 n (nI p)) 89 n v) 90 n w 81 26 = nI n := fun v w => by rw [mset_off _ _ _ (by omega)]; exact y2 v
        simp only [y1, y2, y3, nclamp (show n < 2 ^ 31 by omega), gdi (show n < 2 ^ 31 by omega) hn, nadd, ms1]
        cases b <;> cases d <;> rw [hM5] <;> rfl
      · rw [k5 0 (by omega) (by omega) (by omega) (by omega), r5 11 (by omega), hM3]; unfold gdM; simp (disch := omega) only [ms1, ms1, ms2, ms3]
      · rw [k5 0 (by omega) (by omega) (by omega) (by omega), hM3]; unfold gdM; simp (disch := omega) only [ms1, ms1, ms2, ms3]; exact nI04
      · rw [k5 73 (by omega) (by omega) (by omega) (by omega), k3 73 (by omega) (by omega), hM1, ms1]
      · rw [hM5, ms1]
      · have m88 : M5 88 = mset M3 88 n (nI p) 88 := by rw [hM5, mset_off _ _ _ (by omega), mset_off _ _ _ (by omega), mset_off _ _ _ (by omega)]
        have m89 : M5 89 k = if k = n then nI b.toNat else M 89 k := by
          rw [hM5, mset_off _ _ _ (by omega), mset_off _ _ _ (by omega)]
          by_cases c : k = n
          · rw [c, ms1, if_pos rfl]
          · rw [ms3 _ _ c, mset_off _ _ _ (by omega), if_neg c, k3 89 (by omega) (by omega), n1 89 (by omega) (by omega)]
        have m90 : M5 90 k = if k = n then nI d.toNat else M 90 k := by
          rw [hM5, mset_off _ _ _ (by omega)]
          by_cases c : k = n
          · rw [c, ms1, if_pos rfl]
          · rw [ms3 _ _ c, mset_off _ _ _ (by omega), mset_off _ _ _ (by omega), if_neg c, k3 90 (by omega) (by omega), n1 90 (by omega) (by omega)]
        rw [m88, m89, m90]
        unfold snoc
        by_cases c : k = n
        · rw [c, ms1, if_pos rfl, if_pos rfl, if_pos rfl, if_pos rfl, if_pos rfl]
          exact ⟨rfl, rfl, rfl, by omega, by omega, by omega⟩
        · rw [ms3 _ _ c, if_neg c, if_neg c, if_neg c, if_neg c, if_neg c, k3 88 (by omega) (by omega), n1 88 (by omega) (by omega)]
          exact N.p k (by omega)
      · rw [k5 74 (by omega) (by omega) (by omega) (by omega), k3 74 (by omega) (by omega), hM1, mset_off _ _ _ (by omega), Fc_snoc]
        by_cases c : p = p' ∧ b.toNat = s' ∧ d.toNat = t'
        · obtain ⟨rfl, rfl, rfl⟩ := c
          rw [ms1, if_pos ⟨rfl, rfl, rfl⟩]
        · rw [ms3 _ _ (by omega), if_neg c]
          exact N.f p' hp' s' hs' t' ht'
      · rw [k5 75 (by omega) (by omega) (by omega) (by omega), k3 75 (by omega) (by omega), n1 75 (by omega) (by omega), k5 76 (by omega) (by omega) (by omega) (by omega), k3 76 (by omega) (by omega), n1 76 (by omega) (by omega), k5 91 (by omega) (by omega) (by omega) (by omega), k3 91 (by omega) (by omega), n1 91 (by omega) (by omega), k5 92 (by omega) (by omega) (by omega) (by omega), k3 92 (by omega) (by omega), n1 92 (by omega) (by omega)]
        exact N.s c hc
    · have hn30 : n = 30 := by omega
      refine ⟨(-1 : Int32), mset M 0 11 (nI 3), mset (gdM (mset M 0 11 (nI 3))) 81 11 (nI 3), ?_, ?_, I0.no (Fr.rfl' M) (by omega)⟩
      · rw [e1, bds, if_neg (by decide), N.c, if_neg (by rw [nlt (by omega) (by omega)]; exact hn)]; rfl
      · have e26 : gdM (mset M 0 11 (nI 3)) 81 26 = nI 30 := by rw [(fg M (nI 3)).r 26 (by omega) (by omega) (by omega), N.r, hn30]
        rw [r_good, bvs, e2 _ (fg M _), bds, if_neg (by decide), if_pos e26]; rfl
