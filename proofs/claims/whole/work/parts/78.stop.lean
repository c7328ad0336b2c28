/-! STOP. -/
theorem c_addStop {M : Mm} {c n k : Nat} (hc : c < 5) (b : Bool) (h1 : M 75 c = nI n) (h2 : M 76 c = nI k) : f_X1_addStop (nI c) (nI b.toNat) M = some (mset (mset M 75 c (nI (n + 1))) 76 c (nI (k + b.toNat))) := by
  have core : bv (f_X9_add 76 (nI c) (nI b.toNat) (mset M 75 c (nI (n + 1)))) (fun M23_6 => some M23_6) = some (mset (mset M 75 c (nI (n + 1))) 76 c (nI (k + b.toNat))) := by
    rw [f_add (q := 76) (n := 5) rfl (by decide) hc, bvs, mset_off _ _ _ (show (76 : Nat) ≠ 75 by omega), h2, nadd]
  unfold f_X1_addStop
  rw [f_add (q := 75) (n := 5) rfl (by decide) hc, bvs, h1, nadd]
  simp only [jns]
  cases b
  · rw [if_pos (by decide)]; exact core
  · rw [if_neg (by decide)]; exact core
theorem op_stop (x : Int32) (b : Bool) (T : Nat) : Same (f_X9_stop x (nI b.toNat)) (f_X10_stop x (nI b.toNat)) T T := by
  intro M I0
  obtain ⟨g, tl, I, h⟩ := id I0
  obtain ⟨n, fp, fm, ft, sn, sk, N⟩ := I.nt
  have hb := tb b
  unfold f_X9_stop f_X10_stop
  simp only [jns]
  rcases t_creeper I h x with ⟨e1, e2⟩ | ⟨G, Q, mk, Qm, c, D, hc, rfl, e1, e2⟩
  · refine ⟨(-1 : Int32), mset M 0 11 (nI 1), mset (gdM (mset M 0 11 (nI 1))) 81 11 (nI 1), ?_, ?_, I0.no (Fr.rfl' M) (by omega)⟩
    · rw [e1]; rfl
    · rw [r_good, bvs, e2 _ (fg M _)]; rfl
  · have hcr := D.W.creepers
    obtain ⟨s1, s2, s3, s4, s5, s6⟩ := N.s c (by omega)
    have k75 : f_X9_at 75 (nI c) M = some (nI (sn c), M) := by
      rw [← s3]
      exact f_at (n := 5) rfl (by decide) (by omega)
    by_cases hn : sn c < 9
    · obtain ⟨M1, hM1⟩ : ∃ M1, M1 = mset (mset M 75 c (nI (sn c + 1))) 76 c (nI (sk c + b.toNat)) := ⟨_, rfl⟩
      obtain ⟨M3, hM3⟩ : ∃ M3, M3 = gdM (mset M1 0 11 (nI 0)) := ⟨_, rfl⟩
      obtain ⟨M5, hM5⟩ : ∃ M5, M5 = mset (mset M3 91 c (nI (sn c + 1))) 92 c (nI (sk c + b.toNat)) := ⟨_, rfl⟩
      have n1 : ∀ a, a ≠ 75 → a ≠ 76 → M1 a = M a := fun a h1 h2 => by rw [hM1, mset_off _ _ _ h2, mset_off _ _ _ h1]
      have k3 : ∀ a, a ≠ 0 → a ≠ 81 → M3 a = M1 a := fun a h1 h2 => by rw [hM3]; unfold gdM; rw [mset_off _ _ _ h2, mset_off _ _ _ h2, mset_off _ _ _ h1]
      have r3 : ∀ k, k ≠ 0 → k ≠ 11 → M3 81 k = M 81 k := fun k h1 h2 => by rw [hM3]; unfold gdM; rw [ms3 _ _ h2, ms3 _ _ h1, mset_off _ _ _ (by omega), n1 81 (by omega) (by omega)]
      have k5 : ∀ a, a ≠ 91 → a ≠ 92 → M5 a = M3 a := fun a h1 h2 => by rw [hM5, mset_off _ _ _ h2, mset_off _ _ _ h1]
      have F : Fq M M5 := ⟨fun a h1 h2 => by rw [k5 a (by omega) (by omega), k3 a (by omega) (by omega), n1 a (by omega) (by omega)], fun a h1 h2 => by rw [k5 a (by omega) (by omega), k3 a (by omega) (by omega), n1 a (by omega) (by omega)], fun a h1 h2 => by rw [k5 a (by omega) (by omega), k3 a (by omega) (by omega), n1 a (by omega) (by omega)], fun k hk => by
        rw [k5 0 (by omega) (by omega), hM3]; unfold gdM; rw [mset_off _ _ _ (by omega), mset_off _ _ _ (by omega), ms3 _ _ hk, n1 0 (by omega) (by omega)], fun k h1 h2 h3 h4 => by rw [k5 81 (by omega) (by omega), r3 k h1 h2]⟩
      have e3 : f_X10_isCreeper (nI c) M3 = some (nI 1, M3) := by
        have R3 : RG M3 G := fun k hk => by rw [k3 84 (by omega) (by omega), n1 84 (by omega) (by omega)]; exact D.R k hk
        rcases r_isCreeper R3 D.W (by rw [r3 14 (by omega) (by omega)]; exact D.hg) (nI c) with ⟨-, h6⟩ | ⟨h6, -⟩
        · exact h6
        · exact absurd ⟨c, hc, rfl⟩ h6
      have e91 : M3 91 c = nI (sn c) := by rw [k3 91 (by omega) (by omega), n1 91 (by omega) (by omega)]; exact s4
      have e92 : ∀ v, mset M3 91 c v 92 c = nI (sk c) := fun v => by rw [mset_off _ _ _ (by omega), k3 92 (by omega) (by omega), n1 92 (by omega) (by omega)]; exact s6
      refine ⟨nI (sn c + 1), mset M1 0 11 (nI 0), M5, ?_, ?_, g, tl, I.fq F ⟨?_, ?_⟩ ⟨n, fp, fm, ft, fun k => if k = c then sn c + 1 else sn k, fun k => if k = c then sk c + b.toNat else sk k, ⟨N.n30, ?_, ?_, fun k hk => ?_, fun p' hp' s' hs' t' ht' => ?_, fun k hk => ?_⟩⟩, .inr ⟨G, Q, mk, Qm, D.fq F⟩⟩
      · have k75' : f_X9_at 75 (nI c) M1 = some (nI (sn c + 1), M1) := by
          have : M1 75 c = nI (sn c + 1) := by rw [hM1, mset_off _ _ _ (by omega), ms1]
          rw [← this]
          exact f_at (n := 5) rfl (by decide) (by omega)
        rw [e1, bds, if_neg (by decide), k75, bds, if_pos (by rw [nlt (by omega) (by omega)]; exact hn), c_addStop (by omega) b s3 s5, bvs, ← hM1, k75']
        rfl
      · rw [r_good, bvs, ← hM3, e3, bds, if_neg (by decide), gdi (by omega) (by omega), nclamp (by omega), e91, if_neg (by rw [neq (by omega) (by omega)]; omega)]
        simp only [gdi (show c < 2 ^ 31 by omega) (show c < 5 by omega), nadd, e92, ms1, ms2 _ _ (show (91 : Nat) ≠ 92 by omega)]
        cases b
        · rw [if_pos (by decide), hM5]; rfl
        · rw [if_neg (by decide), hM5]; rfl
      · rw [k5 0 (by omega) (by omega), k5 81 (by omega) (by omega), hM3]; unfold gdM; simp (disch := omega) only [ms1, ms1, ms2, ms3]
      · rw [k5 0 (by omega) (by omega), hM3]; unfold gdM; simp (disch := omega) only [ms1, ms1, ms2, ms3]; exact nI04
      · rw [k5 73 (by omega) (by omega), k3 73 (by omega) (by omega), n1 73 (by omega) (by omega)]; exact N.c
      · rw [k5 81 (by omega) (by omega), r3 26 (by omega) (by omega)]; exact N.r
      · rw [k5 88 (by omega) (by omega), k3 88 (by omega) (by omega), n1 88 (by omega) (by omega), k5 89 (by omega) (by omega), k3 89 (by omega) (by omega), n1 89 (by omega) (by omega), k5 90 (by omega) (by omega), k3 90 (by omega) (by omega), n1 90 (by omega) (by omega)]; exact N.p k hk
      · rw [k5 74 (by omega) (by omega), k3 74 (by omega) (by omega), n1 74 (by omega) (by omega)]; exact N.f p' hp' s' hs' t' ht'
      · rw [k5 75 (by omega) (by omega), k3 75 (by omega) (by omega), k5 76 (by omega) (by omega), k3 76 (by omega) (by omega)]
        show (if k = c then sn c + 1 else sn k) ≤ 9 ∧ (if k = c then sk c + b.toNat else sk k) ≤ (if k = c then sn c + 1 else sn k) ∧ M1 75 k = nI (if k = c then sn c + 1 else sn k) ∧ M5 91 k = nI (if k = c then sn c + 1 else sn k) ∧ M1 76 k = nI (if k = c then sk c + b.toNat else sk k) ∧ M5 92 k = nI (if k = c then sk c + b.toNat else sk k)
        by_cases c1 : k = c
        · subst c1
          rw [if_pos rfl, if_pos rfl]
          refine ⟨by omega, by omega, ?_, ?_, ?_, ?_⟩
          · rw [hM1, mset_off _ _ _ (by omega), ms1]
          · rw [hM5, mset_off _ _ _ (by omega), ms1]
          · rw [hM1, ms1]
          · rw [hM5, ms1]
        · rw [if_neg c1, if_neg c1]
          obtain ⟨z1, z2, z3, z4, z5, z6⟩ := N.s k hk
          refine ⟨z1, z2, ?_, ?_, ?_, ?_⟩
          · rw [hM1, mset_off _ _ _ (by omega), ms3 _ _ c1]; exact z3
          · rw [hM5, mset_off _ _ _ (by omega), ms3 _ _ c1, k3 91 (by omega) (by omega), n1 91 (by omega) (by omega)]; exact z4
          · rw [hM1, ms3 _ _ c1, mset_off _ _ _ (by omega)]; exact z5
          · rw [hM5, ms3 _ _ c1, mset_off _ _ _ (by omega), k3 92 (by omega) (by omega), n1 92 (by omega) (by omega)]; exact z6
    · have e91 : gdM (mset M 0 11 (nI 3)) 91 c = nI 9 := by rw [(fg M (nI 3)).c5 91 (by omega) (by omega), s4, show sn c = 9 by omega]
      refine ⟨(-1 : Int32), mset M 0 11 (nI 3), mset (gdM (mset M 0 11 (nI 3))) 81 11 (nI 3), ?_, ?_, I0.no (Fr.rfl' M) (by omega)⟩
      · rw [e1, bds, if_neg (by decide), k75, bds, if_neg (by rw [nlt (by omega) (by omega)]; exact hn)]; rfl
      · rw [r_good, bvs, e2 _ (fg M _), bds, if_neg (by decide), gdi (by omega) (by omega), nclamp (by omega), e91, if_pos (by decide)]; rfl
