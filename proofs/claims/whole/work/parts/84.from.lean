/-! FAIR, FROM: the calls. -/
theorem both_fair {M : Mm} {g tl T : Nat} (I0 : Inv M T) (I : IC M g tl) {G : Nat → Nat} {Q : Pl} {mk : Nat} {Qm : Nat → Pl} (D : IG M g G Q mk Qm T) :
    ∃ M1 M2, f_X6_find g M = some M1 ∧ M1 77 2 = nI (Ap G (Bq G (Bf G ^ G 95))) ∧ (∀ c, c < G 95 → M1 79 c = nI (Dg (Bf G) (G 95) (Bq G (Bf G ^ G 95)) c)) ∧ Fr M (gdM (mset M1 0 11 (nI 0))) ∧
      f_X10_fairest (gdM (mset M1 0 11 (nI 0))) = some (nI (Ap G (Bq G (Bf G ^ G 95))), M2) ∧ (∀ c, c < G 95 → M2 95 c = nI (Dg (Bf G) (G 95) (Bq G (Bf G ^ G 95)) c)) ∧ Inv M2 T := by
  have hB := Bf_b D.W
  have hpos : 0 < Bf G ^ G 95 := Nat.pow_pos (by omega)
  obtain ⟨M1, a1, f1, F⟩ := c_find D.C D.W
  have F1 : Fr M M1 := (Fr.rfl' M).x (fun a ha => f1 a (by omega) (by omega) (by omega))
  have F3 : Fr M (gdM (mset M1 0 11 (nI 0))) := (F1.a _).g
  obtain ⟨M2, a2, f2, d2⟩ := r_fairest (D.fr F3).R D.W
  refine ⟨M1, M2, a1, F.ap hpos, F.fo hpos, F3, a2, d2, I0.fr (F3.x (fun a ha => f2 a (by omega))) (.inl ⟨?_, ?_⟩)⟩
  · rw [f2 0 (by omega), f2 81 (by omega)]; unfold gdM; simp (disch := omega) only [ms1, ms1, ms2, ms3]
  · rw [f2 0 (by omega)]; unfold gdM; simp (disch := omega) only [ms1, ms1, ms2, ms3]; exact nI04
theorem op_fair (T : Nat) : Same f_X9_fair f_X10_fair T T := by
  intro M I0
  obtain ⟨g, tl, I, h⟩ := id I0
  unfold f_X9_fair f_X10_fair
  rcases t_game I h with ⟨e1, e2⟩ | ⟨G, Q, mk, Qm, D, e1, e2⟩
  · refine ⟨(-1 : Int32), mset M 0 11 (nI 1), mset (gdM (mset M 0 11 (nI 1))) 81 11 (nI 1), ?_, ?_, I0.no (Fr.rfl' M) (by omega)⟩
    · rw [e1]; rfl
    · rw [r_good, bvs, if_pos (e2 _ (fg M _))]; rfl
  · obtain ⟨M1, M2, a1, a2, a3, F3, a4, a5, I2⟩ := both_fair I0 I D
    refine ⟨nI (Ap G (Bq G (Bf G ^ G 95))), mset M1 0 11 (nI 0), M2, ?_, ?_, I2⟩
    · rw [e1, bds, if_neg (by decide), I.h8, bgv I.gg, a1, bvs, a2]; rfl
    · rw [r_good, bvs, if_neg (by rw [e2 _ F3]; decide), a4]; rfl
theorem op_from (x : Int32) (T : Nat) : Same (f_X9_from x) (f_X10_from x) T T := by
  intro M I0
  obtain ⟨g, tl, I, h⟩ := id I0
  unfold f_X9_from f_X10_from
  rcases t_creeper I h x with ⟨e1, e2⟩ | ⟨G, Q, mk, Qm, c, D, hc, rfl, e1, e2⟩
  · refine ⟨(-1 : Int32), mset M 0 11 (nI 1), mset (gdM (mset M 0 11 (nI 1))) 81 11 (nI 1), ?_, ?_, I0.no (Fr.rfl' M) (by omega)⟩
    · rw [e1]; rfl
    · rw [r_good, bvs, e2 _ (fg M _)]; rfl
  · have hcr := D.W.creepers
    obtain ⟨M1, M2, a1, a2, a3, F3, a4, a5, I2⟩ := both_fair I0 I D
    have al := Ap_le D.W (Bq G (Bf G ^ G 95))
    have k79 : f_X9_at 79 (nI c) M1 = some (nI (Dg (Bf G) (G 95) (Bq G (Bf G ^ G 95)) c), M1) := by
      rw [← a3 c hc]
      exact f_at (n := 5) rfl (by decide) (by omega)
    refine ⟨nI (Dg (Bf G) (G 95) (Bq G (Bf G ^ G 95)) c), mset M1 0 11 (nI 0), M2, ?_, ?_, I2⟩
    · rw [e1, bds, if_neg (by decide), I.h8, bgv I.gg, a1, bvs, k79]; rfl
    · rw [r_good, bvs, e2 _ F3, bds, if_neg (by decide), a4, bds, if_neg (by rw [nlt0 (by omega)]; exact id), gdi (by omega) (by omega), nclamp (by omega), a5 c hc]
