/-! THE CALLS' tests in the invariant; the odds' calls. -/
theorem same_no {α : Type} (r : α) {e : Nat} {A B : Mm → Option (α × Mm)} {M : Mm} {T : Nat} (I : Inv M T) (he : e < 4 ∨ e = 5 ∨ e = 6) (ha : A M = some (r, mset M 0 11 (nI e))) (hb : B (mset M 0 11 (nI e)) = some (r, mset (gdM (mset M 0 11 (nI e))) 81 11 (nI e))) : ∃ r M1 M2, A M = some (r, M1) ∧ B M1 = some (r, M2) ∧ Inv M2 T :=
  ⟨r, _, _, ha, hb, I.no (Fr.rfl' M) he⟩
theorem same_yes {α : Type} (r : α) {A B : Mm → Option (α × Mm)} {M : Mm} {T : Nat} (I : Inv M T) (ha : A M = some (r, mset M 0 11 (nI 0))) (hb : B (mset M 0 11 (nI 0)) = some (r, gdM (mset M 0 11 (nI 0)))) : ∃ r M1 M2, A M = some (r, M1) ∧ B M1 = some (r, M2) ∧ Inv M2 T :=
  ⟨r, _, _, ha, hb, I.yes (Fr.rfl' M)⟩
theorem fa (M : Mm) (v : Int32) : Fr M (mset M 0 11 v) := (Fr.rfl' M).a v
theorem fg (M : Mm) (v : Int32) : Fr M (gdM (mset M 0 11 v)) := (fa M v).g
theorem told {M : Mm} {v : Int32} : (mset M 0 11 v) 0 8 = M 0 8 := ms3 _ _ (by omega)
section
variable {M : Mm} {g tl T : Nat}
theorem t_creeper (I : IC M g tl) (h : NG M g ∨ ∃ G Q mk Qm, IG M g G Q mk Qm T) (x : Int32) :
    (f_X9_isCreeper x M = some (nI 0, M) ∧ ∀ M', Fr M M' → f_X10_isCreeper x M' = some (nI 0, M')) ∨
    (∃ G Q mk Qm c, IG M g G Q mk Qm T ∧ c < G 95 ∧ x = nI c ∧ f_X9_isCreeper x M = some (nI 1, M) ∧ ∀ M', Fr M M' → f_X10_isCreeper x M' = some (nI 1, M')) := by
  rcases h with N | ⟨G, Q, mk, Qm, D⟩
  · left
    refine ⟨?_, fun M' F => ?_⟩
    · unfold f_X9_isCreeper
      simp only [jns]
      rw [I.h8, bgv I.gg, N.z 14 (by omega) (by omega)]
      by_cases h : x < 0
      · rw [if_pos h]
      · rw [if_neg h, if_pos (show nI 0 ≤ x from Int32.not_lt.mp h)]
    · unfold f_X10_isCreeper
      rw [F.r 14 (by omega) (by omega) (by omega), N.hg]
      rfl
  · have h1 := fun M' (F : Fr M M') => r_isCreeper (D.fr F).R D.W (D.fr F).hg x
    rcases c_isCreeper D.C D.W I.h8 x with ⟨⟨c, hc, h2⟩, h3⟩ | ⟨h2, h3⟩
    · right
      refine ⟨G, Q, mk, Qm, c, D, hc, h2, h3, fun M' F => ?_⟩
      rcases h1 M' F with ⟨_, h4⟩ | ⟨h4, _⟩
      · exact h4
      · exact absurd ⟨c, hc, h2⟩ h4
    · left
      refine ⟨h3, fun M' F => ?_⟩
      rcases h1 M' F with ⟨h4, _⟩ | ⟨_, h4⟩
      · exact absurd h4 h2
      · exact h4
theorem t_game (I : IC M g tl) (h : NG M g ∨ ∃ G Q mk Qm, IG M g G Q mk Qm T) :
    (f_X9_hasGame M = some (nI 0, M) ∧ ∀ M', Fr M M' → M' 81 14 = 0) ∨
    (∃ G Q mk Qm, IG M g G Q mk Qm T ∧ f_X9_hasGame M = some (nI 1, M) ∧ ∀ M', Fr M M' → M' 81 14 = nI 1) := by
  rcases h with N | ⟨G, Q, mk, Qm, D⟩
  · left
    refine ⟨?_, fun M' F => (N.fr I.gg F).hg⟩
    unfold f_X9_hasGame
    rw [I.h8, bgv I.gg, N.z 14 (by omega) (by omega)]
    rfl
  · exact .inr ⟨G, Q, mk, Qm, D, c_hasGame D.C D.W I.h8, fun M' F => (D.fr F).hg⟩
/-- the odds' reasons -/
theorem t_odds {G : Nat → Nat} {Q : Pl} {mk : Nat} {Qm : Nat → Pl} (D : IG M g G Q mk Qm T) {c : Nat} (hc : c < G 95) (y z : Int32) {M' : Mm} (F : Fr M M') :
    ((∃ a, a < G 0 ∧ y = nI a) ∧ (∃ e, e ≤ En G (G 92) ∧ z = nI e) ∧ f_X10_oddsWhy (nI c) y z M' = some (nI 0, M')) ∨
    (¬ ((∃ a, a < G 0 ∧ y = nI a) ∧ (∃ e, e ≤ En G (G 92) ∧ z = nI e)) ∧ f_X10_oddsWhy (nI c) y z M' = some (nI 2, M')) := by
  rcases r_oddsWhy (D.fr F).R D.W (D.fr F).hg (nI c) y z with ⟨h1, _⟩ | ⟨_, h2, h3, h4⟩ | ⟨_, h2, h3⟩
  · exact absurd ⟨c, hc, rfl⟩ h1
  · exact .inl ⟨h2, h3, h4⟩
  · exact .inr ⟨h2, h3⟩
theorem why1 {x y z : Int32} {M : Mm} (h : f_X10_isCreeper x M = some (nI 0, M)) : f_X10_oddsWhy x y z M = some (nI 1, M) := by
  unfold f_X10_oddsWhy
  rw [h]
  rfl
end
theorem bool0 {x : Int32} : ∃ b : Bool, (if x = 0 then nI 0 else nI 1) = nI b.toNat := by
  by_cases h : x = 0
  · exact ⟨false, if_pos h⟩
  · exact ⟨true, if_neg h⟩
theorem op_risk (x y z : Int32) (T : Nat) : Same (f_X9_risk x y z) (f_X10_risk x y z) T T := by
  intro M I0
  obtain ⟨g, tl, I, h⟩ := id I0
  unfold f_X9_risk f_X10_risk
  rcases t_creeper I h x with ⟨e1, e2⟩ | ⟨G, Q, mk, Qm, c, D, hc, rfl, e1, e2⟩
  · refine ⟨((-1 : Int32).toInt64), mset M 0 11 (nI 1), mset (gdM (mset M 0 11 (nI 1))) 81 11 (nI 1), ?_, ?_, I0.no (Fr.rfl' M) (by omega)⟩
    · rw [e1]; rfl
    · rw [r_good, bvs, why1 (e2 _ (fg M _))]; rfl
  · have h3 := En_le D.W (Nat.le_refl _)
    have h4 := D.W.parts
    have h5 := D.W.long
    have ew := c_isBelowWall D.C D.W I.h8 y
    have ev := c_isOfVerse D.C D.W I.h8 z
    rcases t_odds D hc y z (fg M (nI 0)) with ⟨⟨a, ha, rfl⟩, ⟨e, he, rfl⟩, hr⟩ | ⟨hn, -⟩
    · rcases ew with ⟨-, ew⟩ | ⟨ew, -⟩
      · rcases ev with ⟨-, ev⟩ | ⟨ev, -⟩
        · refine ⟨(lI (Rk G c a e : Nat)), mset M 0 11 (nI 0), gdM (mset M 0 11 (nI 0)), ?_, ?_, I0.yes (Fr.rfl' M)⟩
          · rw [e1, bds, if_neg (by decide), ew, bds]
            simp only [jns]
            rw [if_neg (by decide), ev, bds, if_neg (by decide), told, I.h8, bgv I.gg, c_seenWays (D.fr (fa M _)).C D.W hc (by omega) (by omega)]
            rfl
          · rw [r_good, bvs, hr, bds, if_pos (by decide), r_risks (D.fr (fg M _)).R D.W hc (by omega) (by omega)]
            rfl
        · exact absurd ⟨e, he, rfl⟩ ev
      · exact absurd ⟨a, ha, rfl⟩ ew
    · have hr : f_X10_oddsWhy (nI c) y z (gdM (mset M 0 11 (nI 2))) = some (nI 2, gdM (mset M 0 11 (nI 2))) := by
        rcases t_odds D hc y z (fg M (nI 2)) with ⟨h6, h7, -⟩ | ⟨-, h6⟩
        · exact absurd ⟨h6, h7⟩ hn
        · exact h6
      refine ⟨((-1 : Int32).toInt64), mset M 0 11 (nI 2), mset (gdM (mset M 0 11 (nI 2))) 81 11 (nI 2), ?_, ?_, I0.no (Fr.rfl' M) (by omega)⟩
      · rw [e1, bds, if_neg (by decide)]
        rcases ew with ⟨hw, ew⟩ | ⟨-, ew⟩
        · rcases ev with ⟨hv, -⟩ | ⟨-, ev⟩
          · exact absurd ⟨hw, hv⟩ hn
          · rw [ew, bds]
            simp only [jns]
            rw [if_neg (by decide), ev]
            rfl
        · rw [ew]; rfl
      · rw [r_good, bvs, hr]; rfl
theorem op_gain (x y z : Int32) (b : Bool) (T : Nat) : Same (f_X9_gain x y z (nI b.toNat)) (f_X10_gain x y z (nI b.toNat)) T T := by
  intro M I0
  obtain ⟨g, tl, I, h⟩ := id I0
  unfold f_X9_gain f_X10_gain
  rcases t_creeper I h x with ⟨e1, e2⟩ | ⟨G, Q, mk, Qm, c, D, hc, rfl, e1, e2⟩
  · refine ⟨(-9223372036854775808 : Int64), mset M 0 11 (nI 1), mset (gdM (mset M 0 11 (nI 1))) 81 11 (nI 1), ?_, ?_, I0.no (Fr.rfl' M) (by omega)⟩
    · rw [e1]; rfl
    · rw [r_good, bvs, why1 (e2 _ (fg M _)), bds, ms1, if_neg (by decide)]
  · have h3 := En_le D.W (Nat.le_refl _)
    have h4 := D.W.parts
    have h5 := D.W.long
    have ew := c_isBelowWall D.C D.W I.h8 y
    have ev := c_isOfVerse D.C D.W I.h8 z
    rcases t_odds D hc y z (fg M (nI 0)) with ⟨⟨a, ha, rfl⟩, ⟨e, he, rfl⟩, hr⟩ | ⟨hn, -⟩
    · rcases ew with ⟨-, ew⟩ | ⟨ew, -⟩
      · rcases ev with ⟨-, ev⟩ | ⟨ev, -⟩
        · have hm : mset (gdM (mset M 0 11 (nI 0))) 81 11 (nI 0) = gdM (mset M 0 11 (nI 0)) := mset_id (by unfold gdM; rw [ms1])
          refine ⟨(lI (Gs G c a e b)), mset M 0 11 (nI 0), gdM (mset M 0 11 (nI 0)), ?_, ?_, I0.yes (Fr.rfl' M)⟩
          · rw [e1, bds, if_neg (by decide), ew, bds]
            simp only [jns]
            rw [if_neg (by decide), ev, bds, if_neg (by decide), told, I.h8, bgv I.gg, c_gained (D.fr (fa M _)).C D.W b hc (by omega) (by omega)]
            rfl
          · rw [r_good, bvs, hr, bds, hm]
            have h0 : gdM (mset M 0 11 (nI 0)) 81 11 = 0 := by unfold gdM; rw [ms1]; rfl
            rw [if_pos h0, r_gains (D.fr (fg M _)).R D.W b hc (by omega) (by omega)]
            rfl
        · exact absurd ⟨e, he, rfl⟩ ev
      · exact absurd ⟨a, ha, rfl⟩ ew
    · have hr : f_X10_oddsWhy (nI c) y z (gdM (mset M 0 11 (nI 2))) = some (nI 2, gdM (mset M 0 11 (nI 2))) := by
        rcases t_odds D hc y z (fg M (nI 2)) with ⟨h6, h7, -⟩ | ⟨-, h6⟩
        · exact absurd ⟨h6, h7⟩ hn
        · exact h6
      refine ⟨(-9223372036854775808 : Int64), mset M 0 11 (nI 2), mset (gdM (mset M 0 11 (nI 2))) 81 11 (nI 2), ?_, ?_, I0.no (Fr.rfl' M) (by omega)⟩
      · rw [e1, bds, if_neg (by decide)]
        rcases ew with ⟨hw, ew⟩ | ⟨-, ew⟩
        · rcases ev with ⟨hv, -⟩ | ⟨-, ev⟩
          · exact absurd ⟨hw, hv⟩ hn
          · rw [ew, bds]
            simp only [jns]
            rw [if_neg (by decide), ev]
            rfl
        · rw [ew]; rfl
      · rw [r_good, bvs, hr, bds, ms1, if_neg (by decide)]
/-- the odds of a creeper and a place alone -/
theorem t_place {M : Mm} {g tl T : Nat} (I : IC M g tl) {G : Nat → Nat} {Q : Pl} {mk : Nat} {Qm : Nat → Pl} (D : IG M g G Q mk Qm T) {c : Nat} (hc : c < G 95) (y : Int32) :
    (∃ a, a < G 0 ∧ y = nI a ∧ f_X9_isBelowWall y M = some (nI 1, M) ∧ ∀ M', Fr M M' → f_X10_oddsWhy (nI c) y (nI 0) M' = some (nI 0, M')) ∨
    (f_X9_isBelowWall y M = some (nI 0, M) ∧ ∀ M', Fr M M' → f_X10_oddsWhy (nI c) y (nI 0) M' = some (nI 2, M')) := by
  rcases c_isBelowWall D.C D.W I.h8 y with ⟨⟨a, ha, h1⟩, ew⟩ | ⟨h1, ew⟩
  · refine .inl ⟨a, ha, h1, ew, fun M' F => ?_⟩
    rcases t_odds D hc y (nI 0) F with ⟨-, -, h6⟩ | ⟨h6, -⟩
    · exact h6
    · exact absurd ⟨⟨a, ha, h1⟩, ⟨0, Nat.zero_le _, rfl⟩⟩ h6
  · refine .inr ⟨ew, fun M' F => ?_⟩
    rcases t_odds D hc y (nI 0) F with ⟨h6, -, -⟩ | ⟨-, h6⟩
    · exact absurd h6 h1
    · exact h6
theorem op_best (x y : Int32) (b : Bool) (T : Nat) : Same (f_X9_best x y (nI b.toNat)) (f_X10_best x y (nI b.toNat)) T T := by
  intro M I0
  obtain ⟨g, tl, I, h⟩ := id I0
  unfold f_X9_best f_X10_best
  rcases t_creeper I h x with ⟨e1, e2⟩ | ⟨G, Q, mk, Qm, c, D, hc, rfl, e1, e2⟩
  · refine ⟨(-1 : Int32), mset M 0 11 (nI 1), mset (gdM (mset M 0 11 (nI 1))) 81 11 (nI 1), ?_, ?_, I0.no (Fr.rfl' M) (by omega)⟩
    · rw [e1]; rfl
    · rw [r_good, bvs, why1 (e2 _ (fg M _))]; rfl
  · have h5 := D.W.long
    rcases t_place I D hc y with ⟨a, ha, rfl, ew, er⟩ | ⟨ew, er⟩
    · refine ⟨(nI (Bs G c a b (En G (G 92)))), mset M 0 11 (nI 0), gdM (mset M 0 11 (nI 0)), ?_, ?_, I0.yes (Fr.rfl' M)⟩
      · rw [e1, bds, if_neg (by decide), ew, bds, if_neg (by decide), I.h8, bgv I.gg, c_bestStand D.C D.W b hc (by omega)]
        rfl
      · rw [r_good, bvs, er _ (fg M _), bds, if_pos (by decide), r_bestOf (D.fr (fg M _)).R D.W b hc (by omega)]
        rfl
    · refine ⟨(-1 : Int32), mset M 0 11 (nI 2), mset (gdM (mset M 0 11 (nI 2))) 81 11 (nI 2), ?_, ?_, I0.no (Fr.rfl' M) (by omega)⟩
      · rw [e1, bds, if_neg (by decide), ew]; rfl
      · rw [r_good, bvs, er _ (fg M _)]; rfl
theorem op_worth (x y : Int32) (T : Nat) : Same (f_X9_worth x y) (f_X10_worth x y) T T := by
  intro M I0
  obtain ⟨g, tl, I, h⟩ := id I0
  unfold f_X9_worth f_X10_worth
  rcases t_creeper I h x with ⟨e1, e2⟩ | ⟨G, Q, mk, Qm, c, D, hc, rfl, e1, e2⟩
  · refine ⟨((-1 : Int32).toInt64), mset M 0 11 (nI 1), mset (gdM (mset M 0 11 (nI 1))) 81 11 (nI 1), ?_, ?_, I0.no (Fr.rfl' M) (by omega)⟩
    · rw [e1]; rfl
    · rw [r_good, bvs, why1 (e2 _ (fg M _))]; rfl
  · have h5 := D.W.long
    rcases t_place I D hc y with ⟨a, ha, rfl, ew, er⟩ | ⟨ew, er⟩
    · have h3 := En_le D.W (Nat.le_refl _)
      have h4 := D.W.parts
      have b1 := Bs_le G c a true (En G (G 92))
      have b2 := Bs_le G c a false (En G (G 92))
      have C1 := (D.fr (fa M (nI 0))).C
      have R1 := (D.fr (fg M (nI 0))).R
      have k1 := c_bestStand C1 D.W true hc (show a ≤ G 0 by omega)
      have k2 := c_bestStand C1 D.W false hc (show a ≤ G 0 by omega)
      have k3 := c_gained C1 D.W (x := Bs G c a true (En G (G 92))) true hc (show a ≤ G 0 by omega) (by omega)
      have k4 := c_gained C1 D.W (x := Bs G c a false (En G (G 92))) false hc (show a ≤ G 0 by omega) (by omega)
      have j1 := r_bestOf R1 D.W true hc (show a ≤ G 0 by omega)
      have j2 := r_bestOf R1 D.W false hc (show a ≤ G 0 by omega)
      have j3 := r_gains R1 D.W (x := Bs G c a true (En G (G 92))) true hc (show a ≤ G 0 by omega) (by omega)
      have j4 := r_gains R1 D.W (x := Bs G c a false (En G (G 92))) false hc (show a ≤ G 0 by omega) (by omega)
      simp only [Bool.toNat_true, Bool.toNat_false] at k1 k2 k3 k4 j1 j2 j3 j4
      refine ⟨(lI (Gs G c a (Bs G c a true (En G (G 92))) true) - lI (Gs G c a (Bs G c a false (En G (G 92))) false)), mset M 0 11 (nI 0), gdM (mset M 0 11 (nI 0)), ?_, ?_, I0.yes (Fr.rfl' M)⟩
      · rw [e1, bds, if_neg (by decide), ew, bds, if_neg (by decide), told, I.h8, bgv I.gg, k1, bds, told, I.h8, bgv I.gg, k2, bds, told, I.h8, bgv I.gg, k3, bds, told, I.h8, bgv I.gg, k4]
        rfl
      · rw [r_good, bvs, er _ (fg M _), bds, if_pos (by decide), j1, bds, j3, bds, j2, bds, j4]
        rfl
    · refine ⟨((-1 : Int32).toInt64), mset M 0 11 (nI 2), mset (gdM (mset M 0 11 (nI 2))) 81 11 (nI 2), ?_, ?_, I0.no (Fr.rfl' M) (by omega)⟩
      · rw [e1, bds, if_neg (by decide), ew]; rfl
      · rw [r_good, bvs, er _ (fg M _)]; rfl
theorem nI_back (a b : Nat) : nI a - nI b + nI b = nI a := Int32.sub_add_cancel _ _
theorem op_rests (x y : Int32) (T : Nat) : Same (f_X9_rests x y) (f_X10_rests x y) T T := by
  intro M I0
  obtain ⟨g, tl, I, h⟩ := id I0
  unfold f_X9_rests f_X10_rests
  rcases t_creeper I h x with ⟨e1, e2⟩ | ⟨G, Q, mk, Qm, c, D, hc, rfl, e1, e2⟩
  · refine ⟨(-1 : Int32), mset M 0 11 (nI 1), mset (gdM (mset M 0 11 (nI 1))) 81 11 (nI 1), ?_, ?_, I0.no (Fr.rfl' M) (by omega)⟩
    · rw [e1]; rfl
    · rw [r_good, bvs, why1 (e2 _ (fg M _))]; rfl
  · have h5 := D.W.long
    rcases t_place I D hc y with ⟨a, ha, rfl, ew, er⟩ | ⟨ew, er⟩
    · obtain ⟨n, hn, k1, k2⟩ := rst_count D.C (D.fr (fg M (nI 0))).R D.W hc (show a ≤ G 0 by omega)
      refine ⟨(nI n), mset M 0 11 (nI 0), gdM (mset M 0 11 (nI 0)), ?_, ?_, I0.yes (Fr.rfl' M)⟩
      · rw [e1, bds, if_neg (by decide), ew, bds, if_neg (by decide), I.h8, bgv I.gg, k2]
        rfl
      · rw [r_good, bvs, er _ (fg M _), bds, if_pos (by decide), k1, bds, nI_back]
    · refine ⟨(-1 : Int32), mset M 0 11 (nI 2), mset (gdM (mset M 0 11 (nI 2))) 81 11 (nI 2), ?_, ?_, I0.no (Fr.rfl' M) (by omega)⟩
      · rw [e1, bds, if_neg (by decide), ew]; rfl
      · rw [r_good, bvs, er _ (fg M _)]; rfl
theorem neg_1000 {n : Nat} (h : n < 100) : ¬ (0 ≤ nI n - nI 1000) := by
  intro z
  have h1 : (nI n - nI 1000).toInt = (n : Int) - (1000 : Nat) := nsubI (by omega) (by omega)
  have h2 := Int32.le_iff_toInt_le.mp z
  have h3 : (0 : Int32).toInt = 0 := by decide
  omega
theorem op_rest (x y z : Int32) (T : Nat) : Same (f_X9_rest x y z) (f_X10_rest x y z) T T := by
  intro M I0
  obtain ⟨g, tl, I, h⟩ := id I0
  unfold f_X9_rest f_X10_rest
  rcases t_creeper I h x with ⟨e1, e2⟩ | ⟨G, Q, mk, Qm, c, D, hc, rfl, e1, e2⟩
  · refine ⟨(-1 : Int32), mset M 0 11 (nI 1), mset (gdM (mset M 0 11 (nI 1))) 81 11 (nI 1), ?_, ?_, I0.no (Fr.rfl' M) (by omega)⟩
    · rw [e1]; rfl
    · rw [r_good, bvs, why1 (e2 _ (fg M _))]; rfl
  · have h5 := D.W.long
    rcases t_place I D hc y with ⟨a, ha, rfl, ew, er⟩ | ⟨ew, er⟩
    · rcases rst_at D.C (D.fr (fg M (nI 1))).R D.W hc (show a ≤ G 0 by omega) z with ⟨n, m, hn, hm, rfl, k1, k2⟩ | ⟨n, hn, k1, k2, -⟩
      · rcases rst_at D.C (D.fr (fg M (nI 0))).R D.W hc (show a ≤ G 0 by omega) (nI m) with ⟨n', m', hn', hm', hmm, j1, j2⟩ | ⟨n', hn', j1, j2, -⟩
        · have e : nI n = nI n' := congrArg Prod.fst (Option.some.inj (k1.symm.trans j1))
          refine ⟨(nI n), mset M 0 11 (nI 0), gdM (mset M 0 11 (nI 0)), ?_, ?_, I0.yes (Fr.rfl' M)⟩
          · rw [e1, bds, if_neg (by decide), ew, bds, if_neg (by decide), I.h8, bgv I.gg, k1, bds, if_neg (Ne.symm (nneg (by omega)))]
            rfl
          · rw [r_good, bvs, er _ (fg M _), bds, if_pos (by decide)]
            simp only [jns]
            rw [if_pos (nI_pos' (by omega)), j2, bds, if_pos (nI_pos' (by omega)), e]
        · have e : nI n = -1 := congrArg Prod.fst (Option.some.inj (k1.symm.trans j1))
          exact absurd e.symm (nneg (by omega))
      · refine ⟨(-1 : Int32), mset M 0 11 (nI 1), mset (gdM (mset M 0 11 (nI 1))) 81 11 (nI 1), ?_, ?_, I0.no (Fr.rfl' M) (by omega)⟩
        · rw [e1, bds, if_neg (by decide), ew, bds, if_neg (by decide), I.h8, bgv I.gg, k1, bds, if_pos (by decide)]
          rfl
        · rw [r_good, bvs, er _ (fg M _), bds, if_pos (by decide)]
          simp only [jns]
          by_cases hz : 0 ≤ z
          · rw [if_pos hz, k2, bds, if_neg (neg_1000 hn)]; rfl
          · rw [if_neg hz, if_neg (by decide)]; rfl
    · refine ⟨(-1 : Int32), mset M 0 11 (nI 2), mset (gdM (mset M 0 11 (nI 2))) 81 11 (nI 2), ?_, ?_, I0.no (Fr.rfl' M) (by omega)⟩
      · rw [e1, bds, if_neg (by decide), ew]; rfl
      · rw [r_good, bvs, er _ (fg M _)]; rfl
theorem op_behind (x : Int32) (T : Nat) : Same (f_X9_behind x) (f_X10_behind x) T T := by
  intro M I0
  obtain ⟨g, tl, I, h⟩ := id I0
  unfold f_X9_behind f_X10_behind
  simp only [jns]
  rcases h with N | ⟨G, Q, mk, Qm, D⟩
  · refine ⟨((-1 : Int32).toInt64), mset M 0 11 (nI 1), mset (gdM (mset M 0 11 (nI 1))) 81 11 (nI 1), ?_, ?_, I0.no (Fr.rfl' M) (by omega)⟩
    · rw [I.h8, bgv I.gg, N.z 9 (by omega) (by omega)]
      by_cases c : x < 0
      · rw [if_pos c]; rfl
      · rw [if_neg c, if_neg (show ¬ x < nI 0 from c)]; rfl
    · rw [r_good, bvs, if_pos (show gdM (mset M 0 11 (nI 1)) 81 14 = 0 from (N.fr I.gg (fg M _)).hg)]
      rfl
  · have h4 := D.W.parts
    have hr := fun v => r_withinI (M := gdM (mset M 0 11 v)) x (show 0 < 2 ^ 31 by decide) (show G 92 - 1 < 2 ^ 31 by omega)
    have hp : ∀ v, gdM (mset M 0 11 v) 84 92 - nI 1 = nI (G 92 - 1) := fun v => by rw [(D.fr (fg M v)).R 92 (by decide), nsub (by omega)]
    have hgm : ∀ v, ¬ gdM (mset M 0 11 v) 81 14 = 0 := fun v => by rw [(D.fr (fg M v)).hg]; decide
    by_cases hx : ∃ p, p < G 92 ∧ x = nI p
    · obtain ⟨p, hp2, rfl⟩ := hx
      refine ⟨(lI (Fw G p : Nat)), mset M 0 11 (nI 0), gdM (mset M 0 11 (nI 0)), ?_, ?_, I0.yes (Fr.rfl' M)⟩
      · rw [if_neg (by rw [nlt0 (by omega)]; exact id), I.h8, bgv I.gg, D.C.f9, if_pos (by rw [nlt (by omega) (by omega)]; exact hp2), told, I.h8, bgv I.gg, c_toTurn (D.fr (fa M _)).C D.W hp2]
        rfl
      · rw [r_good, bvs, if_neg (hgm _), hp]
        rcases hr (nI 0) with ⟨-, h6⟩ | ⟨h6, -⟩
        · rw [h6, bds, if_neg (by decide), r_first (D.fr (fg M _)).R D.W hp2]
          rfl
        · exact absurd ⟨p, by omega, by omega, rfl⟩ h6
    · refine ⟨((-1 : Int32).toInt64), mset M 0 11 (nI 1), mset (gdM (mset M 0 11 (nI 1))) 81 11 (nI 1), ?_, ?_, I0.no (Fr.rfl' M) (by omega)⟩
      · by_cases c : x < 0
        · rw [if_pos c]; rfl
        · rw [if_neg c, I.h8, bgv I.gg, D.C.f9]
          rcases i32 x with h7 | ⟨v, hv, rfl⟩
          · exact absurd h7 c
          · rw [if_neg (by rw [nlt hv (by omega)]; exact fun z => hx ⟨v, z, rfl⟩)]
            rfl
      · rw [r_good, bvs, if_neg (hgm _), hp]
        rcases hr (nI 1) with ⟨⟨p, h6, h7, h8⟩, -⟩ | ⟨-, h6⟩
        · exact absurd ⟨p, by omega, h8⟩ hx
        · rw [h6]; rfl
theorem op_ways (T : Nat) : Same f_X9_ways f_X10_ways T T := by
  intro M I0
  obtain ⟨g, tl, I, h⟩ := id I0
  unfold f_X9_ways f_X10_ways
  rcases t_game I h with ⟨e1, e2⟩ | ⟨G, Q, mk, Qm, D, e1, e2⟩
  · refine ⟨((-1 : Int32).toInt64), mset M 0 11 (nI 1), mset (gdM (mset M 0 11 (nI 1))) 81 11 (nI 1), ?_, ?_, I0.no (Fr.rfl' M) (by omega)⟩
    · rw [e1]; rfl
    · rw [r_good, bvs, if_pos (e2 _ (fg M _))]; rfl
  · refine ⟨(lI (Un G 0 : Nat)), mset M 0 11 (nI 0), gdM (mset M 0 11 (nI 0)), ?_, ?_, I0.yes (Fr.rfl' M)⟩
    · rw [e1, bds, if_neg (by decide), told, I.h8, bgv I.gg]
      unfold f_X2_allWays
      rw [c_unturned (D.fr (fa M _)).C D.W (show 0 < 1000 by decide)]
      rfl
    · rw [r_good, bvs, if_neg (by rw [e2 _ (fg M _)]; decide), r_allWays (D.fr (fg M _)).R D.W]
      rfl
theorem op_both (x : Int32) (T : Nat) : Same (f_X9_both x) (f_X10_both x) T T := by
  intro M I0
  obtain ⟨g, tl, I, h⟩ := id I0
  unfold f_X9_both f_X10_both
  rcases t_game I h with ⟨e1, e2⟩ | ⟨G, Q, mk, Qm, D, e1, e2⟩
  · refine ⟨((-1 : Int32).toInt64), mset M 0 11 (nI 1), mset (gdM (mset M 0 11 (nI 1))) 81 11 (nI 1), ?_, ?_, I0.no (Fr.rfl' M) (by omega)⟩
    · rw [e1]; rfl
    · rw [r_good, bvs, if_pos (e2 _ (fg M _))]; rfl
  · have h4 := D.W.parts
    have hr := fun v => r_withinI (M := gdM (mset M 0 11 v)) x (show 0 < 2 ^ 31 by decide) (show G 92 < 2 ^ 31 by omega)
    have hp : ∀ v, gdM (mset M 0 11 v) 84 92 = nI (G 92) := fun v => by rw [(D.fr (fg M v)).R 92 (by decide)]
    have hgm : ∀ v, ¬ gdM (mset M 0 11 v) 81 14 = 0 := fun v => by rw [(D.fr (fg M v)).hg]; decide
    by_cases hx : ∃ p, p ≤ G 92 ∧ x = nI p
    · obtain ⟨p, hp2, rfl⟩ := hx
      refine ⟨(lI (Un G p : Nat) * lI (Un G p : Nat)), mset M 0 11 (nI 0), gdM (mset M 0 11 (nI 0)), ?_, ?_, I0.yes (Fr.rfl' M)⟩
      · rw [e1, bds, if_neg (by decide)]
        simp only [jns]
        rw [if_neg (by rw [nlt0 (by omega)]; exact id), I.h8, bgv I.gg, D.C.f9, if_pos (by rw [nle (by omega) (by omega)]; exact hp2), told, I.h8, bgv I.gg, c_unturned (D.fr (fa M _)).C D.W (show p < 1000 by omega)]
        rfl
      · rw [r_good, bvs, if_neg (hgm _), hp]
        rcases hr (nI 0) with ⟨-, h6⟩ | ⟨h6, -⟩
        · rw [h6, bds, if_neg (by decide)]
          simp only [jns]
          by_cases c : p = G 92
          · rw [if_pos (by rw [c, hp]), l0, r_both (D.fr (fg M _)).R D.W (by omega), Nat.zero_mul]
            unfold Un
            rw [if_neg (by omega)]
          · rw [if_neg (by rw [hp, neq (by omega) (by omega)]; exact c), l1, r_both (D.fr (fg M _)).R D.W (by omega), Nat.one_mul]
            unfold Un
            rw [if_pos (by omega)]
        · exact absurd ⟨p, by omega, by omega, rfl⟩ h6
    · refine ⟨((-1 : Int32).toInt64), mset M 0 11 (nI 2), mset (gdM (mset M 0 11 (nI 2))) 81 11 (nI 2), ?_, ?_, I0.no (Fr.rfl' M) (by omega)⟩
      · rw [e1, bds, if_neg (by decide)]
        simp only [jns]
        by_cases c : x < 0
        · rw [if_pos c]; rfl
        · rw [if_neg c, I.h8, bgv I.gg, D.C.f9]
          rcases i32 x with h7 | ⟨v, hv, rfl⟩
          · exact absurd h7 c
          · rw [if_neg (by rw [nle hv (by omega)]; exact fun z => hx ⟨v, z, rfl⟩)]
            rfl
      · rw [r_good, bvs, if_neg (hgm _), hp]
        rcases hr (nI 2) with ⟨⟨p, h6, h7, h8⟩, -⟩ | ⟨-, h6⟩
        · exact absurd ⟨p, by omega, h8⟩ hx
        · rw [h6]; rfl
theorem op_watch (T : Nat) : Same f_X9_watch f_X10_watch T T := by
  intro M I0
  obtain ⟨g, tl, I, h⟩ := id I0
  unfold f_X9_watch f_X10_watch
  rcases t_game I h with ⟨e1, e2⟩ | ⟨G, Q, mk, Qm, D, e1, e2⟩
  · refine ⟨(-1 : Int32), mset M 0 11 (nI 1), mset (gdM (mset M 0 11 (nI 1))) 81 11 (nI 1), ?_, ?_, I0.no (Fr.rfl' M) (by omega)⟩
    · rw [e1]; rfl
    · rw [r_good, bvs, if_pos (e2 _ (fg M _))]; rfl
  · have h4 := D.W.creepers
    have h5 := D.W.looks
    have h6 := D.W.eye
    have h7 : G 3 / G 4 < 100 := dle (by omega)
    have D2 := D.fr (fg M (nI 0))
    have hat : ∀ c, c < G 95 → Q.at_ c ≤ G 0 := fun c hc => by
      rcases D.qw.st with ⟨_, _, z⟩ | ⟨_, _, _, _, _, z⟩
      · exact Nat.le_of_lt (z c hc)
      · exact z c hc
    obtain ⟨b, hb, hw⟩ := watch_eq D.W Q.at_ (many := min (G 3 / G 4) (G 95)) (Nat.min_le_right _ _)
    have k1 := c_watched (p := 20) D.C D.W (at' := Q.at_) rfl (fun c hc => ⟨D.K.at_ c hc, hat c hc⟩)
    have k2 := r_watched D2.R D.W (at' := Q.at_) (fun c hc => ⟨D2.H.at_ c hc, hat c hc⟩) (many := min (G 3 / G 4) (G 95)) (by omega)
    rw [hw] at k1 k2
    refine ⟨(nI b), mset M 0 11 (nI 0), gdM (mset M 0 11 (nI 0)), ?_, ?_, I0.yes (Fr.rfl' M)⟩
    · rw [e1, bds, if_neg (by decide), I.h8, bgv I.gg, k1]
      rfl
    · rw [r_good, bvs, if_neg (by rw [e2 _ (fg M _)]; decide), D2.R 4 (by decide), D2.R 3 (by decide), D2.R 95 (by decide), gdn (by omega) (by omega), ndiv (by omega) (by omega) (by omega), r_less (by omega) (by omega), bds, Nat.min_comm]
      exact k2
