/-! HOME, FAR, LOUD. -/
theorem op_home (x y : Int32) (T : Nat) : Same (f_X9_home x y) (f_X10_home x y) T T := by
  intro M I0
  obtain ⟨g, tl, I, h⟩ := id I0
  unfold f_X9_home f_X10_home
  simp only [jns]
  rcases t_creeper I h x with ⟨e1, e2⟩ | ⟨G, Q, mk, Qm, c, D, hc, rfl, e1, e2⟩
  · refine ⟨(-1 : Int32), mset M 0 11 (nI 1), mset (gdM (mset M 0 11 (nI 1))) 81 11 (nI 1), ?_, ?_, I0.no (Fr.rfl' M) (by omega)⟩
    · rw [e1]; rfl
    · rw [r_good, bvs, e2 _ (fg M _)]; rfl
  · have hcr := D.W.creepers
    have hlo := D.W.long
    have hp : ∀ v, gdM (mset M 0 11 v) 84 0 = nI (G 0) := fun v => (D.fr (fg M v)).R 0 (by decide)
    by_cases hy : ∃ a, a ≤ G 0 ∧ y = nI a
    · obtain ⟨a, ha, rfl⟩ := hy
      have k1 := c_isCaught D.C D.W hc (show a ≤ 40 by omega)
      have k2 := r_isCaught (D.fr (fg M (nI 0))).R D.W hc (show a ≤ 40 by omega)
      refine ⟨nI (Ct G c a).toNat, mset M 0 11 (nI 0), gdM (mset M 0 11 (nI 0)), ?_, ?_, I0.yes (Fr.rfl' M)⟩
      · rw [e1, bds, if_neg (by decide), if_neg (by rw [nlt0 (by omega)]; exact id), I.h8, bgv I.gg, D.C.f6, if_pos (by rw [nle (by omega) (by omega)]; exact ha), bgv I.gg, k1, bds]
        cases Ct G c a
        · rw [if_pos (by decide)]; rfl
        · rw [if_neg (by decide)]; rfl
      · rw [r_good, bvs, e2 _ (fg M _), bds, if_neg (by decide), hp, r_w6 (by omega) ha, bds, if_neg (by decide), k2, bds]
        cases Ct G c a
        · rw [if_pos (by decide)]; rfl
        · rw [if_neg (by decide)]; rfl
    · refine ⟨(-1 : Int32), mset M 0 11 (nI 2), mset (gdM (mset M 0 11 (nI 2))) 81 11 (nI 2), ?_, ?_, I0.no (Fr.rfl' M) (by omega)⟩
      · rw [e1, bds, if_neg (by decide)]
        by_cases c1 : y < 0
        · rw [if_pos c1]; rfl
        · rw [if_neg c1, I.h8, bgv I.gg, D.C.f6]
          rcases i32 y with h7 | ⟨v, hv, rfl⟩
          · exact absurd h7 c1
          · rw [if_neg (by rw [nle hv (by omega)]; exact fun z => hy ⟨v, z, rfl⟩)]
            rfl
      · rw [r_good, bvs, e2 _ (fg M _), bds, if_neg (by decide), hp, r_w5 (by omega) hy]
        rfl
/-- the greatest place up to p from which it isn't caught -/
def Fa (G : Nat → Nat) (c : Nat) : Nat → Nat
  | 0 => 0
  | p + 1 => if Ct G c (p + 1) then Fa G c p else p + 1
theorem Ct0 (G : Nat → Nat) (c : Nat) : Ct G c 0 = false := by
  unfold Ct
  rw [Nat.zero_mul]
  exact decide_eq_false (by omega)
theorem op_far (x : Int32) (T : Nat) : Same (f_X9_far x) (f_X10_far x) T T := by
  intro M I0
  obtain ⟨g, tl, I, h⟩ := id I0
  unfold f_X9_far f_X10_far
  rcases t_creeper I h x with ⟨e1, e2⟩ | ⟨G, Q, mk, Qm, c, D, hc, rfl, e1, e2⟩
  · refine ⟨(-1 : Int32), mset M 0 11 (nI 1), mset (gdM (mset M 0 11 (nI 1))) 81 11 (nI 1), ?_, ?_, I0.no (Fr.rfl' M) (by omega)⟩
    · rw [e1]; rfl
    · rw [r_good, bvs, e2 _ (fg M _)]; rfl
  · have hcr := D.W.creepers
    have hlo := D.W.long
    have R2 := (D.fr (fg M (nI 0))).R
    have cl : ∀ p f (k : Int32 → Mm → Option (Int32 × Mm)), p ≤ 40 → p < f → lp_X9_far_22 (nI c) k f (nI p) M = k (nI (Fa G c p)) M := by
      intro p
      induction p with
      | zero =>
        intro f k hp hf
        obtain ⟨f, rfl⟩ : ∃ g, f = g + 1 := ⟨f - 1, by omega⟩
        rw [lp_X9_far_22, if_pos (by decide)]
        rfl
      | succ p ih =>
        intro f k hp hf
        obtain ⟨f, rfl⟩ : ∃ g, f = g + 1 := ⟨f - 1, by omega⟩
        have k1 := c_isCaught D.C D.W hc hp
        rw [lp_X9_far_22, if_neg (by rw [nle0 (by omega)]; omega), I.h8, bgv I.gg, k1, bds, Fa]
        cases Ct G c (p + 1)
        · rw [if_pos (by decide)]; rfl
        · rw [if_neg (by decide), nI_dec (by omega)]
          exact ih f k (by omega) (by omega)
    have re : ∀ p f, p ≤ 40 → p < f → lp_X10_far_25 (nI c) f (nI p) (gdM (mset M 0 11 (nI 0))) = some (nI (Fa G c p), gdM (mset M 0 11 (nI 0))) := by
      intro p
      induction p with
      | zero =>
        intro f hp hf
        obtain ⟨f, rfl⟩ : ∃ g, f = g + 1 := ⟨f - 1, by omega⟩
        have k1 := r_isCaught R2 D.W hc hp
        rw [Ct0] at k1
        rw [lp_X10_far_25, k1, bds, if_pos (by decide)]
        rfl
      | succ p ih =>
        intro f hp hf
        obtain ⟨f, rfl⟩ : ∃ g, f = g + 1 := ⟨f - 1, by omega⟩
        have k1 := r_isCaught R2 D.W hc hp
        rw [lp_X10_far_25, k1, bds, Fa]
        cases Ct G c (p + 1)
        · rw [if_pos (by decide)]; rfl
        · rw [if_neg (by decide), nI_dec (by omega)]
          exact ih f (by omega) (by omega)
    refine ⟨nI (Fa G c (G 0)), mset M 0 11 (nI 0), gdM (mset M 0 11 (nI 0)), ?_, ?_, I0.yes (Fr.rfl' M)⟩
    · rw [e1, bds, if_neg (by decide), I.h8, bgv I.gg, D.C.f6, cl _ _ _ (by omega) (by unfold N0; omega)]
      rfl
    · rw [r_good, bvs, e2 _ (fg M _), bds, if_neg (by decide), R2 0 (by decide), re _ _ (by omega) (by unfold N0; omega)]
theorem op_loud (x y : Int32) (T : Nat) : Same (f_X9_loud x y) (f_X10_loud x y) T T := by
  intro M I0
  obtain ⟨g, tl, I, h⟩ := id I0
  unfold f_X9_loud f_X10_loud
  simp only [jns]
  rcases h with N | ⟨G, Q, mk, Qm, D⟩
  · refine ⟨(-1 : Int32), mset M 0 11 (nI 1), mset (gdM (mset M 0 11 (nI 1))) 81 11 (nI 1), ?_, ?_, I0.no (Fr.rfl' M) (by omega)⟩
    · rw [I.h8, bgv I.gg, N.z 7 (by omega) (by omega)]
      by_cases c : x < 0
      · rw [if_pos c]; rfl
      · rw [if_neg c, if_pos (show nI 0 ≤ x from Int32.not_lt.mp c)]; rfl
    · rw [r_good, bvs, if_pos (show gdM (mset M 0 11 (nI 1)) 81 14 = 0 from (N.fr I.gg (fg M _)).hg)]
      rfl
  · have hla := D.W.lanes
    have hlo := D.W.long
    have hgm : ∀ v, ¬ gdM (mset M 0 11 v) 81 14 = 0 := fun v => by rw [(D.fr (fg M v)).hg]; decide
    have hp : ∀ v, gdM (mset M 0 11 v) 84 1 - nI 1 = nI (G 1 - 1) := fun v => by rw [(D.fr (fg M v)).R 1 (by decide), nsub (by omega)]
    have hq : ∀ v, gdM (mset M 0 11 v) 84 0 = nI (G 0) := fun v => (D.fr (fg M v)).R 0 (by decide)
    have hy0 := fun v => r_withinI (M := gdM (mset M 0 11 v)) y (show 1 < 2 ^ 31 by decide) (show G 0 < 2 ^ 31 by omega)
    rw [I.h8, bgv I.gg, bgv I.gg, bgv I.gg, D.C.f7, D.C.f6]
    by_cases hx : ∃ l, l < G 1 ∧ x = nI l
    · obtain ⟨l, hl, rfl⟩ := hx
      have wx : ∀ v, f_X10_within (nI l) (nI 0) (nI (G 1 - 1)) (gdM (mset M 0 11 v)) = some (nI 1, gdM (mset M 0 11 v)) := fun v => r_w6 (by omega) (by omega) _
      have cx : ¬ nI l < 0 := by rw [nlt0 (by omega)]; exact id
      have cx2 : ¬ nI (G 1) ≤ nI l := by rw [nle (by omega) (by omega)]; omega
      by_cases hy : inr y 1 (G 0)
      · obtain ⟨e, he1, he, rfl⟩ := hy
        refine ⟨nI (Ld G l e), mset M 0 11 (nI 0), gdM (mset M 0 11 (nI 0)), ?_, ?_, I0.yes (Fr.rfl' M)⟩
        · rw [if_neg cx, if_neg cx2, if_neg (by rw [nlt (by omega) (by omega)]; omega), if_pos (by rw [nle (by omega) (by omega)]; exact he), c_loud D.C D.W (by omega) (by omega)]
          rfl
        · rw [r_good, bvs, if_neg (hgm _), hp, wx, bds, if_neg (by decide), hq]
          rcases hy0 (nI 0) with ⟨-, h6⟩ | ⟨h6, -⟩
          · rw [h6, bds, if_neg (by decide), r_loudest (D.fr (fg M _)).R D.W (by omega) (by omega)]
            rfl
          · exact absurd ⟨e, he1, he, rfl⟩ h6
      · refine ⟨(-1 : Int32), mset M 0 11 (nI 1), mset (gdM (mset M 0 11 (nI 1))) 81 11 (nI 1), ?_, ?_, I0.no (Fr.rfl' M) (by omega)⟩
        · rw [if_neg cx, if_neg cx2]
          by_cases c1 : y < nI 1
          · rw [if_pos c1]; rfl
          · rw [if_neg c1]
            rcases i32 y with h7 | ⟨v, hv, rfl⟩
            · exact absurd (Int32.lt_of_lt_of_le h7 (by decide : (0 : Int32) ≤ nI 1)) c1
            · rw [nlt hv (by omega)] at c1
              rw [if_neg (by rw [nle hv (by omega)]; exact fun z => hy ⟨v, by omega, z, rfl⟩)]
              rfl
        · rw [r_good, bvs, if_neg (hgm _), hp, wx, bds, if_neg (by decide), hq]
          rcases hy0 (nI 1) with ⟨h6, -⟩ | ⟨-, h6⟩
          · exact absurd h6 hy
          · rw [h6]; rfl
    · refine ⟨(-1 : Int32), mset M 0 11 (nI 1), mset (gdM (mset M 0 11 (nI 1))) 81 11 (nI 1), ?_, ?_, I0.no (Fr.rfl' M) (by omega)⟩
      · by_cases c : x < 0
        · rw [if_pos c]; rfl
        · rw [if_neg c]
          rcases i32 x with h7 | ⟨v, hv, rfl⟩
          · exact absurd h7 c
          · rw [if_pos (by rw [nle (by omega) hv]; exact Nat.le_of_not_lt fun z => hx ⟨v, z, rfl⟩)]
            rfl
      · rw [r_good, bvs, if_neg (hgm _), hp, r_w5 (by omega) (fun ⟨v, h1, h2⟩ => hx ⟨v, by omega, h2⟩)]
        rfl
