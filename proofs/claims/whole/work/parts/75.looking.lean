/-! LOOKING: at how many he had best look. -/
/-- the best and its touches, of the first i, from z -/
def Lb (G : Nat → Nat) (most s n z : Nat) : Nat → Nat × Nat
  | 0 => (0, z)
  | i + 1 => if To G i most s n < (Lb G most s n z i).2 then (i, To G i most s n) else Lb G most s n z i
theorem To_le (G : Nat → Nat) (m most s n : Nat) : To G m most s n ≤ n := by
  have := Sm_le (f := fun i => if (Pt G m most s i).touch < 0 then 0 else 1) (b := 1) (n := n) (fun k _ => by split <;> omega)
  unfold To
  omega
theorem Lb_z (G : Nat → Nat) (most s n : Nat) {z z' : Nat} (h : n < z) (h' : n < z') : ∀ i, Lb G most s n z (i + 1) = Lb G most s n z' (i + 1)
  | 0 => by
    have := To_le G 0 most s n
    rw [Lb, Lb, Lb, Lb, if_pos (by show _ < z; omega), if_pos (by show _ < z'; omega)]
  | i + 1 => by
    rw [Lb, Lb_z G most s n h h' i, ← Lb]
theorem Lb_le (G : Nat → Nat) (most s n : Nat) {z : Nat} (hz : n < z) : ∀ i, (Lb G most s n z i).1 ≤ i ∧ (Lb G most s n z i).2 ≤ z
  | 0 => ⟨Nat.le_refl _, Nat.le_refl _⟩
  | i + 1 => by
    have h1 := Lb_le G most s n hz i
    have h2 := To_le G i most s n
    rw [Lb]
    split
    · exact ⟨by show i ≤ i + 1; omega, by show To G i most s n ≤ z; omega⟩
    · exact ⟨by omega, h1.2⟩
theorem c_lookingLoop {M0 : Mm} {G : Nat → Nat} {g most n : Nat} {Q : Pl} (C : CG M0 g G) (h8 : M0 0 8 = nI g) (W : GW G) (K : CP M0 20 G Q) (hs : Q.seed < 65537) (hmo : most < 1000) (hn : n ≤ 20) (k : Int32 → Mm → Option (Int32 × Mm)) :
    ∃ M', lp_X9_looking_36 (nI n) (nI most) k N0 (nI 0) (nI 21) (nI 0) M0 = k (nI (Lb G most Q.seed n 21 (G 95 + 1)).1) M' ∧ ∀ a, a < 61 ∨ 72 < a → M' a = M0 a := by
  have hcr := W.creepers
  refine lpM (fun f i M => lp_X9_looking_36 (nI n) (nI most) k f (nI (Lb G most Q.seed n 21 i).1) (nI (Lb G most Q.seed n 21 i).2) (nI i) M) (G 95 + 1) (fun i M => ∀ a, a < 61 ∨ 72 < a → M a = M0 a) (k (nI (Lb G most Q.seed n 21 (G 95 + 1)).1)) (by omega) (fun f i M hi T => ?_) (fun f M T => ?_) M0 (fun _ _ => rfl)
  · have C' : CG M g G := C.cong2 (fun a h1 h2 => T a (by omega))
    have h8' : M 0 8 = nI g := by rw [T 0 (by omega)]; exact h8
    have K' : CP M 20 G Q := K.cong7 (fun a h1 h2 => T a (by omega))
    obtain ⟨M1, a1, f1, g2, -⟩ := c_run (m := i) (n := n) (most := most) C' W (by omega) hmo hn hs
    refine ⟨M1, ?_, fun a ha => by rw [f1 a ha, T a ha]⟩
    have hb := Lb_le G most Q.seed n (z := 21) (by omega) i
    have ht := To_le G i most Q.seed n
    rw [lp_X9_looking_36, h8', bgv C'.hg, C'.f14, if_neg (by rw [nlt (by omega) (by omega)]; omega), bgv C'.hg, K'.seed, a1, bvs, g2]
    simp only [jns]
    rw [Lb]
    by_cases c : To G i most Q.seed n < (Lb G most Q.seed n 21 i).2
    · rw [if_neg (by rw [nle (by omega) (by omega)]; omega), if_pos c, nadd]
    · rw [if_pos (by rw [nle (by omega) (by omega)]; omega), if_neg c, nadd]
  · have C' : CG M g G := C.cong2 (fun a h1 h2 => T a (by omega))
    have h8' : M 0 8 = nI g := by rw [T 0 (by omega)]; exact h8
    rw [lp_X9_looking_36, h8', bgv C'.hg, C'.f14, if_pos (by rw [nlt (by omega) (by omega)]; omega)]
theorem r_touchLoop {M : Mm} {G : Nat → Nat} {m most s n : Nat} (hn : n ≤ 20) (h : ∀ i, i < n → M 94 i = (Pt G m most s i).touch) {y2 y4 y5 y6 : Int32} (k : Int32 → Mm → Option (Int32 × Mm)) : lp_X10_looking_62 (nI n) y2 y4 y5 y6 k N0 (nI 0) (nI 0) M = k (nI (To G m most s n)) M := by
  refine lp0 (fun f i => lp_X10_looking_62 (nI n) y2 y4 y5 y6 k f (nI (To G m most s i)) (nI i) M) n (by omega) (fun f i hi => ?_) (fun f => ?_)
  · have e : To G m most s (i + 1) = To G m most s i + if (Pt G m most s i).touch < 0 then 0 else 1 := rfl
    rw [lp_X10_looking_62, if_neg (by rw [nle (by omega) (by omega)]; omega), gdi (by omega) (by omega), nclamp (by omega), h i hi, e]
    simp only [jns]
    by_cases c1 : (Pt G m most s i).touch < 0
    · rw [if_pos c1, if_pos c1, nadd, nadd]
    · rw [if_neg c1, if_neg c1, nadd, nadd]
  · rw [lp_X10_looking_62, if_pos (Int32.le_refl _)]
theorem r_lookingLoop {M0 : Mm} {G : Nat → Nat} {most n : Nat} {Q : Pl} (R : RG M0 G) (W : GW G) (H : RP M0 G Q) (hs : Q.seed < 65537) (hmo : most < 1000) (hmo1 : 1 ≤ most) (hn : n ≤ 20) (k : Int32 → Mm → Option (Int32 × Mm)) :
    ∃ M', lp_X10_looking_32 (nI n) (nI most) k N0 (nI 0) (nI (n + 1)) (nI 0) M0 = k (nI (Lb G most Q.seed n (n + 1) (G 95 + 1)).1) M' ∧ (∀ a, a ≠ 81 → a ≠ 86 → a ≠ 87 → a ≠ 93 → a ≠ 94 → M' a = M0 a) ∧ (∀ k, k < 44 → M' 86 k = M0 86 k) ∧ (∀ k, k < 132 → M' 87 k = M0 87 k) ∧ (∀ k, k ≠ 20 → k ≠ 29 → k ≠ 30 → M' 81 k = M0 81 k) := by
  have hcr := W.creepers
  refine lpM (fun f i M => lp_X10_looking_32 (nI n) (nI most) k f (nI (Lb G most Q.seed n (n + 1) i).1) (nI (Lb G most Q.seed n (n + 1) i).2) (nI i) M) (G 95 + 1) (fun i M => (∀ a, a ≠ 81 → a ≠ 86 → a ≠ 87 → a ≠ 93 → a ≠ 94 → M a = M0 a) ∧ (∀ k, k < 44 → M 86 k = M0 86 k) ∧ (∀ k, k < 132 → M 87 k = M0 87 k) ∧ (∀ k, k ≠ 20 → k ≠ 29 → k ≠ 30 → M 81 k = M0 81 k)) (k (nI (Lb G most Q.seed n (n + 1) (G 95 + 1)).1)) (by omega) (fun f i M hi T => ?_) (fun f M T => ?_) M0 ⟨fun _ _ _ _ _ _ => rfl, fun _ _ => rfl, fun _ _ => rfl, fun _ _ _ _ => rfl⟩
  · obtain ⟨t1, t2, t3, t4⟩ := T
    have R' : RG (mset M 81 20 (nI i)) G := fun k hk => by rw [mset_off _ _ _ (by omega), t1 84 (by omega) (by omega) (by omega) (by omega) (by omega)]; exact R k hk
    have H' : RP (mset M 81 20 (nI i)) G Q := RP.cong W H (fun k hk => by rw [mset_off _ _ _ (by omega)]; exact t2 k hk)
    have he : Ey (mset M 81 20 (nI i)) G i := .inr ⟨ms1 _ _ _ _, by omega⟩
    obtain ⟨M2, a2, f2, s2, m2, r2, -, -, k4⟩ := r_plays R' W he H' hs (n := n) hmo hmo1 hn
    have hb := Lb_le G most Q.seed n (z := n + 1) (by omega) i
    have ht := To_le G i most Q.seed n
    refine ⟨M2, ?_, fun a h1 h2 h3 h4 h5 => ?_, fun k hk => ?_, fun k hk => ?_, fun k h1 h2 h3 => ?_⟩
    · rw [lp_X10_looking_32, t1 84 (by omega) (by omega) (by omega) (by omega) (by omega), R 95 (by decide), if_neg (by rw [nlt (by omega) (by omega)]; omega), a2, bvs, r_touchLoop hn k4]
      simp only [jns]
      rw [Lb]
      by_cases c : To G i most Q.seed n < (Lb G most Q.seed n (n + 1) i).2
      · rw [if_pos (by rw [nlt (by omega) (by omega)]; omega), if_pos c, nadd]
      · rw [if_neg (by rw [nlt (by omega) (by omega)]; omega), if_neg c, nadd]
    · rw [f2 a h1 h2 h3 h4 h5, mset_off _ _ _ h1, t1 a h1 h2 h3 h4 h5]
    · rw [s2 k hk, mset_off _ _ _ (by omega), t2 k hk]
    · rw [m2 k hk, mset_off _ _ _ (by omega), t3 k hk]
    · rw [r2 k h2 h3, ms3 _ _ h1, t4 k h1 h2 h3]
  · rw [lp_X10_looking_32, T.1 84 (by omega) (by omega) (by omega) (by omega) (by omega), R 95 (by decide), if_pos (by rw [nlt (by omega) (by omega)]; omega)]
theorem op_looking (x y : Int32) (T : Nat) : Same (f_X9_looking x y) (f_X10_looking x y) T T := by
  intro M I0
  obtain ⟨g, tl, I, h⟩ := id I0
  unfold f_X9_looking f_X10_looking
  rcases t_game I h with ⟨e1, e2⟩ | ⟨G, Q, mk, Qm, D, e1, e2⟩
  · refine ⟨(-1 : Int32), mset M 0 11 (nI 1), mset (gdM (mset M 0 11 (nI 1))) 81 11 (nI 1), ?_, ?_, I0.no (Fr.rfl' M) (by omega)⟩
    · rw [e1]; rfl
    · have hw : f_X10_playWhy x y (gdM (mset M 0 11 (nI 1))) = some (nI 1, gdM (mset M 0 11 (nI 1))) := by
        unfold f_X10_playWhy
        rw [if_pos (e2 _ (fg M _))]
      rw [r_good, bvs, hw]; rfl
  · rcases t_plays x y with ⟨n, most, h1, h2, h3, h4, rfl, rfl, h5, h6⟩ | ⟨h5, h6⟩
    · obtain ⟨M1, a1, f1⟩ := c_lookingLoop D.C I.h8 D.W D.K D.qw.seed (show most < 1000 by omega) h2 (fun (u15 : Int32) (M16 : Mm) => bd (f_X9_well u15 M16) fun v102_18 M102_17 => some (v102_18, M102_17))
      have F1 := fr_run f1
      have F3 : Fr M (gdM (mset M1 0 11 (nI 0))) := (F1.a _).g
      have D3 := D.fr F3
      obtain ⟨M2, a2, f2, s2, m2, r2⟩ := r_lookingLoop D3.R D.W D3.H D.qw.seed (show most < 1000 by omega) h3 h2 (fun (u20 : Int32) (M21 : Mm) => some (u20, (mset M21 81 20 (-1 : Int32))))
      have k20 : ∀ k, k ≠ 29 → k ≠ 30 → mset M2 81 20 (-1) 81 k = gdM (mset M1 0 11 (nI 0)) 81 k := fun k h7 h8 => by
        by_cases c : k = 20
        · subst c
          rw [ms1, F3.r 20 (by omega) (by omega) (by omega), I.lo]
        · rw [ms3 _ _ c, r2 k c h7 h8]
      have F2 : Fr (gdM (mset M1 0 11 (nI 0))) (mset M2 81 20 (-1)) := fr_plays (fun a z1 z2 z3 z4 z5 => by rw [mset_off _ _ _ z1, f2 a z1 z2 z3 z4 z5]) (fun k hk => by rw [mset_off _ _ _ (by omega), s2 k hk]) (fun k hk => by rw [mset_off _ _ _ (by omega), m2 k hk]) k20
      refine ⟨nI (Lb G most Q.seed n 21 (G 95 + 1)).1, mset M1 0 11 (nI 0), mset M2 81 20 (-1), ?_, ?_, I0.fr (F3.tr F2) (.inl ⟨?_, ?_⟩)⟩
      · rw [e1, bds, if_neg (by decide), h5, bds, if_neg (by decide), a1]
        rfl
      · rw [r_good, bvs, h6 _ D3.hg, bds, if_pos (by decide), nadd, a2, Lb_z G most Q.seed n (show n < n + 1 by omega) (show n < 21 by omega)]
      · rw [mset_off _ _ _ (by omega), f2 0 (by omega) (by omega) (by omega) (by omega) (by omega), k20 11 (by omega) (by omega)]; unfold gdM; simp (disch := omega) only [ms1, ms1, ms2, ms3]
      · rw [mset_off _ _ _ (by omega), f2 0 (by omega) (by omega) (by omega) (by omega) (by omega)]; unfold gdM; simp (disch := omega) only [ms1, ms1, ms2, ms3]; exact nI04
    · refine ⟨(-1 : Int32), mset M 0 11 (nI 2), mset (gdM (mset M 0 11 (nI 2))) 81 11 (nI 2), ?_, ?_, I0.no (Fr.rfl' M) (by omega)⟩
      · rw [e1, bds, if_neg (by decide), h5]; rfl
      · rw [r_good, bvs, h6 _ (D.fr (fg M _)).hg]; rfl
