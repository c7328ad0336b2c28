/-! A CREEPER'S LINE. -/
section
variable {Mc Mr : Mm} {g n p : Nat} {b : Nat → Nat} {G : Nat → Nat}
/-- the class's end of the line, its stages; the reference's -/
def ccE (s7 : Int32) (M8 : Mm) : Option (Int32 × Mm) := if s7 = 0 then (gd (zo s7) <| some (s7, M8)) else (bg (M8 17 3) fun g10 => gd (zo s7) <| some (s7, (mset M8 g10 14 ((M8 g10 14) + (nI 1)))))
def tcS (i : Nat) (w lo hi : Int32) (K : Mm → Option (Int32 × Mm)) (M : Mm) : Option (Int32 × Mm) := bd (f_X5_trait i w lo hi M) fun v62_16 M62_15 => if v62_16 = 0 then (ccE (nI 0) M62_15) else (K M62_15)
def ccW (M116_23 : Mm) : Option (Int32 × Mm) := bd (f_X5_way M116_23) fun v123_26 M123_25 => if v123_26 = 0 then (ccE (nI 0) M123_25) else (ccE (nI 1) M123_25)
def crS (i : Nat) (lo hi o C : Int32) (J : Mm → Option Mm) (M : Mm) : Option Mm := bd (f_X10_told i lo hi M) fun v75_9 M75_8 => gd (inb (o + C) 141) <| J (mset M75_8 85 (o + C).toNatClampNeg v75_9)
def crW (C : Int32) (M : Mm) : Option Mm := if (M 81 13) = 0 then (bd (f_X10_takes 40 M) fun v164_19 M164_18 => jn (fun (M20 : Mm) => some ((mset M20 85 95 ((M20 85 95) + (nI 1))))) fun j21 => if v164_19 = 0 then (bd (f_X10_takes 41 M164_18) fun v201_23 M201_22 => if v201_23 = 0 then (bv (f_X10_must 39 M201_22) fun M239_24 => j21  M239_24) else (gd (inb ((nI 81) + C) 141) <| bd (f_X10_number (nI 1) (nI 20) (mset M201_22 85 ((nI 81) + C).toNatClampNeg (nI 2))) fun v229_27 M229_26 => gd (inb ((nI 86) + C) 141) <| j21  (mset M229_26 85 ((nI 86) + C).toNatClampNeg v229_27))) else (gd (inb ((nI 81) + C) 141) <| bd (f_X10_number (nI 1) (nI 5) (mset M164_18 85 ((nI 81) + C).toNatClampNeg (nI 1))) fun v191_30 M191_29 => gd (inb ((nI 86) + C) 141) <| j21  (mset M191_29 85 ((nI 86) + C).toNatClampNeg v191_30))) else (some M)
theorem ccE0 (M : Mm) : ccE (nI 0) M = some (nI 0, M) := by
  unfold ccE
  rw [if_pos (by decide)]; rfl
/-- the traits told so far -/
def TrS (Mc0 Mr0 : Mm) (g C k : Nat) (w : Nat → Nat) (N R : Mm) : Prop := (∀ j, j < k → N (g + 6) (7 * C + j) = nI (w j)) ∧ (∀ i, i < 7 * C → N (g + 6) i = Mc0 (g + 6) i) ∧ (∀ j, j < k → R 85 (56 + 5 * j + C) = nI (w j)) ∧ (∀ i, (∀ j, j < k → i ≠ 56 + 5 * j + C) → R 85 i = Mr0 85 i) ∧ (∀ x, x ≠ 15 → x ≠ 17 → x ≠ g + 6 → N x = Mc0 x) ∧ (N 15 1 = Mc0 15 1) ∧ (N 17 3 = Mc0 17 3) ∧ (Xr Mr0 R)
theorem TrS.c {Mc0 Mr0 : Mm} {g C k : Nat} {w : Nat → Nat} {N R : Mm} (h : TrS Mc0 Mr0 g C k w N R) : ∀ j, j < k → N (g + 6) (7 * C + j) = nI (w j) := h.1
theorem TrS.co {Mc0 Mr0 : Mm} {g C k : Nat} {w : Nat → Nat} {N R : Mm} (h : TrS Mc0 Mr0 g C k w N R) : ∀ i, i < 7 * C → N (g + 6) i = Mc0 (g + 6) i := h.2.1
theorem TrS.r {Mc0 Mr0 : Mm} {g C k : Nat} {w : Nat → Nat} {N R : Mm} (h : TrS Mc0 Mr0 g C k w N R) : ∀ j, j < k → R 85 (56 + 5 * j + C) = nI (w j) := h.2.2.1
theorem TrS.ro {Mc0 Mr0 : Mm} {g C k : Nat} {w : Nat → Nat} {N R : Mm} (h : TrS Mc0 Mr0 g C k w N R) : ∀ i, (∀ j, j < k → i ≠ 56 + 5 * j + C) → R 85 i = Mr0 85 i := h.2.2.2.1
theorem TrS.fr {Mc0 Mr0 : Mm} {g C k : Nat} {w : Nat → Nat} {N R : Mm} (h : TrS Mc0 Mr0 g C k w N R) : ∀ x, x ≠ 15 → x ≠ 17 → x ≠ g + 6 → N x = Mc0 x := h.2.2.2.2.1
theorem TrS.f1 {Mc0 Mr0 : Mm} {g C k : Nat} {w : Nat → Nat} {N R : Mm} (h : TrS Mc0 Mr0 g C k w N R) : N 15 1 = Mc0 15 1 := h.2.2.2.2.2.1
theorem TrS.f3 {Mc0 Mr0 : Mm} {g C k : Nat} {w : Nat → Nat} {N R : Mm} (h : TrS Mc0 Mr0 g C k w N R) : N 17 3 = Mc0 17 3 := h.2.2.2.2.2.2.1
theorem TrS.xr {Mc0 Mr0 : Mm} {g C k : Nat} {w : Nat → Nat} {N R : Mm} (h : TrS Mc0 Mr0 g C k w N R) : Xr Mr0 R := h.2.2.2.2.2.2.2
theorem TrS.xc {Mc0 Mr0 N R : Mm} {C k : Nat} {w : Nat → Nat} (h : TrS Mc0 Mr0 g C k w N R) : Xc g Mc0 N := ⟨fun a x y _ _ z => h.fr a x y (by omega), h.f1, h.f3⟩
theorem TrS.step {Mc0 Mr0 N R N' R' : Mm} {C k v : Nat} {w : Nat → Nat} (S : TrS Mc0 Mr0 g C k w N R) (hg : g = 1 ∨ g = 8) (hC : C < 5) (W : Wc N N') (V : Wr R R') : TrS Mc0 Mr0 g C (k + 1) (fun j => if j = k then v else w j) (mset N' (g + 6) (7 * C + k) (nI v)) (mset R' 85 (56 + 5 * k + C) (nI v)) := by
  have q6 : N' (g + 6) = N (g + 6) := W.fr _ (by omega) (by omega)
  have q85 : R' 85 = R 85 := V.fr 85 (by decide) (by decide)
  refine ⟨fun j hj => ?_, fun i hi => ?_, fun j hj => ?_, fun i hi => ?_, fun x h1 h2 h3 => ?_, ?_, ?_, (S.xr.tr V.x).m _ _⟩
  · dsimp only
    by_cases c : j = k
    · subst c; rw [ms1, if_pos rfl]
    · rw [ms3 _ _ (by omega), if_neg c, q6]; exact S.c j (by omega)
  · rw [ms3 _ _ (by omega), q6]; exact S.co i hi
  · dsimp only
    by_cases c : j = k
    · subst c; rw [ms1, if_pos rfl]
    · rw [ms3 _ _ (by omega), if_neg c, q85]; exact S.r j (by omega)
  · rw [ms3 _ _ (hi k (by omega)), q85]; exact S.ro i (fun j hj => hi j (by omega))
  · rw [mset_off _ _ _ h3, W.fr x h1 h2]; exact S.fr x h1 h2 h3
  · rw [mset_off _ _ _ (by omega), W.f1]; exact S.f1
  · rw [mset_off _ _ _ (by omega), W.f3]; exact S.f3
/-- what the rest of the line does in the reference, once it has failed -/
def RF (Mr0 : Mm) (J : Mm → Option Mm) : Prop := ∀ N R, FL N R → Xr Mr0 R → ∃ R', J R = some R' ∧ FL N R' ∧ Xr Mr0 R'
theorem RF_crW {Mr0 : Mm} (C : Int32) : RF Mr0 (crW C) := fun N R F X => ⟨R, if_neg (fl0 F.2.2), F, X⟩
theorem RF_crS {Mr0 : Mm} {J : Mm → Option Mm} {i o C : Nat} {lo hi : Int32} (h : RF Mr0 J) (ho : o + C < 141) : RF Mr0 (crS i lo hi (nI o) (nI C) J) := fun N R F X => by
  unfold crS
  rw [fl_told F.2.2, bds, nadd, gdi (by omega) ho, nclamp (by omega)]
  exact h N _ (F.m _ _) (X.m _ _)
/-- one trait -/
theorem cr_stage {Mc0 Mr0 N R : Mm} {C k i lo hi : Nat} {w : Nat → Nat} {K : Mm → Option (Int32 × Mm)} {J : Mm → Option Mm} (hJ : RF Mr0 J) (t : TKp N R n b p) (S : TrS Mc0 Mr0 g C k w N R) (hg : g = 1 ∨ g = 8) (g3 : Mc0 17 3 = nI g) (g14 : Mc0 g 14 = nI C) (hC : C < 5) (hk : k < 7) (hi23 : i < 23) (hlo : lo < 1000) (hhi : hi < 1000) (o : R 81 13 = nI 0) :
    (∃ N' R' p' v, lo ≤ v ∧ v ≤ hi ∧ tcS i (nI k) (nI lo) (nI hi) K N = K N' ∧ crS (i + 23) (nI lo) (nI hi) (nI (56 + 5 * k)) (nI C) J R = J R' ∧ TKp N' R' n b p' ∧ p < p' ∧ R' 81 13 = nI 0 ∧ TrS Mc0 Mr0 g C (k + 1) (fun j => if j = k then v else w j) N' R') ∨
    (∃ N' R', tcS i (nI k) (nI lo) (nI hi) K N = some (nI 0, N') ∧ crS (i + 23) (nI lo) (nI hi) (nI (56 + 5 * k)) (nI C) J R = some R' ∧ FL N' R' ∧ Xc g Mc0 N' ∧ Xr Mr0 R') := by
  have ly : LY (g + 6) = .inr (0, 35) := by rcases hg with rfl | rfl <;> rfl
  have e3 : N 17 3 = nI g := by rw [S.f3]; exact g3
  have e14 : N g 14 = nI C := by rw [S.fr g (by omega) (by omega) (by omega)]; exact g14
  have bad : ∀ N2 R2, FL N2 R2 → Wc N N2 → Wr R R2 → f_X10_told (i + 23) (nI lo) (nI hi) R = some (nI lo, R2) → ∃ R', crS (i + 23) (nI lo) (nI hi) (nI (56 + 5 * k)) (nI C) J R = some R' ∧ FL N2 R' ∧ Xc g Mc0 N2 ∧ Xr Mr0 R' := fun N2 R2 F W V e => by
    obtain ⟨R', a1, a2, a3⟩ := hJ N2 (mset R2 85 (56 + 5 * k + C) (nI lo)) (F.m _ _) ((S.xr.tr V.x).m _ _)
    refine ⟨R', ?_, a2, S.xc.tr (W.x g), a3⟩
    unfold crS
    rw [e, bds, nadd, gdi (by omega) (by omega), nclamp (by omega)]
    exact a1
  unfold tcS f_X5_trait
  rcases both_word t hi23 o with ⟨N1, R1, p1, a1, a2, t1, hp1, o1, W1, V1⟩ | ⟨N1, R1, a1, a2, F, W1, V1⟩
  · rcases both_number t1 hlo hhi o1 with ⟨N2, R2, p2, v, b1, b2, b3, b4, b5, t2, hp2, o2, W2, V2⟩ | ⟨N2, R2, b3, b4, F, W2, V2⟩
    · left
      have h3 : N2 17 3 = nI g := by rw [W2.f3, W1.f3]; exact e3
      have h14 : N2 g 14 = nI C := by rw [W2.fr g (by omega) (by omega), W1.fr g (by omega) (by omega)]; exact e14
      refine ⟨mset N2 (g + 6) (7 * C + k) (nI v), mset R2 85 (56 + 5 * k + C) (nI v), p2, v, b1, b2, ?_, ?_, t2.cong (mset_off _ _ _ (by omega)) (mset_off _ _ _ (by omega)) (mset_off _ _ _ (by decide)) (mset_off _ _ _ (by decide)) (mset_off _ _ _ (by decide)), by omega, om o2 _ _, S.step hg hC (W1.tr W2) (V1.tr V2)⟩
      · rw [a1, bds, if_neg (by decide), b3, bds, if_neg (by decide), h3, bgv hg, bgv hg, h14, b5, nmul, nadd, Nat.mul_comm C 7, f_put ly (by decide) (by omega), bvs, bds, if_neg (by decide)]
      · unfold crS f_X10_told
        rw [a2, bvs, b4, bds, bds, nadd, gdi (by omega) (by omega), nclamp (by omega)]
    · right
      obtain ⟨R', q1, q2, q3, q4⟩ := bad N2 R2 F (W1.tr W2) (V1.tr V2) (by unfold f_X10_told; rw [a2, bvs, b4]; rfl)
      refine ⟨N2, R', ?_, q1, q2, q3, q4⟩
      rw [a1, bds, if_neg (by decide), b3, bds, if_pos (by decide), bds, if_pos (by decide), ccE0]
  · right
    obtain ⟨R', q1, q2, q3, q4⟩ := bad N1 R1 F W1 V1 (by unfold f_X10_told; rw [a2, bvs, fl_number F.2.2]; rfl)
    refine ⟨N1, R', ?_, q1, q2, q3, q4⟩
    rw [a1, bds, if_pos (by decide), bds, if_pos (by decide), ccE0]
theorem wd_L {i : Nat} (h : wd b n p i = true) : tW b n p = (stB i).length := by
  unfold wd at h
  rw [Bool.and_eq_true, Bool.and_eq_true] at h
  exact of_decide_eq_true h.1.2
theorem r_takes0 (t : TKp Mc Mr n b p) {i : Nat} (hi : i < 23) (h13 : Mr 81 13 = nI 0) (h : wd b n p i = false) : f_X10_takes (i + 23) Mr = some (nI 0, Mr) := by
  unfold f_X10_takes
  rw [r_isWord t hi h13, h, bds]; rfl
theorem r_takes1 (t : TKp Mc Mr n b p) {i : Nat} (hi : i < 23) (h13 : Mr 81 13 = nI 0) (h : wd b n p i = true) {R : Mm} (e : f_X10_next Mr = some R) : f_X10_takes (i + 23) Mr = some (nI 1, R) := by
  unfold f_X10_takes
  rw [r_isWord t hi h13, h, bds, e]; rfl
theorem len3 : (stB 16).length = 5 ∧ (stB 17).length = 4 ∧ (stB 18).length = 3 := by decide +kernel
/-- the class's end of the way -/
theorem c_wayEnd {N : Mm} {C v x : Nat} (hg : g = 1 ∨ g = 8) (h3 : N 17 3 = nI g) (h14 : N g 14 = nI C) (hC : C < 5) (h6 : N 17 6 = nI v) : (bg (N 17 3) fun g11 => bg (N 17 3) fun g12 => bv (f_X9_put (g12 + 6) (((N g11 14) * (nI 7)) + (nI 5)) (nI x) N) fun M121_16 => bg (M121_16 17 3) fun g18 => bv (f_X9_put (g18 + 6) (((N g11 14) * (nI 7)) + (nI 6)) (M121_16 17 6) M121_16) fun M139_19 => some ((nI 1), M139_19)) = some (nI 1, mset (mset N (g + 6) (7 * C + 5) (nI x)) (g + 6) (7 * C + 6) (nI v)) := by
  have ly : LY (g + 6) = .inr (0, 35) := by rcases hg with rfl | rfl <;> rfl
  have k3 : mset N (g + 6) (7 * C + 5) (nI x) 17 3 = nI g := by rw [mset_off _ _ _ (by omega)]; exact h3
  have k6 : mset N (g + 6) (7 * C + 5) (nI x) 17 6 = nI v := by rw [mset_off _ _ _ (by omega)]; exact h6
  rw [h3, bgv hg, bgv hg, h14, nmul, nadd, nadd, Nat.mul_comm C 7, f_put ly (by decide) (by omega), bvs, k3, bgv hg, k6, f_put ly (by decide) (by omega), bvs]
/-- the way and the line's end -/
theorem cr_way {Mc0 Mr0 N R : Mm} {C : Nat} {w : Nat → Nat} (t : TKp N R n b p) (S : TrS Mc0 Mr0 g C 5 w N R) (hg : g = 1 ∨ g = 8) (g3 : Mc0 17 3 = nI g) (g14 : Mc0 g 14 = nI C) (r95 : Mr0 85 95 = nI C) (z1 : Mr0 85 (81 + C) = nI 0) (z2 : Mr0 85 (86 + C) = nI 0) (hC : C < 5) (o : R 81 13 = nI 0) :
    (∃ N' R' p' w', (∀ j, j < 5 → w' j = w j) ∧ w' 5 ≤ 2 ∧ w' 6 ≤ 20 ∧ ccW N = some (nI 1, mset N' g 14 (nI (C + 1))) ∧ crW (nI C) R = some (mset R' 85 95 (nI (C + 1))) ∧ TKp N' R' n b p' ∧ p < p' ∧ R' 81 13 = nI 0 ∧ TrS Mc0 Mr0 g C 7 w' N' R') ∨
    (∃ N' R', ccW N = some (nI 0, N') ∧ crW (nI C) R = some R' ∧ FL N' R' ∧ Xc g Mc0 N' ∧ Xr Mr0 R') := by
  obtain ⟨L16, L17, L18⟩ := len3
  have e3 : N 17 3 = nI g := by rw [S.f3]; exact g3
  have e14 : N g 14 = nI C := by rw [S.fr g (by omega) (by omega) (by omega)]; exact g14
  have fin : ∀ N', N' 17 3 = nI g → N' g 14 = nI C → ccE (nI 1) N' = some (nI 1, mset N' g 14 (nI (C + 1))) := fun N' h3 h14 => by
    unfold ccE
    rw [if_neg (by decide), h3, bgv hg, h14, nadd]; rfl
  have r95' : ∀ R', Xr Mr0 R' → R' 85 95 = nI C → (mset R' 85 95 (R' 85 95 + nI 1)) = mset R' 85 95 (nI (C + 1)) := fun R' _ h => by rw [h, nadd]
  have R95 : R 85 95 = nI C := by rw [S.ro 95 (fun j hj => by omega)]; exact r95
  unfold ccW crW f_X5_way
  simp only [jns]
  rw [if_pos (show R 81 13 = 0 by rw [o]; rfl), c_isWord t (i := 16) (by decide), bds, c_isWord t (i := 17) (by decide), bds]
  have hkey : ∀ i, i < 23 → wd b n p i = true → ∃ N1 R1 p1, f_X8_advance N = some N1 ∧ f_X10_next R = some R1 ∧ TKp N1 R1 n b p1 ∧ p < p1 ∧ R1 81 13 = nI 0 ∧ Wc N N1 ∧ Wr R R1 := fun i _ hw => by
    obtain ⟨N1, R1, a1, a2, t1, w1, w2, w3, w4⟩ := t.adv
    exact ⟨N1, R1, _, a1, a2, t1, (tK_pos t.hp (b := b) (by rw [wd_K hw]; decide)).2, by rw [w4 13 (by omega)]; exact o, ⟨fun a h _ => w1 a h, w2, by rw [w1 17 (by decide)]⟩, ⟨w3, fun k hk => w4 k (by omega)⟩⟩
  have cz : ∀ N1 : Mm, ∀ R1 p1, TKp N1 R1 n b p1 → TKp (mset N1 17 6 (nI 0)) R1 n b p1 := fun N1 R1 p1 h => h.cong (mset_off _ _ _ (by decide)) (mset_off _ _ _ (by decide)) rfl rfl rfl
  have cw : ∀ N1 : Mm, Wc N N1 → Wc N (mset N1 17 6 (nI 0)) := fun N1 h => ⟨fun a x y => by rw [mset_off _ _ _ y, h.fr a x y], by rw [mset_off _ _ _ (by decide), h.f1], by rw [ms3 _ _ (by decide), h.f3]⟩
  -- a way with a number
  have num : ∀ (x hi : Nat) (N1 R1 : Mm) (p1 : Nat), x ≤ 2 → hi ≤ 20 → TKp N1 R1 n b p1 → p < p1 → R1 81 13 = nI 0 → Wc N N1 → Wr R R1 →
      (∃ N' R' p' w' N2, (∀ j, j < 5 → w' j = w j) ∧ w' 5 ≤ 2 ∧ w' 6 ≤ 20 ∧ f_X5_whole (nI 1) (nI hi) (nI 1) (mset N1 17 6 (nI 0)) = some (nI 1, N2) ∧ (bg (N2 17 3) fun g11 => bg (N2 17 3) fun g12 => bv (f_X9_put (g12 + 6) (((N2 g11 14) * (nI 7)) + (nI 5)) (nI x) N2) fun M121_16 => bg (M121_16 17 3) fun g18 => bv (f_X9_put (g18 + 6) (((N2 g11 14) * (nI 7)) + (nI 6)) (M121_16 17 6) M121_16) fun M139_19 => some ((nI 1), M139_19)) = some (nI 1, N') ∧ ccE (nI 1) N' = some (nI 1, mset N' g 14 (nI (C + 1))) ∧ (gd (inb ((nI 81) + nI C) 141) <| bd (f_X10_number (nI 1) (nI hi) (mset R1 85 ((nI 81) + nI C).toNatClampNeg (nI x))) fun v229_27 M229_26 => gd (inb ((nI 86) + nI C) 141) <| some (mset (mset M229_26 85 ((nI 86) + nI C).toNatClampNeg v229_27) 85 95 (((mset M229_26 85 ((nI 86) + nI C).toNatClampNeg v229_27) 85 95) + nI 1))) = some (mset R' 85 95 (nI (C + 1))) ∧ TKp N' R' n b p' ∧ p < p' ∧ R' 81 13 = nI 0 ∧ TrS Mc0 Mr0 g C 7 w' N' R') ∨
      (∃ N' R', f_X5_whole (nI 1) (nI hi) (nI 1) (mset N1 17 6 (nI 0)) = some (nI 0, N') ∧ (gd (inb ((nI 81) + nI C) 141) <| bd (f_X10_number (nI 1) (nI hi) (mset R1 85 ((nI 81) + nI C).toNatClampNeg (nI x))) fun v229_27 M229_26 => gd (inb ((nI 86) + nI C) 141) <| some (mset (mset M229_26 85 ((nI 86) + nI C).toNatClampNeg v229_27) 85 95 (((mset M229_26 85 ((nI 86) + nI C).toNatClampNeg v229_27) 85 95) + nI 1))) = some R' ∧ FL N' R' ∧ Xc g Mc0 N' ∧ Xr Mr0 R') := fun x hi N1 R1 p1 hx hh t1 hp1 o1 W1 V1 => by
    have t1' : TKp (mset N1 17 6 (nI 0)) (mset R1 85 (81 + C) (nI x)) n b p1 := t1.cong (mset_off _ _ _ (by decide)) (mset_off _ _ _ (by decide)) (mset_off _ _ _ (by decide)) (mset_off _ _ _ (by decide)) (mset_off _ _ _ (by decide))
    rw [nadd, nadd, gdi (by omega) (by omega), nclamp (by omega)]
    rcases both_number t1' (a := 1) (c := hi) (by decide) (by omega) (om o1 _ _) with ⟨N2, R2, p2, v, b1, b2, b3, b4, b5, t2, hp2, o2, W2, V2⟩ | ⟨N2, R2, b3, b4, F, W2, V2⟩
    · left
      have W12 := (cw N1 W1).tr W2
      have h3 : N2 17 3 = nI g := by rw [W12.f3]; exact e3
      have h14 : N2 g 14 = nI C := by rw [W12.fr g (by omega) (by omega)]; exact e14
      have V12 : Wr (mset R1 85 (56 + 5 * 5 + C) (nI x)) R2 := by rw [show 56 + 5 * 5 + C = 81 + C from rfl]; exact V2
      have S6 := S.step (v := x) hg hC (cw N1 W1) V1
      have W26 : Wc (mset (mset N1 17 6 (nI 0)) (g + 6) (7 * C + 5) (nI x)) (mset N2 (g + 6) (7 * C + 5) (nI x)) := ⟨fun a h1 h2 => by
        by_cases ha : a = g + 6
        · subst ha
          funext i
          by_cases hi : i = 7 * C + 5
          · subst hi; rw [ms1, ms1]
          · rw [ms3 _ _ hi, ms3 _ _ hi, W2.fr _ h1 h2]
        · rw [mset_off _ _ _ ha, mset_off _ _ _ ha, W2.fr a h1 h2], by rw [mset_off _ _ _ (by omega), mset_off _ _ _ (by omega), W2.f1], by rw [mset_off _ _ _ (by omega), mset_off _ _ _ (by omega), W2.f3]⟩
      have S7 := S6.step (v := v) hg hC W26 V12
      refine ⟨mset (mset N2 (g + 6) (7 * C + 5) (nI x)) (g + 6) (7 * C + 6) (nI v), mset R2 85 (86 + C) (nI v), p2, _, N2, fun j hj => ?_, ?_, ?_, b3, c_wayEnd hg h3 h14 hC b5, fin _ (by rw [mset_off _ _ _ (by omega), mset_off _ _ _ (by omega)]; exact h3) (by rw [mset_off _ _ _ (by omega), mset_off _ _ _ (by omega)]; exact h14), ?_, t2.cong (h6 := by rw [mset_off _ _ _ (by omega), mset_off _ _ _ (by omega)]) (by rw [mset_off _ _ _ (by omega), mset_off _ _ _ (by omega)]) (by rw [mset_off _ _ _ (by omega), mset_off _ _ _ (by omega)]) (mset_off _ _ _ (by decide)) (mset_off _ _ _ (by decide)) (mset_off _ _ _ (by decide)), by omega, om o2 _ _, S7⟩
      · show (if j = 5 + 1 then v else if j = 5 then x else w j) = w j
        rw [if_neg (by omega), if_neg (by omega)]
      · show (if 5 = 5 + 1 then v else if 5 = 5 then x else w 5) ≤ 2
        rw [if_neg (by decide), if_pos rfl]; exact hx
      · show (if 6 = 5 + 1 then v else if 6 = 5 then x else w 6) ≤ 20
        rw [if_pos rfl]; omega
      · have e95 : R2 85 95 = nI C := by rw [V2.fr 85 (by decide) (by decide), ms3 _ _ (by omega), V1.fr 85 (by decide) (by decide)]; exact R95
        rw [b4, bds, gdi (by omega) (by omega), nclamp (by omega), ms3 _ _ (show 95 ≠ 86 + C by omega), e95, nadd C 1]
    · right
      refine ⟨N2, mset (mset R2 85 (86 + C) (nI 1)) 85 95 (mset R2 85 (86 + C) (nI 1) 85 95 + nI 1), b3, ?_, (F.m _ _).m _ _, S.xc.tr (((cw N1 W1).tr W2).x g), (((S.xr.tr V1.x).m _ _).tr V2.x |>.m _ _).m _ _⟩
      rw [b4, bds, gdi (by omega) (by omega), nclamp (by omega)]
  have zf : (nI (false : Bool).toNat = 0) = True := eq_true (by decide)
  have zt : (nI (true : Bool).toNat = 0) = False := eq_false (by decide)
  cases w16 : wd b n p 16
  · simp only [zf, if_true]
    cases w17 : wd b n p 17
    · simp only [zf, if_true]
      rw [c_isWord t (i := 18) (by decide), bds, r_takes0 t (i := 17) (by decide) o w17, bds, if_pos (show nI 0 = (0 : Int32) from rfl)]
      cases w18 : wd b n p 18
      · right
        obtain ⟨N1, R1, a1, a2, F, W1, V1, -⟩ := both_fail t 1 o
        refine ⟨N1, mset R1 85 95 (R1 85 95 + nI 1), ?_, ?_, F.m _ _, S.xc.tr (W1.x g), (S.xr.tr V1.x).m _ _⟩
        · rw [if_pos (by decide), a1, bds]
          show (if nI 0 = 0 then ccE (nI 0) N1 else ccE (nI 1) N1) = _
          rw [if_pos (by decide), ccE0]
        · rw [r_takes0 t (i := 18) (by decide) o w18, bds, if_pos (by decide)]
          unfold f_X10_must
          rw [if_pos (show R 81 13 = 0 by rw [o]; rfl), r_takes0 t (i := 16) (by decide) o w16, bds, if_pos (by decide), a2]; rfl
      · obtain ⟨N1, R1, p1, a1, a2, t1, hp1, o1, W1, V1⟩ := hkey 18 (by decide) w18
        rw [if_neg (show ¬ nI (true : Bool).toNat = 0 by decide), a1, bvs, r_takes1 t (i := 18) (by decide) o w18 a2, bds, if_neg (show ¬ nI 1 = (0 : Int32) by decide)]
        rcases num 2 20 N1 R1 p1 (by decide) (by decide) t1 hp1 o1 W1 V1 with ⟨N', R', p', w', N2, q1, q2, q3, q4, q5, q6, q7, q8, q9, q10, q11⟩ | ⟨N', R', q4, q7, q8, q9, q10⟩
        · left
          refine ⟨N', R', p', w', q1, q2, q3, ?_, q7, q8, q9, q10, q11⟩
          rw [q4, bds, if_neg (by decide), q5, bds, if_neg (by decide), q6]
        · right
          refine ⟨N', R', ?_, q7, q8, q9, q10⟩
          rw [q4, bds, if_pos (by decide), bds, if_pos (by decide), ccE0]
    · obtain ⟨N1, R1, p1, a1, a2, t1, hp1, o1, W1, V1⟩ := hkey 17 (by decide) w17
      simp only [zt, if_false]
      rw [a1, bvs, r_takes1 t (i := 17) (by decide) o w17 a2, bds, if_neg (show ¬ nI 1 = (0 : Int32) by decide)]
      rcases num 1 5 N1 R1 p1 (by decide) (by decide) t1 hp1 o1 W1 V1 with ⟨N', R', p', w', N2, q1, q2, q3, q4, q5, q6, q7, q8, q9, q10, q11⟩ | ⟨N', R', q4, q7, q8, q9, q10⟩
      · left
        refine ⟨N', R', p', w', q1, q2, q3, ?_, q7, q8, q9, q10, q11⟩
        rw [q4, bds, if_neg (by decide), q5, bds, if_neg (by decide), q6]
      · right
        refine ⟨N', R', ?_, q7, q8, q9, q10⟩
        rw [q4, bds, if_pos (by decide), bds, if_pos (by decide), ccE0]
  · have l16 := wd_L w16
    have w17 : wd b n p 17 = false := by
      cases h : wd b n p 17
      · rfl
      · have := wd_L h
        omega
    have w18 : wd b n p 18 = false := by
      cases h : wd b n p 18
      · rfl
      · have := wd_L h
        omega
    obtain ⟨N1, R1, p1, a1, a2, t1, hp1, o1, W1, V1⟩ := hkey 16 (by decide) w16
    left
    have W1' := cw N1 W1
    have h3 : mset N1 17 6 (nI 0) 17 3 = nI g := by rw [W1'.f3]; exact e3
    have h14 : mset N1 17 6 (nI 0) g 14 = nI C := by rw [W1'.fr g (by omega) (by omega)]; exact e14
    refine ⟨mset (mset (mset N1 17 6 (nI 0)) (g + 6) (7 * C + 5) (nI 0)) (g + 6) (7 * C + 6) (nI 0), R1, p1, fun j => if j < 5 then w j else 0, fun j hj => if_pos hj, Nat.zero_le _, Nat.zero_le _, ?_, ?_, t1.cong (h6 := by rw [mset_off _ _ _ (by omega), mset_off _ _ _ (by omega), ms3 _ _ (by decide)]) (by rw [mset_off _ _ _ (by omega), mset_off _ _ _ (by omega), mset_off _ _ _ (by decide)]) (by rw [mset_off _ _ _ (by omega), mset_off _ _ _ (by omega), mset_off _ _ _ (by decide)]) rfl rfl rfl, hp1, o1, ?_⟩
    · simp only [zt, if_false]
      rw [a1, bvs, c_wayEnd hg h3 h14 hC (ms1 _ _ _ _), bds, if_neg (by decide)]
      exact fin _ (by rw [mset_off _ _ _ (by omega), mset_off _ _ _ (by omega)]; exact h3) (by rw [mset_off _ _ _ (by omega), mset_off _ _ _ (by omega)]; exact h14)
    · have e95 : R1 85 95 = nI C := by rw [V1.fr 85 (by decide) (by decide)]; exact R95
      rw [r_takes0 t (i := 17) (by decide) o w17, bds, if_pos (show nI 0 = (0 : Int32) from rfl), r_takes0 t (i := 18) (by decide) o w18, bds, if_pos (show nI 0 = (0 : Int32) from rfl)]
      unfold f_X10_must
      rw [if_pos (show R 81 13 = 0 by rw [o]; rfl), r_takes1 t (i := 16) (by decide) o w16 a2, bds, if_neg (by decide), bvs, e95, nadd]
    · refine ⟨fun j hj => ?_, fun i hi => ?_, fun j hj => ?_, fun i hi => ?_, fun x h1 h2 h4 => ?_, ?_, ?_, S.xr.tr V1.x⟩
      · dsimp only
        by_cases c1 : j = 6
        · subst c1; rw [ms1]; rfl
        · rw [ms3 _ _ (by omega)]
          by_cases c2 : j = 5
          · subst c2; rw [ms1]; rfl
          · rw [ms3 _ _ (by omega), if_pos (by omega), W1'.fr _ (by omega) (by omega)]; exact S.c j (by omega)
      · rw [ms3 _ _ (by omega), ms3 _ _ (by omega), W1'.fr _ (by omega) (by omega)]; exact S.co i hi
      · dsimp only
        rw [V1.fr 85 (by decide) (by decide)]
        by_cases c1 : j < 5
        · rw [if_pos c1]; exact S.r j c1
        · rw [if_neg c1, S.ro _ (fun i hi => by omega)]
          by_cases c2 : j = 5
          · subst c2; exact z1
          · have : j = 6 := by omega
            subst this; exact z2
      · rw [V1.fr 85 (by decide) (by decide)]; exact S.ro i (fun j hj => hi j (by omega))
      · rw [mset_off _ _ _ h4, mset_off _ _ _ h4, W1'.fr x h1 h2]; exact S.fr x h1 h2 h4
      · rw [mset_off _ _ _ (by omega), mset_off _ _ _ (by omega), W1'.f1]; exact S.f1
      · rw [mset_off _ _ _ (by omega), mset_off _ _ _ (by omega), W1'.f3]; exact S.f3
end
