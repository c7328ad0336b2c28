/-! THE VERSE'S LINE. -/
section
variable {Mc Mr : Mm} {g n p : Nat} {b : Nat → Nat} {G : Nat → Nat}
/-- the verse as far as it is told: A parts in the class; the reference lacks the count x -/
def VSt (G : Nat → Nat) (Mc0 Mr0 : Mm) (g A x : Nat) (H : Nat → Nat) (N R : Mm) : Prop := (A ≤ 5) ∧ (N g 9 = nI A) ∧ (∀ q, q < A → N (g + 2) q = nI (H (11 + q))) ∧ (∀ q, A ≤ q → q < 5 → N (g + 2) q = nI 0) ∧ (∀ q, q < A → ∀ k, k < H (11 + q) → N (g + 3) (4 * q + k) = nI (H (16 + 4 * q + k))) ∧ (∀ q, q < A → N (g + 1) q = nI (En H (q + 1))) ∧ (∀ q, q < A → H (11 + q) ≤ 4) ∧ (∀ q, q < A → 11 + q ≠ x → 1 ≤ H (11 + q)) ∧ (∀ q, q < A → ∀ k, k < H (11 + q) → 1 ≤ H (16 + 4 * q + k) ∧ H (16 + 4 * q + k) ≤ 20) ∧ (∀ i, i < 11 ∨ 36 ≤ i → H i = G i) ∧ (∀ i, i < 141 → i ≠ x → R 85 i = nI (H i)) ∧ (∀ k, k ≠ 9 → N g k = Mc0 g k) ∧ (∀ y, y ≠ 15 → y ≠ 17 → (y < g ∨ g + 3 < y) → N y = Mc0 y) ∧ (N 15 1 = Mc0 15 1) ∧ (N 17 3 = Mc0 17 3) ∧ (Xr Mr0 R)
theorem VSt.a5 {G : Nat → Nat} {Mc0 Mr0 : Mm} {g A x : Nat} {H : Nat → Nat} {N R : Mm} (h : VSt G Mc0 Mr0 g A x H N R) : A ≤ 5 := h.1
theorem VSt.h9 {G : Nat → Nat} {Mc0 Mr0 : Mm} {g A x : Nat} {H : Nat → Nat} {N R : Mm} (h : VSt G Mc0 Mr0 g A x H N R) : N g 9 = nI A := h.2.1
theorem VSt.hs {G : Nat → Nat} {Mc0 Mr0 : Mm} {g A x : Nat} {H : Nat → Nat} {N R : Mm} (h : VSt G Mc0 Mr0 g A x H N R) : ∀ q, q < A → N (g + 2) q = nI (H (11 + q)) := h.2.2.1
theorem VSt.hz {G : Nat → Nat} {Mc0 Mr0 : Mm} {g A x : Nat} {H : Nat → Nat} {N R : Mm} (h : VSt G Mc0 Mr0 g A x H N R) : ∀ q, A ≤ q → q < 5 → N (g + 2) q = nI 0 := h.2.2.2.1
theorem VSt.ht {G : Nat → Nat} {Mc0 Mr0 : Mm} {g A x : Nat} {H : Nat → Nat} {N R : Mm} (h : VSt G Mc0 Mr0 g A x H N R) : ∀ q, q < A → ∀ k, k < H (11 + q) → N (g + 3) (4 * q + k) = nI (H (16 + 4 * q + k)) := h.2.2.2.2.1
theorem VSt.he {G : Nat → Nat} {Mc0 Mr0 : Mm} {g A x : Nat} {H : Nat → Nat} {N R : Mm} (h : VSt G Mc0 Mr0 g A x H N R) : ∀ q, q < A → N (g + 1) q = nI (En H (q + 1)) := h.2.2.2.2.2.1
theorem VSt.b4 {G : Nat → Nat} {Mc0 Mr0 : Mm} {g A x : Nat} {H : Nat → Nat} {N R : Mm} (h : VSt G Mc0 Mr0 g A x H N R) : ∀ q, q < A → H (11 + q) ≤ 4 := h.2.2.2.2.2.2.1
theorem VSt.b1 {G : Nat → Nat} {Mc0 Mr0 : Mm} {g A x : Nat} {H : Nat → Nat} {N R : Mm} (h : VSt G Mc0 Mr0 g A x H N R) : ∀ q, q < A → 11 + q ≠ x → 1 ≤ H (11 + q) := h.2.2.2.2.2.2.2.1
theorem VSt.tt {G : Nat → Nat} {Mc0 Mr0 : Mm} {g A x : Nat} {H : Nat → Nat} {N R : Mm} (h : VSt G Mc0 Mr0 g A x H N R) : ∀ q, q < A → ∀ k, k < H (11 + q) → 1 ≤ H (16 + 4 * q + k) ∧ H (16 + 4 * q + k) ≤ 20 := h.2.2.2.2.2.2.2.2.1
theorem VSt.ho {G : Nat → Nat} {Mc0 Mr0 : Mm} {g A x : Nat} {H : Nat → Nat} {N R : Mm} (h : VSt G Mc0 Mr0 g A x H N R) : ∀ i, i < 11 ∨ 36 ≤ i → H i = G i := h.2.2.2.2.2.2.2.2.2.1
theorem VSt.r {G : Nat → Nat} {Mc0 Mr0 : Mm} {g A x : Nat} {H : Nat → Nat} {N R : Mm} (h : VSt G Mc0 Mr0 g A x H N R) : ∀ i, i < 141 → i ≠ x → R 85 i = nI (H i) := h.2.2.2.2.2.2.2.2.2.2.1
theorem VSt.fk {G : Nat → Nat} {Mc0 Mr0 : Mm} {g A x : Nat} {H : Nat → Nat} {N R : Mm} (h : VSt G Mc0 Mr0 g A x H N R) : ∀ k, k ≠ 9 → N g k = Mc0 g k := h.2.2.2.2.2.2.2.2.2.2.2.1
theorem VSt.fr {G : Nat → Nat} {Mc0 Mr0 : Mm} {g A x : Nat} {H : Nat → Nat} {N R : Mm} (h : VSt G Mc0 Mr0 g A x H N R) : ∀ y, y ≠ 15 → y ≠ 17 → (y < g ∨ g + 3 < y) → N y = Mc0 y := h.2.2.2.2.2.2.2.2.2.2.2.2.1
theorem VSt.f1 {G : Nat → Nat} {Mc0 Mr0 : Mm} {g A x : Nat} {H : Nat → Nat} {N R : Mm} (h : VSt G Mc0 Mr0 g A x H N R) : N 15 1 = Mc0 15 1 := h.2.2.2.2.2.2.2.2.2.2.2.2.2.1
theorem VSt.f3 {G : Nat → Nat} {Mc0 Mr0 : Mm} {g A x : Nat} {H : Nat → Nat} {N R : Mm} (h : VSt G Mc0 Mr0 g A x H N R) : N 17 3 = Mc0 17 3 := h.2.2.2.2.2.2.2.2.2.2.2.2.2.2.1
theorem VSt.xr {G : Nat → Nat} {Mc0 Mr0 : Mm} {g A x : Nat} {H : Nat → Nat} {N R : Mm} (h : VSt G Mc0 Mr0 g A x H N R) : Xr Mr0 R := h.2.2.2.2.2.2.2.2.2.2.2.2.2.2.2
section
variable {Mc0 Mr0 N R N' R' : Mm} {A x P J v : Nat} {H : Nat → Nat}
theorem VSt.xc (S : VSt G Mc0 Mr0 g A x H N R) : Xc g Mc0 N := ⟨fun a h1 h2 _ _ z => S.fr a h1 h2 (by omega), S.f1, S.f3⟩
theorem VSt.w (S : VSt G Mc0 Mr0 g A x H N R) (hg : g = 1 ∨ g = 8) (W : Wc N N') (V : Wr R R') : VSt G Mc0 Mr0 g A x H N' R' :=
  ⟨S.a5, by rw [W.fr g (by omega) (by omega)]; exact S.h9, fun q hq => by rw [W.fr _ (by omega) (by omega)]; exact S.hs q hq, fun q h1 h2 => by rw [W.fr _ (by omega) (by omega)]; exact S.hz q h1 h2, fun q hq k hk => by rw [W.fr _ (by omega) (by omega)]; exact S.ht q hq k hk, fun q hq => by rw [W.fr _ (by omega) (by omega)]; exact S.he q hq, S.b4, S.b1, S.tt, S.ho, fun i h1 h2 => by rw [V.fr 85 (by decide) (by decide)]; exact S.r i h1 h2, fun k hk => by rw [W.fr g (by omega) (by omega)]; exact S.fk k hk, fun y h1 h2 h3 => by rw [W.fr y h1 h2]; exact S.fr y h1 h2 h3, by rw [W.f1]; exact S.f1, by rw [W.f3]; exact S.f3, S.xr.tr V.x⟩
theorem En_eq {H H' : Nat → Nat} {m : Nat} (h1 : ∀ q, q < m → H' (11 + q) = H (11 + q)) (h2 : ∀ q, q < m → ∀ k, k < H (11 + q) → H' (16 + 4 * q + k) = H (16 + 4 * q + k)) : En H' m = En H m := by
  unfold En
  refine Sm_congr (fun q hq => ?_)
  unfold Tn
  rw [h1 q hq]
  exact Sm_congr (fun k hk => h2 q hq k hk)
theorem c_endA (S : VSt G Mc0 Mr0 g A x H N R) : f_X0_endOf g (nI A - nI 1) N = some (nI (En H A), N) := by
  have h5 := S.a5
  unfold f_X0_endOf
  simp only [jns]
  by_cases h : A = 0
  · subst h
    rw [if_pos (by decide)]; rfl
  · have e := S.he (A - 1) (by omega)
    rw [show A - 1 + 1 = A from by omega] at e
    rw [nsub (by omega), if_neg (by rw [nlt0 (by omega)]; exact not_false), if_neg (by rw [nle (by omega) (by omega)]; omega), gdi (by omega) (by omega), nclamp (by omega), e]
theorem VSt.part (S : VSt G Mc0 Mr0 g A 200 H N R) (hg : g = 1 ∨ g = 8) (hA : A < 5) : ∃ N', f_X0_addPart g N = some N' ∧ VSt G Mc0 Mr0 g (A + 1) (11 + A) (gset H (11 + A) 0) N' R ∧ N' 15 = N 15 ∧ N' 16 = N 16 ∧ N' 17 = N 17 := by
  have ly : LY (g + 1) = .inr (0, 5) := by rcases hg with rfl | rfl <;> rfl
  have b4 := S.b4
  have oth : ∀ q, q < A → gset H (11 + A) 0 (11 + q) = H (11 + q) := fun q hq => gs2 _ _ (by omega)
  have otk : ∀ q, q < A → ∀ k, k < H (11 + q) → gset H (11 + A) 0 (16 + 4 * q + k) = H (16 + 4 * q + k) := fun q hq k hk => gs2 _ _ (by omega)
  have z := gs1 H (11 + A) 0
  have hen : En (gset H (11 + A) 0) (A + 1) = En H A := by
    rw [En_succ, En_eq oth otk]
    unfold Tn
    rw [z]; rfl
  refine ⟨mset (mset N (g + 1) A (nI (En H A))) g 9 (nI (A + 1)), ?_, ⟨by omega, ms1 _ _ _ _, fun q hq => ?_, fun q h1 h2 => ?_, fun q hq k hk => ?_, fun q hq => ?_, fun q hq => ?_, fun q hq h1 => ?_, fun q hq k hk => ?_, fun i hi => ?_, fun i h1 h2 => ?_, fun k hk => ?_, fun y h1 h2 h3 => ?_, ?_, ?_, S.xr⟩, ?_, ?_, ?_⟩
  · unfold f_X0_addPart
    rw [S.h9, c_endA S, bds, f_put ly (by decide) hA, bvs, mset_off _ _ _ (by omega), S.h9, nadd]
  · rw [mset_off _ _ _ (by omega), mset_off _ _ _ (by omega)]
    by_cases c : q = A
    · subst c; rw [z]; exact S.hz q (Nat.le_refl _) hA
    · rw [oth q (by omega)]; exact S.hs q (by omega)
  · rw [mset_off _ _ _ (by omega), mset_off _ _ _ (by omega)]
    exact S.hz q (by omega) h2
  · rw [mset_off _ _ _ (by omega), mset_off _ _ _ (by omega)]
    by_cases c : q = A
    · subst c
      rw [z] at hk
      omega
    · rw [oth q (by omega)] at hk
      rw [otk q (by omega) k hk]; exact S.ht q (by omega) k hk
  · rw [mset_off _ _ _ (by omega)]
    by_cases c : q = A
    · subst c; rw [ms1, hen]
    · rw [ms3 _ _ c, En_eq (fun i hi => oth i (by omega)) (fun i hi k hk => otk i (by omega) k hk)]; exact S.he q (by omega)
  · by_cases c : q = A
    · subst c; rw [z]; omega
    · rw [oth q (by omega)]; exact b4 q (by omega)
  · rw [oth q (by omega)]; exact S.b1 q (by omega) (by omega)
  · by_cases c : q = A
    · subst c
      rw [z] at hk
      omega
    · rw [oth q (by omega)] at hk
      rw [otk q (by omega) k hk]; exact S.tt q (by omega) k hk
  · rw [gs2 _ _ (by omega)]; exact S.ho i hi
  · rw [gs2 _ _ h2]; exact S.r i h1 (by omega)
  · rw [ms3 _ _ hk, mset_off _ _ _ (by omega)]; exact S.fk k hk
  · rw [mset_off _ _ _ (by omega), mset_off _ _ _ (by omega)]; exact S.fr y h1 h2 h3
  · rw [mset_off _ _ _ (by omega), mset_off _ _ _ (by omega)]; exact S.f1
  · rw [mset_off _ _ _ (by omega), mset_off _ _ _ (by omega)]; exact S.f3
  · rw [mset_off _ _ _ (by omega), mset_off _ _ _ (by omega)]
  · rw [mset_off _ _ _ (by omega), mset_off _ _ _ (by omega)]
  · rw [mset_off _ _ _ (by omega), mset_off _ _ _ (by omega)]
theorem VSt.syl (S : VSt G Mc0 Mr0 g (P + 1) (11 + P) H N R) (hg : g = 1 ∨ g = 8) (hJ : H (11 + P) = J) (hJ4 : J < 4) (hv : 1 ≤ v ∧ v ≤ 20) : ∃ N', f_X0_addSyllable g (nI v) N = some N' ∧ VSt G Mc0 Mr0 g (P + 1) (11 + P) (gset (gset H (11 + P) (J + 1)) (16 + 4 * P + J) v) N' (mset R 85 (16 + 4 * P + J) (nI v)) ∧ N' 15 = N 15 ∧ N' 16 = N 16 ∧ N' 17 = N 17 := by
  have ly1' : LY (g + 1) = .inr (0, 5) := by rcases hg with rfl | rfl <;> rfl
  have ly2' : LY (g + 2) = .inr (0, 5) := by rcases hg with rfl | rfl <;> rfl
  have ly3' : LY (g + 3) = .inr (0, 20) := by rcases hg with rfl | rfl <;> rfl
  have b4 := S.b4
  have hP := S.a5
  obtain ⟨H', hH'⟩ : ∃ H', H' = gset (gset H (11 + P) (J + 1)) (16 + 4 * P + J) v := ⟨_, rfl⟩
  have zJ : H' (11 + P) = J + 1 := by rw [hH', gs2 _ _ (by omega), gs1]
  have zv : H' (16 + 4 * P + J) = v := by rw [hH', gs1]
  have ot : ∀ i, i ≠ 11 + P → i ≠ 16 + 4 * P + J → H' i = H i := fun i h1 h2 => by rw [hH', gs2 _ _ h2, gs2 _ _ h1]
  have oth : ∀ q, q < P → H' (11 + q) = H (11 + q) := fun q hq => ot _ (by omega) (by omega)
  have otk : ∀ q, q < P → ∀ k, k < H (11 + q) → H' (16 + 4 * q + k) = H (16 + 4 * q + k) := fun q hq k hk => by
    have := b4 q (by omega)
    exact ot _ (by omega) (by omega)
  have otl : ∀ k, k < J → H' (16 + 4 * P + k) = H (16 + 4 * P + k) := fun k hk => ot _ (by omega) (by omega)
  have hen : En H' (P + 1) = En H (P + 1) + v := by
    rw [En_succ, En_succ, En_eq oth otk]
    unfold Tn
    rw [zJ, hJ]
    show _ + (Sm (fun k => H' (16 + 4 * P + k)) J + H' (16 + 4 * P + J)) = _
    rw [zv, Sm_congr otl, Nat.add_assoc]
  rw [← hH']
  refine ⟨mset (mset (mset N (g + 3) (4 * P + J) (nI v)) (g + 2) P (nI (J + 1))) (g + 1) P (nI (En H (P + 1) + v)), ?_, ⟨hP, ?_, fun q hq => ?_, fun q h1 h2 => ?_, fun q hq k hk => ?_, fun q hq => ?_, fun q hq => ?_, fun q hq h1 => ?_, fun q hq k hk => ?_, fun i hi => ?_, fun i h1 h2 => ?_, fun k hk => ?_, fun y h1 h2 h3 => ?_, ?_, ?_, S.xr.m _ _⟩, ?_, ?_, ?_⟩
  · unfold f_X0_addSyllable
    rw [S.h9, nsub (by omega), Nat.add_sub_cancel, f_at ly2' (by decide) (by omega), bds, S.hs P (by omega), hJ, nmul, nadd, nadd, Nat.mul_comm P 4, f_put ly3' (by decide) (by omega), bvs, f_put ly2' (by decide) (by omega), bvs, f_add ly1' (by decide) (by omega), bvs, mset_off _ _ _ (by omega), mset_off _ _ _ (by omega), S.he P (by omega), nadd]
  · rw [mset_off _ _ _ (by omega), mset_off _ _ _ (by omega), mset_off _ _ _ (by omega)]; exact S.h9
  · rw [mset_off _ _ _ (by omega)]
    by_cases c : q = P
    · subst c; rw [ms1, zJ]
    · rw [ms3 _ _ c, mset_off _ _ _ (by omega), oth q (by omega)]; exact S.hs q hq
  · rw [mset_off _ _ _ (by omega), ms3 _ _ (by omega), mset_off _ _ _ (by omega)]; exact S.hz q h1 h2
  · rw [mset_off _ _ _ (by omega), mset_off _ _ _ (by omega)]
    by_cases c : q = P
    · subst c
      rw [zJ] at hk
      by_cases c2 : k = J
      · subst c2; rw [ms1, zv]
      · rw [ms3 _ _ (by omega), otl k (by omega)]; exact S.ht q hq k (by omega)
    · rw [oth q (by omega)] at hk
      have := b4 q hq
      rw [ms3 _ _ (by omega), otk q (by omega) k hk]; exact S.ht q hq k hk
  · by_cases c : q = P
    · subst c; rw [ms1, hen]
    · rw [ms3 _ _ c, mset_off _ _ _ (by omega), mset_off _ _ _ (by omega), En_eq (fun i hi => oth i (by omega)) (fun i hi k hk => otk i (by omega) k hk)]; exact S.he q hq
  · by_cases c : q = P
    · subst c; rw [zJ]; omega
    · rw [oth q (by omega)]; exact b4 q hq
  · rw [oth q (by omega)]; exact S.b1 q hq h1
  · by_cases c : q = P
    · subst c
      rw [zJ] at hk
      by_cases c2 : k = J
      · subst c2; rw [zv]; exact hv
      · rw [otl k (by omega)]; exact S.tt q hq k (by omega)
    · rw [oth q (by omega)] at hk
      rw [otk q (by omega) k hk]; exact S.tt q hq k hk
  · rw [ot i (by omega) (by omega)]; exact S.ho i hi
  · by_cases c : i = 16 + 4 * P + J
    · subst c; rw [ms1, zv]
    · rw [ms3 _ _ c, ot i h2 c]; exact S.r i h1 h2
  · rw [mset_off _ _ _ (by omega), mset_off _ _ _ (by omega), mset_off _ _ _ (by omega)]; exact S.fk k hk
  · rw [mset_off _ _ _ (by omega), mset_off _ _ _ (by omega), mset_off _ _ _ (by omega)]; exact S.fr y h1 h2 h3
  · rw [mset_off _ _ _ (by omega), mset_off _ _ _ (by omega), mset_off _ _ _ (by omega)]; exact S.f1
  · rw [mset_off _ _ _ (by omega), mset_off _ _ _ (by omega), mset_off _ _ _ (by omega)]; exact S.f3
  · rw [mset_off _ _ _ (by omega), mset_off _ _ _ (by omega), mset_off _ _ _ (by omega)]
  · rw [mset_off _ _ _ (by omega), mset_off _ _ _ (by omega), mset_off _ _ _ (by omega)]
  · rw [mset_off _ _ _ (by omega), mset_off _ _ _ (by omega), mset_off _ _ _ (by omega)]
/-- a part is closed in the reference -/
theorem VSt.shut (S : VSt G Mc0 Mr0 g (P + 1) (11 + P) H N R) (hJ : H (11 + P) = J) (h1 : 1 ≤ J) : VSt G Mc0 Mr0 g (P + 1) 200 H N (mset R 85 (11 + P) (nI J)) :=
  ⟨S.a5, S.h9, S.hs, S.hz, S.ht, S.he, S.b4, fun q hq _ => by
    by_cases c : q = P
    · rw [c, hJ]; exact h1
    · exact S.b1 q hq (by omega), S.tt, S.ho, fun i h2 _ => by
    by_cases c : i = 11 + P
    · subst c; rw [ms1, hJ]
    · rw [ms3 _ _ c]; exact S.r i h2 c, S.fk, S.fr, S.f1, S.f3, S.xr.m _ _⟩
end
/-- a syllable in the reference -/
def syB (y1 : Int32) (k119 : Int32 → Mm → Option Mm) (n : Nat) (y3 : Int32) (M6 : Mm) : Option Mm := bd (f_X10_number (nI 1) (nI 20) M6) fun v80_9 M80_8 => if (M80_8 81 13) = 0 then (gd (inb (((nI 16) + ((nI 4) * y1)) + y3) 141) <| if ((mset M80_8 85 (((nI 16) + ((nI 4) * y1)) + y3).toNatClampNeg v80_9) 81 6) = (nI 3) then (lp_X10_verseLine_36 y1 k119 n (y3 + (nI 1)) (mset M80_8 85 (((nI 16) + ((nI 4) * y1)) + y3).toNatClampNeg v80_9)) else (k119 (y3 + (nI 1)) (mset M80_8 85 (((nI 16) + ((nI 4) * y1)) + y3).toNatClampNeg v80_9))) else (some M80_8)
theorem syB_fl {y1 y3 : Int32} {kk : Int32 → Mm → Option Mm} {f : Nat} {M : Mm} (h : M 81 13 = nI 1) : syB y1 kk f y3 M = some M := by
  unfold syB
  rw [fl_number h, bds, if_neg (fl0 h)]
theorem sy_eq (y1 y3 : Int32) (kk : Int32 → Mm → Option Mm) (f : Nat) (M : Mm) : lp_X10_verseLine_36 y1 kk (f + 1) y3 M = (if (M 81 6) = (nI 3) then (bd (f_X10_within (M 81 7) (nI 1) (nI 20) M) fun v51_13 M51_12 => if v51_13 = 0 then syB y1 kk f y3 M51_12 else (if y1 = (nI 5) then (bv (f_X10_wrong (nI 5) (M51_12 81 4) M51_12) fun M73_16 => syB y1 kk f y3 M73_16) else (if y3 = (nI 4) then (bv (f_X10_wrong (nI 5) (M51_12 81 4) M51_12) fun M73_16 => syB y1 kk f y3 M73_16) else syB y1 kk f y3 M51_12))) else syB y1 kk f y3 M) := rfl
theorem sy_room (t : TKp Mc Mr n b p) {P J f : Nat} {kk : Int32 → Mm → Option Mm} (hP : P < 5) (hJ : J < 4) : lp_X10_verseLine_36 (nI P) kk (f + 1) (nI J) Mr = syB (nI P) kk f (nI J) Mr := by
  have hr := rk_b _ (tK_le (b := b) (n := n) (p := p))
  rw [sy_eq, t.r6]
  by_cases c : tK b n p = 2
  · have hv := rv_lt t c
    rw [if_pos (by rw [c]; rfl), t.rv c, r_withinN (by omega) (by omega) (by omega), bds, if_neg (show ¬ nI P = nI 5 by rw [neq (by omega) (by omega)]; omega), if_neg (show ¬ nI J = nI 4 by rw [neq (by omega) (by omega)]; omega), ite_self]
  · rw [if_neg (by rw [neq (by omega) (by omega)]; omega)]
theorem sy_full (t : TKp Mc Mr n b p) (h13 : Mr 81 13 = nI 0) {P J f : Nat} {kk : Int32 → Mm → Option Mm} (hP : P ≤ 5) (hJ : J ≤ 4) (h : P = 5 ∨ J = 4) : ∃ Mc' Mr', f_X5_whole (nI 1) (nI 20) (nI 0) Mc = some (nI 0, Mc') ∧ lp_X10_verseLine_36 (nI P) kk (f + 1) (nI J) Mr = some Mr' ∧ FL Mc' Mr' ∧ Wc Mc Mc' ∧ Wr Mr Mr' := by
  have hr := rk_b _ (tK_le (b := b) (n := n) (p := p))
  have hk := tK_le (b := b) (n := n) (p := p)
  obtain ⟨e, Mc', Mr', he, a1, a2, F, W, V⟩ := whole_full t (a := 1) (c := 20) (by decide) (by decide) h13
  refine ⟨Mc', Mr', a1, ?_, F, W, V⟩
  rw [sy_eq, t.r6]
  by_cases c : tK b n p = 2
  · have hv := rv_lt t c
    rw [if_pos c] at he
    rw [if_pos (by rw [c]; rfl), t.rv c, r_withinN (by omega) (by omega) (by omega), bds]
    by_cases c2 : 1 ≤ vN b (tS b n p) (tW b n p) ∧ vN b (tS b n p) (tW b n p) ≤ 20
    · rw [if_pos c2] at he
      subst he
      rw [if_pos c2, if_neg (show ¬ nI 1 = (0 : Int32) by decide), a2, bvs, syB_fl F.2.2]
      by_cases c3 : P = 5
      · rw [if_pos (by rw [c3])]
      · rw [if_neg (by rw [neq (by omega) (by omega)]; exact c3), if_pos (by rw [show J = 4 from by omega])]
    · rw [if_neg c2] at he
      subst he
      rw [if_neg c2, if_pos (show nI 0 = (0 : Int32) from rfl)]
      unfold syB f_X10_number
      rw [if_pos (show Mr 81 13 = 0 by rw [h13]; rfl), t.r6, if_pos (show nI (rk (tK b n p)) = nI 3 by rw [c]; rfl), t.rv c, r_withinN (by omega) (by omega) (by omega), bds, if_neg c2, if_pos (show nI 0 = (0 : Int32) from rfl), a2, bvs, bds, if_neg (fl0 F.2.2)]
  · rw [if_neg c] at he
    subst he
    rw [if_neg (show ¬ nI (rk (tK b n p)) = nI 3 by rw [neq (by omega) (by omega)]; omega)]
    unfold syB f_X10_number
    rw [if_pos (show Mr 81 13 = 0 by rw [h13]; rfl), t.r6, if_neg (show ¬ nI (rk (tK b n p)) = nI 3 by rw [neq (by omega) (by omega)]; omega), a2, bvs, bds, if_neg (fl0 F.2.2)]
end
