/-! THE GAME that is being read; the yard's line. -/
def gset (G : Nat → Nat) (k v : Nat) : Nat → Nat := fun i => if i = k then v else G i
theorem gs1 (G : Nat → Nat) (k v : Nat) : gset G k v k = v := if_pos rfl
theorem gs2 (G : Nat → Nat) {k i : Nat} (v : Nat) (h : i ≠ k) : gset G k v i = G i := if_neg h
/-- the game as far as it is read: the class's cell g, the reference's row 85 -/
def PGm (Mc Mr : Mm) (g n : Nat) (b : Nat → Nat) (G : Nat → Nat) : Prop := (CG Mc g G) ∧ (Mc 17 3 = nI g) ∧ (∀ i, i < 5 → Mc (g + 4) i = nI (G (6 + i))) ∧ (∀ k, k < 141 → Mr 85 k = nI (G k)) ∧ ((G 91 = 0 ∧ G 0 = 0 ∧ G 94 = 0 ∧ G 95 = 0) ∨ (G 91 = 1 ∧ (4 ≤ G 0 ∧ G 0 ≤ 40) ∧ (1 ≤ G 1 ∧ G 1 ≤ 6) ∧ 1 ≤ G 2 ∧ G 2 ≤ 9)) ∧ (G 92 ≤ 5) ∧ (∀ p, p < G 92 → 1 ≤ G (11 + p) ∧ G (11 + p) ≤ 4) ∧ (∀ p, p < G 92 → ∀ k, k < G (11 + p) → 1 ≤ G (16 + 4 * p + k) ∧ G (16 + 4 * p + k) ≤ 20) ∧ ((G 93 = 0 ∧ G 4 = 0) ∨ (G 93 = 1 ∧ (1 ≤ G 3 ∧ G 3 ≤ 60) ∧ (1 ≤ G 4 ∧ G 4 ≤ 20) ∧ G 5 ≤ 100 ∧ 1 ≤ G 92)) ∧ (∀ k, k < 5 → G (6 + k) ≤ 100) ∧ (G 94 ≤ 5) ∧ (G 95 ≤ 5) ∧ (∀ i, i < G 94 → G (36 + i) < G 1 ∧ 1 ≤ G (41 + i) ∧ G (41 + i) ≤ G (46 + i) ∧ G (46 + i) ≤ G 0 ∧ 1 ≤ G (51 + i) ∧ G (51 + i) ≤ 99) ∧ (∀ c, c < G 95 → G (56 + c) < G 1 ∧ 1 ≤ G (61 + c) ∧ G (61 + c) ≤ 20 ∧ G (66 + c) ≤ 100 ∧ G (71 + c) ≤ 199 ∧ G (76 + c) ≤ 100 ∧ G (81 + c) ≤ 2 ∧ G (86 + c) ≤ 20) ∧ (∀ c, c < G 95 → ∃ s, Mc 18 c = nI s ∧ Mc 19 c = nI (G (96 + c)) ∧ G (96 + c) ≤ 8 ∧ s + G (96 + c) ≤ n ∧ ∀ k, k < G (96 + c) → G (101 + 8 * c + k) = b (s + k)) ∧ (∀ c, G 95 ≤ c → c < 5 → G (81 + c) = 0 ∧ G (86 + c) = 0) ∧ (G 92 = 0 → ∀ q, q < 5 → Mc (g + 2) q = nI 0)
theorem PGm.C {Mc Mr : Mm} {g n : Nat} {b : Nat → Nat} {G : Nat → Nat} (h : PGm Mc Mr g n b G) : CG Mc g G := h.1
theorem PGm.g3 {Mc Mr : Mm} {g n : Nat} {b : Nat → Nat} {G : Nat → Nat} (h : PGm Mc Mr g n b G) : Mc 17 3 = nI g := h.2.1
theorem PGm.ch {Mc Mr : Mm} {g n : Nat} {b : Nat → Nat} {G : Nat → Nat} (h : PGm Mc Mr g n b G) : ∀ i, i < 5 → Mc (g + 4) i = nI (G (6 + i)) := h.2.2.1
theorem PGm.r {Mc Mr : Mm} {g n : Nat} {b : Nat → Nat} {G : Nat → Nat} (h : PGm Mc Mr g n b G) : ∀ k, k < 141 → Mr 85 k = nI (G k) := h.2.2.2.1
theorem PGm.y {Mc Mr : Mm} {g n : Nat} {b : Nat → Nat} {G : Nat → Nat} (h : PGm Mc Mr g n b G) : (G 91 = 0 ∧ G 0 = 0 ∧ G 94 = 0 ∧ G 95 = 0) ∨ (G 91 = 1 ∧ (4 ≤ G 0 ∧ G 0 ≤ 40) ∧ (1 ≤ G 1 ∧ G 1 ≤ 6) ∧ 1 ≤ G 2 ∧ G 2 ≤ 9) := h.2.2.2.2.1
theorem PGm.v {Mc Mr : Mm} {g n : Nat} {b : Nat → Nat} {G : Nat → Nat} (h : PGm Mc Mr g n b G) : G 92 ≤ 5 := h.2.2.2.2.2.1
theorem PGm.syl {Mc Mr : Mm} {g n : Nat} {b : Nat → Nat} {G : Nat → Nat} (h : PGm Mc Mr g n b G) : ∀ p, p < G 92 → 1 ≤ G (11 + p) ∧ G (11 + p) ≤ 4 := h.2.2.2.2.2.2.1
theorem PGm.ten {Mc Mr : Mm} {g n : Nat} {b : Nat → Nat} {G : Nat → Nat} (h : PGm Mc Mr g n b G) : ∀ p, p < G 92 → ∀ k, k < G (11 + p) → 1 ≤ G (16 + 4 * p + k) ∧ G (16 + 4 * p + k) ≤ 20 := h.2.2.2.2.2.2.2.1
theorem PGm.o {Mc Mr : Mm} {g n : Nat} {b : Nat → Nat} {G : Nat → Nat} (h : PGm Mc Mr g n b G) : (G 93 = 0 ∧ G 4 = 0) ∨ (G 93 = 1 ∧ (1 ≤ G 3 ∧ G 3 ≤ 60) ∧ (1 ≤ G 4 ∧ G 4 ≤ 20) ∧ G 5 ≤ 100 ∧ 1 ≤ G 92) := h.2.2.2.2.2.2.2.2.1
theorem PGm.tu {Mc Mr : Mm} {g n : Nat} {b : Nat → Nat} {G : Nat → Nat} (h : PGm Mc Mr g n b G) : ∀ k, k < 5 → G (6 + k) ≤ 100 := h.2.2.2.2.2.2.2.2.2.1
theorem PGm.gr {Mc Mr : Mm} {g n : Nat} {b : Nat → Nat} {G : Nat → Nat} (h : PGm Mc Mr g n b G) : G 94 ≤ 5 := h.2.2.2.2.2.2.2.2.2.2.1
theorem PGm.cr {Mc Mr : Mm} {g n : Nat} {b : Nat → Nat} {G : Nat → Nat} (h : PGm Mc Mr g n b G) : G 95 ≤ 5 := h.2.2.2.2.2.2.2.2.2.2.2.1
theorem PGm.grv {Mc Mr : Mm} {g n : Nat} {b : Nat → Nat} {G : Nat → Nat} (h : PGm Mc Mr g n b G) : ∀ i, i < G 94 → G (36 + i) < G 1 ∧ 1 ≤ G (41 + i) ∧ G (41 + i) ≤ G (46 + i) ∧ G (46 + i) ≤ G 0 ∧ 1 ≤ G (51 + i) ∧ G (51 + i) ≤ 99 := h.2.2.2.2.2.2.2.2.2.2.2.2.1
theorem PGm.crp {Mc Mr : Mm} {g n : Nat} {b : Nat → Nat} {G : Nat → Nat} (h : PGm Mc Mr g n b G) : ∀ c, c < G 95 → G (56 + c) < G 1 ∧ 1 ≤ G (61 + c) ∧ G (61 + c) ≤ 20 ∧ G (66 + c) ≤ 100 ∧ G (71 + c) ≤ 199 ∧ G (76 + c) ≤ 100 ∧ G (81 + c) ≤ 2 ∧ G (86 + c) ≤ 20 := h.2.2.2.2.2.2.2.2.2.2.2.2.2.1
theorem PGm.nam {Mc Mr : Mm} {g n : Nat} {b : Nat → Nat} {G : Nat → Nat} (h : PGm Mc Mr g n b G) : ∀ c, c < G 95 → ∃ s, Mc 18 c = nI s ∧ Mc 19 c = nI (G (96 + c)) ∧ G (96 + c) ≤ 8 ∧ s + G (96 + c) ≤ n ∧ ∀ k, k < G (96 + c) → G (101 + 8 * c + k) = b (s + k) := h.2.2.2.2.2.2.2.2.2.2.2.2.2.2.1
theorem PGm.zw {Mc Mr : Mm} {g n : Nat} {b : Nat → Nat} {G : Nat → Nat} (h : PGm Mc Mr g n b G) : ∀ c, G 95 ≤ c → c < 5 → G (81 + c) = 0 ∧ G (86 + c) = 0 := h.2.2.2.2.2.2.2.2.2.2.2.2.2.2.2.1
theorem PGm.zs {Mc Mr : Mm} {g n : Nat} {b : Nat → Nat} {G : Nat → Nat} (h : PGm Mc Mr g n b G) : G 92 = 0 → ∀ q, q < 5 → Mc (g + 2) q = nI 0 := h.2.2.2.2.2.2.2.2.2.2.2.2.2.2.2.2
/-- what a line leaves as it was -/
def Xc (g : Nat) (M M' : Mm) : Prop := (∀ a, a ≠ 15 → a ≠ 17 → a ≠ 18 → a ≠ 19 → (a < g ∨ g + 6 < a) → M' a = M a) ∧ (M' 15 1 = M 15 1) ∧ (M' 17 3 = M 17 3)
theorem Xc.fr {g : Nat} {M M' : Mm} (h : Xc g M M') : ∀ a, a ≠ 15 → a ≠ 17 → a ≠ 18 → a ≠ 19 → (a < g ∨ g + 6 < a) → M' a = M a := h.1
theorem Xc.f1 {g : Nat} {M M' : Mm} (h : Xc g M M') : M' 15 1 = M 15 1 := h.2.1
theorem Xc.f3 {g : Nat} {M M' : Mm} (h : Xc g M M') : M' 17 3 = M 17 3 := h.2.2
def Xr (M M' : Mm) : Prop := (∀ a, a ≠ 81 → a ≠ 83 → a ≠ 85 → M' a = M a) ∧ (∀ k, k < 4 ∨ (10 < k ∧ k ≠ 13) → M' 81 k = M 81 k)
theorem Xr.fr {M M' : Mm} (h : Xr M M') : ∀ a, a ≠ 81 → a ≠ 83 → a ≠ 85 → M' a = M a := h.1
theorem Xr.r {M M' : Mm} (h : Xr M M') : ∀ k, k < 4 ∨ (10 < k ∧ k ≠ 13) → M' 81 k = M 81 k := h.2
theorem Wc.x {M M' : Mm} (g : Nat) (h : Wc M M') : Xc g M M' := ⟨fun a x y _ _ _ => h.fr a x y, h.f1, h.f3⟩
theorem Wr.x {M M' : Mm} (h : Wr M M') : Xr M M' := ⟨fun a x y _ => h.fr a x y, h.r⟩
theorem Xc.tr {g : Nat} {M M1 M2 : Mm} (h : Xc g M M1) (h' : Xc g M1 M2) : Xc g M M2 := ⟨fun a x y z w v => by rw [h'.fr a x y z w v, h.fr a x y z w v], by rw [h'.f1, h.f1], by rw [h'.f3, h.f3]⟩
theorem Xr.tr {M M1 M2 : Mm} (h : Xr M M1) (h' : Xr M1 M2) : Xr M M2 := ⟨fun a x y z => by rw [h'.fr a x y z, h.fr a x y z], fun k x => by rw [h'.r k x, h.r k x]⟩
theorem Xc.m {g : Nat} {M M' : Mm} (h : Xc g M M') {q k : Nat} (v : Int32) (gg : g = 1 ∨ g = 8) (hq : (g ≤ q ∧ q ≤ g + 6) ∨ q = 18 ∨ q = 19) : Xc g M (mset M' q k v) :=
  h.tr ⟨fun a _ _ z w v => mset_off _ _ _ (by omega), by rw [mset_off _ _ _ (by omega)], by rw [mset_off _ _ _ (by omega)]⟩
theorem Xr.m {M M' : Mm} (h : Xr M M') (k : Nat) (v : Int32) : Xr M (mset M' 85 k v) :=
  h.tr ⟨fun a _ _ z => mset_off _ _ _ z, fun k _ => by rw [mset_off _ _ _ (by decide)]⟩
theorem FL.m {Mc Mr : Mm} (h : FL Mc Mr) (k : Nat) (v : Int32) : FL Mc (mset Mr 85 k v) := by
  unfold FL
  rw [mset_off _ _ _ (show (81 : Nat) ≠ 85 by decide)]
  exact h
theorem fm {M : Mm} (h : M 81 13 = nI 1) (k : Nat) (v : Int32) : mset M 85 k v 81 13 = nI 1 := by rw [mset_off _ _ _ (by decide)]; exact h
theorem om {M : Mm} (h : M 81 13 = nI 0) (k : Nat) (v : Int32) : mset M 85 k v 81 13 = nI 0 := by rw [mset_off _ _ _ (by decide)]; exact h
theorem TKp.cong {Mc Mr Mc' Mr' : Mm} {n p : Nat} {b : Nat → Nat} (t : TKp Mc Mr n b p) (h1 : Mc' 15 = Mc 15) (h2 : Mc' 16 = Mc 16) (h3 : Mr' 81 = Mr 81) (h4 : Mr' 82 = Mr 82) (h5 : Mr' 83 = Mr 83) (h6 : Mc' 17 4 = Mc 17 4 := by first | rfl | (rw [mset_off _ _ _ (by omega)]) | (rw [mset_off _ _ _ (by omega), mset_off _ _ _ (by omega)]) | (rw [mset_off _ _ _ (by omega), mset_off _ _ _ (by omega), mset_off _ _ _ (by omega)]) | (rw [ms3 _ _ (by decide)]) | (rw [mset_off _ _ _ (by omega), mset_off _ _ _ (by omega), ms3 _ _ (by decide)])) : TKp Mc' Mr' n b p :=
  ⟨t.B.cong (by rw [h1]) h2, t.R.cong (by rw [h3]) h4, t.hp, by rw [h1]; exact t.c4, by rw [h1]; exact t.c5, by rw [h1]; exact t.c3, by rw [h1]; exact t.c6, by rw [h3]; exact t.r4, by rw [h3]; exact t.r5, by rw [h3]; exact t.r6, by rw [h3, h5]; exact t.rl, by rw [h3]; exact t.rv, by rw [h6, h3]; exact t.f4⟩
theorem PGm.w {Mc Mr Mc' Mr' : Mm} {g n : Nat} {b : Nat → Nat} {G : Nat → Nat} (P : PGm Mc Mr g n b G) (h : ∀ a, a ≠ 15 → a ≠ 17 → Mc' a = Mc a) (h3 : Mc' 17 3 = Mc 17 3) (h' : Mr' 85 = Mr 85) : PGm Mc' Mr' g n b G := by
  have hg := P.C.hg
  exact ⟨P.C.cong2 (fun a h1 h2 => h a (by omega) (by omega)), by rw [h3]; exact P.g3, fun i hi => by rw [h _ (by omega) (by omega)]; exact P.ch i hi, fun k hk => by rw [h']; exact P.r k hk, P.y, P.v, P.syl, P.ten, P.o, P.tu, P.gr, P.cr, P.grv, P.crp, fun c hc => by rw [h 18 (by decide) (by decide), h 19 (by decide) (by decide)]; exact P.nam c hc, P.zw, fun h0 q hq => by rw [h _ (by omega) (by omega)]; exact P.zs h0 q hq⟩
/-- a line's end -/
def LineEnd (g n : Nat) (b : Nat → Nat) (p : Nat) (Mc Mr : Mm) (A : Option (Int32 × Mm)) (R : Option Mm) : Prop :=
  (∃ Mc' Mr' p' G', A = some (nI 1, Mc') ∧ R = some Mr' ∧ TKp Mc' Mr' n b p' ∧ p < p' ∧ Mr' 81 13 = nI 0 ∧ PGm Mc' Mr' g n b G' ∧ Xc g Mc Mc' ∧ Xr Mr Mr') ∨
  (∃ Mc' Mr', A = some (nI 0, Mc') ∧ R = some Mr' ∧ FL Mc' Mr' ∧ Xc g Mc Mc' ∧ Xr Mr Mr')
section
variable {Mc Mr : Mm} {g n p : Nat} {b : Nat → Nat} {G : Nat → Nat}
theorem r_begins0 (h13 : Mr 81 13 = nI 0) : f_X10_begins (nI 0) Mr = f_X10_next Mr := by
  unfold f_X10_begins
  simp only [jns]
  rw [if_pos (by decide), if_pos (by rw [h13]; rfl)]
  cases f_X10_next Mr <;> rfl
theorem r_beginsE {e : Nat} (he : 0 < e ∧ e < 10) {Mr' : Mm} (hw : f_X10_wrong (nI e) (Mr 81 4) Mr = some Mr') (h : Mr' 81 13 = nI 1) : f_X10_begins (nI e) Mr = some Mr' := by
  unfold f_X10_begins
  simp only [jns]
  rw [if_neg (by rw [nle0 (by omega)]; omega), hw, bvs, if_neg (fl0 h)]
/-- the rest of the yard's line in the reference, once it has failed -/
theorem r_yardRest {x1 x2 x3 : Int32} {M : Mm} (h : M 81 13 = nI 1) : (bd (f_X10_told 24 (nI 4) x1 M) fun v30_7 M30_6 => bd (f_X10_told 25 (nI 1) x2 (mset M30_6 85 0 v30_7)) fun v45_9 M45_8 => bd (f_X10_told 26 (nI 1) x3 (mset M45_8 85 1 v45_9)) fun v60_11 M60_10 => if ((mset M60_10 85 2 v60_11) 81 13) = 0 then (some ((mset (mset M60_10 85 2 v60_11) 85 91 (nI 1)))) else (some ((mset M60_10 85 2 v60_11)))) = some (mset (mset (mset M 85 0 (nI 4)) 85 1 (nI 1)) 85 2 (nI 1)) := by
  rw [fl_told h, bds, fl_told (fm h _ _), bds, fl_told (fm (fm h _ _) _ _), bds, if_neg (fl0 (fm (fm (fm h _ _) _ _) _ _))]
theorem En_congr {G' : Nat → Nat} (h : ∀ i, 11 ≤ i → i < 36 → G' i = G i) (h4 : ∀ p, p < 5 → p < G 92 → G (11 + p) ≤ 4) : ∀ q, q ≤ 5 → q ≤ G 92 → En G' q = En G q
  | 0, _, _ => rfl
  | q + 1, hq, hq2 => by
    rw [En_succ, En_succ, En_congr h h4 q (by omega) (by omega)]
    have := h4 q (by omega) (by omega)
    unfold Tn
    rw [h (11 + q) (by omega) (by omega), Sm_congr (fun k hk => h (16 + 4 * q + k) (by omega) (by omega))]
theorem yard_PGm {Mc' Mr' : Mm} {a c d : Nat} (P : PGm Mc Mr g n b G) (h0 : G 91 = 0) (ha : 4 ≤ a ∧ a ≤ 40) (hc : 1 ≤ c ∧ c ≤ 6) (hd : 1 ≤ d ∧ d ≤ 9) (f : ∀ x, x ≠ 15 → x ≠ 17 → x ≠ g → Mc' x = Mc x) (f3 : Mc' 17 3 = Mc 17 3) (e6 : Mc' g 6 = nI a) (e7 : Mc' g 7 = nI c) (e8 : Mc' g 8 = nI d) (fk : ∀ k, k ≠ 6 → k ≠ 7 → k ≠ 8 → Mc' g k = Mc g k) (er : ∀ k, k < 141 → Mr' 85 k = nI (gset (gset (gset (gset G 0 a) 1 c) 2 d) 91 1 k)) : PGm Mc' Mr' g n b (gset (gset (gset (gset G 0 a) 1 c) 2 d) 91 1) := by
  have hg := P.C.hg
  have hy : G 94 = 0 ∧ G 95 = 0 := by
    rcases P.y with h | h
    · exact h.2.2
    · omega
  have e : ∀ i, 3 ≤ i → i ≠ 91 → gset (gset (gset (gset G 0 a) 1 c) 2 d) 91 1 i = G i := fun i h1 h2 => by rw [gs2 _ _ h2, gs2 _ _ (by omega), gs2 _ _ (by omega), gs2 _ _ (by omega)]
  have z0 : gset (gset (gset (gset G 0 a) 1 c) 2 d) 91 1 0 = a := by rw [gs2 _ _ (by decide), gs2 _ _ (by decide), gs2 _ _ (by decide), gs1]
  have z1 : gset (gset (gset (gset G 0 a) 1 c) 2 d) 91 1 1 = c := by rw [gs2 _ _ (by decide), gs2 _ _ (by decide), gs1]
  have z2 : gset (gset (gset (gset G 0 a) 1 c) 2 d) 91 1 2 = d := by rw [gs2 _ _ (by decide), gs1]
  have z91 : gset (gset (gset (gset G 0 a) 1 c) 2 d) 91 1 91 = 1 := gs1 _ _ _
  generalize gset (gset (gset (gset G 0 a) 1 c) 2 d) 91 1 = G' at *
  have hv := P.v
  have C := P.C
  refine ⟨⟨hg, by rw [e6, z0], by rw [e7, z1], by rw [e8, z2], ?_, ?_, ?_, ?_, ?_, ?_, fun q hq => ?_, fun q hq => ?_, fun q hq k hk => ?_, fun i hi => ?_, fun i hi => ?_, fun i hi => ?_⟩, by rw [f3]; exact P.g3, fun i hi => ?_, er, .inr ⟨z91, by omega, by omega, by omega⟩, ?_, fun q hq => ?_, fun q hq k hk => ?_, ?_, fun k hk => ?_, ?_, ?_, fun i hi => ?_, fun i hi => ?_, fun i hi => ?_, fun i hi hi5 => ?_, fun h92 q hq => ?_⟩
  · rw [fk 9 (by decide) (by decide) (by decide), e 92 (by omega) (by omega)]; exact C.f9
  · rw [fk 10 (by decide) (by decide) (by decide), e 3 (by omega) (by omega)]; exact C.f10
  · rw [fk 11 (by decide) (by decide) (by decide), e 4 (by omega) (by omega)]; exact C.f11
  · rw [fk 12 (by decide) (by decide) (by decide), e 5 (by omega) (by omega)]; exact C.f12
  · rw [fk 13 (by decide) (by decide) (by decide), e 94 (by omega) (by omega)]; exact C.f13
  · rw [fk 14 (by decide) (by decide) (by decide), e 95 (by omega) (by omega)]; exact C.f14
  · rw [e 92 (by omega) (by omega)] at hq
    rw [f _ (by omega) (by omega) (by omega), En_congr (G := G) (fun i h1 h2 => e i (by omega) (by omega)) (fun p _ h2 => (P.syl p h2).2) (q + 1) (by omega) (by omega)]
    exact C.ends q hq
  · rw [e 92 (by omega) (by omega)] at hq
    rw [f _ (by omega) (by omega) (by omega), e (11 + q) (by omega) (by omega)]; exact C.syc q hq
  · rw [e 92 (by omega) (by omega)] at hq
    rw [e (11 + q) (by omega) (by omega)] at hk
    have := (P.syl q hq).2
    rw [f _ (by omega) (by omega) (by omega), e (16 + 4 * q + k) (by omega) (by omega)]; exact C.syl q hq k hk
  · rw [e 92 (by omega) (by omega)] at hi
    rw [f _ (by omega) (by omega) (by omega), e (6 + i) (by omega) (by omega)]; exact C.cha i hi
  · rw [e 94 (by omega) (by omega)] at hi
    omega
  · rw [e 95 (by omega) (by omega)] at hi
    omega
  · rw [f _ (by omega) (by omega) (by omega), e (6 + i) (by omega) (by omega)]; exact P.ch i hi
  · rw [e 92 (by omega) (by omega)]; exact hv
  · rw [e 92 (by omega) (by omega)] at hq
    rw [e (11 + q) (by omega) (by omega)]; exact P.syl q hq
  · rw [e 92 (by omega) (by omega)] at hq
    rw [e (11 + q) (by omega) (by omega)] at hk
    have := (P.syl q hq).2
    rw [e (16 + 4 * q + k) (by omega) (by omega)]; exact P.ten q hq k hk
  · rw [e 93 (by omega) (by omega), e 4 (by omega) (by omega), e 3 (by omega) (by omega), e 5 (by omega) (by omega), e 92 (by omega) (by omega)]; exact P.o
  · rw [e (6 + k) (by omega) (by omega)]; exact P.tu k hk
  · rw [e 94 (by omega) (by omega)]; omega
  · rw [e 95 (by omega) (by omega)]; omega
  · rw [e 94 (by omega) (by omega)] at hi
    omega
  · rw [e 95 (by omega) (by omega)] at hi
    omega
  · rw [e 95 (by omega) (by omega)] at hi
    omega
  · rw [e 95 (by omega) (by omega)] at hi
    rw [e (81 + i) (by omega) (by omega), e (86 + i) (by omega) (by omega)]; exact P.zw i hi hi5
  · rw [e 92 (by omega) (by omega)] at h92
    rw [f _ (by omega) (by omega) (by omega)]; exact P.zs h92 q hq
theorem nI_pos3 {a : Nat} (h0 : 0 < a) (h : a < 1000) : ¬ nI a ≤ 0 := by rw [nle0 (by omega)]; omega
theorem both_yard (t : TKp Mc Mr n b p) (P : PGm Mc Mr g n b G) (h13 : Mr 81 13 = nI 0) (hw : wd b n p 0 = true) : LineEnd g n b p Mc Mr (f_X5_yardLine Mc) (f_X10_yardLine Mr) := by
  have hg := P.C.hg
  have hk := wd_K hw
  unfold f_X5_yardLine f_X10_yardLine
  simp only [jns]
  rw [P.g3, bgv hg, P.C.f6, P.r 91 (by decide)]
  by_cases c0 : G 91 = 0
  · have h0 : G 0 = 0 := by
      rcases P.y with h | h
      · exact h.2.1
      · omega
    rw [c0, h0, if_pos (by decide), if_pos (by decide), r_begins0 h13]
    obtain ⟨Mc1, Mr1, a1, a2, t1, w1, w2, w3, w4⟩ := t.adv
    have hp1 := (tK_pos t.hp (b := b) (by omega)).2
    have o1 : Mr1 81 13 = nI 0 := by rw [w4 13 (by omega)]; exact h13
    have W1 : Wc Mc Mc1 := ⟨fun a h _ => w1 a h, w2, by rw [w1 17 (by decide)]⟩
    have V1 : Wr Mr Mr1 := ⟨w3, fun k hk => w4 k (by omega)⟩
    rw [a1, a2, bvs, bvs]
    rcases both_told t1 (i := 1) (a := 4) (c := 40) (by decide) (by decide) (by decide) o1 with ⟨Mc2, Mr2, p2, v2, b1, b2, b3, b4, b5, t2, hp2, o2, W2, V2⟩ | ⟨Mc2, Mr2, b3, b4, F, W2, V2⟩
    · have g2 : Mc2 17 3 = nI g := by rw [W2.f3, W1.f3]; exact P.g3
      rw [b3, b4, bds, bds, if_neg (by decide), g2, bgv hg, b5]
      have t2' : TKp (mset Mc2 g 6 (nI v2)) (mset Mr2 85 0 (nI v2)) n b p2 := t2.cong (mset_off _ _ _ (by omega)) (mset_off _ _ _ (by omega)) (mset_off _ _ _ (by decide)) (mset_off _ _ _ (by decide)) (mset_off _ _ _ (by decide))
      rcases both_told t2' (i := 2) (a := 1) (c := 6) (by decide) (by decide) (by decide) (om o2 _ _) with ⟨Mc3, Mr3, p3, v3, d1, d2, d3, d4, d5, t3, hp3, o3, W3, V3⟩ | ⟨Mc3, Mr3, d3, d4, F, W3, V3⟩
      · have g3 : Mc3 17 3 = nI g := by rw [W3.f3, mset_off _ _ _ (by omega)]; exact g2
        rw [d3, d4, bds, bds, if_neg (by decide), g3, bgv hg, d5]
        have t3' : TKp (mset Mc3 g 7 (nI v3)) (mset Mr3 85 1 (nI v3)) n b p3 := t3.cong (mset_off _ _ _ (by omega)) (mset_off _ _ _ (by omega)) (mset_off _ _ _ (by decide)) (mset_off _ _ _ (by decide)) (mset_off _ _ _ (by decide))
        rcases both_told t3' (i := 3) (a := 1) (c := 9) (by decide) (by decide) (by decide) (om o3 _ _) with ⟨Mc4, Mr4, p4, v4, e1, e2, e3, e4, e5, t4, hp4, o4, W4, V4⟩ | ⟨Mc4, Mr4, e3, e4, F, W4, V4⟩
        · have g4 : Mc4 17 3 = nI g := by rw [W4.f3, mset_off _ _ _ (by omega)]; exact g3
          rw [e3, e4, bds, bds, if_neg (by decide), g4, bgv hg, e5, if_pos (by rw [om o4]; rfl)]
          left
          have m85 : ∀ k, Mr4 85 k = mset (mset Mr 85 0 (nI v2)) 85 1 (nI v3) 85 k := fun k => by
            rw [V4.fr 85 (by decide) (by decide)]
            by_cases c : k = 1
            · subst c; rw [ms1, ms1]
            · rw [ms3 _ _ c, ms3 _ _ c, V3.fr 85 (by decide) (by decide)]
              by_cases c2 : k = 0
              · subst c2; rw [ms1, ms1]
              · rw [ms3 _ _ c2, ms3 _ _ c2, V2.fr 85 (by decide) (by decide), V1.fr 85 (by decide) (by decide)]
          refine ⟨mset Mc4 g 8 (nI v4), mset (mset Mr4 85 2 (nI v4)) 85 91 (nI 1), p4, gset (gset (gset (gset G 0 v2) 1 v3) 2 v4) 91 1, rfl, rfl, t4.cong (mset_off _ _ _ (by omega)) (mset_off _ _ _ (by omega)) (by rw [mset_off _ _ _ (by decide), mset_off _ _ _ (by decide)]) (by rw [mset_off _ _ _ (by decide), mset_off _ _ _ (by decide)]) (by rw [mset_off _ _ _ (by decide), mset_off _ _ _ (by decide)]), by omega, om (om o4 _ _) _ _, ?_, ?_, ?_⟩
          · refine yard_PGm P c0 ⟨b1, b2⟩ ⟨d1, d2⟩ ⟨e1, e2⟩ (fun x h1 h2 h3 => ?_) ?_ ?_ ?_ (ms1 _ _ _ _) (fun k h1 h2 h3 => ?_) (fun k hk2 => ?_)
            · rw [mset_off _ _ _ h3, W4.fr x h1 h2, mset_off _ _ _ h3, W3.fr x h1 h2, mset_off _ _ _ h3, W2.fr x h1 h2, W1.fr x h1 h2]
            · rw [mset_off _ _ _ (by omega), W4.f3, mset_off _ _ _ (by omega), W3.f3, mset_off _ _ _ (by omega), W2.f3, W1.f3]
            · rw [ms3 _ _ (by decide), W4.fr g (by omega) (by omega), ms3 _ _ (by decide), W3.fr g (by omega) (by omega), ms1]
            · rw [ms3 _ _ (by decide), W4.fr g (by omega) (by omega), ms1]
            · rw [ms3 _ _ h3, W4.fr g (by omega) (by omega), ms3 _ _ h2, W3.fr g (by omega) (by omega), ms3 _ _ h1, W2.fr g (by omega) (by omega), W1.fr g (by omega) (by omega)]
            · unfold gset
              by_cases k91 : k = 91
              · subst k91; rw [ms1, if_pos rfl]
              · rw [ms3 _ _ k91, if_neg k91]
                by_cases k2 : k = 2
                · subst k2; rw [ms1, if_pos rfl]
                · rw [ms3 _ _ k2, if_neg k2, m85]
                  by_cases k1 : k = 1
                  · subst k1; rw [ms1, if_pos rfl]
                  · rw [ms3 _ _ k1, if_neg k1]
                    by_cases k0 : k = 0
                    · subst k0; rw [ms1, if_pos rfl]
                    · rw [ms3 _ _ k0, if_neg k0]; exact P.r k hk2
          · exact (((((W1.x g).tr (W2.x g)).m _ hg (.inl (by omega))).tr (W3.x g)).m _ hg (.inl (by omega))).tr (W4.x g) |>.m _ hg (.inl (by omega))
          · exact ((((((V1.x).tr V2.x).m _ _).tr V3.x).m _ _).tr V4.x |>.m _ _).m _ _
        · right
          rw [e3, e4, bds, bds, if_pos (by decide), if_neg (fl0 (fm F.2.2 _ _))]
          exact ⟨_, _, rfl, rfl, F.m _ _, ((((W1.x g).tr (W2.x g)).m _ hg (.inl (by omega))).tr (W3.x g)).m _ hg (.inl (by omega)) |>.tr (W4.x g), (((((V1.x).tr V2.x).m _ _).tr V3.x).m _ _).tr V4.x |>.m _ _⟩
      · right
        rw [d3, d4, bds, bds, if_pos (by decide), fl_told (fm F.2.2 _ _), bds, if_neg (fl0 (fm (fm F.2.2 _ _) _ _))]
        exact ⟨_, _, rfl, rfl, (F.m _ _).m _ _, (((W1.x g).tr (W2.x g)).m _ hg (.inl (by omega))).tr (W3.x g), ((((V1.x).tr V2.x).m _ _).tr V3.x |>.m _ _).m _ _⟩
    · right
      rw [b3, b4, bds, bds, if_pos (by decide), fl_told (fm F.2.2 _ _), bds, fl_told (fm (fm F.2.2 _ _) _ _), bds, if_neg (fl0 (fm (fm (fm F.2.2 _ _) _ _) _ _))]
      exact ⟨_, _, rfl, rfl, ((F.m _ _).m _ _).m _ _, (W1.x g).tr (W2.x g), (((V1.x).tr V2.x |>.m _ _).m _ _).m _ _⟩
  · have hy : G 91 = 1 ∧ 4 ≤ G 0 ∧ G 0 ≤ 40 := by
      rcases P.y with h | h
      · omega
      · exact ⟨h.1, h.2.1⟩
    obtain ⟨Mc1, Mr1, a1, a2, F, W1, V1, -⟩ := both_fail t 3 h13
    rw [if_neg (nI_pos3 (by omega) (by omega)), if_neg (nI_pos3 (by omega) (by omega)), a1, r_beginsE (by omega) a2 F.2.2, bvs, r_yardRest F.2.2]
    right
    exact ⟨_, _, rfl, rfl, ((F.m _ _).m _ _).m _ _, W1.x g, ((V1.x.m _ _).m _ _).m _ _⟩
end
