/-! THE INVARIANT of the law's loop. -/
/-- films of a part with shoulders so, turned so, among the first n -/
def Fc (fp fm ft : Nat → Nat) (p s t n : Nat) : Nat := Sm (fun k => if fp k = p ∧ fm k = s ∧ ft k = t then 1 else 0) n
/-- films and stops, of the class and of the reference -/
abbrev NT (M : Mm) (n : Nat) (fp fm ft sn sk : Nat → Nat) : Prop := (n ≤ 30) ∧ (M 73 3 = nI n) ∧ (M 81 26 = nI n) ∧ (∀ k, k < n → M 88 k = nI (fp k) ∧ M 89 k = nI (fm k) ∧ M 90 k = nI (ft k) ∧ fp k < 4 ∧ fm k ≤ 1 ∧ ft k ≤ 1) ∧ (∀ p, p < 5 → ∀ s, s < 2 → ∀ t, t < 2 → M 74 (4 * p + 2 * s + t) = nI (Fc fp fm ft p s t n)) ∧ (∀ c, c < 5 → sn c ≤ 9 ∧ sk c ≤ sn c ∧ M 75 c = nI (sn c) ∧ M 91 c = nI (sn c) ∧ M 76 c = nI (sk c) ∧ M 92 c = nI (sk c))
theorem NT.n30 {M : Mm} {n : Nat} {fp fm ft sn sk : Nat → Nat} (h : NT M n fp fm ft sn sk) : n ≤ 30 := h.1
theorem NT.c {M : Mm} {n : Nat} {fp fm ft sn sk : Nat → Nat} (h : NT M n fp fm ft sn sk) : M 73 3 = nI n := h.2.1
theorem NT.r {M : Mm} {n : Nat} {fp fm ft sn sk : Nat → Nat} (h : NT M n fp fm ft sn sk) : M 81 26 = nI n := h.2.2.1
theorem NT.p {M : Mm} {n : Nat} {fp fm ft sn sk : Nat → Nat} (h : NT M n fp fm ft sn sk) : ∀ k, k < n → M 88 k = nI (fp k) ∧ M 89 k = nI (fm k) ∧ M 90 k = nI (ft k) ∧ fp k < 4 ∧ fm k ≤ 1 ∧ ft k ≤ 1 := h.2.2.2.1
theorem NT.f {M : Mm} {n : Nat} {fp fm ft sn sk : Nat → Nat} (h : NT M n fp fm ft sn sk) : ∀ p, p < 5 → ∀ s, s < 2 → ∀ t, t < 2 → M 74 (4 * p + 2 * s + t) = nI (Fc fp fm ft p s t n) := h.2.2.2.2.1
theorem NT.s {M : Mm} {n : Nat} {fp fm ft sn sk : Nat → Nat} (h : NT M n fp fm ft sn sk) : ∀ c, c < 5 → sn c ≤ 9 ∧ sk c ≤ sn c ∧ M 75 c = nI (sn c) ∧ M 91 c = nI (sn c) ∧ M 76 c = nI (sk c) ∧ M 92 c = nI (sk c) := h.2.2.2.2.2
/-- the tape -/
abbrev TP (M : Mm) (tl : Nat) : Prop := (tl ≤ 900) ∧ (M 15 1 = nI tl) ∧ (M 81 2 = nI tl) ∧ (∀ k, k < tl → ∃ b, b < 256 ∧ M 82 k = nI b ∧ M 16 k &&& nI 255 = nI b)
theorem TP.le {M : Mm} {tl : Nat} (h : TP M tl) : tl ≤ 900 := h.1
theorem TP.c {M : Mm} {tl : Nat} (h : TP M tl) : M 15 1 = nI tl := h.2.1
theorem TP.r {M : Mm} {tl : Nat} (h : TP M tl) : M 81 2 = nI tl := h.2.2.1
theorem TP.b {M : Mm} {tl : Nat} (h : TP M tl) : ∀ k, k < tl → ∃ b, b < 256 ∧ M 82 k = nI b ∧ M 16 k &&& nI 255 = nI b := h.2.2.2
/-- what holds with and without a game -/
abbrev IC (M : Mm) (g tl : Nat) : Prop := (g = 1 ∨ g = 8) ∧ (M 0 8 = nI g) ∧ (M 0 9 = nI (9 - g)) ∧ (TP M tl) ∧ (M 0 11 = M 81 11) ∧ (M 0 12 = M 81 9) ∧ (M 0 11 = nI 4 → M 0 13 = M 81 10) ∧ (M 81 20 = -1) ∧ (∃ n fp fm ft sn sk, NT M n fp fm ft sn sk)
theorem IC.gg {M : Mm} {g tl : Nat} (h : IC M g tl) : g = 1 ∨ g = 8 := h.1
theorem IC.h8 {M : Mm} {g tl : Nat} (h : IC M g tl) : M 0 8 = nI g := h.2.1
theorem IC.h9 {M : Mm} {g tl : Nat} (h : IC M g tl) : M 0 9 = nI (9 - g) := h.2.2.1
theorem IC.tp {M : Mm} {g tl : Nat} (h : IC M g tl) : TP M tl := h.2.2.2.1
theorem IC.tr {M : Mm} {g tl : Nat} (h : IC M g tl) : M 0 11 = M 81 11 := h.2.2.2.2.1
theorem IC.lf {M : Mm} {g tl : Nat} (h : IC M g tl) : M 0 12 = M 81 9 := h.2.2.2.2.2.1
theorem IC.pl {M : Mm} {g tl : Nat} (h : IC M g tl) : M 0 11 = nI 4 → M 0 13 = M 81 10 := h.2.2.2.2.2.2.1
theorem IC.lo {M : Mm} {g tl : Nat} (h : IC M g tl) : M 81 20 = -1 := h.2.2.2.2.2.2.2.1
theorem IC.nt {M : Mm} {g tl : Nat} (h : IC M g tl) : ∃ n fp fm ft sn sk, NT M n fp fm ft sn sk := h.2.2.2.2.2.2.2.2
/-- no game -/
abbrev NG (M : Mm) (g : Nat) : Prop := (M 81 14 = nI 0) ∧ (∀ k, 6 ≤ k → k ≤ 14 → M g k = nI 0) ∧ (M 20 9 = nI 0) ∧ (M 0 10 = nI 0) ∧ (M 81 19 = nI 0) ∧ (M 73 3 = nI 0)
theorem NG.hg {M : Mm} {g : Nat} (h : NG M g) : M 81 14 = nI 0 := h.1
theorem NG.z {M : Mm} {g : Nat} (h : NG M g) : ∀ k, 6 ≤ k → k ≤ 14 → M g k = nI 0 := h.2.1
theorem NG.seed {M : Mm} {g : Nat} (h : NG M g) : M 20 9 = nI 0 := h.2.2.1
theorem NG.m0 {M : Mm} {g : Nat} (h : NG M g) : M 0 10 = nI 0 := h.2.2.2.1
theorem NG.m1 {M : Mm} {g : Nat} (h : NG M g) : M 81 19 = nI 0 := h.2.2.2.2.1
theorem NG.fl {M : Mm} {g : Nat} (h : NG M g) : M 73 3 = nI 0 := h.2.2.2.2.2
/-- a game G, its play Q, mk marks Qm -/
abbrev IG (M : Mm) (g : Nat) (G : Nat → Nat) (Q : Pl) (mk : Nat) (Qm : Nat → Pl) (T : Nat) : Prop := (CG M g G) ∧ (RG M G) ∧ (GW G) ∧ (M 81 14 = nI 1) ∧ (RP M G Q) ∧ (CP M 20 G Q) ∧ (QW G Q T) ∧ (mk ≤ 3) ∧ (M 0 10 = nI mk) ∧ (M 81 19 = nI mk) ∧ (∀ s, s < mk → KP M s G (Qm s)) ∧ (∀ s, s < mk → CP M (31 + 10 * s) G (Qm s)) ∧ (∀ s, s < mk → QW G (Qm s) T)
theorem IG.C {M : Mm} {g : Nat} {G : Nat → Nat} {Q : Pl} {mk : Nat} {Qm : Nat → Pl} {T : Nat} (h : IG M g G Q mk Qm T) : CG M g G := h.1
theorem IG.R {M : Mm} {g : Nat} {G : Nat → Nat} {Q : Pl} {mk : Nat} {Qm : Nat → Pl} {T : Nat} (h : IG M g G Q mk Qm T) : RG M G := h.2.1
theorem IG.W {M : Mm} {g : Nat} {G : Nat → Nat} {Q : Pl} {mk : Nat} {Qm : Nat → Pl} {T : Nat} (h : IG M g G Q mk Qm T) : GW G := h.2.2.1
theorem IG.hg {M : Mm} {g : Nat} {G : Nat → Nat} {Q : Pl} {mk : Nat} {Qm : Nat → Pl} {T : Nat} (h : IG M g G Q mk Qm T) : M 81 14 = nI 1 := h.2.2.2.1
theorem IG.H {M : Mm} {g : Nat} {G : Nat → Nat} {Q : Pl} {mk : Nat} {Qm : Nat → Pl} {T : Nat} (h : IG M g G Q mk Qm T) : RP M G Q := h.2.2.2.2.1
theorem IG.K {M : Mm} {g : Nat} {G : Nat → Nat} {Q : Pl} {mk : Nat} {Qm : Nat → Pl} {T : Nat} (h : IG M g G Q mk Qm T) : CP M 20 G Q := h.2.2.2.2.2.1
theorem IG.qw {M : Mm} {g : Nat} {G : Nat → Nat} {Q : Pl} {mk : Nat} {Qm : Nat → Pl} {T : Nat} (h : IG M g G Q mk Qm T) : QW G Q T := h.2.2.2.2.2.2.1
theorem IG.mk3 {M : Mm} {g : Nat} {G : Nat → Nat} {Q : Pl} {mk : Nat} {Qm : Nat → Pl} {T : Nat} (h : IG M g G Q mk Qm T) : mk ≤ 3 := h.2.2.2.2.2.2.2.1
theorem IG.m0 {M : Mm} {g : Nat} {G : Nat → Nat} {Q : Pl} {mk : Nat} {Qm : Nat → Pl} {T : Nat} (h : IG M g G Q mk Qm T) : M 0 10 = nI mk := h.2.2.2.2.2.2.2.2.1
theorem IG.m1 {M : Mm} {g : Nat} {G : Nat → Nat} {Q : Pl} {mk : Nat} {Qm : Nat → Pl} {T : Nat} (h : IG M g G Q mk Qm T) : M 81 19 = nI mk := h.2.2.2.2.2.2.2.2.2.1
theorem IG.mr {M : Mm} {g : Nat} {G : Nat → Nat} {Q : Pl} {mk : Nat} {Qm : Nat → Pl} {T : Nat} (h : IG M g G Q mk Qm T) : ∀ s, s < mk → KP M s G (Qm s) := h.2.2.2.2.2.2.2.2.2.2.1
theorem IG.mc {M : Mm} {g : Nat} {G : Nat → Nat} {Q : Pl} {mk : Nat} {Qm : Nat → Pl} {T : Nat} (h : IG M g G Q mk Qm T) : ∀ s, s < mk → CP M (31 + 10 * s) G (Qm s) := h.2.2.2.2.2.2.2.2.2.2.2.1
theorem IG.mq {M : Mm} {g : Nat} {G : Nat → Nat} {Q : Pl} {mk : Nat} {Qm : Nat → Pl} {T : Nat} (h : IG M g G Q mk Qm T) : ∀ s, s < mk → QW G (Qm s) T := h.2.2.2.2.2.2.2.2.2.2.2.2
def Inv (M : Mm) (T : Nat) : Prop := ∃ g tl, IC M g tl ∧ (NG M g ∨ ∃ G Q mk Qm, IG M g G Q mk Qm T)
/-- what a call may leave as it was -/
abbrev Fr (M M' : Mm) : Prop := (∀ a, 1 ≤ a → a ≤ 26 → M' a = M a) ∧ (∀ a, 30 ≤ a → a ≤ 60 → M' a = M a) ∧ (∀ a, 73 ≤ a → a ≤ 76 → M' a = M a) ∧ (∀ a, 82 ≤ a → a ≤ 85 → M' a = M a) ∧ (∀ a, 88 ≤ a → a ≤ 92 → M' a = M a) ∧ (∀ k, k < 132 → M' 87 k = M 87 k) ∧ (∀ k, k < 44 → M' 86 k = M 86 k) ∧ (∀ k, k ≠ 11 → M' 0 k = M 0 k) ∧ (∀ k, k ≠ 0 → k ≠ 11 → k < 27 → M' 81 k = M 81 k)
theorem Fr.c1 {M M' : Mm} (h : Fr M M') : ∀ a, 1 ≤ a → a ≤ 26 → M' a = M a := h.1
theorem Fr.c2 {M M' : Mm} (h : Fr M M') : ∀ a, 30 ≤ a → a ≤ 60 → M' a = M a := h.2.1
theorem Fr.c3 {M M' : Mm} (h : Fr M M') : ∀ a, 73 ≤ a → a ≤ 76 → M' a = M a := h.2.2.1
theorem Fr.c4 {M M' : Mm} (h : Fr M M') : ∀ a, 82 ≤ a → a ≤ 85 → M' a = M a := h.2.2.2.1
theorem Fr.c5 {M M' : Mm} (h : Fr M M') : ∀ a, 88 ≤ a → a ≤ 92 → M' a = M a := h.2.2.2.2.1
theorem Fr.m {M M' : Mm} (h : Fr M M') : ∀ k, k < 132 → M' 87 k = M 87 k := h.2.2.2.2.2.1
theorem Fr.st {M M' : Mm} (h : Fr M M') : ∀ k, k < 44 → M' 86 k = M 86 k := h.2.2.2.2.2.2.1
theorem Fr.z {M M' : Mm} (h : Fr M M') : ∀ k, k ≠ 11 → M' 0 k = M 0 k := h.2.2.2.2.2.2.2.1
theorem Fr.r {M M' : Mm} (h : Fr M M') : ∀ k, k ≠ 0 → k ≠ 11 → k < 27 → M' 81 k = M 81 k := h.2.2.2.2.2.2.2.2
theorem CG.cong2 {M M0 : Mm} {g : Nat} {G : Nat → Nat} (C : CG M0 g G) (h : ∀ a, 1 ≤ a → a < 15 → M a = M0 a) : CG M g G := by
  obtain ⟨X, hX⟩ : ∃ X : Mm, X = fun a => if a = 0 then M0 0 else M a := ⟨_, rfl⟩
  have C2 : CG X g G := C.cong (fun a ha => by
    rw [hX]
    by_cases c : a = 0
    · subst c; rfl
    · show (if a = 0 then M0 0 else M a) = _
      rw [if_neg c, h a (by omega) ha])
  have hg := C.hg
  have e : ∀ a, a ≠ 0 → X a = M a := fun a ha => by rw [hX]; exact if_neg ha
  refine ⟨hg, ?_, ?_, ?_, ?_, ?_, ?_, ?_, ?_, ?_, fun p hp => ?_, fun p hp => ?_, fun p hp k hk => ?_, fun p hp => ?_, fun p hp => ?_, fun p hp k hk => ?_⟩
  · rw [← e g (by omega)]; exact C2.f6
  · rw [← e g (by omega)]; exact C2.f7
  · rw [← e g (by omega)]; exact C2.f8
  · rw [← e g (by omega)]; exact C2.f9
  · rw [← e g (by omega)]; exact C2.f10
  · rw [← e g (by omega)]; exact C2.f11
  · rw [← e g (by omega)]; exact C2.f12
  · rw [← e g (by omega)]; exact C2.f13
  · rw [← e g (by omega)]; exact C2.f14
  · rw [← e _ (by omega)]; exact C2.ends p hp
  · rw [← e _ (by omega)]; exact C2.syc p hp
  · rw [← e _ (by omega)]; exact C2.syl p hp k hk
  · rw [← e _ (by omega)]; exact C2.cha p hp
  · rw [← e _ (by omega)]; exact C2.grv p hp
  · rw [← e _ (by omega)]; exact C2.trt p hp k hk
theorem CP.cong7 {M M' : Mm} {p : Nat} {G : Nat → Nat} {Q : Pl} (H : CP M p G Q) (h : ∀ a, p ≤ a → a ≤ p + 6 → M' a = M a) : CP M' p G Q := by
  refine ⟨?_, ?_, ?_, ?_, ?_, ?_, fun c hc => ?_, fun c hc => ?_, fun c hc => ?_, fun c hc => ?_, fun c hc => ?_, fun c hc => ?_⟩
  · rw [h _ (by omega) (by omega)]; exact H.said
  · rw [h _ (by omega) (by omega)]; exact H.loud
  · rw [h _ (by omega) (by omega)]; exact H.looked
  · rw [h _ (by omega) (by omega)]; exact H.passed
  · rw [h _ (by omega) (by omega)]; exact H.touch
  · rw [h _ (by omega) (by omega)]; exact H.seed
  · rw [h _ (by omega) (by omega)]; exact H.at_ c hc
  · rw [h _ (by omega) (by omega)]; exact H.into c hc
  · rw [h _ (by omega) (by omega)]; exact H.how c hc
  · rw [h _ (by omega) (by omega)]; exact H.seen c hc
  · rw [h _ (by omega) (by omega)]; exact H.wrong c hc
  · rw [h _ (by omega) (by omega)]; exact H.there c hc
theorem QW.up {G : Nat → Nat} {Q : Pl} {T T' : Nat} (h : QW G Q T) (hT : T ≤ T') : QW G Q T' :=
  ⟨h.part, h.st, h.into, h.how, h.hw, h.there, h.seed, h.loud, h.cnt, h.lk, Nat.le_trans h.ps hT⟩
theorem IG.up {M : Mm} {g : Nat} {G : Nat → Nat} {Q : Pl} {mk : Nat} {Qm : Nat → Pl} {T T' : Nat} (h : IG M g G Q mk Qm T) (hT : T ≤ T') : IG M g G Q mk Qm T' :=
  ⟨h.C, h.R, h.W, h.hg, h.H, h.K, h.qw.up hT, h.mk3, h.m0, h.m1, h.mr, h.mc, fun s hs => (h.mq s hs).up hT⟩
theorem KP.cong {M M' : Mm} {s : Nat} {G : Nat → Nat} {Q : Pl} (W : GW G) (hs : s < 3) (K : KP M s G Q) (h : ∀ k, k < 132 → M' 87 k = M 87 k) : KP M' s G Q :=
  RP.cong (M := fun _ i => M 87 (44 * s + i)) (M' := fun _ i => M' 87 (44 * s + i)) W K (fun k hk => h _ (by omega))
theorem IG.fr {M M' : Mm} {g : Nat} {G : Nat → Nat} {Q : Pl} {mk : Nat} {Qm : Nat → Pl} {T : Nat} (h : IG M g G Q mk Qm T) (F : Fr M M') : IG M' g G Q mk Qm T := by
  refine ⟨h.C.cong2 (fun a h1 h2 => F.c1 a h1 (by omega)), fun k hk => ?_, h.W, ?_, RP.cong h.W h.H F.st, h.K.cong7 (fun a h1 h2 => F.c1 a (by omega) (by omega)), h.qw, h.mk3, ?_, ?_, fun s hs => ?_, fun s hs => ?_, h.mq⟩
  · rw [F.c4 84 (by omega) (by omega)]; exact h.R k hk
  · rw [F.r 14 (by omega) (by omega) (by omega)]; exact h.hg
  · rw [F.z 10 (by omega)]; exact h.m0
  · rw [F.r 19 (by omega) (by omega) (by omega)]; exact h.m1
  · have := h.mk3
    exact KP.cong h.W (by omega) (h.mr s hs) F.m
  · have := h.mk3
    exact (h.mc s hs).cong7 (fun a h1 h2 => F.c2 a (by omega) (by omega))
theorem NT.fr {M M' : Mm} {n : Nat} {fp fm ft sn sk : Nat → Nat} (h : NT M n fp fm ft sn sk) (F : Fr M M') : NT M' n fp fm ft sn sk := by
  refine ⟨h.n30, ?_, ?_, fun k hk => ?_, fun p hp s hs t ht => ?_, fun c hc => ?_⟩
  · rw [F.c3 73 (by omega) (by omega)]; exact h.c
  · rw [F.r 26 (by omega) (by omega) (by omega)]; exact h.r
  · rw [F.c5 88 (by omega) (by omega), F.c5 89 (by omega) (by omega), F.c5 90 (by omega) (by omega)]; exact h.p k hk
  · rw [F.c3 74 (by omega) (by omega)]; exact h.f p hp s hs t ht
  · rw [F.c3 75 (by omega) (by omega), F.c3 76 (by omega) (by omega), F.c5 91 (by omega) (by omega), F.c5 92 (by omega) (by omega)]; exact h.s c hc
theorem TP.fr {M M' : Mm} {tl : Nat} (h : TP M tl) (F : Fr M M') : TP M' tl := by
  refine ⟨h.le, ?_, ?_, fun k hk => ?_⟩
  · rw [F.c1 15 (by omega) (by omega)]; exact h.c
  · rw [F.r 2 (by omega) (by omega) (by omega)]; exact h.r
  · rw [F.c1 16 (by omega) (by omega), F.c4 82 (by omega) (by omega)]; exact h.b k hk
theorem NG.fr {M M' : Mm} {g : Nat} (h : NG M g) (gg : g = 1 ∨ g = 8) (F : Fr M M') : NG M' g := by
  refine ⟨?_, fun k h1 h2 => ?_, ?_, ?_, ?_, ?_⟩
  · rw [F.r 14 (by omega) (by omega) (by omega)]; exact h.hg
  · rw [F.c1 g (by omega) (by omega)]; exact h.z k h1 h2
  · rw [F.c1 20 (by omega) (by omega)]; exact h.seed
  · rw [F.z 10 (by omega)]; exact h.m0
  · rw [F.r 19 (by omega) (by omega) (by omega)]; exact h.m1
  · rw [F.c3 73 (by omega) (by omega)]; exact h.fl
theorem IC.fr {M M' : Mm} {g tl : Nat} (h : IC M g tl) (F : Fr M M') (ht : (M' 0 11 = M' 81 11 ∧ M' 0 11 ≠ nI 4) ∨ (M' 0 11 = M 0 11 ∧ M' 81 11 = M 81 11)) : IC M' g tl := by
  obtain ⟨n, fp, fm, ft, sn, sk, N⟩ := h.nt
  refine ⟨h.gg, ?_, ?_, h.tp.fr F, ?_, ?_, fun h4 => ?_, ?_, ⟨n, fp, fm, ft, sn, sk, N.fr F⟩⟩
  · rw [F.z 8 (by omega)]; exact h.h8
  · rw [F.z 9 (by omega)]; exact h.h9
  · rcases ht with ht | ht
    · exact ht.1
    · rw [ht.1, ht.2]; exact h.tr
  · rw [F.z 12 (by omega), F.r 9 (by omega) (by omega) (by omega)]; exact h.lf
  · rcases ht with ht | ht
    · exact absurd h4 ht.2
    · rw [ht.1] at h4
      rw [F.z 13 (by omega), F.r 10 (by omega) (by omega) (by omega)]
      exact h.pl h4
  · rw [F.r 20 (by omega) (by omega) (by omega)]; exact h.lo
theorem Inv.fr {M M' : Mm} {T : Nat} (h : Inv M T) (F : Fr M M') (ht : (M' 0 11 = M' 81 11 ∧ M' 0 11 ≠ nI 4) ∨ (M' 0 11 = M 0 11 ∧ M' 81 11 = M 81 11)) : Inv M' T := by
  obtain ⟨g, tl, h1, h2⟩ := h
  refine ⟨g, tl, h1.fr F ht, ?_⟩
  rcases h2 with h2 | ⟨G, Q, mk, Qm, h2⟩
  · exact .inl (h2.fr h1.gg F)
  · exact .inr ⟨G, Q, mk, Qm, h2.fr F⟩
theorem Inv.up {M : Mm} {T T' : Nat} (h : Inv M T) (hT : T ≤ T') : Inv M T' := by
  obtain ⟨g, tl, h1, h2⟩ := h
  refine ⟨g, tl, h1, ?_⟩
  rcases h2 with h2 | ⟨G, Q, mk, Qm, h2⟩
  · exact .inl h2
  · exact .inr ⟨G, Q, mk, Qm, h2.up hT⟩
/-! frames of the trouble's cells -/
theorem Fr.rfl' (M : Mm) : Fr M M := ⟨fun _ _ _ => rfl, fun _ _ _ => rfl, fun _ _ _ => rfl, fun _ _ _ => rfl, fun _ _ _ => rfl, fun _ _ => rfl, fun _ _ => rfl, fun _ _ => rfl, fun _ _ _ _ => rfl⟩
theorem Fr.tr {M M' M2 : Mm} (h : Fr M M') (h' : Fr M' M2) : Fr M M2 :=
  ⟨fun a x y => by rw [h'.c1 a x y, h.c1 a x y], fun a x y => by rw [h'.c2 a x y, h.c2 a x y], fun a x y => by rw [h'.c3 a x y, h.c3 a x y], fun a x y => by rw [h'.c4 a x y, h.c4 a x y], fun a x y => by rw [h'.c5 a x y, h.c5 a x y], fun k x => by rw [h'.m k x, h.m k x], fun k x => by rw [h'.st k x, h.st k x], fun k x => by rw [h'.z k x, h.z k x], fun k x y z => by rw [h'.r k x y z, h.r k x y z]⟩
theorem Fr.a {M M' : Mm} (h : Fr M M') (v : Int32) : Fr M (mset M' 0 11 v) := h.tr ⟨fun a _ _ => mset_off _ _ _ (by omega), fun a _ _ => mset_off _ _ _ (by omega), fun a _ _ => mset_off _ _ _ (by omega), fun a _ _ => mset_off _ _ _ (by omega), fun a _ _ => mset_off _ _ _ (by omega), fun k _ => ms2 _ _ (by omega), fun k _ => ms2 _ _ (by omega), fun k hk => ms3 _ _ hk, fun k _ _ _ => ms2 _ _ (by omega)⟩
theorem Fr.b {M M' : Mm} (h : Fr M M') {k : Nat} (hk : k = 0 ∨ k = 11 ∨ 27 ≤ k) (v : Int32) : Fr M (mset M' 81 k v) := h.tr ⟨fun a _ _ => mset_off _ _ _ (by omega), fun a _ _ => mset_off _ _ _ (by omega), fun a _ _ => mset_off _ _ _ (by omega), fun a _ _ => mset_off _ _ _ (by omega), fun a _ _ => mset_off _ _ _ (by omega), fun k _ => ms2 _ _ (by omega), fun k _ => ms2 _ _ (by omega), fun j _ => ms2 _ _ (by omega), fun j _ _ _ => ms3 _ _ (by omega)⟩
theorem Fr.x {M M' M2 : Mm} (h : Fr M M') (f : ∀ a, a < 27 ∨ (30 ≤ a ∧ a ≤ 60) ∨ (73 ≤ a ∧ a ≤ 76) ∨ (81 ≤ a ∧ a ≤ 92) → M2 a = M' a) : Fr M M2 :=
  h.tr ⟨fun a _ _ => f a (by omega), fun a _ _ => f a (by omega), fun a _ _ => f a (by omega), fun a _ _ => f a (by omega), fun a _ _ => f a (by omega), fun k _ => by rw [f 87 (by omega)], fun k _ => by rw [f 86 (by omega)], fun k _ => by rw [f 0 (by omega)], fun k _ _ _ => by rw [f 81 (by omega)]⟩
/-- class and reference answer alike and keep the invariant -/
def Same {α : Type} (A B : Mm → Option (α × Mm)) (T T' : Nat) : Prop := ∀ M, Inv M T → ∃ r M1 M2, A M = some (r, M1) ∧ B M1 = some (r, M2) ∧ Inv M2 T'
/-- the reference's memory behind good -/
def gdM (M : Mm) : Mm := mset (mset M 81 0 (nI 0)) 81 11 (nI 0)
theorem r_good (M : Mm) : f_X10_good M = some (gdM M) := rfl
theorem Fr.g {M M' : Mm} (h : Fr M M') : Fr M (gdM M') := (h.b (.inl rfl) _).b (.inr (.inl rfl)) _
theorem c_refused (v : Int32) (M : Mm) : f_X9_refused v M = some (-1, mset M 0 11 v) := rfl
theorem c_denied (v : Int32) (M : Mm) : f_X9_denied v M = some (nI 0, mset M 0 11 v) := rfl
theorem c_well (v : Int32) (M : Mm) : f_X9_well v M = some (v, mset M 0 11 (nI 0)) := rfl
theorem c_granted (M : Mm) : f_X9_granted M = some (nI 1, mset M 0 11 (nI 0)) := rfl
theorem r_no (v : Int32) (M : Mm) : f_X10_no v M = some (-1, mset M 81 11 v) := rfl
theorem r_isNot (v : Int32) (M : Mm) : f_X10_isNot v M = some (nI 0, mset M 81 11 v) := rfl
theorem zo0 {α : Type} (k : Option α) : gd (zo (nI 0)) k = k := rfl
theorem zo1 {α : Type} (k : Option α) : gd (zo (nI 1)) k = k := rfl
/-- the invariant behind a refusal -/
theorem Inv.no {M M1 : Mm} {T : Nat} (h : Inv M T) (F : Fr M M1) {e : Nat} (he : e < 4 ∨ e = 5 ∨ e = 6) : Inv (mset (gdM (mset M1 0 11 (nI e))) 81 11 (nI e)) T := by
  refine h.fr ((F.a _).g.b (.inr (.inl rfl)) _) (.inl ⟨?_, ?_⟩)
  · unfold gdM; simp (disch := omega) only [ms1, ms1, ms2, ms3]
  · unfold gdM
    simp (disch := omega) only [ms1, ms1, ms2, ms3]
    exact fun z => by have := (nI_eq (by omega) (by omega)).mp z; omega
/-- the invariant behind an answer -/
theorem Inv.yes {M M1 : Mm} {T : Nat} (h : Inv M T) (F : Fr M M1) : Inv (gdM (mset M1 0 11 (nI 0))) T := by
  refine h.fr (F.a _).g (.inl ⟨?_, ?_⟩)
  · unfold gdM; simp (disch := omega) only [ms1, ms1, ms2, ms3]
  · unfold gdM
    simp (disch := omega) only [ms1, ms1, ms2, ms3]
    decide
