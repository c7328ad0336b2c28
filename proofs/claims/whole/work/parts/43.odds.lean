/-! THE ODDS, on: gains, risks, the best stand, rests. -/
/-- what a stand brings, in hundredths, if he turns at the end e -/
def Gv (G : Nat → Nat) (c a x e : Nat) (h : Bool) : Int := (100 - ((if h then 0 else Sw G c a x e : Nat) : Int)) * (Go G c a (min e x) : Int) - 100 * (a : Int)
theorem nh0 (h : Bool) : (nI h.toNat = 0) = (h = false) := by cases h <;> simp <;> decide
theorem r_brings {M : Mm} {G : Nat → Nat} (R : RG M G) (W : GW G) {c a x p : Nat} (h : Bool) (hc : c < G 95) (ha : a ≤ G 0) (hx : x < 10000) (hp : p < G 92) : f_X10_brings (nI c) (nI a) (nI x) (nI p) (nI h.toNat) M = some (lI (Gv G c a x (En G (p + 1)) h), M) := by
  have h3 := W.long
  have h4 := W.parts
  have h5 := En_le W (show p + 1 ≤ G 92 by omega)
  have h6 : min (En G (p + 1)) x < 10000 := Nat.lt_of_le_of_lt (Nat.min_le_right _ _) hx
  have h7 := Go_ge G (c := c) (t := min (En G (p + 1)) x) ha
  have h8 := Go_le G c a (min (En G (p + 1)) x)
  have h9 := Sw_le W (c := c) (a := a) (x := x) (e := En G (p + 1)) hc
  unfold f_X10_brings Gv
  rw [r_endOf R W hp, bds, r_less (by omega) (by omega), bds, r_gone R W hc (by omega) h6, bds]
  have key : ∀ s : Nat, s ≤ 100 → (((100 : Int64) - (nI s).toInt64) * (nI (Go G c a (min (En G (p + 1)) x)) - nI a).toInt64 - (nI s).toInt64 * (nI a).toInt64) = lI ((100 - (s : Int)) * (Go G c a (min (En G (p + 1)) x) : Int) - 100 * (a : Int)) := by
    intro s hs
    rw [nsub h7, n64 (by omega), n64 (by omega), n64 (by omega), l100, lsub, lmul, lmul, lsub]
    congr 1
    rw [Int.natCast_sub h7]
    grind
  simp only [jns]
  cases h
  · rw [if_pos (by decide), r_seenWays R W hc (by omega) hx hp, bds, key _ h9]
    rfl
  · rw [if_neg (by decide), key 0 (by omega)]
    rfl
def Sz (f : Nat → Int) : Nat → Int
  | 0 => 0
  | n + 1 => Sz f n + f n
/-- what a stand brings in all ways -/
def Gs (G : Nat → Nat) (c a x : Nat) (h : Bool) : Int := Sz (fun p => (Fw G p : Int) * Gv G c a x (En G (p + 1)) h) (G 92)
theorem r_gains {M : Mm} {G : Nat → Nat} (R : RG M G) (W : GW G) {c a x : Nat} (h : Bool) (hc : c < G 95) (ha : a ≤ G 0) (hx : x < 10000) : f_X10_gains (nI c) (nI a) (nI x) (nI h.toNat) M = some (lI (Gs G c a x h), M) := by
  have h4 := W.parts
  unfold f_X10_gains
  refine lp0 (fun f i => lp_X10_gains_6 (nI c) (nI a) (nI x) (nI h.toNat) f (lI (Sz (fun p => (Fw G p : Int) * Gv G c a x (En G (p + 1)) h) i)) (nI i) M) (G 92) (by omega) (fun f i hi => ?_) (fun f => ?_)
  · rw [lp_X10_gains_6, Sz]
    simp (disch := omega) only [R _, r_first R W hi, r_brings R W h hc ha hx hi, lmul, ladd, jns, bds, bvs, lts, gdt, nadd, nmul, nsub, nle, nlt, neq, nz0, nlt0, nle0, n0le, n0lt, nclamp, ndiv, nmod2, gdi, gdn, if_pos, if_neg, if_true, if_false]
  · rw [lp_X10_gains_6]
    simp (disch := omega) only [R _, jns, bds, bvs, lts, gdt, nadd, nmul, nsub, nle, nlt, neq, nz0, nlt0, nle0, n0le, n0lt, nclamp, ndiv, nmod2, gdi, gdn, if_pos, if_neg, if_true, if_false]
    rfl
/-- the ways in which he sees it -/
def Rk (G : Nat → Nat) (c a x : Nat) : Nat := Sm (fun p => Fw G p * Sw G c a x (En G (p + 1))) (G 92)
theorem r_risks {M : Mm} {G : Nat → Nat} (R : RG M G) (W : GW G) {c a x : Nat} (hc : c < G 95) (ha : a ≤ 1000) (hx : x < 10000) : f_X10_risks (nI c) (nI a) (nI x) M = some (lI (Rk G c a x : Nat), M) := by
  have h4 := W.parts
  unfold f_X10_risks
  refine lp0 (fun f i => lp_X10_risks_6 (nI c) (nI a) (nI x) f (lI ((Sm (fun p => Fw G p * Sw G c a x (En G (p + 1))) i : Nat) : Int)) (nI i) M) (G 92) (by omega) (fun f i hi => ?_) (fun f => ?_)
  · have h9 := Sw_le W (c := c) (a := a) (x := x) (e := En G (i + 1)) hc
    rw [lp_X10_risks_6, Sm]
    simp (disch := omega) only [R _, r_first R W hi, r_seenWays R W hc ha hx hi, n64, lmulN, laddN, jns, bds, bvs, lts, gdt, nadd, nmul, nsub, nle, nlt, neq, nz0, nlt0, nle0, n0le, n0lt, nclamp, ndiv, nmod2, gdi, gdn, if_pos, if_neg, if_true, if_false]
  · rw [lp_X10_risks_6]
    simp (disch := omega) only [R _, jns, bds, bvs, lts, gdt, nadd, nmul, nsub, nle, nlt, neq, nz0, nlt0, nle0, n0le, n0lt, nclamp, ndiv, nmod2, gdi, gdn, if_pos, if_neg, if_true, if_false]
    rfl
/-- his best stand among the first n tenths -/
def Bs (G : Nat → Nat) (c a : Nat) (h : Bool) : Nat → Nat
  | 0 => 0
  | n + 1 => if lg_cmp (lI (Gs G c a (n + 1) h)) (lI (Gs G c a (Bs G c a h n) h)) ≤ 0 then Bs G c a h n else n + 1
theorem Bs_le (G : Nat → Nat) (c a : Nat) (h : Bool) : ∀ n, Bs G c a h n ≤ n
  | 0 => Nat.le_refl _
  | n + 1 => by
    have := Bs_le G c a h n
    rw [Bs]
    split <;> omega
theorem r_bestOf {M : Mm} {G : Nat → Nat} (R : RG M G) (W : GW G) {c a : Nat} (h : Bool) (hc : c < G 95) (ha : a ≤ G 0) : f_X10_bestOf (nI c) (nI a) (nI h.toNat) M = some (nI (Bs G c a h (En G (G 92))), M) := by
  have h4 := W.parts
  have h5 := En_le W (Nat.le_refl _)
  unfold f_X10_bestOf
  refine lp0 (fun f i => lp_X10_bestOf_6 (nI c) (nI a) (nI h.toNat) f (nI (Bs G c a h i)) (nI (i + 1)) M) (En G (G 92)) (by omega) (fun f i hi => ?_) (fun f => ?_)
  · have h6 := Bs_le G c a h i
    rw [lp_X10_bestOf_6, Bs]
    by_cases c1 : lg_cmp (lI (Gs G c a (i + 1) h)) (lI (Gs G c a (Bs G c a h i) h)) ≤ 0
    · simp (disch := omega) only [r_whole R W, r_gains R W h hc ha, c1, jns, bds, bvs, lts, gdt, nadd, nmul, nsub, nle, nlt, neq, nz0, nlt0, nle0, n0le, n0lt, nclamp, ndiv, nmod2, gdi, gdn, if_pos, if_neg, if_true, if_false]
    · simp (disch := omega) only [r_whole R W, r_gains R W h hc ha, c1, jns, bds, bvs, lts, gdt, nadd, nmul, nsub, nle, nlt, neq, nz0, nlt0, nle0, n0le, n0lt, nclamp, ndiv, nmod2, gdi, gdn, if_pos, if_neg, if_true, if_false]
  · rw [lp_X10_bestOf_6]
    simp (disch := omega) only [r_whole R W, jns, bds, bvs, lts, gdt, nadd, nmul, nsub, nle, nlt, neq, nz0, nlt0, nle0, n0le, n0lt, nclamp, ndiv, nmod2, gdi, gdn, if_pos, if_neg, if_true, if_false]
section
variable {M : Mm} {G : Nat → Nat} {g : Nat}
theorem c_gainedIf (C : CG M g G) (W : GW G) {c a x e : Nat} (h : Bool) (hc : c < G 95) (ha : a ≤ G 0) (hx : x < 10000) (he : e < 10000) : f_X2_gainedIf g (nI c) (nI a) (nI x) (nI e) (nI h.toNat) M = some (lI (Gv G c a x e h), M) := by
  have h3 := W.long
  have h6 : min e x < 10000 := Nat.lt_of_le_of_lt (Nat.min_le_right _ _) hx
  have h8 := Go_le G c a (min e x)
  have h1 := W.crp c hc
  have h5 := c_trait C W hc (show 2 < 7 by decide)
  rw [show 56 + 5 * 2 + c = 66 + c from by omega] at h5
  unfold f_X2_gainedIf Gv Sw
  rw [minI (by omega) (by omega), Nat.min_comm x e]
  have key : ∀ s : Nat, (((100 : Int64) - lI (s : Int)) * (nI (Go G c a (min e x))).toInt64 - (100 : Int64) * (nI a).toInt64) = lI ((100 - (s : Int)) * (Go G c a (min e x) : Int) - 100 * (a : Int)) := by
    intro s
    rw [n64 (by omega), n64 (by omega), l100, lsub, lmul, lmul, lsub]
    rfl
  simp only [jns]
  cases h
  · rw [if_pos (by decide), c_isShown C W hc (by omega) hx he, bds]
    cases hs : Sh G c a x e
    · rw [if_pos (by decide), c_reached C W hc (by omega) h6, bds, l0, key 0]
      rfl
    · rw [if_neg (by decide), h5, bds, c_reached C W hc (by omega) h6, bds, n64 (by omega), key]
      rfl
  · rw [if_neg (by decide), c_reached C W hc (by omega) h6, bds, l0, key 0]
    rfl
theorem c_gained (C : CG M g G) (W : GW G) {c a x : Nat} (h : Bool) (hc : c < G 95) (ha : a ≤ G 0) (hx : x < 10000) : f_X2_gained g (nI c) (nI a) (nI x) (nI h.toNat) M = some (lI (Gs G c a x h), M) := by
  have h4 := W.parts
  unfold f_X2_gained
  refine lp0 (fun f i => lp_X2_gained_6 g (nI c) (nI a) (nI x) (nI h.toNat) f (lI (Sz (fun p => (Fw G p : Int) * Gv G c a x (En G (p + 1)) h) i)) (nI i) M) (G 92) (by omega) (fun f i hi => ?_) (fun f => ?_)
  · have h5 := En_le W (show i + 1 ≤ G 92 by omega)
    rw [lp_X2_gained_6, Sz]
    simp (disch := omega) only [C.f9, c_toTurn C W hi, c_endOf C W hi, c_gainedIf C W h hc ha hx, lmul, ladd, jns, bds, bvs, lts, gdt, nadd, nmul, nsub, nle, nlt, neq, nz0, nlt0, nle0, n0le, n0lt, nclamp, ndiv, nmod2, gdi, gdn, if_pos, if_neg, if_true, if_false]
  · rw [lp_X2_gained_6]
    simp (disch := omega) only [C.f9, jns, bds, bvs, lts, gdt, nadd, nmul, nsub, nle, nlt, neq, nz0, nlt0, nle0, n0le, n0lt, nclamp, ndiv, nmod2, gdi, gdn, if_pos, if_neg, if_true, if_false]
    rfl
theorem c_seenWays (C : CG M g G) (W : GW G) {c a x : Nat} (hc : c < G 95) (ha : a ≤ 1000) (hx : x < 10000) : f_X2_seenWays g (nI c) (nI a) (nI x) M = some (lI (Rk G c a x : Nat), M) := by
  have h4 := W.parts
  have h1 := W.crp c hc
  have h7 := c_trait C W hc (show 2 < 7 by decide)
  rw [show 56 + 5 * 2 + c = 66 + c from by omega] at h7
  unfold f_X2_seenWays
  refine lp0 (fun f i => lp_X2_seenWays_6 g (nI c) (nI a) (nI x) f (lI ((Sm (fun p => Fw G p * Sw G c a x (En G (p + 1))) i : Nat) : Int)) (nI i) M) (G 92) (by omega) (fun f i hi => ?_) (fun f => ?_)
  · have h5 := En_le W (show i + 1 ≤ G 92 by omega)
    have h6 := c_isShown C W hc ha hx (show En G (i + 1) < 10000 by omega)
    rw [lp_X2_seenWays_6, Sm, Sw]
    cases hs : Sh G c a x (En G (i + 1))
    · rw [hs] at h6
      simp (disch := omega) only [C.f9, c_endOf C W hi, h6, Bool.toNat_false, jns, bds, bvs, lts, gdt, nadd, nmul, nsub, nle, nlt, neq, nz0, nlt0, nle0, n0le, n0lt, nclamp, ndiv, nmod2, gdi, gdn, if_pos, if_neg, if_true, if_false]
      simp
    · rw [hs] at h6
      simp (disch := omega) only [C.f9, c_endOf C W hi, h6, Bool.toNat_true, c_toTurn C W hi, h7, n64, lmulN, laddN, jns, bds, bvs, lts, gdt, nadd, nmul, nsub, nle, nlt, neq, nz0, nlt0, nle0, n0le, n0lt, nclamp, ndiv, nmod2, gdi, gdn, if_pos, if_neg, if_true, if_false]
  · rw [lp_X2_seenWays_6]
    simp (disch := omega) only [C.f9, jns, bds, bvs, lts, gdt, nadd, nmul, nsub, nle, nlt, neq, nz0, nlt0, nle0, n0le, n0lt, nclamp, ndiv, nmod2, gdi, gdn, if_pos, if_neg, if_true, if_false]
    rfl
theorem c_bestStand (C : CG M g G) (W : GW G) {c a : Nat} (h : Bool) (hc : c < G 95) (ha : a ≤ G 0) : f_X2_bestStand g (nI c) (nI a) (nI h.toNat) M = some (nI (Bs G c a h (En G (G 92))), M) := by
  have h4 := W.parts
  have h5 := En_le W (Nat.le_refl _)
  unfold f_X2_bestStand
  rw [c_gained C W h hc ha (by omega), bds, c_verse C W, bds]
  refine lp0 (fun f i => lp_X2_bestStand_22 g (nI c) (nI a) (nI h.toNat) (nI (En G (G 92))) f (nI (Bs G c a h i)) (lI (Gs G c a (Bs G c a h i) h)) (nI (i + 1)) M) (En G (G 92)) (by omega) (fun f i hi => ?_) (fun f => ?_)
  · have h6 := Bs_le G c a h i
    rw [lp_X2_bestStand_22, Bs]
    by_cases c1 : lg_cmp (lI (Gs G c a (i + 1) h)) (lI (Gs G c a (Bs G c a h i) h)) ≤ 0
    · simp (disch := omega) only [c_gained C W h hc ha, c1, jns, bds, bvs, lts, gdt, nadd, nmul, nsub, nle, nlt, neq, nz0, nlt0, nle0, n0le, n0lt, nclamp, ndiv, nmod2, gdi, gdn, if_pos, if_neg, if_true, if_false]
    · simp (disch := omega) only [c_gained C W h hc ha, c1, jns, bds, bvs, lts, gdt, nadd, nmul, nsub, nle, nlt, neq, nz0, nlt0, nle0, n0le, n0lt, nclamp, ndiv, nmod2, gdi, gdn, if_pos, if_neg, if_true, if_false]
  · rw [lp_X2_bestStand_22]
    simp (disch := omega) only [jns, bds, bvs, lts, gdt, nadd, nmul, nsub, nle, nlt, neq, nz0, nlt0, nle0, n0le, n0lt, nclamp, ndiv, nmod2, gdi, gdn, if_pos, if_neg, if_true, if_false]
end
