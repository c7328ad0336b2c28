/-! THE PLAY: its state Q; what the reference's row 86 and the class's cells hold of it. -/
/-- a play: part, tenth, loud, looked, passed, seed, touch, at_, into, how, seen, wrong, there -/
abbrev Pl : Type := (Nat) × (Nat) × (Nat) × (Nat) × (Nat) × (Nat) × (Int32) × (Nat → Nat) × (Nat → Nat) × (Nat → Int32) × (Nat → Nat) × (Nat → Nat) × (Nat → Nat)
def mkPl (part : Nat) (tenth : Nat) (loud : Nat) (looked : Nat) (passed : Nat) (seed : Nat) (touch : Int32) (at_ : Nat → Nat) (into : Nat → Nat) (how : Nat → Int32) (seen : Nat → Nat) (wrong : Nat → Nat) (there : Nat → Nat) : Pl := (part, tenth, loud, looked, passed, seed, touch, at_, into, how, seen, wrong, there)
def Pl.part (Q : Pl) : Nat := Q.1
def Pl.tenth (Q : Pl) : Nat := Q.2.1
def Pl.loud (Q : Pl) : Nat := Q.2.2.1
def Pl.looked (Q : Pl) : Nat := Q.2.2.2.1
def Pl.passed (Q : Pl) : Nat := Q.2.2.2.2.1
def Pl.seed (Q : Pl) : Nat := Q.2.2.2.2.2.1
def Pl.touch (Q : Pl) : Int32 := Q.2.2.2.2.2.2.1
def Pl.at_ (Q : Pl) : Nat → Nat := Q.2.2.2.2.2.2.2.1
def Pl.into (Q : Pl) : Nat → Nat := Q.2.2.2.2.2.2.2.2.1
def Pl.how (Q : Pl) : Nat → Int32 := Q.2.2.2.2.2.2.2.2.2.1
def Pl.seen (Q : Pl) : Nat → Nat := Q.2.2.2.2.2.2.2.2.2.2.1
def Pl.wrong (Q : Pl) : Nat → Nat := Q.2.2.2.2.2.2.2.2.2.2.2.1
def Pl.there (Q : Pl) : Nat → Nat := Q.2.2.2.2.2.2.2.2.2.2.2.2
/-- a loop over the memory -/
theorem lpM {β : Type} (L : Nat → Nat → Mm → Option β) (n : Nat) (I : Nat → Mm → Prop) (K : Mm → Option β) (hn : n < 900000) (step : ∀ f i M, i < n → I i M → ∃ M', L (f + 1) i M = L f (i + 1) M' ∧ I (i + 1) M') (fin : ∀ f M, I n M → L (f + 1) n M = K M) : ∀ M, I 0 M → ∃ M', L N0 0 M = K M' ∧ I n M' := by
  have h : ∀ k i f M, i + k = n → k < f → I i M → ∃ M', L f i M = K M' ∧ I n M' := by
    intro k
    induction k with
    | zero =>
      intro i f M h hf hi
      obtain ⟨f, rfl⟩ : ∃ g, f = g + 1 := ⟨f - 1, by omega⟩
      have : i = n := by omega
      subst this
      exact ⟨M, fin f M hi, hi⟩
    | succ k ih =>
      intro i f M h hf hi
      obtain ⟨f, rfl⟩ : ∃ g, f = g + 1 := ⟨f - 1, by omega⟩
      obtain ⟨M', e, hi'⟩ := step f i M (by omega) hi
      rw [e]
      exact ih (i + 1) f M' (by omega) (by omega) hi'
  exact fun M hi => h n 0 N0 M (by omega) (by unfold N0; omega) hi
/-- who goes in the tenth that comes -/
def Gb (G : Nat → Nat) (part tenth c : Nat) : Bool := if G (81 + c) = 0 then true else if G (81 + c) = 1 then decide (part < G (86 + c)) else decide (tenth + G (86 + c) < Tn G part)
theorem r_goesNow {M : Mm} {G : Nat → Nat} (R : RG M G) (W : GW G) {c part tenth : Nat} (hc : c < G 95) (hp : part < G 92) (ht : tenth < 10000) (e0 : M 86 0 = nI part) (e1 : M 86 1 = nI tenth) : f_X10_goesNow (nI c) M = some (nI (Gb G part tenth c).toNat, M) := by
  have h1 := W.crp c hc
  have h2 := W.creepers
  have h3 := W.parts
  have h4 := Tn_le W hp
  unfold f_X10_goesNow Gb
  by_cases c1 : G (81 + c) = 0
  · rw [if_pos c1]
    simp (disch := omega) only [R _, jns, bds, bvs, lts, gdt, nadd, nmul, nsub, nle, nlt, neq, nz0, nlt0, nle0, n0le, n0lt, nclamp, ndiv, nmod2, gdi, gdn, if_pos, if_neg, if_true, if_false]
    rfl
  · rw [if_neg c1]
    by_cases c2 : G (81 + c) = 1
    · rw [if_pos c2]
      by_cases c3 : part < G (86 + c)
      · simp (disch := omega) only [R _, e0, c3, decide_true, jns, bds, bvs, lts, gdt, nadd, nmul, nsub, nle, nlt, neq, nz0, nlt0, nle0, n0le, n0lt, nclamp, ndiv, nmod2, gdi, gdn, if_pos, if_neg, if_true, if_false]; rfl
      · simp (disch := omega) only [R _, e0, c3, decide_false, jns, bds, bvs, lts, gdt, nadd, nmul, nsub, nle, nlt, neq, nz0, nlt0, nle0, n0le, n0lt, nclamp, ndiv, nmod2, gdi, gdn, if_pos, if_neg, if_true, if_false]; rfl
    · rw [if_neg c2]
      by_cases c3 : tenth + G (86 + c) < Tn G part
      · simp (disch := omega) only [R _, e0, e1, r_tenthsOf R W hp, nsle, c3, decide_true, jns, bds, bvs, lts, gdt, nadd, nmul, nsub, nle, nlt, neq, nz0, nlt0, nle0, n0le, n0lt, nclamp, ndiv, nmod2, gdi, gdn, if_pos, if_neg, if_true, if_false]; rfl
      · simp (disch := omega) only [R _, e0, e1, r_tenthsOf R W hp, nsle, c3, decide_false, jns, bds, bvs, lts, gdt, nadd, nmul, nsub, nle, nlt, neq, nz0, nlt0, nle0, n0le, n0lt, nclamp, ndiv, nmod2, gdi, gdn, if_pos, if_neg, if_true, if_false]; rfl
theorem c_goes {M : Mm} {G : Nat → Nat} {g : Nat} (C : CG M g G) (W : GW G) {c part tenth : Nat} (hc : c < G 95) (hp : part < G 92) (ht : tenth < Tn G part) : f_X0_goes g (nI c) (nI (En G part + tenth)) M = some (nI (Gb G part tenth c).toNat, M) := by
  have h1 := W.crp c hc
  have h2 := W.creepers
  have h3 := W.parts
  have h4 := Tn_le W hp
  have h5 := En_le W (show part ≤ G 92 by omega)
  have e5 := c_trait C W hc (show 5 < 7 by decide)
  have e6 := c_trait C W hc (show 6 < 7 by decide)
  rw [show 56 + 5 * 5 + c = 81 + c from by omega] at e5
  rw [show 56 + 5 * 6 + c = 86 + c from by omega] at e6
  have ep := c_partOf C W hp (show En G part ≤ En G part + tenth by omega) (Or.inr (by rw [En_succ]; omega)) (by omega)
  have ee := c_endOf C W hp
  rw [En_succ] at ee
  unfold f_X0_goes Gb
  rw [ep, bds, e6, bds, e5, bds]
  by_cases c1 : G (81 + c) = 0
  · rw [if_pos c1]
    simp (disch := omega) only [jns, bds, bvs, lts, gdt, nadd, nmul, nsub, nle, nlt, neq, nz0, nlt0, nle0, n0le, n0lt, nclamp, ndiv, nmod2, gdi, gdn, if_pos, if_neg, if_true, if_false]
    rfl
  · rw [if_neg c1]
    by_cases c2 : G (81 + c) = 1
    · rw [if_pos c2]
      by_cases c3 : part < G (86 + c)
      · simp (disch := omega) only [c3, decide_true, jns, bds, bvs, lts, gdt, nadd, nmul, nsub, nle, nlt, neq, nz0, nlt0, nle0, n0le, n0lt, nclamp, ndiv, nmod2, gdi, gdn, if_pos, if_neg, if_true, if_false]; rfl
      · simp (disch := omega) only [c3, decide_false, jns, bds, bvs, lts, gdt, nadd, nmul, nsub, nle, nlt, neq, nz0, nlt0, nle0, n0le, n0lt, nclamp, ndiv, nmod2, gdi, gdn, if_pos, if_neg, if_true, if_false]; rfl
    · rw [if_neg c2]
      by_cases c3 : tenth + G (86 + c) < Tn G part
      · simp (disch := omega) only [ee, nsle, c3, decide_true, jns, bds, bvs, lts, gdt, nadd, nmul, nsub, nle, nlt, neq, nz0, nlt0, nle0, n0le, n0lt, nclamp, ndiv, nmod2, gdi, gdn, if_pos, if_neg, if_true, if_false]; rfl
      · simp (disch := omega) only [ee, nsle, c3, decide_false, jns, bds, bvs, lts, gdt, nadd, nmul, nsub, nle, nlt, neq, nz0, nlt0, nle0, n0le, n0lt, nclamp, ndiv, nmod2, gdi, gdn, if_pos, if_neg, if_true, if_false]; rfl
theorem nmodN (a b : Nat) : a - a / b * b = a % b := by
  have := Nat.div_add_mod a b
  rw [Nat.mul_comm] at this
  omega
/-- the next seed -/
def Sd (s : Nat) : Nat := (75 * s + 74) % 65537
theorem Sd_lt (s : Nat) : Sd s < 65537 := Nat.mod_lt _ (by decide)
theorem r_draw {M : Mm} {s : Nat} (e : M 86 6 = nI s) (hs : s < 65537) : f_X10_draw M = some (nI (Sd s % 100), mset M 86 6 (nI (Sd s))) := by
  have h := Sd_lt s
  unfold f_X10_draw
  simp (disch := omega) only [e, ms1, jns, bds, bvs, lts, gdt, nadd, nmul, nsub, nle, nlt, neq, nz0, nlt0, nle0, n0le, n0lt, nclamp, ndiv, nmod2, gdi, gdn, if_pos, if_neg, if_true, if_false]
  simp only [nmodN]
  rfl
theorem c_draw {M : Mm} {p s : Nat} (e : M p 9 = nI s) (hs : s < 65537) : f_X3_draw p M = some (nI (Sd s % 100), mset M p 9 (nI (Sd s))) := by
  have h := Sd_lt s
  unfold f_X3_draw
  simp (disch := omega) only [e, ms1, jns, bds, bvs, lts, gdt, nadd, nmul, nsub, nle, nlt, neq, nz0, nlt0, nle0, n0le, n0lt, nclamp, ndiv, nmod2, gdi, gdn, if_pos, if_neg, if_true, if_false]
  simp only [nmodN]
  rfl
/-- a creeper's foot comes down with this tenth -/
def Sp1 (G : Nat → Nat) (part tenth : Nat) (into : Nat → Nat) (c : Nat) : Bool := decide (G (61 + c) ≤ into c + (Gb G part tenth c).toNat)
def In1 (G : Nat → Nat) (part tenth : Nat) (into : Nat → Nat) (c : Nat) : Nat := if Sp1 G part tenth into c then 0 else into c + (Gb G part tenth c).toNat
def At1 (G : Nat → Nat) (part tenth : Nat) (into at_ : Nat → Nat) (c : Nat) : Nat := if Sp1 G part tenth into c then at_ c + 1 else at_ c
def Lo1 (G : Nat → Nat) (part tenth : Nat) (into at_ : Nat → Nat) (c : Nat) : Nat := if Sp1 G part tenth into c then Ld G (G (56 + c)) (at_ c + 1) else 0
theorem tb (b : Bool) : b.toNat ≤ 1 := by cases b <;> decide
/-- what the first loop of the reference's tenth comes to, behind i creepers -/
abbrev T1 (G : Nat → Nat) (M0 : Mm) (part tenth loud : Nat) (into at_ : Nat → Nat) (i : Nat) (M : Mm) : Prop := (∀ a, a ≠ 86 → M a = M0 a) ∧ (∀ c, c < i → M 86 (39 + c) = nI (Gb G part tenth c).toNat) ∧ (∀ c, c < i → M 86 (14 + c) = nI (In1 G part tenth into c)) ∧ (∀ c, c < i → M 86 (9 + c) = nI (At1 G part tenth into at_ c)) ∧ (∀ c, i ≤ c → c < G 95 → M 86 (14 + c) = nI (into c)) ∧ (∀ c, i ≤ c → c < G 95 → M 86 (9 + c) = nI (at_ c)) ∧ (M 86 2 = nI (loud + Sm (Lo1 G part tenth into at_) i)) ∧ (∀ k, k ≠ 2 → k < 9 ∨ (19 ≤ k ∧ k < 39) → M 86 k = M0 86 k)
theorem T1.fr {G : Nat → Nat} {M0 : Mm} {part tenth loud : Nat} {into at_ : Nat → Nat} {i : Nat} {M : Mm} (h : T1 G M0 part tenth loud into at_ i M) : ∀ a, a ≠ 86 → M a = M0 a := h.1
theorem T1.went {G : Nat → Nat} {M0 : Mm} {part tenth loud : Nat} {into at_ : Nat → Nat} {i : Nat} {M : Mm} (h : T1 G M0 part tenth loud into at_ i M) : ∀ c, c < i → M 86 (39 + c) = nI (Gb G part tenth c).toNat := h.2.1
theorem T1.into1 {G : Nat → Nat} {M0 : Mm} {part tenth loud : Nat} {into at_ : Nat → Nat} {i : Nat} {M : Mm} (h : T1 G M0 part tenth loud into at_ i M) : ∀ c, c < i → M 86 (14 + c) = nI (In1 G part tenth into c) := h.2.2.1
theorem T1.at1 {G : Nat → Nat} {M0 : Mm} {part tenth loud : Nat} {into at_ : Nat → Nat} {i : Nat} {M : Mm} (h : T1 G M0 part tenth loud into at_ i M) : ∀ c, c < i → M 86 (9 + c) = nI (At1 G part tenth into at_ c) := h.2.2.2.1
theorem T1.into0 {G : Nat → Nat} {M0 : Mm} {part tenth loud : Nat} {into at_ : Nat → Nat} {i : Nat} {M : Mm} (h : T1 G M0 part tenth loud into at_ i M) : ∀ c, i ≤ c → c < G 95 → M 86 (14 + c) = nI (into c) := h.2.2.2.2.1
theorem T1.at0 {G : Nat → Nat} {M0 : Mm} {part tenth loud : Nat} {into at_ : Nat → Nat} {i : Nat} {M : Mm} (h : T1 G M0 part tenth loud into at_ i M) : ∀ c, i ≤ c → c < G 95 → M 86 (9 + c) = nI (at_ c) := h.2.2.2.2.2.1
theorem T1.loud {G : Nat → Nat} {M0 : Mm} {part tenth loud : Nat} {into at_ : Nat → Nat} {i : Nat} {M : Mm} (h : T1 G M0 part tenth loud into at_ i M) : M 86 2 = nI (loud + Sm (Lo1 G part tenth into at_) i) := h.2.2.2.2.2.2.1
theorem T1.rest {G : Nat → Nat} {M0 : Mm} {part tenth loud : Nat} {into at_ : Nat → Nat} {i : Nat} {M : Mm} (h : T1 G M0 part tenth loud into at_ i M) : ∀ k, k ≠ 2 → k < 9 ∨ (19 ≤ k ∧ k < 39) → M 86 k = M0 86 k := h.2.2.2.2.2.2.2
theorem r_creep {M0 : Mm} {G : Nat → Nat} (R : RG M0 G) (W : GW G) {part tenth loud : Nat} {into at_ : Nat → Nat} (hp : part < G 92) (ht : tenth < 10000) (e0 : M0 86 0 = nI part) (e1 : M0 86 1 = nI tenth) (hi : ∀ c, c < G 95 → into c < 100) (ha : ∀ c, c < G 95 → at_ c < 100) (k : Mm → Option (Int32 × Mm)) (h0 : T1 G M0 part tenth loud into at_ 0 M0) :
    ∃ M', lp_X10_tenth_2 k N0 (nI 0) M0 = k M' ∧ T1 G M0 part tenth loud into at_ (G 95) M' := by
  have h2 := W.creepers
  refine lpM (fun f i M => lp_X10_tenth_2 k f (nI i) M) (G 95) (T1 G M0 part tenth loud into at_) k (by omega) (fun f i M hi2 T => ?_) (fun f M T => ?_) M0 h0
  · have R' : RG M G := fun k hk => by rw [T.fr 84 (by decide)]; exact R k hk
    have h1 := W.crp i hi2
    have h3 := W.lanes
    have ha' := ha i hi2
    have hi' := hi i hi2
    have hb := tb (Gb G part tenth i)
    have hg := r_goesNow R' W hi2 hp ht (by rw [T.rest 0 (by decide) (by omega)]; exact e0) (by rw [T.rest 1 (by decide) (by omega)]; exact e1)
    have ei := T.into0 i (Nat.le_refl _) (by omega)
    have ea := T.at0 i (Nat.le_refl _) (by omega)
    have hl := Ld_le W (G (56 + i)) (at_ i + 1)
    have gb : (if nI (Gb G part tenth i).toNat = 0 then nI 0 else nI 1) = nI (Gb G part tenth i).toNat := by cases Gb G part tenth i <;> rfl
    by_cases c1 : G (61 + i) ≤ into i + (Gb G part tenth i).toNat
    · have s1 : Sp1 G part tenth into i = true := decide_eq_true c1
      have rl : ∀ X : Mm, RG X G → f_X10_loudest (nI (G (56 + i))) (nI (at_ i + 1)) X = some (nI (Ld G (G (56 + i)) (at_ i + 1)), X) := fun X RX => r_loudest RX W (by omega) (by omega)
      refine ⟨mset (mset (mset (mset (mset M 86 (39 + i) (nI (Gb G part tenth i).toNat)) 86 (14 + i) (nI (into i + (Gb G part tenth i).toNat))) 86 (14 + i) (nI 0)) 86 (9 + i) (nI (at_ i + 1))) 86 2 (nI (loud + Sm (Lo1 G part tenth into at_) i + Ld G (G (56 + i)) (at_ i + 1))), ?_, ?_⟩
      · rw [lp_X10_tenth_2]
        cases hgb : Gb G part tenth i <;> rw [hgb] at hg c1 <;> simp only [Bool.toNat_false, Bool.toNat_true] at hg c1 <;>
          simp (disch := omega) only [R' _, hg, ms1, ms2, ms3, ei, ea, T.loud, Bool.toNat_false, Bool.toNat_true, jns, bds, bvs, lts, gdt, nadd, nmul, nsub, nle, nlt, neq, nz0, nlt0, nle0, n0le, n0lt, nclamp, ndiv, nmod2, gdi, gdn, if_pos, if_neg, if_true, if_false] <;> rw [rl _ (fun k hk => by simp (disch := omega) only [ms2, R' k hk, jns, bds, bvs, lts, gdt, nadd, nmul, nsub, nle, nlt, neq, nz0, nlt0, nle0, n0le, n0lt, nclamp, ndiv, nmod2, gdi, gdn, if_pos, if_neg, if_true, if_false])] <;> simp (disch := omega) only [ms1, ms2, ms3, T.loud, jns, bds, bvs, lts, gdt, nadd, nmul, nsub, nle, nlt, neq, nz0, nlt0, nle0, n0le, n0lt, nclamp, ndiv, nmod2, gdi, gdn, if_pos, if_neg, if_true, if_false]
      · have x1 : In1 G part tenth into i = 0 := by simp [In1, s1]
        have x2 : At1 G part tenth into at_ i = at_ i + 1 := by simp [At1, s1]
        have x3 : Lo1 G part tenth into at_ i = Ld G (G (56 + i)) (at_ i + 1) := by simp [Lo1, s1]
        refine ⟨fun a h => ?_, fun c hc => ?_, fun c hc => ?_, fun c hc => ?_, fun c hc hd => ?_, fun c hc hd => ?_, ?_, fun k hk hd => ?_⟩
        · rw [mset_off _ _ _ h, mset_off _ _ _ h, mset_off _ _ _ h, mset_off _ _ _ h, mset_off _ _ _ h, T.fr a h]
        · by_cases hci : c = i
          · subst hci; simp (disch := omega) only [ms1, ms1, ms2, ms3]
          · simp (disch := omega) only [ms1, ms1, ms2, ms3]; exact T.went c (by omega)
        · by_cases hci : c = i
          · subst hci; simp (disch := omega) only [x1, ms1, ms2, ms3]
          · simp (disch := omega) only [ms1, ms1, ms2, ms3]; exact T.into1 c (by omega)
        · by_cases hci : c = i
          · subst hci; simp (disch := omega) only [x2, ms1, ms2, ms3]
          · simp (disch := omega) only [ms1, ms1, ms2, ms3]; exact T.at1 c (by omega)
        · simp (disch := omega) only [ms1, ms1, ms2, ms3]; exact T.into0 c (by omega) hd
        · simp (disch := omega) only [ms1, ms1, ms2, ms3]; exact T.at0 c (by omega) hd
        · simp (disch := omega) only [ms1, ms1, ms2, ms3]; rw [Sm, x3, Nat.add_assoc]
        · simp (disch := omega) only [ms1, ms1, ms2, ms3]; exact T.rest k hk hd
    · have s1 : Sp1 G part tenth into i = false := decide_eq_false c1
      refine ⟨mset (mset M 86 (39 + i) (nI (Gb G part tenth i).toNat)) 86 (14 + i) (nI (into i + (Gb G part tenth i).toNat)), ?_, ?_⟩
      · rw [lp_X10_tenth_2]
        cases hgb : Gb G part tenth i <;> rw [hgb] at hg c1 <;> simp only [Bool.toNat_false, Bool.toNat_true] at hg c1 <;>
          simp (disch := omega) only [R' _, hg, ms1, ms2, ms3, ei, ea, T.loud, Bool.toNat_false, Bool.toNat_true, jns, bds, bvs, lts, gdt, nadd, nmul, nsub, nle, nlt, neq, nz0, nlt0, nle0, n0le, n0lt, nclamp, ndiv, nmod2, gdi, gdn, if_pos, if_neg, if_true, if_false]
      · have x1 : In1 G part tenth into i = into i + (Gb G part tenth i).toNat := by simp [In1, s1]
        have x2 : At1 G part tenth into at_ i = at_ i := by simp [At1, s1]
        have x3 : Lo1 G part tenth into at_ i = 0 := by simp [Lo1, s1]
        refine ⟨fun a h => ?_, fun c hc => ?_, fun c hc => ?_, fun c hc => ?_, fun c hc hd => ?_, fun c hc hd => ?_, ?_, fun k hk hd => ?_⟩
        · rw [mset_off _ _ _ h, mset_off _ _ _ h, T.fr a h]
        · by_cases hci : c = i
          · subst hci; simp (disch := omega) only [ms1, ms1, ms2, ms3]
          · simp (disch := omega) only [ms1, ms1, ms2, ms3]; exact T.went c (by omega)
        · by_cases hci : c = i
          · subst hci; simp (disch := omega) only [x1, ms1, ms2, ms3]
          · simp (disch := omega) only [ms1, ms1, ms2, ms3]; exact T.into1 c (by omega)
        · by_cases hci : c = i
          · subst hci; simp (disch := omega) only [x2, ms1, ms2, ms3]; exact ea
          · simp (disch := omega) only [ms1, ms1, ms2, ms3]; exact T.at1 c (by omega)
        · simp (disch := omega) only [ms1, ms1, ms2, ms3]; exact T.into0 c (by omega) hd
        · simp (disch := omega) only [ms1, ms1, ms2, ms3]; exact T.at0 c (by omega) hd
        · simp (disch := omega) only [ms1, ms1, ms2, ms3]; rw [Sm, x3, Nat.add_zero]; exact T.loud
        · simp (disch := omega) only [ms1, ms1, ms2, ms3]; exact T.rest k hk hd
  · rw [lp_X10_tenth_2, T.fr 84 (by decide), R 95 (by decide), if_pos (Int32.le_refl _)]
