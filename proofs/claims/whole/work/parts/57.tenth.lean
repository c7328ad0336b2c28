/-! A TENTH, on: the class's tenth. -/
theorem c_look {M : Mm} {G : Nat → Nat} {g p : Nat} (C : CG M g G) (W : GW G) (P : PC p) {m s0 : Nat} {wn : Nat → Bool} {Q : Pl} (hm : m < 100) (H : CP (mset M p 10 (nI (En G Q.part + Q.tenth))) p G Q) (hw : ∀ c, c < G 95 → M (p + 7) c = nI (wn c).toNat) (hi : ∀ c, c < G 95 → Q.into c < 100) (ha : ∀ c, c < G 95 → Q.at_ c < G 0) (hs : Q.seed < 65537) :
    ∃ M', (bv (f_X3_wobbleAll p g M) fun M55_9 => bv (f_X3_lookAround p g (nI m) M55_9) fun M61_11 => bv (f_X3_sendBack p g M61_11) fun M66_13 => some ((nI 1), (mset (mset (mset M66_13 p 10 (nI 0)) p 11 (nI 0)) p 12 (((mset (mset M66_13 p 10 (nI 0)) p 11 (nI 0)) p 12) + (nI 1))))) = some (nI 1, M') ∧ CP M' p G (lk G m wn Q) ∧ ∀ a, a < p ∨ p + 9 < a → M' a = M a := by
  have h2 := W.creepers
  have hl := W.long
  have hpg := P.ge
  have hg := C.hg
  have hsA := SdA_lt (wn := wn) (into := Q.into) hs (G 95)
  have k9 : M p 9 = nI Q.seed := by have := H.seed; rwa [ms3 _ _ (by decide)] at this
  have k12 : M p 12 = nI Q.looked := by have := H.looked; rwa [ms3 _ _ (by decide)] at this
  have k13 : M p 13 = nI Q.passed := by have := H.passed; rwa [ms3 _ _ (by decide)] at this
  have k14 : M p 14 = Q.touch := by have := H.touch; rwa [ms3 _ _ (by decide)] at this
  have ka : ∀ c, c < G 95 → M (p + 1) c = nI (Q.at_ c) := fun c hc => by have := H.at_ c hc; rwa [ms2 _ _ (by omega)] at this
  have ki : ∀ c, c < G 95 → M (p + 2) c = nI (Q.into c) := fun c hc => by have := H.into c hc; rwa [ms2 _ _ (by omega)] at this
  have ks : ∀ c, c < G 95 → M (p + 4) c = nI (Q.seen c) := fun c hc => by have := H.seen c hc; rwa [ms2 _ _ (by omega)] at this
  have kw : ∀ c, c < G 95 → M (p + 5) c = nI (Q.wrong c) := fun c hc => by have := H.wrong c hc; rwa [ms2 _ _ (by omega)] at this
  obtain ⟨M1, e1, L⟩ := c_wobbleAll C W P hs hw hi ⟨fun _ _ _ _ => rfl, fun c hc => by omega, fun c hc => by omega, fun c _ hc => ki c hc, k9, fun _ _ => rfl⟩
  rw [e1]
  simp only [bvs]
  unfold f_X3_lookAround
  rw [f_copy (lyp P (by decide) (by decide)) (lyp P (by decide) (by decide)) (by decide) (by omega), bvs, f_fill (lyp P (by decide) (by decide)) (by decide), bvs]
  obtain ⟨X, hX⟩ : ∃ X, X = fillM (copyM M1 (p + 1) (p + 6) 5) (p + 3) 5 (nI 3) := ⟨_, rfl⟩
  rw [← hX]
  have x3 : ∀ c, c < 5 → X (p + 3) c = nI 3 := fun c hc => by rw [hX]; unfold fillM; rw [if_pos rfl, if_pos hc]
  have x6 : ∀ c, c < 5 → X (p + 6) c = M1 (p + 1) c := fun c hc => by rw [hX]; unfold fillM copyM; rw [if_neg (by omega), if_pos rfl, if_pos hc]
  have xx : ∀ a, a ≠ p + 3 → a ≠ p + 6 → X a = M1 a := fun a h h' => by rw [hX]; unfold fillM copyM; rw [if_neg h, if_neg h']
  have CX : CG X g G := C.cong (fun a h => by rw [xx a (by omega) (by omega), L.fr a (by omega) (by omega) (by omega)])
  have aX : ∀ c, c < G 95 → X (p + 1) c = nI (Q.at_ c) := fun c hc => by rw [xx _ (by omega) (by omega), L.fr _ (by omega) (by omega) (by omega)]; exact ka c hc
  obtain ⟨M2, e2, f2, o2⟩ := c_orderAll CX W P (fun c hc => ⟨aX c hc, by have := ha c hc; omega⟩)
  rw [e2]
  simp only [bvs]
  have C2 : CG M2 g G := CX.cong (fun a h => f2 a (by omega))
  obtain ⟨M3, e3, B⟩ := c_look2 (s := SdA wn Q.into Q.seed (G 95)) (sh := lkS G wn Q) C2 W P hsA hm (fun c hc => ⟨by rw [f2 _ (by omega)]; exact aX c hc, ha c hc⟩) (fun c hc => by rw [f2 _ (by omega), xx _ (by omega) (by omega)]; exact L.sh c hc) (Shn_lk W hi) o2 ⟨fun _ _ _ => rfl, fun c hc => by rw [f2 _ (by omega)]; exact x3 c (by omega), by rw [f2 _ (by omega), xx _ (by omega) (by omega)]; exact L.seed, fun _ _ => rfl⟩
  rw [e3]
  simp only [bvs]
  have C3 : CG M3 g G := C2.cong (fun a h => B.fr a (by omega) (by omega))
  have b3 : ∀ a, a ≠ p → a ≠ p + 2 → a ≠ p + 3 → a ≠ p + 6 → a ≠ p + 8 → a ≠ p + 9 → M3 a = M a := fun a h0 h2 h3 h6 h8 h9 => by rw [B.fr a h0 h3, f2 a h9, xx a h3 h6, L.fr a h0 h2 h8]
  obtain ⟨M4, e4, D, f4⟩ := c_sendBack (how := lkH G m wn Q) (at_ := Q.at_) (seen := Q.seen) (wrong := Q.wrong) C3 W P (fun c hc => B.how c hc) (fun c hc => HwB_n c _) ⟨fun c hc => by omega, fun c hc => by omega, fun c hc => by omega, fun c _ hc => by rw [b3 _ (by omega) (by omega) (by omega) (by omega) (by omega) (by omega)]; exact ka c hc, fun c _ hc => by rw [b3 _ (by omega) (by omega) (by omega) (by omega) (by omega) (by omega)]; exact ks c hc, fun c _ hc => by rw [b3 _ (by omega) (by omega) (by omega) (by omega) (by omega) (by omega)]; exact kw c hc⟩
  rw [e4]
  simp only [bvs]
  have p4 : ∀ k, k ≠ 9 → M4 p k = M p k := fun k h => by rw [f4 p (by omega) (by omega) (by omega), B.rest k h, f2 p (by omega), xx p (by omega) (by omega), L.rest k h]
  refine ⟨_, rfl, ⟨?_, ?_, ?_, ?_, ?_, ?_, fun c hc => ?_, fun c hc => ?_, fun c hc => ?_, fun c hc => ?_, fun c hc => ?_, fun c hc => ?_⟩, fun a h => ?_⟩
  · simp (disch := omega) only [ms1, ms1, ms2, ms3]; rfl
  · simp (disch := omega) only [ms1, ms1, ms2, ms3]; rfl
  · simp (disch := omega) only [ms1, ms1, ms2, ms3]; rw [p4 12 (by decide), k12, nadd]; rfl
  · simp (disch := omega) only [ms1, ms1, ms2, ms3]; rw [p4 13 (by decide), k13]; rfl
  · simp (disch := omega) only [ms1, ms1, ms2, ms3]; rw [p4 14 (by decide), k14]; rfl
  · simp (disch := omega) only [ms1, ms1, ms2, ms3]; rw [f4 p (by omega) (by omega) (by omega), B.seed]; rfl
  · simp (disch := omega) only [ms1, ms1, ms2, ms3]; exact D.at1 c hc
  · simp (disch := omega) only [ms1, ms1, ms2, ms3]; rw [f4 _ (by omega) (by omega) (by omega), B.fr _ (by omega) (by omega), f2 _ (by omega), xx _ (by omega) (by omega)]; exact L.intoA c hc
  · simp (disch := omega) only [ms1, ms1, ms2, ms3]; rw [f4 _ (by omega) (by omega) (by omega)]; exact B.how c hc
  · simp (disch := omega) only [ms1, ms1, ms2, ms3]; exact D.sn1 c hc
  · simp (disch := omega) only [ms1, ms1, ms2, ms3]; exact D.wr1 c hc
  · simp (disch := omega) only [ms1, ms1, ms2, ms3]; rw [f4 _ (by omega) (by omega) (by omega), B.fr _ (by omega) (by omega), f2 _ (by omega), x6 c (by omega), L.fr _ (by omega) (by omega) (by omega)]; exact ka c hc
  · rw [mset_off _ _ _ (by omega), mset_off _ _ _ (by omega), mset_off _ _ _ (by omega), f4 a (by omega) (by omega) (by omega), b3 a (by omega) (by omega) (by omega) (by omega) (by omega) (by omega)]
