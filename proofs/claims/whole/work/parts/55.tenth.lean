/-! A TENTH: what it makes of a play. -/
abbrev RP (M : Mm) (G : Nat → Nat) (Q : Pl) : Prop := (M 86 0 = nI Q.part) ∧ (M 86 1 = nI Q.tenth) ∧ (M 86 2 = nI Q.loud) ∧ (M 86 3 = nI Q.looked) ∧ (M 86 4 = nI Q.passed) ∧ (M 86 5 = Q.touch) ∧ (M 86 6 = nI Q.seed) ∧ (M 86 7 = nI (if Q.touch < 0 then 0 else Cb G Q.at_ Q.touch (G 95))) ∧ (M 86 8 = nI (if Q.touch < 0 then 0 else 1)) ∧ (∀ c, c < G 95 → M 86 (9 + c) = nI (Q.at_ c)) ∧ (∀ c, c < G 95 → M 86 (14 + c) = nI (Q.into c)) ∧ (∀ c, c < G 95 → M 86 (19 + c) = Q.how c) ∧ (∀ c, c < G 95 → M 86 (24 + c) = nI (Q.seen c)) ∧ (∀ c, c < G 95 → M 86 (29 + c) = nI (Q.wrong c)) ∧ (∀ c, c < G 95 → M 86 (34 + c) = nI (Q.there c))
theorem RP.part {M : Mm} {G : Nat → Nat} {Q : Pl} (h : RP M G Q) : M 86 0 = nI Q.part := h.1
theorem RP.tenth {M : Mm} {G : Nat → Nat} {Q : Pl} (h : RP M G Q) : M 86 1 = nI Q.tenth := h.2.1
theorem RP.loud {M : Mm} {G : Nat → Nat} {Q : Pl} (h : RP M G Q) : M 86 2 = nI Q.loud := h.2.2.1
theorem RP.looked {M : Mm} {G : Nat → Nat} {Q : Pl} (h : RP M G Q) : M 86 3 = nI Q.looked := h.2.2.2.1
theorem RP.passed {M : Mm} {G : Nat → Nat} {Q : Pl} (h : RP M G Q) : M 86 4 = nI Q.passed := h.2.2.2.2.1
theorem RP.touch {M : Mm} {G : Nat → Nat} {Q : Pl} (h : RP M G Q) : M 86 5 = Q.touch := h.2.2.2.2.2.1
theorem RP.seed {M : Mm} {G : Nat → Nat} {Q : Pl} (h : RP M G Q) : M 86 6 = nI Q.seed := h.2.2.2.2.2.2.1
theorem RP.caught {M : Mm} {G : Nat → Nat} {Q : Pl} (h : RP M G Q) : M 86 7 = nI (if Q.touch < 0 then 0 else Cb G Q.at_ Q.touch (G 95)) := h.2.2.2.2.2.2.2.1
theorem RP.over {M : Mm} {G : Nat → Nat} {Q : Pl} (h : RP M G Q) : M 86 8 = nI (if Q.touch < 0 then 0 else 1) := h.2.2.2.2.2.2.2.2.1
theorem RP.at_ {M : Mm} {G : Nat → Nat} {Q : Pl} (h : RP M G Q) : ∀ c, c < G 95 → M 86 (9 + c) = nI (Q.at_ c) := h.2.2.2.2.2.2.2.2.2.1
theorem RP.into {M : Mm} {G : Nat → Nat} {Q : Pl} (h : RP M G Q) : ∀ c, c < G 95 → M 86 (14 + c) = nI (Q.into c) := h.2.2.2.2.2.2.2.2.2.2.1
theorem RP.how {M : Mm} {G : Nat → Nat} {Q : Pl} (h : RP M G Q) : ∀ c, c < G 95 → M 86 (19 + c) = Q.how c := h.2.2.2.2.2.2.2.2.2.2.2.1
theorem RP.seen {M : Mm} {G : Nat → Nat} {Q : Pl} (h : RP M G Q) : ∀ c, c < G 95 → M 86 (24 + c) = nI (Q.seen c) := h.2.2.2.2.2.2.2.2.2.2.2.2.1
theorem RP.wrong {M : Mm} {G : Nat → Nat} {Q : Pl} (h : RP M G Q) : ∀ c, c < G 95 → M 86 (29 + c) = nI (Q.wrong c) := h.2.2.2.2.2.2.2.2.2.2.2.2.2.1
theorem RP.there {M : Mm} {G : Nat → Nat} {Q : Pl} (h : RP M G Q) : ∀ c, c < G 95 → M 86 (34 + c) = nI (Q.there c) := h.2.2.2.2.2.2.2.2.2.2.2.2.2.2
abbrev CP (M : Mm) (p : Nat) (G : Nat → Nat) (Q : Pl) : Prop := (M p 10 = nI (En G Q.part + Q.tenth)) ∧ (M p 11 = nI Q.loud) ∧ (M p 12 = nI Q.looked) ∧ (M p 13 = nI Q.passed) ∧ (M p 14 = Q.touch) ∧ (M p 9 = nI Q.seed) ∧ (∀ c, c < G 95 → M (p + 1) c = nI (Q.at_ c)) ∧ (∀ c, c < G 95 → M (p + 2) c = nI (Q.into c)) ∧ (∀ c, c < G 95 → M (p + 3) c = Q.how c) ∧ (∀ c, c < G 95 → M (p + 4) c = nI (Q.seen c)) ∧ (∀ c, c < G 95 → M (p + 5) c = nI (Q.wrong c)) ∧ (∀ c, c < G 95 → M (p + 6) c = nI (Q.there c))
theorem CP.said {M : Mm} {p : Nat} {G : Nat → Nat} {Q : Pl} (h : CP M p G Q) : M p 10 = nI (En G Q.part + Q.tenth) := h.1
theorem CP.loud {M : Mm} {p : Nat} {G : Nat → Nat} {Q : Pl} (h : CP M p G Q) : M p 11 = nI Q.loud := h.2.1
theorem CP.looked {M : Mm} {p : Nat} {G : Nat → Nat} {Q : Pl} (h : CP M p G Q) : M p 12 = nI Q.looked := h.2.2.1
theorem CP.passed {M : Mm} {p : Nat} {G : Nat → Nat} {Q : Pl} (h : CP M p G Q) : M p 13 = nI Q.passed := h.2.2.2.1
theorem CP.touch {M : Mm} {p : Nat} {G : Nat → Nat} {Q : Pl} (h : CP M p G Q) : M p 14 = Q.touch := h.2.2.2.2.1
theorem CP.seed {M : Mm} {p : Nat} {G : Nat → Nat} {Q : Pl} (h : CP M p G Q) : M p 9 = nI Q.seed := h.2.2.2.2.2.1
theorem CP.at_ {M : Mm} {p : Nat} {G : Nat → Nat} {Q : Pl} (h : CP M p G Q) : ∀ c, c < G 95 → M (p + 1) c = nI (Q.at_ c) := h.2.2.2.2.2.2.1
theorem CP.into {M : Mm} {p : Nat} {G : Nat → Nat} {Q : Pl} (h : CP M p G Q) : ∀ c, c < G 95 → M (p + 2) c = nI (Q.into c) := h.2.2.2.2.2.2.2.1
theorem CP.how {M : Mm} {p : Nat} {G : Nat → Nat} {Q : Pl} (h : CP M p G Q) : ∀ c, c < G 95 → M (p + 3) c = Q.how c := h.2.2.2.2.2.2.2.2.1
theorem CP.seen {M : Mm} {p : Nat} {G : Nat → Nat} {Q : Pl} (h : CP M p G Q) : ∀ c, c < G 95 → M (p + 4) c = nI (Q.seen c) := h.2.2.2.2.2.2.2.2.2.1
theorem CP.wrong {M : Mm} {p : Nat} {G : Nat → Nat} {Q : Pl} (h : CP M p G Q) : ∀ c, c < G 95 → M (p + 5) c = nI (Q.wrong c) := h.2.2.2.2.2.2.2.2.2.2.1
theorem CP.there {M : Mm} {p : Nat} {G : Nat → Nat} {Q : Pl} (h : CP M p G Q) : ∀ c, c < G 95 → M (p + 6) c = nI (Q.there c) := h.2.2.2.2.2.2.2.2.2.2.2
abbrev QW (G : Nat → Nat) (Q : Pl) (T : Nat) : Prop := (Q.part < G 92) ∧ ((Q.touch = -2 ∧ Q.tenth < Tn G Q.part ∧ ∀ c, c < G 95 → Q.at_ c < G 0) ∨ (∃ k, k < G 95 ∧ Q.touch = nI k ∧ 1 ≤ Q.tenth ∧ Q.tenth ≤ Tn G Q.part ∧ ∀ c, c < G 95 → Q.at_ c ≤ G 0)) ∧ (∀ c, c < G 95 → Q.into c < G (61 + c)) ∧ (∀ c, c < G 95 → Q.how c = -2 ∨ ∃ h, h < 6 ∧ Q.how c = nI h) ∧ (∀ c, c < G 95 → Q.how c = nI 5 → 1 ≤ Q.wrong c) ∧ (∀ c, c < G 95 → Q.there c < G 0) ∧ (Q.seed < 65537) ∧ (Q.loud ≤ 500 * (En G Q.part + Q.tenth)) ∧ (∀ c, c < G 95 → Q.seen c + Q.wrong c ≤ Q.looked) ∧ (Q.looked ≤ Q.passed) ∧ (Q.passed ≤ T)
theorem QW.part {G : Nat → Nat} {Q : Pl} {T : Nat} (h : QW G Q T) : Q.part < G 92 := h.1
theorem QW.st {G : Nat → Nat} {Q : Pl} {T : Nat} (h : QW G Q T) : (Q.touch = -2 ∧ Q.tenth < Tn G Q.part ∧ ∀ c, c < G 95 → Q.at_ c < G 0) ∨ (∃ k, k < G 95 ∧ Q.touch = nI k ∧ 1 ≤ Q.tenth ∧ Q.tenth ≤ Tn G Q.part ∧ ∀ c, c < G 95 → Q.at_ c ≤ G 0) := h.2.1
theorem QW.into {G : Nat → Nat} {Q : Pl} {T : Nat} (h : QW G Q T) : ∀ c, c < G 95 → Q.into c < G (61 + c) := h.2.2.1
theorem QW.how {G : Nat → Nat} {Q : Pl} {T : Nat} (h : QW G Q T) : ∀ c, c < G 95 → Q.how c = -2 ∨ ∃ h, h < 6 ∧ Q.how c = nI h := h.2.2.2.1
theorem QW.hw {G : Nat → Nat} {Q : Pl} {T : Nat} (h : QW G Q T) : ∀ c, c < G 95 → Q.how c = nI 5 → 1 ≤ Q.wrong c := h.2.2.2.2.1
theorem QW.there {G : Nat → Nat} {Q : Pl} {T : Nat} (h : QW G Q T) : ∀ c, c < G 95 → Q.there c < G 0 := h.2.2.2.2.2.1
theorem QW.seed {G : Nat → Nat} {Q : Pl} {T : Nat} (h : QW G Q T) : Q.seed < 65537 := h.2.2.2.2.2.2.1
theorem QW.loud {G : Nat → Nat} {Q : Pl} {T : Nat} (h : QW G Q T) : Q.loud ≤ 500 * (En G Q.part + Q.tenth) := h.2.2.2.2.2.2.2.1
theorem QW.cnt {G : Nat → Nat} {Q : Pl} {T : Nat} (h : QW G Q T) : ∀ c, c < G 95 → Q.seen c + Q.wrong c ≤ Q.looked := h.2.2.2.2.2.2.2.2.1
theorem QW.lk {G : Nat → Nat} {Q : Pl} {T : Nat} (h : QW G Q T) : Q.looked ≤ Q.passed := h.2.2.2.2.2.2.2.2.2.1
theorem QW.ps {G : Nat → Nat} {Q : Pl} {T : Nat} (h : QW G Q T) : Q.passed ≤ T := h.2.2.2.2.2.2.2.2.2.2
def crp (G : Nat → Nat) (Q : Pl) : Pl := (mkPl Q.part (Q.tenth + 1) (Q.loud + Sm (Lo1 G Q.part Q.tenth Q.into Q.at_) (G 95)) Q.looked (Q.passed + 1) Q.seed (Tw G (At1 G Q.part Q.tenth Q.into Q.at_) (G 95) (-2)) (At1 G Q.part Q.tenth Q.into Q.at_) (In1 G Q.part Q.tenth Q.into) Q.how Q.seen Q.wrong Q.there)
def lkS (G : Nat → Nat) (wn : Nat → Bool) (Q : Pl) : Nat → Int32 := Shk G wn Q.into Q.seed
def lkH (G : Nat → Nat) (m : Nat) (wn : Nat → Bool) (Q : Pl) : Nat → Int32 := HwB G Q.at_ (lkS G wn Q) (SdA wn Q.into Q.seed (G 95)) (min m (G 95))
def lk (G : Nat → Nat) (m : Nat) (wn : Nat → Bool) (Q : Pl) : Pl :=
  mkPl (0) (0) (0) (Q.looked + 1) (Q.passed) (SdB G Q.at_ (lkS G wn Q) (SdA wn Q.into Q.seed (G 95)) (min m (G 95))) (Q.touch) (At3 (lkH G m wn Q) Q.at_) (InA wn Q.into) (lkH G m wn Q) (Sn3 (lkH G m wn Q) Q.seen) (Wr3 (lkH G m wn Q) Q.wrong) (Q.at_)
def nx (G : Nat → Nat) (m : Nat) (Q : Pl) : Pl × Nat :=
  if (crp G Q).touch < 0 then
    if Q.tenth + 1 < Tn G Q.part then (crp G Q, 0)
    else if Q.part + 1 = G 92 then (lk G m (Gb G Q.part Q.tenth) (crp G Q), 1)
    else if Sd Q.seed % 100 < G (6 + Q.part) + (crp G Q).loud then (lk G m (Gb G Q.part Q.tenth) (mkPl (crp G Q).part (crp G Q).tenth (crp G Q).loud (crp G Q).looked (crp G Q).passed (Sd Q.seed) (crp G Q).touch (crp G Q).at_ (crp G Q).into (crp G Q).how (crp G Q).seen (crp G Q).wrong (crp G Q).there), 1)
    else ((mkPl (Q.part + 1) (0) (crp G Q).loud (crp G Q).looked (crp G Q).passed (Sd Q.seed) (crp G Q).touch (crp G Q).at_ (crp G Q).into (crp G Q).how (crp G Q).seen (crp G Q).wrong (crp G Q).there), 0)
  else (crp G Q, 2)
theorem Shn_lk {G : Nat → Nat} (W : GW G) {wn : Nat → Bool} {Q : Pl} (hi : ∀ c, c < G 95 → Q.into c < 100) : Shn G (lkS G wn Q) := by
  intro c hc
  have h1 := hi c hc
  unfold lkS Shk
  split
  · exact .inr ⟨Q.into c * 100 / G (61 + c), dle (by omega), rfl⟩
  · exact .inl rfl
theorem hv_n {G at_ : Nat → Nat} {sh : Nat → Int32} {s c : Nat} : ∃ h, h < 6 ∧ (hv G at_ sh s c).1 = nI h := by
  unfold hv
  split
  · exact ⟨2, by decide, rfl⟩
  · split
    · dsimp only
      split
      · exact ⟨0, by decide, rfl⟩
      · exact ⟨5, by decide, rfl⟩
    · dsimp only
      split
      · exact ⟨1, by decide, rfl⟩
      · exact ⟨4, by decide, rfl⟩
theorem HwB_n {G at_ : Nat → Nat} {sh : Nat → Int32} {s : Nat} (c : Nat) : ∀ i, ∃ h, h < 6 ∧ HwB G at_ sh s i c = nI h
  | 0 => ⟨3, by decide, rfl⟩
  | i + 1 => by
    rw [HwB]
    split
    · exact hv_n
    · exact HwB_n c i
theorem r_look {M : Mm} {G : Nat → Nat} (R : RG M G) (W : GW G) {m : Nat} {wn : Nat → Bool} {Q : Pl} (he : Ey M G m) (H : RP M G Q) (hw : ∀ c, c < G 95 → M 86 (39 + c) = nI (wn c).toNat) (hi : ∀ c, c < G 95 → Q.into c < 100) (ha : ∀ c, c < G 95 → Q.at_ c < G 0) (hs : Q.seed < 65537) (ht : Q.touch < 0) (h0 : Q.tenth = 0) :
    ∃ M', f_X10_look M = some M' ∧ RP M' G (lk G m wn Q) ∧ ∀ a, a ≠ 86 → a ≠ 93 → M' a = M a := by
  have h2 := W.creepers
  have hsA := SdA_lt (wn := wn) (into := Q.into) hs (G 95)
  unfold f_X10_look
  obtain ⟨M1, e1, L⟩ := r_look1 R W hs hw H.at_ hi _ ⟨fun _ _ _ => rfl, fun c hc => by omega, fun c hc => by omega, fun c hc => by omega, fun c hc => by omega, fun c _ hc => H.into c hc, H.seed, fun _ _ _ => rfl⟩
  rw [e1]
  have R1 : RG M1 G := fun k hk => by rw [L.fr 84 (by decide) (by decide)]; exact R k hk
  have he1 : Ey M1 G m := by unfold Ey; rw [L.fr 81 (by decide) (by decide)]; exact he
  obtain ⟨M2, e2, B⟩ := r_look2 (s := SdA wn Q.into Q.seed (G 95)) (sh := lkS G wn Q) R1 W hsA he1 (fun c hc => ⟨by rw [L.rest (9 + c) (by omega) (by omega)]; exact H.at_ c hc, ha c hc⟩) (fun c hc => L.sh c hc) (Shn_lk W hi) _ ⟨fun _ _ => rfl, fun c hc => L.how c hc, L.seed, fun _ _ _ => rfl⟩
  rw [e2]
  have R2 : RG M2 G := fun k hk => by rw [B.fr 84 (by decide)]; exact R1 k hk
  obtain ⟨M3, e3, D, f3, r3⟩ := r_look3 (how := lkH G m wn Q) (at_ := Q.at_) (seen := Q.seen) (wrong := Q.wrong) R2 W (fun c hc => B.how c hc) (fun c hc => HwB_n c _) (fun (M46 : Mm) => some (mset (mset (mset M46 86 0 (nI 0)) 86 2 (nI 0)) 86 3 (((mset (mset M46 86 0 (nI 0)) 86 2 (nI 0)) 86 3) + (nI 1)))) ⟨fun c hc => by omega, fun c hc => by omega, fun c hc => by omega, fun c _ hc => by rw [B.rest (9 + c) (by omega) (by omega), L.rest (9 + c) (by omega) (by omega)]; exact H.at_ c hc, fun c _ hc => by rw [B.rest (24 + c) (by omega) (by omega), L.rest (24 + c) (by omega) (by omega)]; exact H.seen c hc, fun c _ hc => by rw [B.rest (29 + c) (by omega) (by omega), L.rest (29 + c) (by omega) (by omega)]; exact H.wrong c hc⟩
  have g3 : ∀ k, k ≠ 6 → k < 9 → M3 86 k = M 86 k := fun k h h' => by rw [r3 k (by omega), B.rest k h (by omega), L.rest k h (by omega)]
  refine ⟨_, e3, ?_, fun a h h' => by rw [mset_off _ _ _ h, mset_off _ _ _ h, mset_off _ _ _ h, f3 a h, B.fr a h, L.fr a h h']⟩
  refine ⟨?_, ?_, ?_, ?_, ?_, ?_, ?_, ?_, ?_, fun c hc => ?_, fun c hc => ?_, fun c hc => ?_, fun c hc => ?_, fun c hc => ?_, fun c hc => ?_⟩
  · simp (disch := omega) only [ms1, ms1, ms2, ms3]; rfl
  · simp (disch := omega) only [ms1, ms1, ms2, ms3]; rw [g3 1 (by decide) (by decide), H.tenth, h0]; rfl
  · simp (disch := omega) only [ms1, ms1, ms2, ms3]; rfl
  · simp (disch := omega) only [ms1, ms1, ms2, ms3]; rw [g3 3 (by decide) (by decide), H.looked, nadd]; rfl
  · simp (disch := omega) only [ms1, ms1, ms2, ms3]; rw [g3 4 (by decide) (by decide), H.passed]; rfl
  · simp (disch := omega) only [ms1, ms1, ms2, ms3]; rw [g3 5 (by decide) (by decide), H.touch]; rfl
  · simp (disch := omega) only [ms1, ms1, ms2, ms3]; rw [r3 6 (by omega), B.seed]; rfl
  · simp (disch := omega) only [ms1, ms1, ms2, ms3]; rw [g3 7 (by decide) (by decide), H.caught, if_pos ht, if_pos (show (lk G m wn Q).touch < 0 from ht)]
  · simp (disch := omega) only [ms1, ms1, ms2, ms3]; rw [g3 8 (by decide) (by decide), H.over, if_pos ht, if_pos (show (lk G m wn Q).touch < 0 from ht)]
  · simp (disch := omega) only [ms1, ms1, ms2, ms3]; exact D.at1 c hc
  · simp (disch := omega) only [ms1, ms1, ms2, ms3]; rw [r3 (14 + c) (by omega), B.rest (14 + c) (by omega) (by omega)]; exact L.intoA c hc
  · simp (disch := omega) only [ms1, ms1, ms2, ms3]; rw [r3 (19 + c) (by omega)]; exact B.how c hc
  · simp (disch := omega) only [ms1, ms1, ms2, ms3]; exact D.sn1 c hc
  · simp (disch := omega) only [ms1, ms1, ms2, ms3]; exact D.wr1 c hc
  · simp (disch := omega) only [ms1, ms1, ms2, ms3]; rw [r3 (34 + c) (by omega), B.rest (34 + c) (by omega) (by omega)]; exact L.there c hc
