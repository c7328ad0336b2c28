/-! A TENTH: what it makes of a play. -/
structure RP (M : Mm) (G : Nat → Nat) (Q : Pl) : Prop where
  part : M 86 0 = nI Q.part
  tenth : M 86 1 = nI Q.tenth
  loud : M 86 2 = nI Q.loud
  looked : M 86 3 = nI Q.looked
  passed : M 86 4 = nI Q.passed
  touch : M 86 5 = Q.touch
  seed : M 86 6 = nI Q.seed
  caught : M 86 7 = nI (if Q.touch < 0 then 0 else Cb G Q.at_ Q.touch (G 95))
  over : M 86 8 = nI (if Q.touch < 0 then 0 else 1)
  at_ : ∀ c, c < G 95 → M 86 (9 + c) = nI (Q.at_ c)
  into : ∀ c, c < G 95 → M 86 (14 + c) = nI (Q.into c)
  how : ∀ c, c < G 95 → M 86 (19 + c) = Q.how c
  seen : ∀ c, c < G 95 → M 86 (24 + c) = nI (Q.seen c)
  wrong : ∀ c, c < G 95 → M 86 (29 + c) = nI (Q.wrong c)
  there : ∀ c, c < G 95 → M 86 (34 + c) = nI (Q.there c)
structure CP (M : Mm) (p : Nat) (G : Nat → Nat) (Q : Pl) : Prop where
  said : M p 10 = nI (En G Q.part + Q.tenth)
  loud : M p 11 = nI Q.loud
  looked : M p 12 = nI Q.looked
  passed : M p 13 = nI Q.passed
  touch : M p 14 = Q.touch
  seed : M p 9 = nI Q.seed
  at_ : ∀ c, c < G 95 → M (p + 1) c = nI (Q.at_ c)
  into : ∀ c, c < G 95 → M (p + 2) c = nI (Q.into c)
  how : ∀ c, c < G 95 → M (p + 3) c = Q.how c
  seen : ∀ c, c < G 95 → M (p + 4) c = nI (Q.seen c)
  wrong : ∀ c, c < G 95 → M (p + 5) c = nI (Q.wrong c)
  there : ∀ c, c < G 95 → M (p + 6) c = nI (Q.there c)
structure QW (G : Nat → Nat) (Q : Pl) (T : Nat) : Prop where
  part : Q.part < G 92
  st : (Q.touch = -2 ∧ Q.tenth < Tn G Q.part ∧ ∀ c, c < G 95 → Q.at_ c < G 0) ∨ (∃ k, k < G 95 ∧ Q.touch = nI k ∧ 1 ≤ Q.tenth ∧ Q.tenth ≤ Tn G Q.part ∧ ∀ c, c < G 95 → Q.at_ c ≤ G 0)
  into : ∀ c, c < G 95 → Q.into c < G (61 + c)
  how : ∀ c, c < G 95 → Q.how c = -2 ∨ ∃ h, h < 6 ∧ Q.how c = nI h
  hw : ∀ c, c < G 95 → Q.how c = nI 5 → 1 ≤ Q.wrong c
  there : ∀ c, c < G 95 → Q.there c < G 0
  seed : Q.seed < 65537
  loud : Q.loud ≤ 500 * (En G Q.part + Q.tenth)
  cnt : ∀ c, c < G 95 → Q.seen c + Q.wrong c ≤ Q.looked
  lk : Q.looked ≤ Q.passed
  ps : Q.passed ≤ T
def crp (G : Nat → Nat) (Q : Pl) : Pl := { Q with into := In1 G Q.part Q.tenth Q.into, at_ := At1 G Q.part Q.tenth Q.into Q.at_, loud := Q.loud + Sm (Lo1 G Q.part Q.tenth Q.into Q.at_) (G 95), passed := Q.passed + 1, tenth := Q.tenth + 1, touch := Tw G (At1 G Q.part Q.tenth Q.into Q.at_) (G 95) (-2) }
def lkS (G : Nat → Nat) (wn : Nat → Bool) (Q : Pl) : Nat → Int32 := Shk G wn Q.into Q.seed
def lkH (G : Nat → Nat) (m : Nat) (wn : Nat → Bool) (Q : Pl) : Nat → Int32 := HwB G Q.at_ (lkS G wn Q) (SdA wn Q.into Q.seed (G 95)) (min m (G 95))
def lk (G : Nat → Nat) (m : Nat) (wn : Nat → Bool) (Q : Pl) : Pl where
  part := 0
  tenth := 0
  loud := 0
  looked := Q.looked + 1
  passed := Q.passed
  touch := Q.touch
  seed := SdB G Q.at_ (lkS G wn Q) (SdA wn Q.into Q.seed (G 95)) (min m (G 95))
  at_ := At3 (lkH G m wn Q) Q.at_
  into := InA wn Q.into
  how := lkH G m wn Q
  seen := Sn3 (lkH G m wn Q) Q.seen
  wrong := Wr3 (lkH G m wn Q) Q.wrong
  there := Q.at_
def nx (G : Nat → Nat) (m : Nat) (Q : Pl) : Pl × Nat :=
  if (crp G Q).touch < 0 then
    if Q.tenth + 1 < Tn G Q.part then (crp G Q, 0)
    else if Q.part + 1 = G 92 then (lk G m (Gb G Q.part Q.tenth) (crp G Q), 1)
    else if Sd Q.seed % 100 < G (6 + Q.part) + (crp G Q).loud then (lk G m (Gb G Q.part Q.tenth) { crp G Q with seed := Sd Q.seed }, 1)
    else ({ crp G Q with seed := Sd Q.seed, part := Q.part + 1, tenth := 0 }, 0)
  else (crp G Q, 2)
theorem Shn_lk {G : Nat → Nat} (W : GW G) {wn : Nat → Bool} {Q : Pl} (hi : ∀ c, c < G 95 → Q.into c < 100) : Shn G (lkS G wn Q) := by
  intro c hc
  have h1 := hi c hc
  unfold lkS Shk
  split
  · exact .inr ⟨Q.into c * 100 / G (61 + c), dle (by omega), rfl⟩
  · exact .inl rfl
theorem hv_n {G at_ : Nat → Nat} {sh : Nat → Int32} {s c : Nat} : ∃ h, h < 6 ∧ (hv G at_ sh s c).1 = nI h := by
  unfold hv
  split
  · exact ⟨2, by decide, rfl⟩
  · split
    · dsimp only
      split
      · exact ⟨0, by decide, rfl⟩
      · exact ⟨5, by decide, rfl⟩
    · dsimp only
      split
      · exact ⟨1, by decide, rfl⟩
      · exact ⟨4, by decide, rfl⟩
theorem HwB_n {G at_ : Nat → Nat} {sh : Nat → Int32} {s : Nat} (c : Nat) : ∀ i, ∃ h, h < 6 ∧ HwB G at_ sh s i c = nI h
  | 0 => ⟨3, by decide, rfl⟩
  | i + 1 => by
    rw [HwB]
    split
    · exact hv_n
    · exact HwB_n c i
theorem r_look {M : Mm} {G : Nat → Nat} (R : RG M G) (W : GW G) {m : Nat} {wn : Nat → Bool} {Q : Pl} (he : Ey M G m) (H : RP M G Q) (hw : ∀ c, c < G 95 → M 86 (39 + c) = nI (wn c).toNat) (hi : ∀ c, c < G 95 → Q.into c < 100) (ha : ∀ c, c < G 95 → Q.at_ c < G 0) (hs : Q.seed < 65537) (ht : Q.touch < 0) (h0 : Q.tenth = 0) :
    ∃ M', f_X10_look M = some M' ∧ RP M' G (lk G m wn Q) ∧ ∀ a, a ≠ 86 → a ≠ 93 → M' a = M a := by
  have h2 := W.creepers
  have hsA := SdA_lt (wn := wn) (into := Q.into) hs (G 95)
  unfold f_X10_look
  obtain ⟨M1, e1, L⟩ := r_look1 R W hs hw H.at_ hi _ ⟨fun _ _ _ => rfl, fun c hc => by omega, fun c hc => by omega, fun c hc => by omega, fun c hc => by omega, fun c _ hc => H.into c hc, H.seed, fun _ _ _ => rfl⟩
  rw [e1]
  have R1 : RG M1 G := fun k hk => by rw [L.fr 84 (by decide) (by decide)]; exact R k hk
  have he1 : Ey M1 G m := by unfold Ey; rw [L.fr 81 (by decide) (by decide)]; exact he
  obtain ⟨M2, e2, B⟩ := r_look2 (s := SdA wn Q.into Q.seed (G 95)) (sh := lkS G wn Q) R1 W hsA he1 (fun c hc => ⟨by rw [L.rest (9 + c) (by omega) (by omega)]; exact H.at_ c hc, ha c hc⟩) (fun c hc => L.sh c hc) (Shn_lk W hi) _ ⟨fun _ _ => rfl, fun c hc => L.how c hc, L.seed, fun _ _ _ => rfl⟩
  rw [e2]
  have R2 : RG M2 G := fun k hk => by rw [B.fr 84 (by decide)]; exact R1 k hk
  obtain ⟨M3, e3, D, f3, r3⟩ := r_look3 (how := lkH G m wn Q) (at_ := Q.at_) (seen := Q.seen) (wrong := Q.wrong) R2 W (fun c hc => B.how c hc) (fun c hc => HwB_n c _) (fun (M46 : Mm) => some (mset (mset (mset M46 86 0 (nI 0)) 86 2 (nI 0)) 86 3 (((mset (mset M46 86 0 (nI 0)) 86 2 (nI 0)) 86 3) + (nI 1)))) ⟨fun c hc => by omega, fun c hc => by omega, fun c hc => by omega, fun c _ hc => by rw [B.rest (9 + c) (by omega) (by omega), L.rest (9 + c) (by omega) (by omega)]; exact H.at_ c hc, fun c _ hc => by rw [B.rest (24 + c) (by omega) (by omega), L.rest (24 + c) (by omega) (by omega)]; exact H.seen c hc, fun c _ hc => by rw [B.rest (29 + c) (by omega) (by omega), L.rest (29 + c) (by omega) (by omega)]; exact H.wrong c hc⟩
  have g3 : ∀ k, k ≠ 6 → k < 9 → M3 86 k = M 86 k := fun k h h' => by rw [r3 k (by omega), B.rest k h (by omega), L.rest k h (by omega)]
  refine ⟨_, e3, ?_, fun a h h' => by rw [mset_off _ _ _ h, mset_off _ _ _ h, mset_off _ _ _ h, f3 a h, B.fr a h, L.fr a h h']⟩
  refine ⟨?_, ?_, ?_, ?_, ?_, ?_, ?_, ?_, ?_, fun c hc => ?_, fun c hc => ?_, fun c hc => ?_, fun c hc => ?_, fun c hc => ?_, fun c hc => ?_⟩
  · mr [ms1]; rfl
  · mr [ms1]; rw [g3 1 (by decide) (by decide), H.tenth, h0]; rfl
  · mr [ms1]; rfl
  · mr [ms1]; rw [g3 3 (by decide) (by decide), H.looked, nadd]; rfl
  · mr [ms1]; rw [g3 4 (by decide) (by decide), H.passed]; rfl
  · mr [ms1]; rw [g3 5 (by decide) (by decide), H.touch]; rfl
  · mr [ms1]; rw [r3 6 (by omega), B.seed]; rfl
  · mr [ms1]; rw [g3 7 (by decide) (by decide), H.caught, if_pos ht, if_pos (show (lk G m wn Q).touch < 0 from ht)]
  · mr [ms1]; rw [g3 8 (by decide) (by decide), H.over, if_pos ht, if_pos (show (lk G m wn Q).touch < 0 from ht)]
  · mr [ms1]; exact D.at1 c hc
  · mr [ms1]; rw [r3 (14 + c) (by omega), B.rest (14 + c) (by omega) (by omega)]; exact L.intoA c hc
  · mr [ms1]; rw [r3 (19 + c) (by omega)]; exact B.how c hc
  · mr [ms1]; exact D.sn1 c hc
  · mr [ms1]; exact D.wr1 c hc
  · mr [ms1]; rw [r3 (34 + c) (by omega), B.rest (34 + c) (by omega) (by omega)]; exact L.there c hc
