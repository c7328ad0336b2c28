/-! FEED: bytes come behind the tape. -/
theorem and255 (y : Int32) : ∃ b, b < 256 ∧ y &&& nI 255 = nI b := by
  refine ⟨(y &&& nI 255).toBitVec.toNat, ?_, ?_⟩
  · rw [Int32.toBitVec_and, BitVec.toNat_and]
    have : (nI 255).toBitVec.toNat = 255 := by decide
    rw [this]
    have := Nat.and_le_right (n := y.toBitVec.toNat) (m := 255)
    omega
  · apply Int32.toBitVec_inj.mp
    apply BitVec.eq_of_toNat_eq
    have h : (y &&& nI 255).toBitVec.toNat < 2 ^ 32 := BitVec.isLt _
    show _ = ((y &&& nI 255).toBitVec.toNat) % 2 ^ 32
    rw [Nat.mod_eq_of_lt h]
theorem by255 (x : Int32) : x.toInt8.toInt32 &&& nI 255 = x &&& nI 255 := by
  apply Int32.toBitVec_inj.mp
  rw [Int32.toBitVec_and, Int32.toBitVec_and, Int8.toBitVec_toInt32, Int32.toBitVec_toInt8]
  apply BitVec.eq_of_getLsbD_eq
  intro i hi
  rw [BitVec.getLsbD_and, BitVec.getLsbD_and]
  have hm : ∀ i < 32, 8 ≤ i → (nI 255).toBitVec.getLsbD i = false := by decide
  rcases Nat.lt_or_ge i 8 with z | z
  · rw [BitVec.getLsbD_signExtend, BitVec.getLsbD_signExtend, if_pos z, if_pos hi]
    simp only [z, hi, decide_true, Bool.true_and]
  · rw [hm i hi z]; simp
theorem sh255 (x : Int32) {t : Nat} (ht : t = 0 ∨ t = 8 ∨ t = 16 ∨ t = 24) : (x.toUInt32 >>> ((nI t).toUInt32 &&& Int32.toUInt32 31)).toInt32 &&& nI 255 = (x >>> (nI t &&& 31)) &&& nI 255 := by
  apply Int32.toBitVec_inj.mp
  rw [Int32.toBitVec_and, Int32.toBitVec_and, UInt32.toBitVec_toInt32, UInt32.toBitVec_shiftRight, Int32.toBitVec_shiftRight]
  apply BitVec.eq_of_getLsbD_eq
  intro i hi
  rw [BitVec.getLsbD_and, BitVec.getLsbD_and]
  have hm : ∀ i < 32, 8 ≤ i → (nI 255).toBitVec.getLsbD i = false := by decide
  rcases Nat.lt_or_ge i 8 with z | z
  · congr 1
    rcases ht with rfl | rfl | rfl | rfl
    · rw [show ((nI 0).toUInt32 &&& Int32.toUInt32 31).toBitVec % 32 = 0#32 from by decide, show (nI 0 &&& 31).toBitVec.smod 32 = 0#32 from by decide]
      simp
    · rw [show ((nI 8).toUInt32 &&& Int32.toUInt32 31).toBitVec % 32 = 8#32 from by decide, show (nI 8 &&& 31).toBitVec.smod 32 = 8#32 from by decide]
      simp [BitVec.getLsbD_sshiftRight]
      rw [if_pos (by omega), decide_eq_false (by omega)]
      rfl
    · rw [show ((nI 16).toUInt32 &&& Int32.toUInt32 31).toBitVec % 32 = 16#32 from by decide, show (nI 16 &&& 31).toBitVec.smod 32 = 16#32 from by decide]
      simp [BitVec.getLsbD_sshiftRight]
      rw [if_pos (by omega), decide_eq_false (by omega)]
      rfl
    · rw [show ((nI 24).toUInt32 &&& Int32.toUInt32 31).toBitVec % 32 = 24#32 from by decide, show (nI 24 &&& 31).toBitVec.smod 32 = 24#32 from by decide]
      simp [BitVec.getLsbD_sshiftRight]
      rw [if_pos (by omega), decide_eq_false (by omega)]
      rfl
  · rw [hm i hi z]; simp
/-- the byte at t of a number -/
def Bx (x : Int32) (j : Nat) : Int32 := (x >>> (nI (24 - 8 * j) &&& 31)) &&& nI 255
def yA (i : Nat) : Int32 := if i < 4 then nI (24 - 8 * i) else -8
theorem c_append {M0 : Mm} {x : Int32} {L : Nat} (hL : L + 4 ≤ 900) (h0 : M0 15 1 = nI L) : ∃ M', f_X8_append x M0 = some M' ∧ (∀ a, a ≠ 15 → a ≠ 16 → M' a = M0 a) ∧ (∀ k, k ≠ 1 → M' 15 k = M0 15 k) ∧ M' 15 1 = nI (L + 4) ∧ (∀ k, k < L ∨ L + 4 ≤ k → M' 16 k = M0 16 k) ∧ ∀ j, j < 4 → M' 16 (L + j) &&& nI 255 = Bx x j := by
  unfold f_X8_append
  refine lpM (fun f i M => lp_X8_append_3 x f (yA i) M) 4 (fun i M => (∀ a, a ≠ 15 → a ≠ 16 → M a = M0 a) ∧ (∀ k, k ≠ 1 → M 15 k = M0 15 k) ∧ M 15 1 = nI (L + i) ∧ (∀ k, k < L ∨ L + 4 ≤ k → M 16 k = M0 16 k) ∧ ∀ j, j < i → M 16 (L + j) &&& nI 255 = Bx x j) some (by omega) (fun f i M hi T => ?_) (fun f M T => ?_) M0 ⟨fun _ _ _ => rfl, fun _ _ => rfl, h0, fun _ _ => rfl, fun j hj => by omega⟩
  · obtain ⟨t1, t2, t3, t4, t5⟩ := T
    have e1 : yA i = nI (24 - 8 * i) := if_pos hi
    have e2 : nI (24 - 8 * i) + (-8 : Int32) = yA (i + 1) := by
      have : i = 0 ∨ i = 1 ∨ i = 2 ∨ i = 3 := by omega
      rcases this with rfl | rfl | rfl | rfl <;> decide
    obtain ⟨v, hv⟩ : ∃ v, v = vp_nar .byte (x.toUInt32 >>> ((nI (24 - 8 * i)).toUInt32 &&& Int32.toUInt32 31)).toInt32.toInt8.toInt32 := ⟨_, rfl⟩
    have hb : v &&& nI 255 = Bx x i := by
      rw [hv, vp_nar_byte, by255, by255, sh255 x (by omega)]
      rfl
    refine ⟨mset (mset M 16 (L + i) v) 15 1 (nI (L + i + 1)), ?_, fun a h1 h2 => by rw [mset_off _ _ _ h1, mset_off _ _ _ h2, t1 a h1 h2], fun k hk => by rw [ms3 _ _ hk, mset_off _ _ _ (by decide), t2 k hk], by rw [ms1]; rfl, fun k hk => by rw [mset_off _ _ _ (by decide), ms3 _ _ (by omega), t4 k hk], fun j hj => ?_⟩
    · rw [e1, lp_X8_append_3, if_neg (by rw [nlt0 (by omega)]; exact id)]
      simp only [jns]
      rw [t3, if_neg (by rw [nlt0 (by omega)]; exact id), if_neg (by rw [nle (by omega) (by omega)]; omega), gdi (by omega) (by omega), nclamp (by omega), ← hv, mset_off _ _ _ (show (15 : Nat) ≠ 16 by decide), t3, nadd, e2]
    · by_cases c : j = i
      · subst c; rw [mset_off _ _ _ (by decide), ms1]; exact hb
      · rw [mset_off _ _ _ (by decide), ms3 _ _ (by omega)]; exact t5 j (by omega)
  · rw [lp_X8_append_3, show yA 4 = -8 from by decide, if_pos (by decide)]
def Wd (a b c d e : Int32) (i : Nat) : Int32 := if 4 ≤ i then (if 8 ≤ i then (if 12 ≤ i then (if 16 ≤ i then e else d) else c) else b) else a
def By (a b c d e : Int32) (i : Nat) : Int32 := Bx (Wd a b c d e i) (i % 4)
theorem r_feedLoop {M0 : Mm} {a b c d e : Int32} {L : Nat} (hL : L + 20 ≤ 900) (h0 : M0 81 2 = nI L) (k : Mm → Option (Int32 × Mm)) : ∃ M', lp_X10_feed_23 a b c d e k N0 (nI 0) M0 = k M' ∧ (∀ x, x ≠ 81 → x ≠ 82 → M' x = M0 x) ∧ (∀ j, j ≠ 2 → M' 81 j = M0 81 j) ∧ M' 81 2 = nI (L + 20) ∧ (∀ j, j < L → M' 82 j = M0 82 j) ∧ ∀ j, j < 20 → M' 82 (L + j) = By a b c d e j := by
  refine lpM (fun f i M => lp_X10_feed_23 a b c d e k f (nI i) M) 20 (fun i M => (∀ x, x ≠ 81 → x ≠ 82 → M x = M0 x) ∧ (∀ j, j ≠ 2 → M 81 j = M0 81 j) ∧ M 81 2 = nI (L + i) ∧ (∀ j, j < L → M 82 j = M0 82 j) ∧ ∀ j, j < i → M 82 (L + j) = By a b c d e j) k (by omega) (fun f i M hi T => ?_) (fun f M T => ?_) M0 ⟨fun _ _ _ => rfl, fun _ _ => rfl, h0, fun _ _ => rfl, fun j hj => by omega⟩
  · obtain ⟨t1, t2, t3, t4, t5⟩ := T
    have hm : nI i - nI i / nI 4 * nI 4 = nI (i % 4) := nmod (by omega) (by omega) (by omega)
    refine ⟨mset (mset M 82 (L + i) (By a b c d e i)) 81 2 (nI (L + i + 1)), ?_, fun x h1 h2 => by rw [mset_off _ _ _ h1, mset_off _ _ _ h2, t1 x h1 h2], fun j hj => by rw [ms3 _ _ hj, mset_off _ _ _ (by decide), t2 j hj], by rw [ms1]; rfl, fun j hj => by rw [mset_off _ _ _ (by decide), ms3 _ _ (by omega), t4 j hj], fun j hj => ?_⟩
    · have core : ∀ s1, s1 = Wd a b c d e i → (gd (inb (M 81 2) 900) <| lp_X10_feed_23 a b c d e k f (nI i + (nI 1)) (mset (mset M 82 (M 81 2).toNatClampNeg ((s1 >>> (((nI 24) - ((nI 8) * (nI i - nI i / (nI 4) * (nI 4)))) &&& 31)) &&& (nI 255))) 81 2 (((mset M 82 (M 81 2).toNatClampNeg ((s1 >>> (((nI 24) - ((nI 8) * (nI i - nI i / (nI 4) * (nI 4)))) &&& 31)) &&& (nI 255))) 81 2) + (nI 1)))) = lp_X10_feed_23 a b c d e k f (nI (i + 1)) (mset (mset M 82 (L + i) (By a b c d e i)) 81 2 (nI (L + i + 1))) := fun s1 hs => by
        rw [t3, gdi (by omega) (by omega), nclamp (by omega), hm, nmul, nsub (by omega), mset_off _ _ _ (show (81 : Nat) ≠ 82 by decide), t3, nadd, nadd, hs]
        rfl
      rw [lp_X10_feed_23, if_neg (by rw [nle (by omega) (by omega)]; omega)]
      simp only [jns]
      by_cases c1 : 4 ≤ i
      · rw [if_pos (by rw [nle (by omega) (by omega)]; exact c1)]
        by_cases c2 : 8 ≤ i
        · rw [if_pos (by rw [nle (by omega) (by omega)]; exact c2)]
          by_cases c3 : 12 ≤ i
          · rw [if_pos (by rw [nle (by omega) (by omega)]; exact c3)]
            by_cases c4 : 16 ≤ i
            · rw [if_pos (by rw [nle (by omega) (by omega)]; exact c4)]
              exact core e (by unfold Wd; rw [if_pos c1, if_pos c2, if_pos c3, if_pos c4])
            · rw [if_neg (by rw [nle (by omega) (by omega)]; exact c4)]
              exact core d (by unfold Wd; rw [if_pos c1, if_pos c2, if_pos c3, if_neg c4])
          · rw [if_neg (by rw [nle (by omega) (by omega)]; exact c3)]
            exact core c (by unfold Wd; rw [if_pos c1, if_pos c2, if_neg c3])
        · rw [if_neg (by rw [nle (by omega) (by omega)]; exact c2)]
          exact core b (by unfold Wd; rw [if_pos c1, if_neg c2])
      · rw [if_neg (by rw [nle (by omega) (by omega)]; exact c1)]
        exact core a (by unfold Wd; rw [if_neg c1])
    · by_cases c : j = i
      · subst c; rw [mset_off _ _ _ (by decide), ms1]
      · rw [mset_off _ _ _ (by decide), ms3 _ _ (by omega)]; exact t5 j (by omega)
  · rw [lp_X10_feed_23, if_pos (by decide)]
theorem op_feed (a b c d e : Int32) (T : Nat) : Same (f_X9_feed a b c d e) (f_X10_feed a b c d e) T T := by
  intro M I0
  obtain ⟨g, tl, I, h⟩ := id I0
  have hle := I.tp.le
  unfold f_X9_feed f_X10_feed
  rw [I.tp.c, nadd]
  by_cases hc : tl + 20 ≤ 900
  · obtain ⟨M1, a1, f1, q1, l1, o1, b1⟩ := c_append (x := a) (L := tl) (by omega) I.tp.c
    obtain ⟨M2, a2, f2, q2, l2, o2, b2⟩ := c_append (x := b) (L := tl + 4) (by omega) l1
    obtain ⟨M3, a3, f3, q3, l3, o3, b3⟩ := c_append (x := c) (L := tl + 4 + 4) (by omega) l2
    obtain ⟨M4, a4, f4, q4, l4, o4, b4⟩ := c_append (x := d) (L := tl + 4 + 4 + 4) (by omega) l3
    obtain ⟨M5, a5, f5, q5, l5, o5, b5⟩ := c_append (x := e) (L := tl + 4 + 4 + 4 + 4) (by omega) l4
    have n5 : ∀ x, x ≠ 15 → x ≠ 16 → M5 x = M x := fun x h1 h2 => by rw [f5 x h1 h2, f4 x h1 h2, f3 x h1 h2, f2 x h1 h2, f1 x h1 h2]
    have m81 : mset M5 81 0 (nI 0) 81 2 = nI tl := by rw [ms3 _ _ (by decide), n5 81 (by decide) (by decide)]; exact I.tp.r
    obtain ⟨M6, a6, f6, r6, l6, o6, b6⟩ := r_feedLoop (a := a) (b := b) (c := c) (d := d) (e := e) hc m81 (fun (M9 : Mm) => some ((M9 81 2), M9))
    have n6 : ∀ x, x ≠ 15 → x ≠ 16 → x ≠ 81 → x ≠ 82 → M6 x = M x := fun x h1 h2 h3 h4 => by rw [f6 x h3 h4, mset_off _ _ _ h3, n5 x h1 h2]
    have k81 : ∀ k, k ≠ 0 → k ≠ 2 → M6 81 k = M 81 k := fun k h1 h2 => by rw [r6 k h2, ms3 _ _ h1, n5 81 (by decide) (by decide)]
    have m15 : M6 15 = M5 15 := by rw [f6 15 (by decide) (by decide), mset_off _ _ _ (by decide)]
    have m16 : M6 16 = M5 16 := by rw [f6 16 (by decide) (by decide), mset_off _ _ _ (by decide)]
    have hby : ∀ k, k < 20 → M5 16 (tl + k) &&& nI 255 = By a b c d e k := fun k hk => by
      unfold By Wd
      by_cases c1 : 4 ≤ k
      · rw [if_pos c1]
        by_cases c2 : 8 ≤ k
        · rw [if_pos c2]
          by_cases c3 : 12 ≤ k
          · rw [if_pos c3]
            by_cases c4 : 16 ≤ k
            · have := b5 (k - 16) (by omega)
              rw [show tl + 4 + 4 + 4 + 4 + (k - 16) = tl + k from by omega] at this
              rw [if_pos c4, show k % 4 = k - 16 from by omega, this]
            · have := b4 (k - 12) (by omega)
              rw [show tl + 4 + 4 + 4 + (k - 12) = tl + k from by omega] at this
              rw [if_neg c4, show k % 4 = k - 12 from by omega, o5 _ (by omega), this]
          · have := b3 (k - 8) (by omega)
            rw [show tl + 4 + 4 + (k - 8) = tl + k from by omega] at this
            rw [if_neg c3, show k % 4 = k - 8 from by omega, o5 _ (by omega), o4 _ (by omega), this]
        · have := b2 (k - 4) (by omega)
          rw [show tl + 4 + (k - 4) = tl + k from by omega] at this
          rw [if_neg c2, show k % 4 = k - 4 from by omega, o5 _ (by omega), o4 _ (by omega), o3 _ (by omega), this]
      · have := b1 k (by omega)
        rw [if_neg c1, show k % 4 = k from by omega, o5 _ (by omega), o4 _ (by omega), o3 _ (by omega), o2 _ (by omega), this]
    have old : ∀ k, k < tl → M5 16 k = M 16 k := fun k hk => by rw [o5 k (by omega), o4 k (by omega), o3 k (by omega), o2 k (by omega), o1 k (by omega)]
    obtain ⟨n, fp, fm, ft, sn, sk, N⟩ := I.nt
    refine ⟨nI (tl + 20), M5, M6, ?_, ?_, g, tl + 20, ⟨I.gg, ?_, ?_, ⟨hc, ?_, l6, fun k hk => ?_⟩, ?_, ?_, fun h4 => ?_, ?_, ⟨n, fp, fm, ft, sn, sk, ⟨N.n30, ?_, ?_, fun k hk => ?_, fun p' hp' s' hs' t' ht' => ?_, fun k hk => ?_⟩⟩⟩, ?_⟩
    · rw [if_pos (by rw [nle (by omega) (by omega)]; exact hc), a1, bvs, a2, bvs, a3, bvs, a4, bvs, a5, bvs, l5]
    · rw [m81, nadd, if_pos (by rw [nle (by omega) (by omega)]; exact hc), a6, l6]
    · rw [n6 0 (by decide) (by decide) (by decide) (by decide)]; exact I.h8
    · rw [n6 0 (by decide) (by decide) (by decide) (by decide)]; exact I.h9
    · rw [m15, l5]
    · by_cases c1 : k < tl
      · rw [o6 k c1, mset_off _ _ _ (by decide), n5 82 (by decide) (by decide), m16, old k c1]
        exact I.tp.b k c1
      · obtain ⟨bb, h1, h2⟩ := and255 (M5 16 k)
        refine ⟨bb, h1, ?_, by rw [m16]; exact h2⟩
        have h3 := b6 (k - tl) (by omega)
        have h4 := hby (k - tl) (by omega)
        rw [show tl + (k - tl) = k from by omega] at h3 h4
        rw [h3, ← h4, h2]
    · rw [n6 0 (by decide) (by decide) (by decide) (by decide), k81 11 (by decide) (by decide)]; exact I.tr
    · rw [n6 0 (by decide) (by decide) (by decide) (by decide), k81 9 (by decide) (by decide)]; exact I.lf
    · rw [n6 0 (by decide) (by decide) (by decide) (by decide)] at h4 ⊢
      rw [k81 10 (by decide) (by decide)]; exact I.pl h4
    · rw [k81 20 (by decide) (by decide)]; exact I.lo
    · rw [n6 73 (by decide) (by decide) (by decide) (by decide)]; exact N.c
    · rw [k81 26 (by decide) (by decide)]; exact N.r
    · rw [n6 88 (by decide) (by decide) (by decide) (by decide), n6 89 (by decide) (by decide) (by decide) (by decide), n6 90 (by decide) (by decide) (by decide) (by decide)]; exact N.p k hk
    · rw [n6 74 (by decide) (by decide) (by decide) (by decide)]; exact N.f p' hp' s' hs' t' ht'
    · rw [n6 75 (by decide) (by decide) (by decide) (by decide), n6 76 (by decide) (by decide) (by decide) (by decide), n6 91 (by decide) (by decide) (by decide) (by decide), n6 92 (by decide) (by decide) (by decide) (by decide)]; exact N.s k hk
    · rcases h with Ng | ⟨G, Q, mk, Qm, D⟩
      · have gg := I.gg
        refine .inl ⟨by rw [k81 14 (by decide) (by decide)]; exact Ng.hg, fun k h1 h2 => ?_, by rw [n6 20 (by decide) (by decide) (by decide) (by decide)]; exact Ng.seed, by rw [n6 0 (by decide) (by decide) (by decide) (by decide)]; exact Ng.m0, by rw [k81 19 (by decide) (by decide)]; exact Ng.m1, by rw [n6 73 (by decide) (by decide) (by decide) (by decide)]; exact Ng.fl⟩
        rw [n6 g (by omega) (by omega) (by omega) (by omega)]; exact Ng.z k h1 h2
      · have hm3 := D.mk3
        refine .inr ⟨G, Q, mk, Qm, ⟨D.C.cong2 (fun x h1 h2 => n6 x (by omega) (by omega) (by omega) (by omega)), fun k hk => ?_, D.W, by rw [k81 14 (by decide) (by decide)]; exact D.hg, RP.cong D.W D.H (fun k _ => by rw [n6 86 (by decide) (by decide) (by decide) (by decide)]), D.K.cong7 (fun x h1 h2 => n6 x (by omega) (by omega) (by omega) (by omega)), D.qw, hm3, by rw [n6 0 (by decide) (by decide) (by decide) (by decide)]; exact D.m0, by rw [k81 19 (by decide) (by decide)]; exact D.m1, fun s hs => ?_, fun s hs => (D.mc s hs).cong7 (fun x h1 h2 => n6 x (by omega) (by omega) (by omega) (by omega)), D.mq⟩⟩
        · rw [n6 84 (by decide) (by decide) (by decide) (by decide)]; exact D.R k hk
        · exact KP.cong D.W (by omega) (D.mr s hs) (fun k _ => by rw [n6 87 (by decide) (by decide) (by decide) (by decide)])
  · have m81 : mset M 81 0 (nI 0) 81 2 = M 81 2 := ms3 _ _ (by decide)
    refine ⟨-1, M, mset M 81 0 (nI 0), ?_, ?_, I0.same (ft0 M) (by simp (disch := omega) only [ms1, ms1, ms2, ms3]) (by simp (disch := omega) only [ms1, ms1, ms2, ms3])⟩
    · rw [if_neg (by rw [nle (by omega) (by omega)]; exact hc)]
    · rw [m81, I.tp.r, nadd, if_neg (by rw [nle (by omega) (by omega)]; exact hc)]
