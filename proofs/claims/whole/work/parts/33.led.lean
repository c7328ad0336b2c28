/-! LED: the one that throws. -/
def f_L_led (x1 : Int32) (M : Mm) : Option (Int32 × Mm) :=
  if x1 < 0 then some (1, M) else bg (M 0 8) fun g => if x1 < M g 14 then bv (f_X3_orderAll 20 g M) fun M1 => bd (f_X9_at 29 x1 M1) fun v M2 => some (0, mset M2 96 0 v) else some (1, M)
theorem m_led {l : Launch} {B : BT} {d cells slots pc : Nat} {Po : Option Value → Nat → Mm → Prop} {lv : List (Nat × Value)} {st : List Value} {M M1 : Mm} {x1 r : Int32} (hl : l.stackTraces = false) (hA : bA B = false) (h : f_L_led x1 M = some (r, M1)) (hcs : cells + 1 ≤ 601024 ∧ slots + 6 ≤ 7293033) (hst : (st.map fun v => v.category).sum ≤ 8) (hd : decode cL_law pc = .ok (.invokestatic 201, 3))
    (kk : GG l B LY (d + 14) yL_law cL_law 7 (some .boolean) 601024 7293033 Po 97 (cells + 1) (slots + 6) (pc + 3) lv (.int r :: st) M1) : GG l B LY (d + 14) yL_law cL_law 7 (some .boolean) 601024 7293033 Po 97 cells slots pc lv (.ref 96 :: .int x1 :: .ref 0 :: st) M := by
  sorry
