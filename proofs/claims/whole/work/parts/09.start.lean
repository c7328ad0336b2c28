/-! WHAT THE START GIVES. Written by wip/programs/gen_start.py. -/
def nar : List Cond := flatC (Jvm.Cond.and given_1 narrow_1)
theorem txt_of {args : Array Value} {s : State} {own : String} {k : Nat} {by_ : List Int32} {A : Nat → Prop} (hlen : by_.length < 2 ^ 31) (hex : (Cond.exactly (.string own k) "java/lang/String").before args s = true) (hco : (Cond.eq (.field (.string own k) "java/lang/String" "coder" "B") (.int 0)).before args s = true)
    (har : (Cond.arrayOf (.field (.string own k) "java/lang/String" "value" "[B") .byte).before args s = true) (hle : (Cond.eq (.length (.field (.string own k) "java/lang/String" "value" "[B")) (.int (Int32.ofNat by_.length))).before args s = true)
    (hel : ∀ j : Nat, j < by_.length → (Cond.eq (.elem (.field (.string own k) "java/lang/String" "value" "[B") (.int (Int32.ofNat j))) (.int (by_.getD j 0))).before args s = true) (hA : ∀ a : Nat, a < s.heap.size → ¬ A a) :
    ∃ a v : Nat, (Term.string own k).eval args s none [] s = some (.ref a) ∧ va_O "java/lang/String" a A s s.heap ∧ va_OF "java/lang/String" "coder" "B" (.int 0) a A s s.heap ∧ va_OF "java/lang/String" "value" "[B" (.ref v) a A s s.heap ∧ va_T .byte v by_.length (fun j => .int (by_.getD j 0)) A s s.heap := by
  obtain ⟨a, c, cA, kA, q1, q2, q3, q4, q5, q6, -⟩ := Cond.exactly_spec (args := args) (first := s) (o := none) (s := s) (idx := []) (t := .string own k) (cls := "java/lang/String") hex
  obtain ⟨t, ht, hT⟩ := va_Tof (f := fun j => .int (by_.getD j 0)) (A := A) hlen har (va_eqt hle) (fun j hj => va_eqt (hel j hj)) hA
  exact ⟨a, t, q1, ⟨cA, q3, q5, by rw [q6]; exact q2, hA a (Array.getElem?_eq_some_iff.mp q3).1⟩, vk_OFof q1 (va_eqt hco) hA, vk_OFof q1 ht hA, hT⟩
/-- what is known of the text i at the start -/
def tx_at (i a v : Nat) (A : Nat → Prop) (s : State) : Prop := (∀ q, strq[i]? = some q → vk_R q.1 q.2.1 q.2.2 a s) ∧ va_O "java/lang/String" a A s s.heap ∧ va_OF "java/lang/String" "coder" "B" (.int 0) a A s s.heap ∧ va_OF "java/lang/String" "value" "[B" (.ref v) a A s s.heap ∧ va_T .byte v (stB i).length (fun j => .int ((stB i).getD j 0)) A s s.heap
theorem nar_at {args : Array Value} {s : State} (hs : ∀ c ∈ nar, c.before args s = true) (i : Nat) {w : Cond} (h : nar[i]? = some w) : w.before args s = true := hs w (List.mem_of_getElem? h)
theorem tx_0 {b : Nat} {s : State} {A : Nat → Prop} (hts : ∀ w ∈ lw_tbl, w.before #[Value.ref b] s = true) (hs : ∀ c ∈ nar, c.before #[Value.ref b] s = true) (hA : ∀ a : Nat, a < s.heap.size → ¬ A a) : ∃ a v : Nat, tx_at 0 a v A s := by
  obtain ⟨a, v, h1, h2⟩ := txt_of (own := "StillYard$Reader") (k := 44) (by_ := stB 0) (A := A) (by decide +kernel) (nar_at hs 21 (by decide +kernel)) (nar_at hs 22 (by decide +kernel)) (nar_at hs 23 (by decide +kernel)) (nar_at hs 24 (by decide +kernel)) (by
    intro j hj
    have hj : j < 4 := hj
    match j, hj with
    | 0, _ => exact nar_at hs 25 (by decide +kernel)
    | 1, _ => exact nar_at hs 26 (by decide +kernel)
    | 2, _ => exact nar_at hs 27 (by decide +kernel)
    | 3, _ => exact nar_at hs 28 (by decide +kernel)) hA
  exact ⟨a, v, fun q hq => by
    have e : ("StillYard$Reader", 44, "yard") = q := Option.some.inj hq
    rw [← e]
    exact vk_R.of (hts _ (List.mem_of_getElem? (i := 498) (by decide +kernel))) h1, h2⟩
theorem tx_1 {b : Nat} {s : State} {A : Nat → Prop} (hts : ∀ w ∈ lw_tbl, w.before #[Value.ref b] s = true) (hs : ∀ c ∈ nar, c.before #[Value.ref b] s = true) (hA : ∀ a : Nat, a < s.heap.size → ¬ A a) : ∃ a v : Nat, tx_at 1 a v A s := by
  obtain ⟨a, v, h1, h2⟩ := txt_of (own := "StillYard$Reader") (k := 106) (by_ := stB 1) (A := A) (by decide +kernel) (nar_at hs 29 (by decide +kernel)) (nar_at hs 30 (by decide +kernel)) (nar_at hs 31 (by decide +kernel)) (nar_at hs 32 (by decide +kernel)) (by
    intro j hj
    have hj : j < 4 := hj
    match j, hj with
    | 0, _ => exact nar_at hs 33 (by decide +kernel)
    | 1, _ => exact nar_at hs 34 (by decide +kernel)
    | 2, _ => exact nar_at hs 35 (by decide +kernel)
    | 3, _ => exact nar_at hs 36 (by decide +kernel)) hA
  exact ⟨a, v, fun q hq => by
    have e : ("StillYard$Reader", 106, "long") = q := Option.some.inj hq
    rw [← e]
    exact vk_R.of (hts _ (List.mem_of_getElem? (i := 560) (by decide +kernel))) h1, h2⟩
theorem tx_2 {b : Nat} {s : State} {A : Nat → Prop} (hts : ∀ w ∈ lw_tbl, w.before #[Value.ref b] s = true) (hs : ∀ c ∈ nar, c.before #[Value.ref b] s = true) (hA : ∀ a : Nat, a < s.heap.size → ¬ A a) : ∃ a v : Nat, tx_at 2 a v A s := by
  obtain ⟨a, v, h1, h2⟩ := txt_of (own := "StillYard$Reader") (k := 112) (by_ := stB 2) (A := A) (by decide +kernel) (nar_at hs 37 (by decide +kernel)) (nar_at hs 38 (by decide +kernel)) (nar_at hs 39 (by decide +kernel)) (nar_at hs 40 (by decide +kernel)) (by
    intro j hj
    have hj : j < 5 := hj
    match j, hj with
    | 0, _ => exact nar_at hs 41 (by decide +kernel)
    | 1, _ => exact nar_at hs 42 (by decide +kernel)
    | 2, _ => exact nar_at hs 43 (by decide +kernel)
    | 3, _ => exact nar_at hs 44 (by decide +kernel)
    | 4, _ => exact nar_at hs 45 (by decide +kernel)) hA
  exact ⟨a, v, fun q hq => by
    have e : ("StillYard$Reader", 112, "lanes") = q := Option.some.inj hq
    rw [← e]
    exact vk_R.of (hts _ (List.mem_of_getElem? (i := 573) (by decide +kernel))) h1, h2⟩
theorem tx_3 {b : Nat} {s : State} {A : Nat → Prop} (hts : ∀ w ∈ lw_tbl, w.before #[Value.ref b] s = true) (hs : ∀ c ∈ nar, c.before #[Value.ref b] s = true) (hA : ∀ a : Nat, a < s.heap.size → ¬ A a) : ∃ a v : Nat, tx_at 3 a v A s := by
  obtain ⟨a, v, h1, h2⟩ := txt_of (own := "StillYard$Reader") (k := 116) (by_ := stB 3) (A := A) (by decide +kernel) (nar_at hs 46 (by decide +kernel)) (nar_at hs 47 (by decide +kernel)) (nar_at hs 48 (by decide +kernel)) (nar_at hs 49 (by decide +kernel)) (by
    intro j hj
    have hj : j < 4 := hj
    match j, hj with
    | 0, _ => exact nar_at hs 50 (by decide +kernel)
    | 1, _ => exact nar_at hs 51 (by decide +kernel)
    | 2, _ => exact nar_at hs 52 (by decide +kernel)
    | 3, _ => exact nar_at hs 53 (by decide +kernel)) hA
  exact ⟨a, v, fun q hq => by
    have e : ("StillYard$Reader", 116, "runs") = q := Option.some.inj hq
    rw [← e]
    exact vk_R.of (hts _ (List.mem_of_getElem? (i := 574) (by decide +kernel))) h1, h2⟩
theorem tx_4 {b : Nat} {s : State} {A : Nat → Prop} (hts : ∀ w ∈ lw_tbl, w.before #[Value.ref b] s = true) (hs : ∀ c ∈ nar, c.before #[Value.ref b] s = true) (hA : ∀ a : Nat, a < s.heap.size → ¬ A a) : ∃ a v : Nat, tx_at 4 a v A s := by
  obtain ⟨a, v, h1, h2⟩ := txt_of (own := "StillYard$Reader") (k := 54) (by_ := stB 4) (A := A) (by decide +kernel) (nar_at hs 54 (by decide +kernel)) (nar_at hs 55 (by decide +kernel)) (nar_at hs 56 (by decide +kernel)) (nar_at hs 57 (by decide +kernel)) (by
    intro j hj
    have hj : j < 5 := hj
    match j, hj with
    | 0, _ => exact nar_at hs 58 (by decide +kernel)
    | 1, _ => exact nar_at hs 59 (by decide +kernel)
    | 2, _ => exact nar_at hs 60 (by decide +kernel)
    | 3, _ => exact nar_at hs 61 (by decide +kernel)
    | 4, _ => exact nar_at hs 62 (by decide +kernel)) hA
  exact ⟨a, v, fun q hq => by
    have e : ("StillYard$Reader", 54, "verse") = q := Option.some.inj hq
    rw [← e]
    exact vk_R.of (hts _ (List.mem_of_getElem? (i := 575) (by decide +kernel))) h1, h2⟩
theorem tx_5 {b : Nat} {s : State} {A : Nat → Prop} (hts : ∀ w ∈ lw_tbl, w.before #[Value.ref b] s = true) (hs : ∀ c ∈ nar, c.before #[Value.ref b] s = true) (hA : ∀ a : Nat, a < s.heap.size → ¬ A a) : ∃ a v : Nat, tx_at 5 a v A s := by
  obtain ⟨a, v, h1, h2⟩ := txt_of (own := "StillYard$Reader") (k := 59) (by_ := stB 5) (A := A) (by decide +kernel) (nar_at hs 63 (by decide +kernel)) (nar_at hs 64 (by decide +kernel)) (nar_at hs 65 (by decide +kernel)) (nar_at hs 66 (by decide +kernel)) (by
    intro j hj
    have hj : j < 3 := hj
    match j, hj with
    | 0, _ => exact nar_at hs 67 (by decide +kernel)
    | 1, _ => exact nar_at hs 68 (by decide +kernel)
    | 2, _ => exact nar_at hs 69 (by decide +kernel)) hA
  exact ⟨a, v, fun q hq => by
    have e : ("StillYard$Reader", 59, "one") = q := Option.some.inj hq
    rw [← e]
    exact vk_R.of (hts _ (List.mem_of_getElem? (i := 607) (by decide +kernel))) h1, h2⟩
theorem tx_6 {b : Nat} {s : State} {A : Nat → Prop} (hts : ∀ w ∈ lw_tbl, w.before #[Value.ref b] s = true) (hs : ∀ c ∈ nar, c.before #[Value.ref b] s = true) (hA : ∀ a : Nat, a < s.heap.size → ¬ A a) : ∃ a v : Nat, tx_at 6 a v A s := by
  obtain ⟨a, v, h1, h2⟩ := txt_of (own := "StillYard$Reader") (k := 147) (by_ := stB 6) (A := A) (by decide +kernel) (nar_at hs 70 (by decide +kernel)) (nar_at hs 71 (by decide +kernel)) (nar_at hs 72 (by decide +kernel)) (nar_at hs 73 (by decide +kernel)) (by
    intro j hj
    have hj : j < 5 := hj
    match j, hj with
    | 0, _ => exact nar_at hs 74 (by decide +kernel)
    | 1, _ => exact nar_at hs 75 (by decide +kernel)
    | 2, _ => exact nar_at hs 76 (by decide +kernel)
    | 3, _ => exact nar_at hs 77 (by decide +kernel)
    | 4, _ => exact nar_at hs 78 (by decide +kernel)) hA
  exact ⟨a, v, fun q hq => by
    have e : ("StillYard$Reader", 147, "turns") = q := Option.some.inj hq
    rw [← e]
    exact vk_R.of (hts _ (List.mem_of_getElem? (i := 616) (by decide +kernel))) h1, h2⟩
theorem tx_7 {b : Nat} {s : State} {A : Nat → Prop} (hts : ∀ w ∈ lw_tbl, w.before #[Value.ref b] s = true) (hs : ∀ c ∈ nar, c.before #[Value.ref b] s = true) (hA : ∀ a : Nat, a < s.heap.size → ¬ A a) : ∃ a v : Nat, tx_at 7 a v A s := by
  obtain ⟨a, v, h1, h2⟩ := txt_of (own := "StillYard$Reader") (k := 138) (by_ := stB 7) (A := A) (by decide +kernel) (nar_at hs 79 (by decide +kernel)) (nar_at hs 80 (by decide +kernel)) (nar_at hs 81 (by decide +kernel)) (nar_at hs 82 (by decide +kernel)) (by
    intro j hj
    have hj : j < 5 := hj
    match j, hj with
    | 0, _ => exact nar_at hs 83 (by decide +kernel)
    | 1, _ => exact nar_at hs 84 (by decide +kernel)
    | 2, _ => exact nar_at hs 85 (by decide +kernel)
    | 3, _ => exact nar_at hs 86 (by decide +kernel)
    | 4, _ => exact nar_at hs 87 (by decide +kernel)) hA
  exact ⟨a, v, fun q hq => by
    have e : ("StillYard$Reader", 138, "looks") = q := Option.some.inj hq
    rw [← e]
    exact vk_R.of (hts _ (List.mem_of_getElem? (i := 618) (by decide +kernel))) h1, h2⟩
theorem tx_8 {b : Nat} {s : State} {A : Nat → Prop} (hts : ∀ w ∈ lw_tbl, w.before #[Value.ref b] s = true) (hs : ∀ c ∈ nar, c.before #[Value.ref b] s = true) (hA : ∀ a : Nat, a < s.heap.size → ¬ A a) : ∃ a v : Nat, tx_at 8 a v A s := by
  obtain ⟨a, v, h1, h2⟩ := txt_of (own := "StillYard$Reader") (k := 142) (by_ := stB 8) (A := A) (by decide +kernel) (nar_at hs 88 (by decide +kernel)) (nar_at hs 89 (by decide +kernel)) (nar_at hs 90 (by decide +kernel)) (nar_at hs 91 (by decide +kernel)) (by
    intro j hj
    have hj : j < 3 := hj
    match j, hj with
    | 0, _ => exact nar_at hs 92 (by decide +kernel)
    | 1, _ => exact nar_at hs 93 (by decide +kernel)
    | 2, _ => exact nar_at hs 94 (by decide +kernel)) hA
  exact ⟨a, v, fun q hq => by
    have e : ("StillYard$Reader", 142, "eye") = q := Option.some.inj hq
    rw [← e]
    exact vk_R.of (hts _ (List.mem_of_getElem? (i := 619) (by decide +kernel))) h1, h2⟩
theorem tx_9 {b : Nat} {s : State} {A : Nat → Prop} (hts : ∀ w ∈ lw_tbl, w.before #[Value.ref b] s = true) (hs : ∀ c ∈ nar, c.before #[Value.ref b] s = true) (hA : ∀ a : Nat, a < s.heap.size → ¬ A a) : ∃ a v : Nat, tx_at 9 a v A s := by
  obtain ⟨a, v, h1, h2⟩ := txt_of (own := "StillYard$Reader") (k := 143) (by_ := stB 9) (A := A) (by decide +kernel) (nar_at hs 95 (by decide +kernel)) (nar_at hs 96 (by decide +kernel)) (nar_at hs 97 (by decide +kernel)) (nar_at hs 98 (by decide +kernel)) (by
    intro j hj
    have hj : j < 4 := hj
    match j, hj with
    | 0, _ => exact nar_at hs 99 (by decide +kernel)
    | 1, _ => exact nar_at hs 100 (by decide +kernel)
    | 2, _ => exact nar_at hs 101 (by decide +kernel)
    | 3, _ => exact nar_at hs 102 (by decide +kernel)) hA
  exact ⟨a, v, fun q hq => by
    have e : ("StillYard$Reader", 143, "sees") = q := Option.some.inj hq
    rw [← e]
    exact vk_R.of (hts _ (List.mem_of_getElem? (i := 620) (by decide +kernel))) h1, h2⟩
theorem tx_10 {b : Nat} {s : State} {A : Nat → Prop} (hts : ∀ w ∈ lw_tbl, w.before #[Value.ref b] s = true) (hs : ∀ c ∈ nar, c.before #[Value.ref b] s = true) (hA : ∀ a : Nat, a < s.heap.size → ¬ A a) : ∃ a v : Nat, tx_at 10 a v A s := by
  obtain ⟨a, v, h1, h2⟩ := txt_of (own := "StillYard$Reader") (k := 64) (by_ := stB 10) (A := A) (by decide +kernel) (nar_at hs 103 (by decide +kernel)) (nar_at hs 104 (by decide +kernel)) (nar_at hs 105 (by decide +kernel)) (nar_at hs 106 (by decide +kernel)) (by
    intro j hj
    have hj : j < 6 := hj
    match j, hj with
    | 0, _ => exact nar_at hs 107 (by decide +kernel)
    | 1, _ => exact nar_at hs 108 (by decide +kernel)
    | 2, _ => exact nar_at hs 109 (by decide +kernel)
    | 3, _ => exact nar_at hs 110 (by decide +kernel)
    | 4, _ => exact nar_at hs 111 (by decide +kernel)
    | 5, _ => exact nar_at hs 112 (by decide +kernel)) hA
  exact ⟨a, v, fun q hq => by
    have e : ("StillYard$Reader", 64, "gravel") = q := Option.some.inj hq
    rw [← e]
    exact vk_R.of (hts _ (List.mem_of_getElem? (i := 621) (by decide +kernel))) h1, h2⟩
theorem tx_11 {b : Nat} {s : State} {A : Nat → Prop} (hts : ∀ w ∈ lw_tbl, w.before #[Value.ref b] s = true) (hs : ∀ c ∈ nar, c.before #[Value.ref b] s = true) (hA : ∀ a : Nat, a < s.heap.size → ¬ A a) : ∃ a v : Nat, tx_at 11 a v A s := by
  obtain ⟨a, v, h1, h2⟩ := txt_of (own := "StillYard$Reader") (k := 158) (by_ := stB 11) (A := A) (by decide +kernel) (nar_at hs 113 (by decide +kernel)) (nar_at hs 114 (by decide +kernel)) (nar_at hs 115 (by decide +kernel)) (nar_at hs 116 (by decide +kernel)) (by
    intro j hj
    have hj : j < 4 := hj
    match j, hj with
    | 0, _ => exact nar_at hs 117 (by decide +kernel)
    | 1, _ => exact nar_at hs 118 (by decide +kernel)
    | 2, _ => exact nar_at hs 119 (by decide +kernel)
    | 3, _ => exact nar_at hs 120 (by decide +kernel)) hA
  exact ⟨a, v, fun q hq => by
    have e : ("StillYard$Reader", 158, "lane") = q := Option.some.inj hq
    rw [← e]
    exact vk_R.of (hts _ (List.mem_of_getElem? (i := 626) (by decide +kernel))) h1, h2⟩
theorem tx_12 {b : Nat} {s : State} {A : Nat → Prop} (hts : ∀ w ∈ lw_tbl, w.before #[Value.ref b] s = true) (hs : ∀ c ∈ nar, c.before #[Value.ref b] s = true) (hA : ∀ a : Nat, a < s.heap.size → ¬ A a) : ∃ a v : Nat, tx_at 12 a v A s := by
  obtain ⟨a, v, h1, h2⟩ := txt_of (own := "StillYard$Reader") (k := 162) (by_ := stB 12) (A := A) (by decide +kernel) (nar_at hs 121 (by decide +kernel)) (nar_at hs 122 (by decide +kernel)) (nar_at hs 123 (by decide +kernel)) (nar_at hs 124 (by decide +kernel)) (by
    intro j hj
    have hj : j < 4 := hj
    match j, hj with
    | 0, _ => exact nar_at hs 125 (by decide +kernel)
    | 1, _ => exact nar_at hs 126 (by decide +kernel)
    | 2, _ => exact nar_at hs 127 (by decide +kernel)
    | 3, _ => exact nar_at hs 128 (by decide +kernel)) hA
  exact ⟨a, v, fun q hq => by
    have e : ("StillYard$Reader", 162, "from") = q := Option.some.inj hq
    rw [← e]
    exact vk_R.of (hts _ (List.mem_of_getElem? (i := 627) (by decide +kernel))) h1, h2⟩
theorem tx_13 {b : Nat} {s : State} {A : Nat → Prop} (hts : ∀ w ∈ lw_tbl, w.before #[Value.ref b] s = true) (hs : ∀ c ∈ nar, c.before #[Value.ref b] s = true) (hA : ∀ a : Nat, a < s.heap.size → ¬ A a) : ∃ a v : Nat, tx_at 13 a v A s := by
  obtain ⟨a, v, h1, h2⟩ := txt_of (own := "StillYard$Reader") (k := 164) (by_ := stB 13) (A := A) (by decide +kernel) (nar_at hs 129 (by decide +kernel)) (nar_at hs 130 (by decide +kernel)) (nar_at hs 131 (by decide +kernel)) (nar_at hs 132 (by decide +kernel)) (by
    intro j hj
    have hj : j < 2 := hj
    match j, hj with
    | 0, _ => exact nar_at hs 133 (by decide +kernel)
    | 1, _ => exact nar_at hs 134 (by decide +kernel)) hA
  exact ⟨a, v, fun q hq => by
    have e : ("StillYard$Reader", 164, "to") = q := Option.some.inj hq
    rw [← e]
    exact vk_R.of (hts _ (List.mem_of_getElem? (i := 628) (by decide +kernel))) h1, h2⟩
theorem tx_14 {b : Nat} {s : State} {A : Nat → Prop} (hts : ∀ w ∈ lw_tbl, w.before #[Value.ref b] s = true) (hs : ∀ c ∈ nar, c.before #[Value.ref b] s = true) (hA : ∀ a : Nat, a < s.heap.size → ¬ A a) : ∃ a v : Nat, tx_at 14 a v A s := by
  obtain ⟨a, v, h1, h2⟩ := txt_of (own := "StillYard$Reader") (k := 166) (by_ := stB 14) (A := A) (by decide +kernel) (nar_at hs 135 (by decide +kernel)) (nar_at hs 136 (by decide +kernel)) (nar_at hs 137 (by decide +kernel)) (nar_at hs 138 (by decide +kernel)) (by
    intro j hj
    have hj : j < 4 := hj
    match j, hj with
    | 0, _ => exact nar_at hs 139 (by decide +kernel)
    | 1, _ => exact nar_at hs 140 (by decide +kernel)
    | 2, _ => exact nar_at hs 141 (by decide +kernel)
    | 3, _ => exact nar_at hs 142 (by decide +kernel)) hA
  exact ⟨a, v, fun q hq => by
    have e : ("StillYard$Reader", 166, "loud") = q := Option.some.inj hq
    rw [← e]
    exact vk_R.of (hts _ (List.mem_of_getElem? (i := 629) (by decide +kernel))) h1, h2⟩
theorem tx_15 {b : Nat} {s : State} {A : Nat → Prop} (hts : ∀ w ∈ lw_tbl, w.before #[Value.ref b] s = true) (hs : ∀ c ∈ nar, c.before #[Value.ref b] s = true) (hA : ∀ a : Nat, a < s.heap.size → ¬ A a) : ∃ a v : Nat, tx_at 15 a v A s := by
  obtain ⟨a, v, h1, h2⟩ := txt_of (own := "StillYard$Reader") (k := 69) (by_ := stB 15) (A := A) (by decide +kernel) (nar_at hs 143 (by decide +kernel)) (nar_at hs 144 (by decide +kernel)) (nar_at hs 145 (by decide +kernel)) (nar_at hs 146 (by decide +kernel)) (by
    intro j hj
    have hj : j < 7 := hj
    match j, hj with
    | 0, _ => exact nar_at hs 147 (by decide +kernel)
    | 1, _ => exact nar_at hs 148 (by decide +kernel)
    | 2, _ => exact nar_at hs 149 (by decide +kernel)
    | 3, _ => exact nar_at hs 150 (by decide +kernel)
    | 4, _ => exact nar_at hs 151 (by decide +kernel)
    | 5, _ => exact nar_at hs 152 (by decide +kernel)
    | 6, _ => exact nar_at hs 153 (by decide +kernel)) hA
  exact ⟨a, v, fun q hq => by
    have e : ("StillYard$Reader", 69, "creeper") = q := Option.some.inj hq
    rw [← e]
    exact vk_R.of (hts _ (List.mem_of_getElem? (i := 630) (by decide +kernel))) h1, h2⟩
theorem tx_16 {b : Nat} {s : State} {A : Nat → Prop} (hts : ∀ w ∈ lw_tbl, w.before #[Value.ref b] s = true) (hs : ∀ c ∈ nar, c.before #[Value.ref b] s = true) (hA : ∀ a : Nat, a < s.heap.size → ¬ A a) : ∃ a v : Nat, tx_at 16 a v A s := by
  obtain ⟨a, v, h1, h2⟩ := txt_of (own := "StillYard$Reader") (k := 203) (by_ := stB 16) (A := A) (by decide +kernel) (nar_at hs 154 (by decide +kernel)) (nar_at hs 155 (by decide +kernel)) (nar_at hs 156 (by decide +kernel)) (nar_at hs 157 (by decide +kernel)) (by
    intro j hj
    have hj : j < 5 := hj
    match j, hj with
    | 0, _ => exact nar_at hs 158 (by decide +kernel)
    | 1, _ => exact nar_at hs 159 (by decide +kernel)
    | 2, _ => exact nar_at hs 160 (by decide +kernel)
    | 3, _ => exact nar_at hs 161 (by decide +kernel)
    | 4, _ => exact nar_at hs 162 (by decide +kernel)) hA
  exact ⟨a, v, fun q hq => by
    have e : ("StillYard$Reader", 203, "brave") = q := Option.some.inj hq
    rw [← e]
    exact vk_R.of (hts _ (List.mem_of_getElem? (i := 643) (by decide +kernel))) h1, h2⟩
theorem tx_17 {b : Nat} {s : State} {A : Nat → Prop} (hts : ∀ w ∈ lw_tbl, w.before #[Value.ref b] s = true) (hs : ∀ c ∈ nar, c.before #[Value.ref b] s = true) (hA : ∀ a : Nat, a < s.heap.size → ¬ A a) : ∃ a v : Nat, tx_at 17 a v A s := by
  obtain ⟨a, v, h1, h2⟩ := txt_of (own := "StillYard$Reader") (k := 205) (by_ := stB 17) (A := A) (by decide +kernel) (nar_at hs 163 (by decide +kernel)) (nar_at hs 164 (by decide +kernel)) (nar_at hs 165 (by decide +kernel)) (nar_at hs 166 (by decide +kernel)) (by
    intro j hj
    have hj : j < 4 := hj
    match j, hj with
    | 0, _ => exact nar_at hs 167 (by decide +kernel)
    | 1, _ => exact nar_at hs 168 (by decide +kernel)
    | 2, _ => exact nar_at hs 169 (by decide +kernel)
    | 3, _ => exact nar_at hs 170 (by decide +kernel)) hA
  exact ⟨a, v, fun q hq => by
    have e : ("StillYard$Reader", 205, "safe") = q := Option.some.inj hq
    rw [← e]
    exact vk_R.of (hts _ (List.mem_of_getElem? (i := 644) (by decide +kernel))) h1, h2⟩
theorem tx_18 {b : Nat} {s : State} {A : Nat → Prop} (hts : ∀ w ∈ lw_tbl, w.before #[Value.ref b] s = true) (hs : ∀ c ∈ nar, c.before #[Value.ref b] s = true) (hA : ∀ a : Nat, a < s.heap.size → ¬ A a) : ∃ a v : Nat, tx_at 18 a v A s := by
  obtain ⟨a, v, h1, h2⟩ := txt_of (own := "StillYard$Reader") (k := 207) (by_ := stB 18) (A := A) (by decide +kernel) (nar_at hs 171 (by decide +kernel)) (nar_at hs 172 (by decide +kernel)) (nar_at hs 173 (by decide +kernel)) (nar_at hs 174 (by decide +kernel)) (by
    intro j hj
    have hj : j < 3 := hj
    match j, hj with
    | 0, _ => exact nar_at hs 175 (by decide +kernel)
    | 1, _ => exact nar_at hs 176 (by decide +kernel)
    | 2, _ => exact nar_at hs 177 (by decide +kernel)) hA
  exact ⟨a, v, fun q hq => by
    have e : ("StillYard$Reader", 207, "sly") = q := Option.some.inj hq
    rw [← e]
    exact vk_R.of (hts _ (List.mem_of_getElem? (i := 645) (by decide +kernel))) h1, h2⟩
theorem tx_19 {b : Nat} {s : State} {A : Nat → Prop} (hts : ∀ w ∈ lw_tbl, w.before #[Value.ref b] s = true) (hs : ∀ c ∈ nar, c.before #[Value.ref b] s = true) (hA : ∀ a : Nat, a < s.heap.size → ¬ A a) : ∃ a v : Nat, tx_at 19 a v A s := by
  obtain ⟨a, v, h1, h2⟩ := txt_of (own := "StillYard$Reader") (k := 178) (by_ := stB 19) (A := A) (by decide +kernel) (nar_at hs 178 (by decide +kernel)) (nar_at hs 179 (by decide +kernel)) (nar_at hs 180 (by decide +kernel)) (nar_at hs 181 (by decide +kernel)) (by
    intro j hj
    have hj : j < 4 := hj
    match j, hj with
    | 0, _ => exact nar_at hs 182 (by decide +kernel)
    | 1, _ => exact nar_at hs 183 (by decide +kernel)
    | 2, _ => exact nar_at hs 184 (by decide +kernel)
    | 3, _ => exact nar_at hs 185 (by decide +kernel)) hA
  exact ⟨a, v, fun q hq => by
    have e : ("StillYard$Reader", 178, "pace") = q := Option.some.inj hq
    rw [← e]
    exact vk_R.of (hts _ (List.mem_of_getElem? (i := 655) (by decide +kernel))) h1, h2⟩
theorem tx_20 {b : Nat} {s : State} {A : Nat → Prop} (hts : ∀ w ∈ lw_tbl, w.before #[Value.ref b] s = true) (hs : ∀ c ∈ nar, c.before #[Value.ref b] s = true) (hA : ∀ a : Nat, a < s.heap.size → ¬ A a) : ∃ a v : Nat, tx_at 20 a v A s := by
  obtain ⟨a, v, h1, h2⟩ := txt_of (own := "StillYard$Reader") (k := 180) (by_ := stB 20) (A := A) (by decide +kernel) (nar_at hs 186 (by decide +kernel)) (nar_at hs 187 (by decide +kernel)) (nar_at hs 188 (by decide +kernel)) (nar_at hs 189 (by decide +kernel)) (by
    intro j hj
    have hj : j < 6 := hj
    match j, hj with
    | 0, _ => exact nar_at hs 190 (by decide +kernel)
    | 1, _ => exact nar_at hs 191 (by decide +kernel)
    | 2, _ => exact nar_at hs 192 (by decide +kernel)
    | 3, _ => exact nar_at hs 193 (by decide +kernel)
    | 4, _ => exact nar_at hs 194 (by decide +kernel)
    | 5, _ => exact nar_at hs 195 (by decide +kernel)) hA
  exact ⟨a, v, fun q hq => by
    have e : ("StillYard$Reader", 180, "wobble") = q := Option.some.inj hq
    rw [← e]
    exact vk_R.of (hts _ (List.mem_of_getElem? (i := 656) (by decide +kernel))) h1, h2⟩
theorem tx_21 {b : Nat} {s : State} {A : Nat → Prop} (hts : ∀ w ∈ lw_tbl, w.before #[Value.ref b] s = true) (hs : ∀ c ∈ nar, c.before #[Value.ref b] s = true) (hA : ∀ a : Nat, a < s.heap.size → ¬ A a) : ∃ a v : Nat, tx_at 21 a v A s := by
  obtain ⟨a, v, h1, h2⟩ := txt_of (own := "StillYard$Reader") (k := 182) (by_ := stB 21) (A := A) (by decide +kernel) (nar_at hs 196 (by decide +kernel)) (nar_at hs 197 (by decide +kernel)) (nar_at hs 198 (by decide +kernel)) (nar_at hs 199 (by decide +kernel)) (by
    intro j hj
    have hj : j < 4 := hj
    match j, hj with
    | 0, _ => exact nar_at hs 200 (by decide +kernel)
    | 1, _ => exact nar_at hs 201 (by decide +kernel)
    | 2, _ => exact nar_at hs 202 (by decide +kernel)
    | 3, _ => exact nar_at hs 203 (by decide +kernel)) hA
  exact ⟨a, v, fun q hq => by
    have e : ("StillYard$Reader", 182, "tall") = q := Option.some.inj hq
    rw [← e]
    exact vk_R.of (hts _ (List.mem_of_getElem? (i := 657) (by decide +kernel))) h1, h2⟩
theorem tx_22 {b : Nat} {s : State} {A : Nat → Prop} (hts : ∀ w ∈ lw_tbl, w.before #[Value.ref b] s = true) (hs : ∀ c ∈ nar, c.before #[Value.ref b] s = true) (hA : ∀ a : Nat, a < s.heap.size → ¬ A a) : ∃ a v : Nat, tx_at 22 a v A s := by
  obtain ⟨a, v, h1, h2⟩ := txt_of (own := "StillYard$Reader") (k := 184) (by_ := stB 22) (A := A) (by decide +kernel) (nar_at hs 204 (by decide +kernel)) (nar_at hs 205 (by decide +kernel)) (nar_at hs 206 (by decide +kernel)) (nar_at hs 207 (by decide +kernel)) (by
    intro j hj
    have hj : j < 7 := hj
    match j, hj with
    | 0, _ => exact nar_at hs 208 (by decide +kernel)
    | 1, _ => exact nar_at hs 209 (by decide +kernel)
    | 2, _ => exact nar_at hs 210 (by decide +kernel)
    | 3, _ => exact nar_at hs 211 (by decide +kernel)
    | 4, _ => exact nar_at hs 212 (by decide +kernel)
    | 5, _ => exact nar_at hs 213 (by decide +kernel)
    | 6, _ => exact nar_at hs 214 (by decide +kernel)) hA
  exact ⟨a, v, fun q hq => by
    have e : ("StillYard$Reader", 184, "expects") = q := Option.some.inj hq
    rw [← e]
    exact vk_R.of (hts _ (List.mem_of_getElem? (i := 658) (by decide +kernel))) h1, h2⟩
theorem tx_23 {b : Nat} {s : State} {A : Nat → Prop} (hts : ∀ w ∈ lw_tbl, w.before #[Value.ref b] s = true) (hs : ∀ c ∈ nar, c.before #[Value.ref b] s = true) (hA : ∀ a : Nat, a < s.heap.size → ¬ A a) : ∃ a v : Nat, tx_at 23 a v A s := by
  obtain ⟨a, v, h1, h2⟩ := txt_of (own := "StillYardModel") (k := 128) (by_ := stB 23) (A := A) (by decide +kernel) (nar_at hs 215 (by decide +kernel)) (nar_at hs 216 (by decide +kernel)) (nar_at hs 217 (by decide +kernel)) (nar_at hs 218 (by decide +kernel)) (by
    intro j hj
    have hj : j < 4 := hj
    match j, hj with
    | 0, _ => exact nar_at hs 219 (by decide +kernel)
    | 1, _ => exact nar_at hs 220 (by decide +kernel)
    | 2, _ => exact nar_at hs 221 (by decide +kernel)
    | 3, _ => exact nar_at hs 222 (by decide +kernel)) hA
  exact ⟨a, v, fun q hq => by
    have e : ("StillYardModel", 128, "yard") = q := Option.some.inj hq
    rw [← e]
    exact vk_R.of (hts _ (List.mem_of_getElem? (i := 1410) (by decide +kernel))) h1, h2⟩
theorem tx_24 {b : Nat} {s : State} {A : Nat → Prop} (hts : ∀ w ∈ lw_tbl, w.before #[Value.ref b] s = true) (hs : ∀ c ∈ nar, c.before #[Value.ref b] s = true) (hA : ∀ a : Nat, a < s.heap.size → ¬ A a) : ∃ a v : Nat, tx_at 24 a v A s := by
  obtain ⟨a, v, h1, h2⟩ := txt_of (own := "StillYardModel") (k := 196) (by_ := stB 24) (A := A) (by decide +kernel) (nar_at hs 224 (by decide +kernel)) (nar_at hs 225 (by decide +kernel)) (nar_at hs 226 (by decide +kernel)) (nar_at hs 227 (by decide +kernel)) (by
    intro j hj
    have hj : j < 4 := hj
    match j, hj with
    | 0, _ => exact nar_at hs 228 (by decide +kernel)
    | 1, _ => exact nar_at hs 229 (by decide +kernel)
    | 2, _ => exact nar_at hs 230 (by decide +kernel)
    | 3, _ => exact nar_at hs 231 (by decide +kernel)) hA
  exact ⟨a, v, fun q hq => by
    have e : ("StillYardModel", 196, "long") = q := Option.some.inj hq
    rw [← e]
    exact vk_R.of (hts _ (List.mem_of_getElem? (i := 1429) (by decide +kernel))) h1, h2⟩
theorem tx_25 {b : Nat} {s : State} {A : Nat → Prop} (hts : ∀ w ∈ lw_tbl, w.before #[Value.ref b] s = true) (hs : ∀ c ∈ nar, c.before #[Value.ref b] s = true) (hA : ∀ a : Nat, a < s.heap.size → ¬ A a) : ∃ a v : Nat, tx_at 25 a v A s := by
  obtain ⟨a, v, h1, h2⟩ := txt_of (own := "StillYardModel") (k := 202) (by_ := stB 25) (A := A) (by decide +kernel) (nar_at hs 233 (by decide +kernel)) (nar_at hs 234 (by decide +kernel)) (nar_at hs 235 (by decide +kernel)) (nar_at hs 236 (by decide +kernel)) (by
    intro j hj
    have hj : j < 5 := hj
    match j, hj with
    | 0, _ => exact nar_at hs 237 (by decide +kernel)
    | 1, _ => exact nar_at hs 238 (by decide +kernel)
    | 2, _ => exact nar_at hs 239 (by decide +kernel)
    | 3, _ => exact nar_at hs 240 (by decide +kernel)
    | 4, _ => exact nar_at hs 241 (by decide +kernel)) hA
  exact ⟨a, v, fun q hq => by
    have e : ("StillYardModel", 202, "lanes") = q := Option.some.inj hq
    rw [← e]
    exact vk_R.of (hts _ (List.mem_of_getElem? (i := 1446) (by decide +kernel))) h1, h2⟩
theorem tx_26 {b : Nat} {s : State} {A : Nat → Prop} (hts : ∀ w ∈ lw_tbl, w.before #[Value.ref b] s = true) (hs : ∀ c ∈ nar, c.before #[Value.ref b] s = true) (hA : ∀ a : Nat, a < s.heap.size → ¬ A a) : ∃ a v : Nat, tx_at 26 a v A s := by
  obtain ⟨a, v, h1, h2⟩ := txt_of (own := "StillYardModel") (k := 204) (by_ := stB 26) (A := A) (by decide +kernel) (nar_at hs 243 (by decide +kernel)) (nar_at hs 244 (by decide +kernel)) (nar_at hs 245 (by decide +kernel)) (nar_at hs 246 (by decide +kernel)) (by
    intro j hj
    have hj : j < 4 := hj
    match j, hj with
    | 0, _ => exact nar_at hs 247 (by decide +kernel)
    | 1, _ => exact nar_at hs 248 (by decide +kernel)
    | 2, _ => exact nar_at hs 249 (by decide +kernel)
    | 3, _ => exact nar_at hs 250 (by decide +kernel)) hA
  exact ⟨a, v, fun q hq => by
    have e : ("StillYardModel", 204, "runs") = q := Option.some.inj hq
    rw [← e]
    exact vk_R.of (hts _ (List.mem_of_getElem? (i := 1447) (by decide +kernel))) h1, h2⟩
theorem tx_27 {b : Nat} {s : State} {A : Nat → Prop} (hts : ∀ w ∈ lw_tbl, w.before #[Value.ref b] s = true) (hs : ∀ c ∈ nar, c.before #[Value.ref b] s = true) (hA : ∀ a : Nat, a < s.heap.size → ¬ A a) : ∃ a v : Nat, tx_at 27 a v A s := by
  obtain ⟨a, v, h1, h2⟩ := txt_of (own := "StillYardModel") (k := 130) (by_ := stB 27) (A := A) (by decide +kernel) (nar_at hs 252 (by decide +kernel)) (nar_at hs 253 (by decide +kernel)) (nar_at hs 254 (by decide +kernel)) (nar_at hs 255 (by decide +kernel)) (by
    intro j hj
    have hj : j < 5 := hj
    match j, hj with
    | 0, _ => exact nar_at hs 256 (by decide +kernel)
    | 1, _ => exact nar_at hs 257 (by decide +kernel)
    | 2, _ => exact nar_at hs 258 (by decide +kernel)
    | 3, _ => exact nar_at hs 259 (by decide +kernel)
    | 4, _ => exact nar_at hs 260 (by decide +kernel)) hA
  exact ⟨a, v, fun q hq => by
    have e : ("StillYardModel", 130, "verse") = q := Option.some.inj hq
    rw [← e]
    exact vk_R.of (hts _ (List.mem_of_getElem? (i := 1448) (by decide +kernel))) h1, h2⟩
theorem tx_28 {b : Nat} {s : State} {A : Nat → Prop} (hts : ∀ w ∈ lw_tbl, w.before #[Value.ref b] s = true) (hs : ∀ c ∈ nar, c.before #[Value.ref b] s = true) (hA : ∀ a : Nat, a < s.heap.size → ¬ A a) : ∃ a v : Nat, tx_at 28 a v A s := by
  obtain ⟨a, v, h1, h2⟩ := txt_of (own := "StillYardModel") (k := 132) (by_ := stB 28) (A := A) (by decide +kernel) (nar_at hs 262 (by decide +kernel)) (nar_at hs 263 (by decide +kernel)) (nar_at hs 264 (by decide +kernel)) (nar_at hs 265 (by decide +kernel)) (by
    intro j hj
    have hj : j < 3 := hj
    match j, hj with
    | 0, _ => exact nar_at hs 266 (by decide +kernel)
    | 1, _ => exact nar_at hs 267 (by decide +kernel)
    | 2, _ => exact nar_at hs 268 (by decide +kernel)) hA
  exact ⟨a, v, fun q hq => by
    have e : ("StillYardModel", 132, "one") = q := Option.some.inj hq
    rw [← e]
    exact vk_R.of (hts _ (List.mem_of_getElem? (i := 1457) (by decide +kernel))) h1, h2⟩
theorem tx_29 {b : Nat} {s : State} {A : Nat → Prop} (hts : ∀ w ∈ lw_tbl, w.before #[Value.ref b] s = true) (hs : ∀ c ∈ nar, c.before #[Value.ref b] s = true) (hA : ∀ a : Nat, a < s.heap.size → ¬ A a) : ∃ a v : Nat, tx_at 29 a v A s := by
  obtain ⟨a, v, h1, h2⟩ := txt_of (own := "StillYardModel") (k := 210) (by_ := stB 29) (A := A) (by decide +kernel) (nar_at hs 270 (by decide +kernel)) (nar_at hs 271 (by decide +kernel)) (nar_at hs 272 (by decide +kernel)) (nar_at hs 273 (by decide +kernel)) (by
    intro j hj
    have hj : j < 5 := hj
    match j, hj with
    | 0, _ => exact nar_at hs 274 (by decide +kernel)
    | 1, _ => exact nar_at hs 275 (by decide +kernel)
    | 2, _ => exact nar_at hs 276 (by decide +kernel)
    | 3, _ => exact nar_at hs 277 (by decide +kernel)
    | 4, _ => exact nar_at hs 278 (by decide +kernel)) hA
  exact ⟨a, v, fun q hq => by
    have e : ("StillYardModel", 210, "turns") = q := Option.some.inj hq
    rw [← e]
    exact vk_R.of (hts _ (List.mem_of_getElem? (i := 1462) (by decide +kernel))) h1, h2⟩
theorem tx_30 {b : Nat} {s : State} {A : Nat → Prop} (hts : ∀ w ∈ lw_tbl, w.before #[Value.ref b] s = true) (hs : ∀ c ∈ nar, c.before #[Value.ref b] s = true) (hA : ∀ a : Nat, a < s.heap.size → ¬ A a) : ∃ a v : Nat, tx_at 30 a v A s := by
  obtain ⟨a, v, h1, h2⟩ := txt_of (own := "StillYardModel") (k := 212) (by_ := stB 30) (A := A) (by decide +kernel) (nar_at hs 280 (by decide +kernel)) (nar_at hs 281 (by decide +kernel)) (nar_at hs 282 (by decide +kernel)) (nar_at hs 283 (by decide +kernel)) (by
    intro j hj
    have hj : j < 5 := hj
    match j, hj with
    | 0, _ => exact nar_at hs 284 (by decide +kernel)
    | 1, _ => exact nar_at hs 285 (by decide +kernel)
    | 2, _ => exact nar_at hs 286 (by decide +kernel)
    | 3, _ => exact nar_at hs 287 (by decide +kernel)
    | 4, _ => exact nar_at hs 288 (by decide +kernel)) hA
  exact ⟨a, v, fun q hq => by
    have e : ("StillYardModel", 212, "looks") = q := Option.some.inj hq
    rw [← e]
    exact vk_R.of (hts _ (List.mem_of_getElem? (i := 1463) (by decide +kernel))) h1, h2⟩
theorem tx_31 {b : Nat} {s : State} {A : Nat → Prop} (hts : ∀ w ∈ lw_tbl, w.before #[Value.ref b] s = true) (hs : ∀ c ∈ nar, c.before #[Value.ref b] s = true) (hA : ∀ a : Nat, a < s.heap.size → ¬ A a) : ∃ a v : Nat, tx_at 31 a v A s := by
  obtain ⟨a, v, h1, h2⟩ := txt_of (own := "StillYardModel") (k := 213) (by_ := stB 31) (A := A) (by decide +kernel) (nar_at hs 290 (by decide +kernel)) (nar_at hs 291 (by decide +kernel)) (nar_at hs 292 (by decide +kernel)) (nar_at hs 293 (by decide +kernel)) (by
    intro j hj
    have hj : j < 3 := hj
    match j, hj with
    | 0, _ => exact nar_at hs 294 (by decide +kernel)
    | 1, _ => exact nar_at hs 295 (by decide +kernel)
    | 2, _ => exact nar_at hs 296 (by decide +kernel)) hA
  exact ⟨a, v, fun q hq => by
    have e : ("StillYardModel", 213, "eye") = q := Option.some.inj hq
    rw [← e]
    exact vk_R.of (hts _ (List.mem_of_getElem? (i := 1464) (by decide +kernel))) h1, h2⟩
theorem tx_32 {b : Nat} {s : State} {A : Nat → Prop} (hts : ∀ w ∈ lw_tbl, w.before #[Value.ref b] s = true) (hs : ∀ c ∈ nar, c.before #[Value.ref b] s = true) (hA : ∀ a : Nat, a < s.heap.size → ¬ A a) : ∃ a v : Nat, tx_at 32 a v A s := by
  obtain ⟨a, v, h1, h2⟩ := txt_of (own := "StillYardModel") (k := 215) (by_ := stB 32) (A := A) (by decide +kernel) (nar_at hs 298 (by decide +kernel)) (nar_at hs 299 (by decide +kernel)) (nar_at hs 300 (by decide +kernel)) (nar_at hs 301 (by decide +kernel)) (by
    intro j hj
    have hj : j < 4 := hj
    match j, hj with
    | 0, _ => exact nar_at hs 302 (by decide +kernel)
    | 1, _ => exact nar_at hs 303 (by decide +kernel)
    | 2, _ => exact nar_at hs 304 (by decide +kernel)
    | 3, _ => exact nar_at hs 305 (by decide +kernel)) hA
  exact ⟨a, v, fun q hq => by
    have e : ("StillYardModel", 215, "sees") = q := Option.some.inj hq
    rw [← e]
    exact vk_R.of (hts _ (List.mem_of_getElem? (i := 1465) (by decide +kernel))) h1, h2⟩
theorem tx_33 {b : Nat} {s : State} {A : Nat → Prop} (hts : ∀ w ∈ lw_tbl, w.before #[Value.ref b] s = true) (hs : ∀ c ∈ nar, c.before #[Value.ref b] s = true) (hA : ∀ a : Nat, a < s.heap.size → ¬ A a) : ∃ a v : Nat, tx_at 33 a v A s := by
  obtain ⟨a, v, h1, h2⟩ := txt_of (own := "StillYardModel") (k := 134) (by_ := stB 33) (A := A) (by decide +kernel) (nar_at hs 307 (by decide +kernel)) (nar_at hs 308 (by decide +kernel)) (nar_at hs 309 (by decide +kernel)) (nar_at hs 310 (by decide +kernel)) (by
    intro j hj
    have hj : j < 6 := hj
    match j, hj with
    | 0, _ => exact nar_at hs 311 (by decide +kernel)
    | 1, _ => exact nar_at hs 312 (by decide +kernel)
    | 2, _ => exact nar_at hs 313 (by decide +kernel)
    | 3, _ => exact nar_at hs 314 (by decide +kernel)
    | 4, _ => exact nar_at hs 315 (by decide +kernel)
    | 5, _ => exact nar_at hs 316 (by decide +kernel)) hA
  exact ⟨a, v, fun q hq => by
    have e : ("StillYardModel", 134, "gravel") = q := Option.some.inj hq
    rw [← e]
    exact vk_R.of (hts _ (List.mem_of_getElem? (i := 1466) (by decide +kernel))) h1, h2⟩
theorem tx_34 {b : Nat} {s : State} {A : Nat → Prop} (hts : ∀ w ∈ lw_tbl, w.before #[Value.ref b] s = true) (hs : ∀ c ∈ nar, c.before #[Value.ref b] s = true) (hA : ∀ a : Nat, a < s.heap.size → ¬ A a) : ∃ a v : Nat, tx_at 34 a v A s := by
  obtain ⟨a, v, h1, h2⟩ := txt_of (own := "StillYardModel") (k := 217) (by_ := stB 34) (A := A) (by decide +kernel) (nar_at hs 318 (by decide +kernel)) (nar_at hs 319 (by decide +kernel)) (nar_at hs 320 (by decide +kernel)) (nar_at hs 321 (by decide +kernel)) (by
    intro j hj
    have hj : j < 4 := hj
    match j, hj with
    | 0, _ => exact nar_at hs 322 (by decide +kernel)
    | 1, _ => exact nar_at hs 323 (by decide +kernel)
    | 2, _ => exact nar_at hs 324 (by decide +kernel)
    | 3, _ => exact nar_at hs 325 (by decide +kernel)) hA
  exact ⟨a, v, fun q hq => by
    have e : ("StillYardModel", 217, "lane") = q := Option.some.inj hq
    rw [← e]
    exact vk_R.of (hts _ (List.mem_of_getElem? (i := 1471) (by decide +kernel))) h1, h2⟩
theorem tx_35 {b : Nat} {s : State} {A : Nat → Prop} (hts : ∀ w ∈ lw_tbl, w.before #[Value.ref b] s = true) (hs : ∀ c ∈ nar, c.before #[Value.ref b] s = true) (hA : ∀ a : Nat, a < s.heap.size → ¬ A a) : ∃ a v : Nat, tx_at 35 a v A s := by
  obtain ⟨a, v, h1, h2⟩ := txt_of (own := "StillYardModel") (k := 219) (by_ := stB 35) (A := A) (by decide +kernel) (nar_at hs 327 (by decide +kernel)) (nar_at hs 328 (by decide +kernel)) (nar_at hs 329 (by decide +kernel)) (nar_at hs 330 (by decide +kernel)) (by
    intro j hj
    have hj : j < 4 := hj
    match j, hj with
    | 0, _ => exact nar_at hs 331 (by decide +kernel)
    | 1, _ => exact nar_at hs 332 (by decide +kernel)
    | 2, _ => exact nar_at hs 333 (by decide +kernel)
    | 3, _ => exact nar_at hs 334 (by decide +kernel)) hA
  exact ⟨a, v, fun q hq => by
    have e : ("StillYardModel", 219, "from") = q := Option.some.inj hq
    rw [← e]
    exact vk_R.of (hts _ (List.mem_of_getElem? (i := 1472) (by decide +kernel))) h1, h2⟩
theorem tx_36 {b : Nat} {s : State} {A : Nat → Prop} (hts : ∀ w ∈ lw_tbl, w.before #[Value.ref b] s = true) (hs : ∀ c ∈ nar, c.before #[Value.ref b] s = true) (hA : ∀ a : Nat, a < s.heap.size → ¬ A a) : ∃ a v : Nat, tx_at 36 a v A s := by
  obtain ⟨a, v, h1, h2⟩ := txt_of (own := "StillYardModel") (k := 221) (by_ := stB 36) (A := A) (by decide +kernel) (nar_at hs 336 (by decide +kernel)) (nar_at hs 337 (by decide +kernel)) (nar_at hs 338 (by decide +kernel)) (nar_at hs 339 (by decide +kernel)) (by
    intro j hj
    have hj : j < 2 := hj
    match j, hj with
    | 0, _ => exact nar_at hs 340 (by decide +kernel)
    | 1, _ => exact nar_at hs 341 (by decide +kernel)) hA
  exact ⟨a, v, fun q hq => by
    have e : ("StillYardModel", 221, "to") = q := Option.some.inj hq
    rw [← e]
    exact vk_R.of (hts _ (List.mem_of_getElem? (i := 1473) (by decide +kernel))) h1, h2⟩
theorem tx_37 {b : Nat} {s : State} {A : Nat → Prop} (hts : ∀ w ∈ lw_tbl, w.before #[Value.ref b] s = true) (hs : ∀ c ∈ nar, c.before #[Value.ref b] s = true) (hA : ∀ a : Nat, a < s.heap.size → ¬ A a) : ∃ a v : Nat, tx_at 37 a v A s := by
  obtain ⟨a, v, h1, h2⟩ := txt_of (own := "StillYardModel") (k := 223) (by_ := stB 37) (A := A) (by decide +kernel) (nar_at hs 343 (by decide +kernel)) (nar_at hs 344 (by decide +kernel)) (nar_at hs 345 (by decide +kernel)) (nar_at hs 346 (by decide +kernel)) (by
    intro j hj
    have hj : j < 4 := hj
    match j, hj with
    | 0, _ => exact nar_at hs 347 (by decide +kernel)
    | 1, _ => exact nar_at hs 348 (by decide +kernel)
    | 2, _ => exact nar_at hs 349 (by decide +kernel)
    | 3, _ => exact nar_at hs 350 (by decide +kernel)) hA
  exact ⟨a, v, fun q hq => by
    have e : ("StillYardModel", 223, "loud") = q := Option.some.inj hq
    rw [← e]
    exact vk_R.of (hts _ (List.mem_of_getElem? (i := 1474) (by decide +kernel))) h1, h2⟩
theorem tx_38 {b : Nat} {s : State} {A : Nat → Prop} (hts : ∀ w ∈ lw_tbl, w.before #[Value.ref b] s = true) (hs : ∀ c ∈ nar, c.before #[Value.ref b] s = true) (hA : ∀ a : Nat, a < s.heap.size → ¬ A a) : ∃ a v : Nat, tx_at 38 a v A s := by
  obtain ⟨a, v, h1, h2⟩ := txt_of (own := "StillYardModel") (k := 136) (by_ := stB 38) (A := A) (by decide +kernel) (nar_at hs 352 (by decide +kernel)) (nar_at hs 353 (by decide +kernel)) (nar_at hs 354 (by decide +kernel)) (nar_at hs 355 (by decide +kernel)) (by
    intro j hj
    have hj : j < 7 := hj
    match j, hj with
    | 0, _ => exact nar_at hs 356 (by decide +kernel)
    | 1, _ => exact nar_at hs 357 (by decide +kernel)
    | 2, _ => exact nar_at hs 358 (by decide +kernel)
    | 3, _ => exact nar_at hs 359 (by decide +kernel)
    | 4, _ => exact nar_at hs 360 (by decide +kernel)
    | 5, _ => exact nar_at hs 361 (by decide +kernel)
    | 6, _ => exact nar_at hs 362 (by decide +kernel)) hA
  exact ⟨a, v, fun q hq => by
    have e : ("StillYardModel", 136, "creeper") = q := Option.some.inj hq
    rw [← e]
    exact vk_R.of (hts _ (List.mem_of_getElem? (i := 1475) (by decide +kernel))) h1, h2⟩
theorem tx_39 {b : Nat} {s : State} {A : Nat → Prop} (hts : ∀ w ∈ lw_tbl, w.before #[Value.ref b] s = true) (hs : ∀ c ∈ nar, c.before #[Value.ref b] s = true) (hA : ∀ a : Nat, a < s.heap.size → ¬ A a) : ∃ a v : Nat, tx_at 39 a v A s := by
  obtain ⟨a, v, h1, h2⟩ := txt_of (own := "StillYardModel") (k := 138) (by_ := stB 39) (A := A) (by decide +kernel) (nar_at hs 364 (by decide +kernel)) (nar_at hs 365 (by decide +kernel)) (nar_at hs 366 (by decide +kernel)) (nar_at hs 367 (by decide +kernel)) (by
    intro j hj
    have hj : j < 5 := hj
    match j, hj with
    | 0, _ => exact nar_at hs 368 (by decide +kernel)
    | 1, _ => exact nar_at hs 369 (by decide +kernel)
    | 2, _ => exact nar_at hs 370 (by decide +kernel)
    | 3, _ => exact nar_at hs 371 (by decide +kernel)
    | 4, _ => exact nar_at hs 372 (by decide +kernel)) hA
  exact ⟨a, v, fun q hq => by
    have e : ("StillYardModel", 138, "brave") = q := Option.some.inj hq
    rw [← e]
    exact vk_R.of (hts _ (List.mem_of_getElem? (i := 1484) (by decide +kernel))) h1, h2⟩
theorem tx_40 {b : Nat} {s : State} {A : Nat → Prop} (hts : ∀ w ∈ lw_tbl, w.before #[Value.ref b] s = true) (hs : ∀ c ∈ nar, c.before #[Value.ref b] s = true) (hA : ∀ a : Nat, a < s.heap.size → ¬ A a) : ∃ a v : Nat, tx_at 40 a v A s := by
  obtain ⟨a, v, h1, h2⟩ := txt_of (own := "StillYardModel") (k := 140) (by_ := stB 40) (A := A) (by decide +kernel) (nar_at hs 374 (by decide +kernel)) (nar_at hs 375 (by decide +kernel)) (nar_at hs 376 (by decide +kernel)) (nar_at hs 377 (by decide +kernel)) (by
    intro j hj
    have hj : j < 4 := hj
    match j, hj with
    | 0, _ => exact nar_at hs 378 (by decide +kernel)
    | 1, _ => exact nar_at hs 379 (by decide +kernel)
    | 2, _ => exact nar_at hs 380 (by decide +kernel)
    | 3, _ => exact nar_at hs 381 (by decide +kernel)) hA
  exact ⟨a, v, fun q hq => by
    have e : ("StillYardModel", 140, "safe") = q := Option.some.inj hq
    rw [← e]
    exact vk_R.of (hts _ (List.mem_of_getElem? (i := 1485) (by decide +kernel))) h1, h2⟩
theorem tx_41 {b : Nat} {s : State} {A : Nat → Prop} (hts : ∀ w ∈ lw_tbl, w.before #[Value.ref b] s = true) (hs : ∀ c ∈ nar, c.before #[Value.ref b] s = true) (hA : ∀ a : Nat, a < s.heap.size → ¬ A a) : ∃ a v : Nat, tx_at 41 a v A s := by
  obtain ⟨a, v, h1, h2⟩ := txt_of (own := "StillYardModel") (k := 142) (by_ := stB 41) (A := A) (by decide +kernel) (nar_at hs 383 (by decide +kernel)) (nar_at hs 384 (by decide +kernel)) (nar_at hs 385 (by decide +kernel)) (nar_at hs 386 (by decide +kernel)) (by
    intro j hj
    have hj : j < 3 := hj
    match j, hj with
    | 0, _ => exact nar_at hs 387 (by decide +kernel)
    | 1, _ => exact nar_at hs 388 (by decide +kernel)
    | 2, _ => exact nar_at hs 389 (by decide +kernel)) hA
  exact ⟨a, v, fun q hq => by
    have e : ("StillYardModel", 142, "sly") = q := Option.some.inj hq
    rw [← e]
    exact vk_R.of (hts _ (List.mem_of_getElem? (i := 1486) (by decide +kernel))) h1, h2⟩
theorem tx_42 {b : Nat} {s : State} {A : Nat → Prop} (hts : ∀ w ∈ lw_tbl, w.before #[Value.ref b] s = true) (hs : ∀ c ∈ nar, c.before #[Value.ref b] s = true) (hA : ∀ a : Nat, a < s.heap.size → ¬ A a) : ∃ a v : Nat, tx_at 42 a v A s := by
  obtain ⟨a, v, h1, h2⟩ := txt_of (own := "StillYardModel") (k := 228) (by_ := stB 42) (A := A) (by decide +kernel) (nar_at hs 391 (by decide +kernel)) (nar_at hs 392 (by decide +kernel)) (nar_at hs 393 (by decide +kernel)) (nar_at hs 394 (by decide +kernel)) (by
    intro j hj
    have hj : j < 4 := hj
    match j, hj with
    | 0, _ => exact nar_at hs 395 (by decide +kernel)
    | 1, _ => exact nar_at hs 396 (by decide +kernel)
    | 2, _ => exact nar_at hs 397 (by decide +kernel)
    | 3, _ => exact nar_at hs 398 (by decide +kernel)) hA
  exact ⟨a, v, fun q hq => by
    have e : ("StillYardModel", 228, "pace") = q := Option.some.inj hq
    rw [← e]
    exact vk_R.of (hts _ (List.mem_of_getElem? (i := 1487) (by decide +kernel))) h1, h2⟩
theorem tx_43 {b : Nat} {s : State} {A : Nat → Prop} (hts : ∀ w ∈ lw_tbl, w.before #[Value.ref b] s = true) (hs : ∀ c ∈ nar, c.before #[Value.ref b] s = true) (hA : ∀ a : Nat, a < s.heap.size → ¬ A a) : ∃ a v : Nat, tx_at 43 a v A s := by
  obtain ⟨a, v, h1, h2⟩ := txt_of (own := "StillYardModel") (k := 230) (by_ := stB 43) (A := A) (by decide +kernel) (nar_at hs 400 (by decide +kernel)) (nar_at hs 401 (by decide +kernel)) (nar_at hs 402 (by decide +kernel)) (nar_at hs 403 (by decide +kernel)) (by
    intro j hj
    have hj : j < 6 := hj
    match j, hj with
    | 0, _ => exact nar_at hs 404 (by decide +kernel)
    | 1, _ => exact nar_at hs 405 (by decide +kernel)
    | 2, _ => exact nar_at hs 406 (by decide +kernel)
    | 3, _ => exact nar_at hs 407 (by decide +kernel)
    | 4, _ => exact nar_at hs 408 (by decide +kernel)
    | 5, _ => exact nar_at hs 409 (by decide +kernel)) hA
  exact ⟨a, v, fun q hq => by
    have e : ("StillYardModel", 230, "wobble") = q := Option.some.inj hq
    rw [← e]
    exact vk_R.of (hts _ (List.mem_of_getElem? (i := 1488) (by decide +kernel))) h1, h2⟩
theorem tx_44 {b : Nat} {s : State} {A : Nat → Prop} (hts : ∀ w ∈ lw_tbl, w.before #[Value.ref b] s = true) (hs : ∀ c ∈ nar, c.before #[Value.ref b] s = true) (hA : ∀ a : Nat, a < s.heap.size → ¬ A a) : ∃ a v : Nat, tx_at 44 a v A s := by
  obtain ⟨a, v, h1, h2⟩ := txt_of (own := "StillYardModel") (k := 232) (by_ := stB 44) (A := A) (by decide +kernel) (nar_at hs 411 (by decide +kernel)) (nar_at hs 412 (by decide +kernel)) (nar_at hs 413 (by decide +kernel)) (nar_at hs 414 (by decide +kernel)) (by
    intro j hj
    have hj : j < 4 := hj
    match j, hj with
    | 0, _ => exact nar_at hs 415 (by decide +kernel)
    | 1, _ => exact nar_at hs 416 (by decide +kernel)
    | 2, _ => exact nar_at hs 417 (by decide +kernel)
    | 3, _ => exact nar_at hs 418 (by decide +kernel)) hA
  exact ⟨a, v, fun q hq => by
    have e : ("StillYardModel", 232, "tall") = q := Option.some.inj hq
    rw [← e]
    exact vk_R.of (hts _ (List.mem_of_getElem? (i := 1489) (by decide +kernel))) h1, h2⟩
theorem tx_45 {b : Nat} {s : State} {A : Nat → Prop} (hts : ∀ w ∈ lw_tbl, w.before #[Value.ref b] s = true) (hs : ∀ c ∈ nar, c.before #[Value.ref b] s = true) (hA : ∀ a : Nat, a < s.heap.size → ¬ A a) : ∃ a v : Nat, tx_at 45 a v A s := by
  obtain ⟨a, v, h1, h2⟩ := txt_of (own := "StillYardModel") (k := 234) (by_ := stB 45) (A := A) (by decide +kernel) (nar_at hs 420 (by decide +kernel)) (nar_at hs 421 (by decide +kernel)) (nar_at hs 422 (by decide +kernel)) (nar_at hs 423 (by decide +kernel)) (by
    intro j hj
    have hj : j < 7 := hj
    match j, hj with
    | 0, _ => exact nar_at hs 424 (by decide +kernel)
    | 1, _ => exact nar_at hs 425 (by decide +kernel)
    | 2, _ => exact nar_at hs 426 (by decide +kernel)
    | 3, _ => exact nar_at hs 427 (by decide +kernel)
    | 4, _ => exact nar_at hs 428 (by decide +kernel)
    | 5, _ => exact nar_at hs 429 (by decide +kernel)
    | 6, _ => exact nar_at hs 430 (by decide +kernel)) hA
  exact ⟨a, v, fun q hq => by
    have e : ("StillYardModel", 234, "expects") = q := Option.some.inj hq
    rw [← e]
    exact vk_R.of (hts _ (List.mem_of_getElem? (i := 1490) (by decide +kernel))) h1, h2⟩
theorem nest_in : ∀ q ∈ nestq, Cond.methodLinkNest q.1 q.2.1 q.2.2.1 q.2.2.2 ∈ lw_tbl := by
  have h : (nestq.zip [103, 191, 255, 326, 331, 354, 375, 396, 480, 592, 599, 602, 617, 646, 671, 676, 718, 741, 746, 747, 780, 785, 894, 919, 925, 1012, 1021, 1022, 1047, 1060, 1061, 1140, 1141, 1142, 1147, 1150, 1171]).all (fun z => decide (lw_tbl[z.2]? = some (Cond.methodLinkNest z.1.1 z.1.2.1 z.1.2.2.1 z.1.2.2.2))) = true := by decide +kernel
  intro q hq
  obtain ⟨k, hk⟩ := List.getElem?_of_mem hq
  have h2 := List.all_eq_true.mp h
  have hl : k < ([103, 191, 255, 326, 331, 354, 375, 396, 480, 592, 599, 602, 617, 646, 671, 676, 718, 741, 746, 747, 780, 785, 894, 919, 925, 1012, 1021, 1022, 1047, 1060, 1061, 1140, 1141, 1142, 1147, 1150, 1171] : List Nat).length := by have := (List.getElem?_eq_some_iff.mp hk).1; exact this
  have h3 : (nestq.zip [103, 191, 255, 326, 331, 354, 375, 396, 480, 592, 599, 602, 617, 646, 671, 676, 718, 741, 746, 747, 780, 785, 894, 919, 925, 1012, 1021, 1022, 1047, 1060, 1061, 1140, 1141, 1142, 1147, 1150, 1171])[k]? = some (q, ([103, 191, 255, 326, 331, 354, 375, 396, 480, 592, 599, 602, 617, 646, 671, 676, 718, 741, 746, 747, 780, 785, 894, 919, 925, 1012, 1021, 1022, 1047, 1060, 1061, 1140, 1141, 1142, 1147, 1150, 1171] : List Nat)[k]) := by rw [List.getElem?_zip_eq_some]; exact ⟨hk, List.getElem?_eq_getElem hl⟩
  have h4 := h2 _ (List.mem_of_getElem? h3)
  exact List.mem_of_getElem? (of_decide_eq_true h4)
theorem cast_in : ∀ q ∈ castq, Cond.castable q.1 q.2 ∈ lw_tbl := by
  have h : (castq.zip [1203, 1855, 1856, 1857, 1858, 1859, 1860, 1861, 1862, 1863, 1864, 1865, 1866, 1867]).all (fun z => decide (lw_tbl[z.2]? = some (Cond.castable z.1.1 z.1.2))) = true := by decide +kernel
  intro q hq
  obtain ⟨k, hk⟩ := List.getElem?_of_mem hq
  have h2 := List.all_eq_true.mp h
  have hl : k < ([1203, 1855, 1856, 1857, 1858, 1859, 1860, 1861, 1862, 1863, 1864, 1865, 1866, 1867] : List Nat).length := by have := (List.getElem?_eq_some_iff.mp hk).1; exact this
  have h3 : (castq.zip [1203, 1855, 1856, 1857, 1858, 1859, 1860, 1861, 1862, 1863, 1864, 1865, 1866, 1867])[k]? = some (q, ([1203, 1855, 1856, 1857, 1858, 1859, 1860, 1861, 1862, 1863, 1864, 1865, 1866, 1867] : List Nat)[k]) := by rw [List.getElem?_zip_eq_some]; exact ⟨hk, List.getElem?_eq_getElem hl⟩
  have h4 := h2 _ (List.mem_of_getElem? h3)
  exact List.mem_of_getElem? (of_decide_eq_true h4)
theorem decl_in : ∀ q ∈ declq, Cond.declares q ∈ lw_tbl := by
  have h : (declq.zip [1204, 1205, 1206, 1207, 1208, 1209]).all (fun z => decide (lw_tbl[z.2]? = some (Cond.declares z.1))) = true := by decide +kernel
  intro q hq
  obtain ⟨k, hk⟩ := List.getElem?_of_mem hq
  have h2 := List.all_eq_true.mp h
  have hl : k < ([1204, 1205, 1206, 1207, 1208, 1209] : List Nat).length := by have := (List.getElem?_eq_some_iff.mp hk).1; exact this
  have h3 : (declq.zip [1204, 1205, 1206, 1207, 1208, 1209])[k]? = some (q, ([1204, 1205, 1206, 1207, 1208, 1209] : List Nat)[k]) := by rw [List.getElem?_zip_eq_some]; exact ⟨hk, List.getElem?_eq_getElem hl⟩
  have h4 := h2 _ (List.mem_of_getElem? h3)
  exact List.mem_of_getElem? (of_decide_eq_true h4)
theorem big_tbl {w : Cond} (h : w ∈ lw_big) : w ∈ lw_tbl := (List.mem_filter.mp h).1
theorem law_start {b L : Nat} {xs : Nat → Int32} {s : State} (hL : L ≤ 3072) (hts : ∀ w ∈ lw_tbl, w.before #[Value.ref b] s = true) (hgv : (Jvm.Cond.and given_1 narrow_1).before #[Value.ref b] s = true) (hX : va_X b L xs s s.heap) (hbl : b < s.heap.size) :
    ∃ (D : va_G) (aS aV : Nat → Nat) (cA : Nat → ClassId), aS 46 = b ∧ cA 3 = cA 4 ∧ ∀ al : Bool, SK (D, s.heap.size, aS, aV, cA, al, L, xs) s s.heap := by
  have hs : ∀ c ∈ nar, c.before #[Value.ref b] s = true := flat_of_before _ hgv
  have hA : ∀ a : Nat, a < s.heap.size → ¬ (s.heap.size ≤ a) := fun a h => Nat.not_le.mpr h
  obtain ⟨c0, i0, k0⟩ := u_known (s := s) (n := 15) hts (fun w hw => big_tbl (okX0.2.1 w hw)) (hts _ (List.mem_of_getElem? (i := 102) (by decide +kernel)))
  obtain ⟨c1, i1, k1⟩ := u_known (s := s) (n := 4) hts (fun w hw => big_tbl (okX1.2.1 w hw)) (hts _ (List.mem_of_getElem? (i := 353) (by decide +kernel)))
  obtain ⟨c2, i2, k2⟩ := u_known (s := s) (n := 15) hts (fun w hw => big_tbl (okX0.2.1 w hw)) (hts _ (List.mem_of_getElem? (i := 102) (by decide +kernel)))
  obtain ⟨c3, i3, k3⟩ := u_known (s := s) (n := 15) hts (fun w hw => big_tbl (okX3.2.1 w hw)) (hts _ (List.mem_of_getElem? (i := 254) (by decide +kernel)))
  obtain ⟨c4, i4, k4⟩ := u_known (s := s) (n := 5) hts (fun w hw => big_tbl (okX4.2.1 w hw)) (hts _ (List.mem_of_getElem? (i := 325) (by decide +kernel)))
  obtain ⟨c5, i5, k5⟩ := u_known (s := s) (n := 7) hts (fun w hw => big_tbl (okX5.2.1 w hw)) (hts _ (List.mem_of_getElem? (i := 224) (by decide +kernel)))
  obtain ⟨c6, i6, k6⟩ := u_known (s := s) (n := 4) hts (fun w hw => big_tbl (okX6.2.1 w hw)) (hts _ (List.mem_of_getElem? (i := 374) (by decide +kernel)))
  obtain ⟨c7, i7, k7⟩ := u_known (s := s) (n := 3) hts (fun w hw => big_tbl (okX7.2.1 w hw)) (hts _ (List.mem_of_getElem? (i := 395) (by decide +kernel)))
  obtain ⟨c8, i8, k8⟩ := u_known (s := s) (n := 7) hts (fun w hw => big_tbl (okX8.2.1 w hw)) (hts _ (List.mem_of_getElem? (i := 190) (by decide +kernel)))
  obtain ⟨c9, i9, k9⟩ := u_known (s := s) (n := 14) hts (fun w hw => big_tbl (okX9.2.1 w hw)) (hts _ (List.mem_of_getElem? (i := 94) (by decide +kernel)))
  obtain ⟨c10, i10, k10⟩ := u_known (s := s) (n := 33) hts (fun w hw => big_tbl (okX10.2.1 w hw)) (hts _ (List.mem_of_getElem? (i := 1264) (by decide +kernel)))
  obtain ⟨cI, kI, mI, a1, a2, a3⟩ := Cond.arrayClass_spec (args := #[Value.ref b]) (first := s) (o := none) (s := s) (idx := []) (type := .int) (hts _ (List.mem_of_getElem? (i := 188) (by decide +kernel)))
  obtain ⟨cB, kB, mB, b1, b2, b3⟩ := Cond.arrayClass_spec (args := #[Value.ref b]) (first := s) (o := none) (s := s) (idx := []) (type := .byte) (hts _ (List.mem_of_getElem? (i := 222) (by decide +kernel)))
  obtain ⟨cL, kL, mL, l1, l2, l3⟩ := Cond.arrayClass_spec (args := #[Value.ref b]) (first := s) (o := none) (s := s) (idx := []) (type := .long) (hts _ (List.mem_of_getElem? (i := 1853) (by decide +kernel)))
  obtain ⟨mP, cP, kP, p1, -, p2, p3, p4⟩ := Cond.arrayOver_spec (args := #[Value.ref b]) (first := s) (o := none) (s := s) (idx := []) (n := RPlay) (hts _ (List.mem_of_getElem? (i := 323) (by decide +kernel)))
  have hall : ∀ i : Nat, ∃ q : Nat × Nat, i < 46 → tx_at i q.1 q.2 (fun a => s.heap.size ≤ a) s := by
    intro i
    by_cases hi : i < 46
    · have h : ∃ a v : Nat, tx_at i a v (fun a => s.heap.size ≤ a) s := by
        match i, hi with
        | 0, _ => exact tx_0 hts hs hA
        | 1, _ => exact tx_1 hts hs hA
        | 2, _ => exact tx_2 hts hs hA
        | 3, _ => exact tx_3 hts hs hA
        | 4, _ => exact tx_4 hts hs hA
        | 5, _ => exact tx_5 hts hs hA
        | 6, _ => exact tx_6 hts hs hA
        | 7, _ => exact tx_7 hts hs hA
        | 8, _ => exact tx_8 hts hs hA
        | 9, _ => exact tx_9 hts hs hA
        | 10, _ => exact tx_10 hts hs hA
        | 11, _ => exact tx_11 hts hs hA
        | 12, _ => exact tx_12 hts hs hA
        | 13, _ => exact tx_13 hts hs hA
        | 14, _ => exact tx_14 hts hs hA
        | 15, _ => exact tx_15 hts hs hA
        | 16, _ => exact tx_16 hts hs hA
        | 17, _ => exact tx_17 hts hs hA
        | 18, _ => exact tx_18 hts hs hA
        | 19, _ => exact tx_19 hts hs hA
        | 20, _ => exact tx_20 hts hs hA
        | 21, _ => exact tx_21 hts hs hA
        | 22, _ => exact tx_22 hts hs hA
        | 23, _ => exact tx_23 hts hs hA
        | 24, _ => exact tx_24 hts hs hA
        | 25, _ => exact tx_25 hts hs hA
        | 26, _ => exact tx_26 hts hs hA
        | 27, _ => exact tx_27 hts hs hA
        | 28, _ => exact tx_28 hts hs hA
        | 29, _ => exact tx_29 hts hs hA
        | 30, _ => exact tx_30 hts hs hA
        | 31, _ => exact tx_31 hts hs hA
        | 32, _ => exact tx_32 hts hs hA
        | 33, _ => exact tx_33 hts hs hA
        | 34, _ => exact tx_34 hts hs hA
        | 35, _ => exact tx_35 hts hs hA
        | 36, _ => exact tx_36 hts hs hA
        | 37, _ => exact tx_37 hts hs hA
        | 38, _ => exact tx_38 hts hs hA
        | 39, _ => exact tx_39 hts hs hA
        | 40, _ => exact tx_40 hts hs hA
        | 41, _ => exact tx_41 hts hs hA
        | 42, _ => exact tx_42 hts hs hA
        | 43, _ => exact tx_43 hts hs hA
        | 44, _ => exact tx_44 hts hs hA
        | 45, _ => exact tx_45 hts hs hA
        | i + 46, h => exact absurd h (by omega)
      obtain ⟨a, v, h⟩ := h
      exact ⟨(a, v), fun _ => h⟩
    · exact ⟨(0, 0), fun h => absurd h hi⟩
  obtain ⟨g, hg⟩ := Classical.axiomOfChoice hall
  refine ⟨(fun c => match c with | 0 => c0 | 1 => c1 | 2 => c2 | 3 => c3 | 4 => c4 | 5 => c5 | 6 => c6 | 7 => c7 | 8 => c8 | 9 => c9 | _ => c10, fun c => match c with | 0 => i0 | 1 => i1 | 2 => i2 | 3 => i3 | 4 => i4 | 5 => i5 | 6 => i6 | 7 => i7 | 8 => i8 | 9 => i9 | _ => i10), fun i => if i = 46 then b else (g i).1, fun i => (g i).2, fun t => match t with | 0 => cI | 1 => cB | 2 => cL | _ => cP, rfl, rfl, fun al => ?_⟩
  have hS : ∀ i, i < 46 → (if i = 46 then b else (g i).1) = (g i).1 := fun i hi => if_neg (by omega)
  refine ⟨⟨fun c q hq => ?_, fun k q hq => ?_⟩, fun q hq => va_Nw.of rfl (hts _ (nest_in q hq)), fun i hi => ?_, fun i q hq => ?_, ?_, ?_, ?_, ?_, fun q hq => va_Nw.of rfl (hts _ (cast_in q hq)), fun y hy => va_Nw.of rfl (hts _ (decl_in y hy)), va_AO.of (hts _ (List.mem_of_getElem? (i := 323) (by decide +kernel))), ?_⟩
  · match c, hq with
    | 0, h => cases h; exact k0
    | 1, h => cases h; exact k1
    | 2, h => cases h; exact k2
    | 3, h => cases h; exact k3
    | 4, h => cases h; exact k4
    | 5, h => cases h; exact k5
    | 6, h => cases h; exact k6
    | 7, h => cases h; exact k7
    | 8, h => cases h; exact k8
    | 9, h => cases h; exact k9
    | 10, h => cases h; exact k10
    | c + 11, h => exact absurd (List.getElem?_eq_some_iff.mp h).1 (by simp [classes])
  · match k, hq with
    | 0, h => cases h; exact ⟨fun n z => ⟨fun k h => (by cases h), kI, a2, mI, a3⟩, a1⟩
    | 1, h => cases h; exact ⟨fun n z => ⟨fun k h => (by cases h), kB, b2, mB, b3⟩, b1⟩
    | 2, h => cases h; exact ⟨fun n z => ⟨fun k h => (by cases h), kL, l2, mL, l3⟩, l1⟩
    | 3, h => cases h; exact ⟨fun n z => ⟨fun k h => (by cases h), kP, p2, mP, p3⟩, kP, mP, p2, p3, p1, p4⟩
    | 4, h => cases h; exact ⟨fun n z => ⟨fun k h => (by cases h), kP, p2, mP, p3⟩, kP, mP, p2, p3, p1, p4⟩
    | k + 5, h => exact absurd (List.getElem?_eq_some_iff.mp h).1 (by simp [tysB])
  · have h := (hg i hi).2
    rw [← hS i hi] at h
    exact h
  · have hi : i < 46 := (List.getElem?_eq_some_iff.mp hq).1
    have h := (hg i hi).1 q hq
    rw [← hS i hi] at h
    exact h
  · exact va_Zof (hts _ (List.mem_of_getElem? (i := 512) (by decide +kernel))) (hts _ (List.mem_of_getElem? (i := 82) (by decide +kernel))) (va_eqi (nar_at hs 4 (by decide +kernel))) hA
  · exact va_Zqof (hts _ (List.mem_of_getElem? (i := 528) (by decide +kernel))) (hts _ (List.mem_of_getElem? (i := 84) (by decide +kernel))) (nar_at hs 5 (by decide +kernel)) hA
  · exact vx_Zqof (hts _ (List.mem_of_getElem? (i := 1228) (by decide +kernel))) (hts _ (List.mem_of_getElem? (i := 89) (by decide +kernel))) (nar_at hs 9 (by decide +kernel)) hA
  · exact vx_Zqof (hts _ (List.mem_of_getElem? (i := 1230) (by decide +kernel))) (hts _ (List.mem_of_getElem? (i := 89) (by decide +kernel))) (nar_at hs 10 (by decide +kernel)) hA
  · obtain ⟨scr, g1, g2, g3, g4, g5⟩ := hX
    exact ⟨scr, g1, g2, g3, by rw [g4]; exact Nat.le_refl _, by rw [g4]; rfl, g5, Nat.not_le.mpr hbl⟩
