/-! THE MEMORY AND THE JUDGEMENT. All cells of the run are numbered in the order in which they are made; what they hold is a function Mm (cell, index) -> Int32; the kit's world is made of it. -/
abbrev Mm : Type := Nat → Nat → Int32
/-- a field's kind: (0,_) an int; (1,_) a reference that the memory holds (0: null, else the cell's number); (2,d) the cell d behind its own; (3,a) the cell a -/
abbrev Fk : Type := Nat × Nat
/-- a cell's kind: an object (its class's place, its fields' kinds); an array (tag, length); tags: 0 int, 1 byte, 2 long, 3 Play held by the memory, 4 Play fixed -/
abbrev Kd : Type := (Nat × List Fk) ⊕ (Nat × Nat)
/-- what a run fixes: the tables' numbers, the first cell's address, the texts' addresses and their bytes' addresses, the array classes, whether cells are being made, the script -/
abbrev BT : Type := va_G × Nat × (Nat → Nat) × (Nat → Nat) × (Nat → ClassId) × Bool × Nat × (Nat → Int32)
def bD (B : BT) : va_G := B.1
def bB (B : BT) : Nat := B.2.1
def bS (B : BT) : Nat → Nat := B.2.2.1
def bV (B : BT) : Nat → Nat := B.2.2.2.1
def bC (B : BT) : Nat → ClassId := B.2.2.2.2.1
def bA (B : BT) : Bool := B.2.2.2.2.2.1
/-- the law's script: its length, its ints; its address is bS B 46 -/
def bN (B : BT) : Nat := B.2.2.2.2.2.2.1
def bX (B : BT) : Nat → Int32 := B.2.2.2.2.2.2.2
def Af (B : BT) : Nat → Prop := fun q => bB B ≤ q
def mset (M : Mm) (q k : Nat) (v : Int32) : Mm := fun a => if a = q then upd (M q) k v else M a
theorem mset_same (M : Mm) (q k : Nat) (v : Int32) : mset M q k v q = upd (M q) k v := by simp [mset]
theorem mset_off (M : Mm) {q a : Nat} (k : Nat) (v : Int32) (h : a ≠ q) : mset M q k v a = M a := by simp [mset, h]
def ad (B : BT) (q : Nat) : Nat := if q < 1000 then bB B + q else bS B (q - 1000)
theorem ad_lt (B : BT) {q : Nat} (h : q < 1000) : ad B q = bB B + q := by simp [ad, h]
def cv (B : BT) (v : Value) : Value := match v with
  | .ref q => .ref (ad B q)
  | v => v
def cvL (B : BT) (lv : List (Nat × Value)) : List (Nat × Value) := lv.map fun q => (q.1, cv B q.2)
theorem cv_cat (B : BT) (v : Value) : (cv B v).category = v.category := by cases v <;> rfl
theorem cvL_get {B : BT} {lv : List (Nat × Value)} {j i : Nat} {v : Value} (h : lv[j]? = some (i, v)) : (cvL B lv)[j]? = some (i, cv B v) := by
  simp [cvL, h]
theorem cvL_st1 {B : BT} {lv lv' : List (Nat × Value)} {i : Nat} {v : Value} (h : (i, v) :: lv.filter (fun q => !(q.1 == i) && !(q.1 + 1 == i && q.2.category == 2)) = lv') :
    (i, cv B v) :: (cvL B lv).filter (fun q => !(q.1 == i) && !(q.1 + 1 == i && q.2.category == 2)) = cvL B lv' := by
  subst h
  simp only [cvL, List.map_cons, List.filter_map]
  congr 2
  apply List.filter_congr
  intro q _
  simp [Function.comp, cv_cat]
theorem cvL_st2 {B : BT} {lv lv' : List (Nat × Value)} {i : Nat} {v : Value} (h : (i, v) :: lv.filter (fun q => !(q.1 == i) && (!(q.1 == i + 1) && !(q.1 + 1 == i && q.2.category == 2))) = lv') :
    (i, cv B v) :: (cvL B lv).filter (fun q => !(q.1 == i) && (!(q.1 == i + 1) && !(q.1 + 1 == i && q.2.category == 2))) = cvL B lv' := by
  subst h
  simp only [cvL, List.map_cons, List.filter_map]
  congr 2
  apply List.filter_congr
  intro q _
  simp [Function.comp, cv_cat]
theorem cvL_args (B : BT) : ∀ (vs : List Value) (i : Nat), lv_args i (vs.map (cv B)) = cvL B (lv_args i vs) := by
  intro vs
  induction vs with
  | nil => intro i; rfl
  | cons v vs ih => intro i; simp only [List.map_cons, lv_args, cv_cat, ih]; rfl
theorem cvL_sl (B : BT) : ∀ (vs : List Value), (lg_sl (vs.map (cv B))).length = (lg_sl vs).length := by
  intro vs
  induction vs with
  | nil => rfl
  | cons v vs ih =>
    simp only [lg_sl, List.map_cons, List.flatMap_cons, List.length_append, cv_cat] at ih ⊢
    rw [ih]
    congr 1
    split <;> rfl
/-- what a cell holds -/
def fval (B : BT) (r : Nat → Int32) (q k : Nat) (f : Fk) : Value := match f with
  | (0, _) => .int (r k)
  | (1, _) => if r k = 0 then .null else .ref (ad B (r k).toNatClampNeg)
  | (2, d) => .ref (ad B (q + d))
  | (_, a) => .ref (ad B a)
def fvals (B : BT) (r : Nat → Int32) (q : Nat) : Nat → List Fk → List Value
  | _, [] => []
  | k, f :: fs => fval B r q k f :: fvals B r q (k + 1) fs
theorem fvals_get (B : BT) (r : Nat → Int32) (q : Nat) : ∀ (fs : List Fk) (k j : Nat) (f : Fk), fs[j]? = some f → (fvals B r q k fs)[j]? = some (fval B r q (k + j) f) := by
  intro fs
  induction fs with
  | nil => intro k j f h; simp at h
  | cons g gs ih =>
    intro k j f h
    cases j with
    | zero => simp at h; subst h; rfl
    | succ j =>
      have := ih (k + 1) j f (by simpa using h)
      simp only [fvals, List.getElem?_cons_succ, this]
      congr 2
      omega
theorem fvals_len (B : BT) (r : Nat → Int32) (q : Nat) : ∀ (fs : List Fk) (k : Nat), (fvals B r q k fs).length = fs.length := by
  intro fs
  induction fs with
  | nil => intro k; rfl
  | cons g gs ih => intro k; simp [fvals, ih]
theorem fval_off (B : BT) (r : Nat → Int32) (q k i : Nat) (v : Int32) (f : Fk) (h : i ≠ k) : fval B (upd r k v) q i f = fval B r q i f := by
  have : upd r k v i = r i := by simp [upd, h]
  unfold fval
  split <;> simp [this]
theorem fvals_off (B : BT) (r : Nat → Int32) (q : Nat) (v : Int32) : ∀ (fs : List Fk) (k j : Nat), j < k → fvals B (upd r j v) q k fs = fvals B r q k fs := by
  intro fs
  induction fs with
  | nil => intro k j h; rfl
  | cons g gs ih => intro k j h; simp only [fvals]; rw [fval_off _ _ _ _ _ _ _ (by omega), ih _ _ (by omega)]
theorem fvals_set (B : BT) (r : Nat → Int32) (q : Nat) (v : Int32) : ∀ (fs : List Fk) (k j : Nat) (f : Fk), fs[j]? = some f → fvals B (upd r (k + j) v) q k fs = (fvals B r q k fs).set j (fval B (upd r (k + j) v) q (k + j) f) := by
  intro fs
  induction fs with
  | nil => intro k j f h; simp at h
  | cons g gs ih =>
    intro k j f h
    cases j with
    | zero => simp at h; subst h; simp only [fvals, List.set_cons_zero, Nat.add_zero]; rw [fvals_off _ _ _ _ _ _ _ (by omega)]
    | succ j =>
      have e : k + (j + 1) = k + 1 + j := by omega
      simp only [fvals, List.set_cons_succ]
      rw [fval_off _ _ _ _ _ _ _ (by omega), e, ih (k + 1) j f (by simpa using h)]
abbrev vp_B : Type := (Nat → Int32) ⊕ (Nat → Int64) ⊕ (Nat → UInt32) ⊕ (Nat → UInt64) ⊕ (Nat → Option Nat)
def arc (B : BT) (r : Nat → Int32) (q t : Nat) : vp_B := match t with
  | 0 => .inl r
  | 1 => .inl r
  | 2 => .inr (.inl fun i => (r i).toInt64)
  | 3 => .inr (.inr (.inr (.inr fun i => if r i = 0 then none else some (ad B (r i).toNatClampNeg))))
  | _ => .inr (.inr (.inr (.inr fun i => some (ad B (q + 1 + 10 * i)))))
def cellE (B : BT) (Ly : Nat → Kd) (q : Nat) (r : Nat → Int32) : va_E := match Ly q with
  | .inl o => .inr (o.1, fvals B r q 0 o.2)
  | .inr a => .inl (bC B a.1, (a.2, arc B r q a.1))
theorem cellE_o {B : BT} {Ly : Nat → Kd} {q ci : Nat} {fs : List Fk} (r : Nat → Int32) (h : Ly q = .inl (ci, fs)) : cellE B Ly q r = .inr (ci, fvals B r q 0 fs) := by simp [cellE, h]
theorem cellE_a {B : BT} {Ly : Nat → Kd} {q t n : Nat} (r : Nat → Int32) (h : Ly q = .inr (t, n)) : cellE B Ly q r = .inl (bC B t, (n, arc B r q t)) := by simp [cellE, h]
def wz (B : BT) (Ly : Nat → Kd) (n : Nat) (M : Mm) : va_W := (List.range n).map fun q => (ad B q, cellE B Ly q (M q))
theorem wz_get {B : BT} {Ly : Nat → Kd} {n : Nat} {M : Mm} {q : Nat} (h : q < n) : (wz B Ly n M)[q]? = some (ad B q, cellE B Ly q (M q)) := by
  simp [wz, h]
theorem wz_out {B : BT} {Ly : Nat → Kd} {n : Nat} {M : Mm} {k : Nat} {q : Nat × va_E} (h : (wz B Ly n M)[k]? = some q) : k < n ∧ q = (ad B k, cellE B Ly k (M k)) := by
  have hk : k < n := by
    rcases Nat.lt_or_ge k n with h1 | h1
    · exact h1
    · rw [List.getElem?_eq_none (by simp [wz, h1])] at h; cases h
  rw [wz_get hk] at h
  exact ⟨hk, (Option.some.inj h).symm⟩
theorem wz_set {B : BT} {Ly : Nat → Kd} {n : Nat} {M M' : Mm} {q : Nat} (hM : ∀ a, a ≠ q → M' a = M a) : (wz B Ly n M).set q (ad B q, cellE B Ly q (M' q)) = wz B Ly n M' := by
  apply List.ext_getElem?
  intro k
  rw [List.getElem?_set]
  by_cases hk : k < n
  · rw [wz_get hk]
    by_cases e : q = k
    · subst e
      simp [wz, hk]
    · rw [if_neg e, wz_get hk, hM k (Ne.symm e)]
  · rw [show (wz B Ly n M')[k]? = none from List.getElem?_eq_none (by simp [wz]; omega), show (wz B Ly n M)[k]? = none from List.getElem?_eq_none (by simp [wz]; omega)]
    split
    · simp [wz]
      omega
    · rfl
theorem wz_D {B : BT} {Ly : Nat → Kd} {n : Nat} {M : Mm} (hn : n ≤ 1000) : va_D (Af B) (wz B Ly n M) := by
  refine ⟨fun i j p q hi hj he => ?_, fun k q hk => ?_⟩
  · obtain ⟨h1, rfl⟩ := wz_out hi
    obtain ⟨h2, rfl⟩ := wz_out hj
    have he : ad B i = ad B j := he
    rw [ad_lt B (by omega), ad_lt B (by omega)] at he
    omega
  · obtain ⟨h1, rfl⟩ := wz_out hk
    show bB B ≤ ad B k
    rw [ad_lt B (by omega)]
    omega
theorem wz_push {B : BT} {Ly : Nat → Kd} {n : Nat} {M : Mm} : wz B Ly (n + 1) M = wz B Ly n M ++ [(ad B n, cellE B Ly n (M n))] := by
  simp [wz, List.range_succ]
abbrev classes : List vw_C := [(RX0, TX0, 15), (RX1, TX1, 4), (RX0, TX0, 15), (RX3, TX3, 15), (RX4, TX4, 5), (RX5, TX5, 7), (RX6, TX6, 4), (RX7, TX7, 3), (RX8, TX8, 7), (RX9, TX9, 14), (RX10, TX10, 33)]
def RPlay : String := "StillYard$Play"
def tysB (B : BT) : List (ClassId × FieldType) := [(bC B 0, .int), (bC B 1, .byte), (bC B 2, .long), (bC B 3, .object RPlay), (bC B 4, .object RPlay)]
/-- the private members across the nest: own, place, method, host -/
def nestq : List (String × Nat × MethodName × String) := [("StillYard", 9, ⟨"StillYard$Game", "<init>", "()V"⟩, "StillYard"), ("StillYard", 21, ⟨"StillYard$Text", "<init>", "()V"⟩, "StillYard"), ("StillYard", 37, ⟨"StillYard$Play", "<init>", "()V"⟩, "StillYard"), ("StillYard", 48, ⟨"StillYard$Plays", "<init>", "()V"⟩, "StillYard"), ("StillYard$Plays", 11, ⟨"StillYard$Play", "<init>", "()V"⟩, "StillYard"), ("StillYard", 55, ⟨"StillYard$Notes", "<init>", "()V"⟩, "StillYard"), ("StillYard", 62, ⟨"StillYard$Starts", "<init>", "()V"⟩, "StillYard"), ("StillYard", 69, ⟨"StillYard$Strip", "<init>", "()V"⟩, "StillYard"), ("StillYard$Game", 30, ⟨"StillYard", "fill", "([II)V"⟩, "StillYard"), ("StillYard$Game", 66, ⟨"StillYard", "put", "([III)V"⟩, "StillYard"), ("StillYard$Game", 70, ⟨"StillYard", "at", "([II)I"⟩, "StillYard"), ("StillYard$Game", 74, ⟨"StillYard", "add", "([III)V"⟩, "StillYard"), ("StillYard$Reader", 151, ⟨"StillYard", "put", "([III)V"⟩, "StillYard"), ("StillYard$Reader", 192, ⟨"StillYard", "at", "([II)I"⟩, "StillYard"), ("StillYard$Play", 43, ⟨"StillYard", "fill", "([II)V"⟩, "StillYard"), ("StillYard$Notes", 21, ⟨"StillYard", "fill", "([II)V"⟩, "StillYard"), ("StillYard$Game", 77, ⟨"StillYard", "by", "(II)I"⟩, "StillYard"), ("StillYard$Play", 102, ⟨"StillYard", "put", "([III)V"⟩, "StillYard"), ("StillYard$Play", 109, ⟨"StillYard", "add", "([III)V"⟩, "StillYard"), ("StillYard$Play", 112, ⟨"StillYard", "at", "([II)I"⟩, "StillYard"), ("StillYard$Play", 146, ⟨"StillYard", "by", "(II)I"⟩, "StillYard"), ("StillYard$Play", 62, ⟨"StillYard", "copy", "([I[I)V"⟩, "StillYard"), ("StillYard$Odds", 25, ⟨"StillYard", "at", "([II)I"⟩, "StillYard"), ("StillYard$Odds", 46, ⟨"StillYard", "leftOver", "(II)I"⟩, "StillYard"), ("StillYard$Odds", 38, ⟨"StillYard", "by", "(II)I"⟩, "StillYard"), ("StillYard$Plays", 22, ⟨"StillYard", "fill", "([II)V"⟩, "StillYard"), ("StillYard$Plays", 57, ⟨"StillYard", "add", "([III)V"⟩, "StillYard"), ("StillYard$Plays", 69, ⟨"StillYard", "at", "([II)I"⟩, "StillYard"), ("StillYard$Notes", 29, ⟨"StillYard", "add", "([III)V"⟩, "StillYard"), ("StillYard$Notes", 33, ⟨"StillYard", "at", "([II)I"⟩, "StillYard"), ("StillYard$Notes", 41, ⟨"StillYard", "by", "(II)I"⟩, "StillYard"), ("StillYard$Starts", 41, ⟨"StillYard", "leftOver", "(II)I"⟩, "StillYard"), ("StillYard$Starts", 44, ⟨"StillYard", "put", "([III)V"⟩, "StillYard"), ("StillYard$Starts", 48, ⟨"StillYard", "by", "(II)I"⟩, "StillYard"), ("StillYard$Starts", 51, ⟨"StillYard", "at", "([II)I"⟩, "StillYard"), ("StillYard$Starts", 67, ⟨"StillYard", "copy", "([I[I)V"⟩, "StillYard"), ("StillYard$Strip", 53, ⟨"StillYard", "at", "([II)I"⟩, "StillYard")]
/-- the texts: own, place, text -/
def strq : List (String × Nat × String) := [("StillYard$Reader", 44, "yard"), ("StillYard$Reader", 106, "long"), ("StillYard$Reader", 112, "lanes"), ("StillYard$Reader", 116, "runs"), ("StillYard$Reader", 54, "verse"), ("StillYard$Reader", 59, "one"), ("StillYard$Reader", 147, "turns"), ("StillYard$Reader", 138, "looks"), ("StillYard$Reader", 142, "eye"), ("StillYard$Reader", 143, "sees"), ("StillYard$Reader", 64, "gravel"), ("StillYard$Reader", 158, "lane"), ("StillYard$Reader", 162, "from"), ("StillYard$Reader", 164, "to"), ("StillYard$Reader", 166, "loud"), ("StillYard$Reader", 69, "creeper"), ("StillYard$Reader", 203, "brave"), ("StillYard$Reader", 205, "safe"), ("StillYard$Reader", 207, "sly"), ("StillYard$Reader", 178, "pace"), ("StillYard$Reader", 180, "wobble"), ("StillYard$Reader", 182, "tall"), ("StillYard$Reader", 184, "expects"), ("StillYardModel", 128, "yard"), ("StillYardModel", 196, "long"), ("StillYardModel", 202, "lanes"), ("StillYardModel", 204, "runs"), ("StillYardModel", 130, "verse"), ("StillYardModel", 132, "one"), ("StillYardModel", 210, "turns"), ("StillYardModel", 212, "looks"), ("StillYardModel", 213, "eye"), ("StillYardModel", 215, "sees"), ("StillYardModel", 134, "gravel"), ("StillYardModel", 217, "lane"), ("StillYardModel", 219, "from"), ("StillYardModel", 221, "to"), ("StillYardModel", 223, "loud"), ("StillYardModel", 136, "creeper"), ("StillYardModel", 138, "brave"), ("StillYardModel", 140, "safe"), ("StillYardModel", 142, "sly"), ("StillYardModel", 228, "pace"), ("StillYardModel", 230, "wobble"), ("StillYardModel", 232, "tall"), ("StillYardModel", 234, "expects")]
def strB : List (List Int32) := [[121, 97, 114, 100], [108, 111, 110, 103], [108, 97, 110, 101, 115], [114, 117, 110, 115], [118, 101, 114, 115, 101], [111, 110, 101], [116, 117, 114, 110, 115], [108, 111, 111, 107, 115], [101, 121, 101], [115, 101, 101, 115], [103, 114, 97, 118, 101, 108], [108, 97, 110, 101], [102, 114, 111, 109], [116, 111], [108, 111, 117, 100], [99, 114, 101, 101, 112, 101, 114], [98, 114, 97, 118, 101], [115, 97, 102, 101], [115, 108, 121], [112, 97, 99, 101], [119, 111, 98, 98, 108, 101], [116, 97, 108, 108], [101, 120, 112, 101, 99, 116, 115], [121, 97, 114, 100], [108, 111, 110, 103], [108, 97, 110, 101, 115], [114, 117, 110, 115], [118, 101, 114, 115, 101], [111, 110, 101], [116, 117, 114, 110, 115], [108, 111, 111, 107, 115], [101, 121, 101], [115, 101, 101, 115], [103, 114, 97, 118, 101, 108], [108, 97, 110, 101], [102, 114, 111, 109], [116, 111], [108, 111, 117, 100], [99, 114, 101, 101, 112, 101, 114], [98, 114, 97, 118, 101], [115, 97, 102, 101], [115, 108, 121], [112, 97, 99, 101], [119, 111, 98, 98, 108, 101], [116, 97, 108, 108], [101, 120, 112, 101, 99, 116, 115]]
def castq : List (String × String) := [("java/util/NoSuchElementException", "java/util/NoSuchElementException"), ("StillYard", "java/lang/Object"), ("StillYard$Game", "java/lang/Object"), ("StillYard$Text", "java/lang/Object"), ("StillYard$Reader", "java/lang/Object"), ("StillYard$Play", "java/lang/Object"), ("StillYard$Plays", "java/lang/Object"), ("StillYard$Notes", "java/lang/Object"), ("StillYard$Starts", "java/lang/Object"), ("StillYard$Strip", "java/lang/Object"), ("StillYardModel", "java/lang/Object"), ("java/util/NoSuchElementException", "java/lang/Object"), ("java/lang/Throwable", "java/lang/Object"), ("java/lang/String", "java/lang/Object")]
def declq : List MethodName := [⟨"java/lang/RuntimeException", "<init>", "()V"⟩, ⟨"java/lang/RuntimeException", "<init>", "(Ljava/lang/String;)V"⟩, ⟨"java/lang/Exception", "<init>", "()V"⟩, ⟨"java/lang/Exception", "<init>", "(Ljava/lang/String;)V"⟩, ⟨"java/lang/Throwable", "<init>", "()V"⟩, ⟨"java/lang/Throwable", "<init>", "(Ljava/lang/String;)V"⟩]
def stB (i : Nat) : List Int32 := strB.getD i []
/-- one text: its cell, its two fields, its bytes -/
def SS (B : BT) (i : Nat) (U : State) (H : Heap) : Prop :=
  va_O "java/lang/String" (bS B i) (Af B) U H ∧ va_OF "java/lang/String" "coder" "B" (.int 0) (bS B i) (Af B) U H ∧ va_OF "java/lang/String" "value" "[B" (.ref (bV B i)) (bS B i) (Af B) U H ∧ va_T .byte (bV B i) (stB i).length (fun j => .int ((stB i).getD j 0)) (Af B) U H
/-- what is fixed: the tables, the texts, the JDK's statics -/
def SK (B : BT) (U : State) (H : Heap) : Prop :=
  va_K (bD B) classes (tysB B) U ∧ (∀ q ∈ nestq, va_Nw (.methodLinkNest q.1 q.2.1 q.2.2.1 q.2.2.2) U) ∧
  (∀ i, i < 46 → SS B i U H) ∧ (∀ (i : Nat) (q : String × Nat × String), strq[i]? = some q → vk_R q.1 q.2.1 q.2.2 (bS B i) U) ∧
  va_Z "java/lang/String" "COMPACT_STRINGS" "Z" (.int 1) (Af B) U H ∧ va_Zq "jdk/internal/util/Preconditions" "SIOOBE_FORMATTER" "Ljava/util/function/BiFunction;" (Af B) U H ∧
  vx_Zq Bundle.tN "UNASSIGNED_STACK" Bundle.steD (Af B) U H ∧ vx_Zq Bundle.tN "SUPPRESSED_SENTINEL" Bundle.listD (Af B) U H ∧
  (∀ q ∈ castq, va_Nw (.castable q.1 q.2) U) ∧ (∀ y ∈ declq, va_Nw (.declares y) U) ∧ va_AO RPlay U ∧ va_T .int (bS B 46) (bN B) (fun j => .int (bX B j)) (Af B) U H
theorem SS.moved {B : BT} {i : Nat} {u U : State} {H : Heap} (hvm : u.vm.Alike U.vm) (h : SS B i u H) : SS B i U H :=
  ⟨va_O.moved hvm h.1, va_OF.moved hvm h.2.1, va_OF.moved hvm h.2.2.1, va_T.moved hvm h.2.2.2⟩
theorem SS.kept {B : BT} {i : Nat} {U : State} {H H1 : Heap} (h : SS B i U H) (hq : ∀ a : Nat, a < H.size → ¬ Af B a → H1[a]? = H[a]?) : SS B i U H1 :=
  ⟨h.1.kept hq, h.2.1.kept hq, h.2.2.1.kept hq, h.2.2.2.kept hq⟩
theorem SK.warm {B : BT} {s U : State} {H : Heap} (hW : s.WarmedH U.vm) (h : SK B s H) : SK B U H := by
  obtain ⟨h1, h2, h3, h4, h5, h6, h7, h8, h9, h10, h11, h12⟩ := h
  exact ⟨va_K.moved hW.alike h1, fun q hq => va_Nw.warmM hW (h2 q hq), fun i hi => SS.moved hW.alike (h3 i hi), fun i q hq => vk_R.warm hW (h4 i q hq), va_Z.moved hW.alike h5, va_Zq.moved hW.alike h6, vx_Zq.moved hW.alike h7, vx_Zq.moved hW.alike h8, fun q hq => va_Nw.warmC hW (h9 q hq), fun y hy => va_Nw.warmD hW (h10 y hy), va_AO.moved hW.alike h11, va_T.moved hW.alike h12⟩
theorem SK.same {B : BT} {u U : State} {H : Heap} (hv : U.vm = u.vm) (h : SK B u H) : SK B U H := by
  obtain ⟨h1, h2, h3, h4, h5, h6, h7, h8, h9, h10, h11, h12⟩ := h
  have ha : u.vm.Alike U.vm := by rw [hv]; exact Vm.Alike.refl u.vm
  exact ⟨va_K.moved ha h1, fun q hq => va_Nw.same rfl hv.symm (h2 q hq), fun i hi => SS.moved ha (h3 i hi), fun i q hq => vk_R.same hv (h4 i q hq), va_Z.moved ha h5, va_Zq.moved ha h6, vx_Zq.moved ha h7, vx_Zq.moved ha h8, fun q hq => va_Nw.same rfl hv.symm (h9 q hq), fun y hy => va_Nw.same rfl hv.symm (h10 y hy), va_AO.moved ha h11, va_T.moved ha h12⟩
theorem SK.kept {B : BT} {U : State} {H H1 : Heap} (h : SK B U H) (hq : ∀ a : Nat, a < H.size → ¬ Af B a → H1[a]? = H[a]?) : SK B U H1 := by
  obtain ⟨h1, h2, h3, h4, h5, h6, h7, h8, h9, h10, h11, h12⟩ := h
  exact ⟨h1, h2, fun i hi => (h3 i hi).kept hq, h4, h5.kept hq, h6.kept hq, h7.kept hq, h8.kept hq, h9, h10, h11, h12.kept hq⟩
/-- the whole picture of a state -/
def SW (B : BT) (Ly : Nat → Kd) (n : Nat) (M : Mm) (U : State) : Prop := va_P (bD B) classes (wz B Ly n M) U.heap ∧ SK B U U.heap ∧ (bA B = true → U.heap.size = bB B + n)
/-- the words that a method may use -/
def lw_big : List Cond := lw_tbl.filter goodWord
theorem big_of {w : Cond} (h : w ∈ lw_tbl) (g : goodWord w = true) : w ∈ lw_big := List.mem_filter.mpr ⟨h, g⟩
theorem big_at (i : Nat) {w : Cond} (h : lw_tbl[i]? = some w) (g : goodWord w = true) : w ∈ lw_big := big_of (List.mem_of_getElem? h) g
theorem big_good {w : Cond} (h : w ∈ lw_big) : (w.onTables && w.keeps) = true ∨ ∃ ty, w = .arrayClass ty := good_of_word (List.mem_filter.mp h).2
def rmd (d mc ms : Nat) : Room := { frames := d, cells := mc, slots := ms, locals := 35 * d + 34 }
def wsO (y : MethodName) (cc : ByteArray) (nL : Nat) (ret : Option FieldType) : List Cond := Cond.code y cc nL ret :: lw_big
theorem good_wsO {Ts : List Cond} (hTs : ∀ w ∈ lw_big, w ∈ Ts) {y : MethodName} {cc : ByteArray} {nL : Nat} {ret : Option FieldType} (h : Cond.code y cc nL ret ∈ lw_big) : GoodIn Ts (wsO y cc nL ret) := by
  intro w hw
  rcases List.mem_cons.mp hw with rfl | hw
  · exact ⟨hTs _ h, big_good h⟩
  · exact ⟨hTs _ hw, big_good hw⟩
/-- a method's frame: what is known of it -/
def Fx (p : Program) (s : State) (m : MethodId) (args : Array Value) (meth : Method) (c : Code) (y : MethodName) (cc : ByteArray) (nL : Nat) (ret : Option FieldType) : Prop :=
  p.tables.exec = Jvm.exec ∧ c.code = cc ∧ c.maxLocals = nL ∧ s.vm.findClass y.cls = some m.cls ∧ (∀ w ∈ lw_big, w.before args s = true) ∧ meth.sig.returnType = ret ∧ meth.locks = false ∧ (y.name = "<init>" → meth.name = "<init>")
/-- what a method comes to -/
def QQ (B : BT) (Ly : Nat → Kd) (Po : Option Value → Nat → Mm → Prop) : Array Value → State → Outcome → State → Prop := fun _ st o t =>
  ∃ (v : Option Value) (n' : Nat) (M' : Mm), o = .returned (v.map (cv B)) ∧ Po v n' M' ∧ SW B Ly n' M' t ∧ va_F (Af B) st t
/-- THE JUDGEMENT: from this place on, the method comes to its end with Po -/
def GG (l : Launch) (B : BT) (Ly : Nat → Kd) (d : Nat) (y : MethodName) (cc : ByteArray) (nL : Nat) (ret : Option FieldType) (mc ms : Nat) (Po : Option Value → Nat → Mm → Prop) (n cells slots pc : Nat) (lv : List (Nat × Value)) (st : List Value) (M : Mm) : Prop :=
  ∀ (p : Program) (e : Env) (s : State) (m : MethodId) (args : Array Value) (below : List Frame) (meth : Method) (c : Code) (H : Heap) (locs : List Loc) (ls : Array Slot),
    Fx p s m args meth c y cc nL ret → SK B s s.heap → va_P (bD B) classes (wz B Ly n M) H → va_S (Af B) s.heap H locs → (bB B ≤ s.heap.size ∧ (bA B = true → H.size = bB B + n)) → lv_has ls nL (cvL B lv) →
    W p l e (rmd d mc ms) s m args below meth c H locs cells slots (MQ below (QQ B Ly Po) args s mc ms (Af B)) (F0 m pc ls (st.map (cv B)))
/-- a method's contract -/
def Con (l : Launch) (B : BT) (Ly : Nat → Kd) (d : Nat) (y : MethodName) (cc : ByteArray) (nL : Nat) (ret : Option FieldType) (mc ms : Nat) (av : List Value) (n : Nat) (M : Mm) (Po : Option Value → Nat → Mm → Prop) : Prop :=
  Met l y (wsO y cc nL ret) (rmd d mc ms) (va_Pc (av.map (cv B)) (fun U => bB B ≤ U.heap.size ∧ SW B Ly n M U)) (QQ B Ly Po) mc ms (Af B)
theorem con_of {l : Launch} {B : BT} {Ly : Nat → Kd} {d : Nat} {y : MethodName} {cc : ByteArray} {nL : Nat} {ret : Option FieldType} {mc ms : Nat} {av : List Value} {n : Nat} {M : Mm} {Po : Option Value → Nat → Mm → Prop}
    (hy : plainName y.cls = true) (hn : (lg_sl av).length ≤ nL) (h : GG l B Ly d y cc nL ret mc ms Po n 0 0 0 (lv_args 0 av) [] M) : Con l B Ly d y cc nL ret mc ms av n M Po := by
  refine Met.ofW (cc := cc) (maxL := nL) (ret := ret) hy rfl ?_
  intro p e s m args below meth c s₁ X hml hv
  obtain ⟨rfl, hsz, hP, hK, hz⟩ := hv
  have hts := atoms_spec (ws := wsO y cc nL ret) X.pre
  rw [lg_entry_eq]
  have hl := lv_entry (av.map (cv B)) (n := nL) (by rw [cvL_sl]; exact hn)
  rw [cvL_args] at hl
  exact h p e s m _ below meth c s.heap [] _ ⟨X.exec, X.bytes, hml, findClass_of_methodNamed X.named, fun w hw => hts w (List.mem_cons_of_mem _ hw), X.returns, X.notSynchronized, fun h => (name_of_methodNamed X.named X.method).1.trans h⟩ hK hP va_S.rf ⟨hsz, hz⟩ hl
