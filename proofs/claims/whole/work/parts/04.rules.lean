/-! THE RULES: an instruction, a row. -/
section Rules
variable {l : Launch} {B : BT} {Ly : Nat → Kd} {d : Nat} {my : MethodName} {cc : ByteArray} {nL : Nat} {ret : Option FieldType} {mc ms : Nat} {Po : Option Value → Nat → Mm → Prop} {n cells slots pc : Nat} {lv : List (Nat × Value)} {st : List Value} {M : Mm}
theorem g_iconst {i : Int} {v : Int32} (hd : decode cc pc = .ok (.iconst i, 1)) (hv : Int32.ofInt i = v)
    (k : GG l B Ly d my cc nL ret mc ms Po n cells slots (pc + 1) lv (.int v :: st) M) : GG l B Ly d my cc nL ret mc ms Po n cells slots pc lv (st) M := by
  intro p e s m args below meth c H locs ls F S P V Z hl
  exact lv_iconst F.1 F.2.1 hd hv (k p e s m args below meth c H locs ls F S P V Z hl)
theorem g_bipush {i : Int} {v : Int32} (hd : decode cc pc = .ok (.bipush i, 2)) (hv : (Int8.ofInt i).toInt32 = v)
    (k : GG l B Ly d my cc nL ret mc ms Po n cells slots (pc + 2) lv (.int v :: st) M) : GG l B Ly d my cc nL ret mc ms Po n cells slots pc lv (st) M := by
  intro p e s m args below meth c H locs ls F S P V Z hl
  exact lv_bipush F.1 F.2.1 hd hv (k p e s m args below meth c H locs ls F S P V Z hl)
theorem g_sipush {i : Int} {v : Int32} (hd : decode cc pc = .ok (.sipush i, 3)) (hv : (Int16.ofInt i).toInt32 = v)
    (k : GG l B Ly d my cc nL ret mc ms Po n cells slots (pc + 3) lv (.int v :: st) M) : GG l B Ly d my cc nL ret mc ms Po n cells slots pc lv (st) M := by
  intro p e s m args below meth c H locs ls F S P V Z hl
  exact lv_sipush F.1 F.2.1 hd hv (k p e s m args below meth c H locs ls F S P V Z hl)
theorem g_lconst {i : Fin 2} {v : Int64} (hd : decode cc pc = .ok (.lconst i, 1)) (hv : Int64.ofNat (i : Nat) = v)
    (k : GG l B Ly d my cc nL ret mc ms Po n cells slots (pc + 1) lv (.long v :: st) M) : GG l B Ly d my cc nL ret mc ms Po n cells slots pc lv (st) M := by
  intro p e s m args below meth c H locs ls F S P V Z hl
  exact lv_lconst F.1 F.2.1 hd hv (k p e s m args below meth c H locs ls F S P V Z hl)
theorem g_iload_n {q : Fin 4} {i : Nat} {x : Int32} (hd : decode cc pc = .ok (.iload_n q, 1)) (hi : (q : Nat) = i) (j : Nat) (h : lv[j]? = some (i, .int x))
    (k : GG l B Ly d my cc nL ret mc ms Po n cells slots (pc + 1) lv (.int x :: st) M) : GG l B Ly d my cc nL ret mc ms Po n cells slots pc lv st M := by
  intro p e s m args below meth c H locs ls F S P V Z hl
  exact lv_iload_n F.1 F.2.1 hd hi (lv_at hl j (cvL_get h)) (k p e s m args below meth c H locs ls F S P V Z hl)
theorem g_iload {i : Nat} {x : Int32} (hd : decode cc pc = .ok (.iload i, 2)) (j : Nat) (h : lv[j]? = some (i, .int x))
    (k : GG l B Ly d my cc nL ret mc ms Po n cells slots (pc + 2) lv (.int x :: st) M) : GG l B Ly d my cc nL ret mc ms Po n cells slots pc lv st M := by
  intro p e s m args below meth c H locs ls F S P V Z hl
  exact lv_iload F.1 F.2.1 hd (lv_at hl j (cvL_get h)) (k p e s m args below meth c H locs ls F S P V Z hl)
theorem g_istore_n {q : Fin 4} {i : Nat} {x : Int32} {lv' : List (Nat × Value)} (hd : decode cc pc = .ok (.istore_n q, 1)) (hi : (q : Nat) = i) (hn : i < nL) (h : (i, Value.int x) :: lv.filter (fun q => !(q.1 == i) && !(q.1 + 1 == i && q.2.category == 2)) = lv')
    (k : GG l B Ly d my cc nL ret mc ms Po n cells slots (pc + 1) lv' st M) : GG l B Ly d my cc nL ret mc ms Po n cells slots pc lv (.int x :: st) M := by
  intro p e s m args below meth c H locs ls F S P V Z hl
  exact lv_istore_n F.1 F.2.1 hd hi hl hn (cvL_st1 h) (fun ls' hl' => k p e s m args below meth c H locs ls' F S P V Z hl')
theorem g_istore {i : Nat} {x : Int32} {lv' : List (Nat × Value)} (hd : decode cc pc = .ok (.istore i, 2)) (hn : i < nL) (h : (i, Value.int x) :: lv.filter (fun q => !(q.1 == i) && !(q.1 + 1 == i && q.2.category == 2)) = lv')
    (k : GG l B Ly d my cc nL ret mc ms Po n cells slots (pc + 2) lv' st M) : GG l B Ly d my cc nL ret mc ms Po n cells slots pc lv (.int x :: st) M := by
  intro p e s m args below meth c H locs ls F S P V Z hl
  exact lv_istore F.1 F.2.1 hd hl hn (cvL_st1 h) (fun ls' hl' => k p e s m args below meth c H locs ls' F S P V Z hl')
theorem g_lload_n {q : Fin 4} {i : Nat} {x : Int64} (hd : decode cc pc = .ok (.lload_n q, 1)) (hi : (q : Nat) = i) (j : Nat) (h : lv[j]? = some (i, .long x))
    (k : GG l B Ly d my cc nL ret mc ms Po n cells slots (pc + 1) lv (.long x :: st) M) : GG l B Ly d my cc nL ret mc ms Po n cells slots pc lv st M := by
  intro p e s m args below meth c H locs ls F S P V Z hl
  exact lv_lload_n F.1 F.2.1 hd hi (lv_at hl j (cvL_get h)) (k p e s m args below meth c H locs ls F S P V Z hl)
theorem g_lload {i : Nat} {x : Int64} (hd : decode cc pc = .ok (.lload i, 2)) (j : Nat) (h : lv[j]? = some (i, .long x))
    (k : GG l B Ly d my cc nL ret mc ms Po n cells slots (pc + 2) lv (.long x :: st) M) : GG l B Ly d my cc nL ret mc ms Po n cells slots pc lv st M := by
  intro p e s m args below meth c H locs ls F S P V Z hl
  exact lv_lload F.1 F.2.1 hd (lv_at hl j (cvL_get h)) (k p e s m args below meth c H locs ls F S P V Z hl)
theorem g_lstore_n {q : Fin 4} {i : Nat} {x : Int64} {lv' : List (Nat × Value)} (hd : decode cc pc = .ok (.lstore_n q, 1)) (hi : (q : Nat) = i) (hn : i + 1 < nL) (h : (i, Value.long x) :: lv.filter (fun q => !(q.1 == i) && (!(q.1 == i + 1) && !(q.1 + 1 == i && q.2.category == 2))) = lv')
    (k : GG l B Ly d my cc nL ret mc ms Po n cells slots (pc + 1) lv' st M) : GG l B Ly d my cc nL ret mc ms Po n cells slots pc lv (.long x :: st) M := by
  intro p e s m args below meth c H locs ls F S P V Z hl
  exact lv_lstore_n F.1 F.2.1 hd hi hl hn (cvL_st2 h) (fun ls' hl' => k p e s m args below meth c H locs ls' F S P V Z hl')
theorem g_lstore {i : Nat} {x : Int64} {lv' : List (Nat × Value)} (hd : decode cc pc = .ok (.lstore i, 2)) (hn : i + 1 < nL) (h : (i, Value.long x) :: lv.filter (fun q => !(q.1 == i) && (!(q.1 == i + 1) && !(q.1 + 1 == i && q.2.category == 2))) = lv')
    (k : GG l B Ly d my cc nL ret mc ms Po n cells slots (pc + 2) lv' st M) : GG l B Ly d my cc nL ret mc ms Po n cells slots pc lv (.long x :: st) M := by
  intro p e s m args below meth c H locs ls F S P V Z hl
  exact lv_lstore F.1 F.2.1 hd hl hn (cvL_st2 h) (fun ls' hl' => k p e s m args below meth c H locs ls' F S P V Z hl')
theorem g_aload_n {q : Fin 4} {i : Nat} {x : Nat} (hd : decode cc pc = .ok (.aload_n q, 1)) (hi : (q : Nat) = i) (j : Nat) (h : lv[j]? = some (i, .ref x))
    (k : GG l B Ly d my cc nL ret mc ms Po n cells slots (pc + 1) lv (.ref x :: st) M) : GG l B Ly d my cc nL ret mc ms Po n cells slots pc lv st M := by
  intro p e s m args below meth c H locs ls F S P V Z hl
  exact lv_aload_n F.1 F.2.1 hd hi (lv_at hl j (cvL_get h)) (k p e s m args below meth c H locs ls F S P V Z hl)
theorem g_aload {i : Nat} {x : Nat} (hd : decode cc pc = .ok (.aload i, 2)) (j : Nat) (h : lv[j]? = some (i, .ref x))
    (k : GG l B Ly d my cc nL ret mc ms Po n cells slots (pc + 2) lv (.ref x :: st) M) : GG l B Ly d my cc nL ret mc ms Po n cells slots pc lv st M := by
  intro p e s m args below meth c H locs ls F S P V Z hl
  exact lv_aload F.1 F.2.1 hd (lv_at hl j (cvL_get h)) (k p e s m args below meth c H locs ls F S P V Z hl)
theorem g_astore_n {q : Fin 4} {i : Nat} {x : Nat} {lv' : List (Nat × Value)} (hd : decode cc pc = .ok (.astore_n q, 1)) (hi : (q : Nat) = i) (hn : i < nL) (h : (i, Value.ref x) :: lv.filter (fun q => !(q.1 == i) && !(q.1 + 1 == i && q.2.category == 2)) = lv')
    (k : GG l B Ly d my cc nL ret mc ms Po n cells slots (pc + 1) lv' st M) : GG l B Ly d my cc nL ret mc ms Po n cells slots pc lv (.ref x :: st) M := by
  intro p e s m args below meth c H locs ls F S P V Z hl
  exact lv_astore_n F.1 F.2.1 hd hi hl hn (cvL_st1 h) (fun ls' hl' => k p e s m args below meth c H locs ls' F S P V Z hl')
theorem g_astore {i : Nat} {x : Nat} {lv' : List (Nat × Value)} (hd : decode cc pc = .ok (.astore i, 2)) (hn : i < nL) (h : (i, Value.ref x) :: lv.filter (fun q => !(q.1 == i) && !(q.1 + 1 == i && q.2.category == 2)) = lv')
    (k : GG l B Ly d my cc nL ret mc ms Po n cells slots (pc + 2) lv' st M) : GG l B Ly d my cc nL ret mc ms Po n cells slots pc lv (.ref x :: st) M := by
  intro p e s m args below meth c H locs ls F S P V Z hl
  exact lv_astore F.1 F.2.1 hd hl hn (cvL_st1 h) (fun ls' hl' => k p e s m args below meth c H locs ls' F S P V Z hl')
theorem g_iinc {i : Nat} {z : Int} {x v : Int32} {lv' : List (Nat × Value)} (hd : decode cc pc = .ok (.iinc i z, 3)) (j : Nat) (hj : lv[j]? = some (i, .int x)) (hv : x + Int32.ofInt z = v) (hn : i < nL) (h : (i, Value.int v) :: lv.filter (fun q => !(q.1 == i) && !(q.1 + 1 == i && q.2.category == 2)) = lv')
    (k : GG l B Ly d my cc nL ret mc ms Po n cells slots (pc + 3) lv' st M) : GG l B Ly d my cc nL ret mc ms Po n cells slots pc lv st M := by
  intro p e s m args below meth c H locs ls F S P V Z hl
  exact lv_iinc (k := j) F.1 F.2.1 hd hl (cvL_get hj) hv hn (cvL_st1 h) (fun ls' hl' => k p e s m args below meth c H locs ls' F S P V Z hl')
theorem g_iadd {x y : Int32} (hd : decode cc pc = .ok (.iadd, 1))
    (k : GG l B Ly d my cc nL ret mc ms Po n cells slots (pc + 1) lv (.int (x + y) :: st) M) : GG l B Ly d my cc nL ret mc ms Po n cells slots pc lv (.int y :: .int x :: st) M := by
  intro p e s m args below meth c H locs ls F S P V Z hl
  exact lv_iadd F.1 F.2.1 hd (k p e s m args below meth c H locs ls F S P V Z hl)
theorem g_isub {x y : Int32} (hd : decode cc pc = .ok (.isub, 1))
    (k : GG l B Ly d my cc nL ret mc ms Po n cells slots (pc + 1) lv (.int (x - y) :: st) M) : GG l B Ly d my cc nL ret mc ms Po n cells slots pc lv (.int y :: .int x :: st) M := by
  intro p e s m args below meth c H locs ls F S P V Z hl
  exact lv_isub F.1 F.2.1 hd (k p e s m args below meth c H locs ls F S P V Z hl)
theorem g_imul {x y : Int32} (hd : decode cc pc = .ok (.imul, 1))
    (k : GG l B Ly d my cc nL ret mc ms Po n cells slots (pc + 1) lv (.int (x * y) :: st) M) : GG l B Ly d my cc nL ret mc ms Po n cells slots pc lv (.int y :: .int x :: st) M := by
  intro p e s m args below meth c H locs ls F S P V Z hl
  exact lv_imul F.1 F.2.1 hd (k p e s m args below meth c H locs ls F S P V Z hl)
theorem g_iand {x y : Int32} (hd : decode cc pc = .ok (.iand, 1))
    (k : GG l B Ly d my cc nL ret mc ms Po n cells slots (pc + 1) lv (.int (x &&& y) :: st) M) : GG l B Ly d my cc nL ret mc ms Po n cells slots pc lv (.int y :: .int x :: st) M := by
  intro p e s m args below meth c H locs ls F S P V Z hl
  exact lv_iand F.1 F.2.1 hd (k p e s m args below meth c H locs ls F S P V Z hl)
theorem g_ior {x y : Int32} (hd : decode cc pc = .ok (.ior, 1))
    (k : GG l B Ly d my cc nL ret mc ms Po n cells slots (pc + 1) lv (.int (x ||| y) :: st) M) : GG l B Ly d my cc nL ret mc ms Po n cells slots pc lv (.int y :: .int x :: st) M := by
  intro p e s m args below meth c H locs ls F S P V Z hl
  exact lv_ior F.1 F.2.1 hd (k p e s m args below meth c H locs ls F S P V Z hl)
theorem g_ladd {x y : Int64} (hd : decode cc pc = .ok (.ladd, 1))
    (k : GG l B Ly d my cc nL ret mc ms Po n cells slots (pc + 1) lv (.long (x + y) :: st) M) : GG l B Ly d my cc nL ret mc ms Po n cells slots pc lv (.long y :: .long x :: st) M := by
  intro p e s m args below meth c H locs ls F S P V Z hl
  exact lv_ladd F.1 F.2.1 hd (k p e s m args below meth c H locs ls F S P V Z hl)
theorem g_lsub {x y : Int64} (hd : decode cc pc = .ok (.lsub, 1))
    (k : GG l B Ly d my cc nL ret mc ms Po n cells slots (pc + 1) lv (.long (x - y) :: st) M) : GG l B Ly d my cc nL ret mc ms Po n cells slots pc lv (.long y :: .long x :: st) M := by
  intro p e s m args below meth c H locs ls F S P V Z hl
  exact lv_lsub F.1 F.2.1 hd (k p e s m args below meth c H locs ls F S P V Z hl)
theorem g_lmul {x y : Int64} (hd : decode cc pc = .ok (.lmul, 1))
    (k : GG l B Ly d my cc nL ret mc ms Po n cells slots (pc + 1) lv (.long (x * y) :: st) M) : GG l B Ly d my cc nL ret mc ms Po n cells slots pc lv (.long y :: .long x :: st) M := by
  intro p e s m args below meth c H locs ls F S P V Z hl
  exact lv_lmul F.1 F.2.1 hd (k p e s m args below meth c H locs ls F S P V Z hl)
theorem g_ishl {x y : Int32} (hd : decode cc pc = .ok (.ishl, 1))
    (k : GG l B Ly d my cc nL ret mc ms Po n cells slots (pc + 1) lv (.int (x <<< (y &&& 31)) :: st) M) : GG l B Ly d my cc nL ret mc ms Po n cells slots pc lv (.int y :: .int x :: st) M := by
  intro p e s m args below meth c H locs ls F S P V Z hl
  exact lv_ishl F.1 F.2.1 hd (k p e s m args below meth c H locs ls F S P V Z hl)
theorem g_ishr {x y : Int32} (hd : decode cc pc = .ok (.ishr, 1))
    (k : GG l B Ly d my cc nL ret mc ms Po n cells slots (pc + 1) lv (.int (x >>> (y &&& 31)) :: st) M) : GG l B Ly d my cc nL ret mc ms Po n cells slots pc lv (.int y :: .int x :: st) M := by
  intro p e s m args below meth c H locs ls F S P V Z hl
  exact lv_ishr F.1 F.2.1 hd (k p e s m args below meth c H locs ls F S P V Z hl)
theorem g_iushr {x y : Int32} (hd : decode cc pc = .ok (.iushr, 1))
    (k : GG l B Ly d my cc nL ret mc ms Po n cells slots (pc + 1) lv (.int ((x.toUInt32 >>> (y.toUInt32 &&& Int32.toUInt32 31)).toInt32) :: st) M) : GG l B Ly d my cc nL ret mc ms Po n cells slots pc lv (.int y :: .int x :: st) M := by
  intro p e s m args below meth c H locs ls F S P V Z hl
  exact lv_iushr F.1 F.2.1 hd rfl (k p e s m args below meth c H locs ls F S P V Z hl)
theorem g_idiv {x y : Int32} (hd : decode cc pc = .ok (.idiv, 1)) (hne : ¬ y = 0)
    (k : GG l B Ly d my cc nL ret mc ms Po n cells slots (pc + 1) lv (.int (x / y) :: st) M) : GG l B Ly d my cc nL ret mc ms Po n cells slots pc lv (.int y :: .int x :: st) M := by
  intro p e s m args below meth c H locs ls F S P V Z hl
  exact lv_idiv F.1 F.2.1 hd hne (k p e s m args below meth c H locs ls F S P V Z hl)
theorem g_irem {x y : Int32} (hd : decode cc pc = .ok (.irem, 1)) (hne : ¬ y = 0)
    (k : GG l B Ly d my cc nL ret mc ms Po n cells slots (pc + 1) lv (.int (x - x / y * y) :: st) M) : GG l B Ly d my cc nL ret mc ms Po n cells slots pc lv (.int y :: .int x :: st) M := by
  intro p e s m args below meth c H locs ls F S P V Z hl
  exact lv_irem F.1 F.2.1 hd hne (k p e s m args below meth c H locs ls F S P V Z hl)
theorem g_ldiv {x y : Int64} (hd : decode cc pc = .ok (.ldiv, 1)) (hne : ¬ y = 0)
    (k : GG l B Ly d my cc nL ret mc ms Po n cells slots (pc + 1) lv (.long (x / y) :: st) M) : GG l B Ly d my cc nL ret mc ms Po n cells slots pc lv (.long y :: .long x :: st) M := by
  intro p e s m args below meth c H locs ls F S P V Z hl
  exact lv_ldiv F.1 F.2.1 hd hne (k p e s m args below meth c H locs ls F S P V Z hl)
theorem g_ineg {x : Int32} (hd : decode cc pc = .ok (.ineg, 1))
    (k : GG l B Ly d my cc nL ret mc ms Po n cells slots (pc + 1) lv (.int (-x) :: st) M) : GG l B Ly d my cc nL ret mc ms Po n cells slots pc lv (.int x :: st) M := by
  intro p e s m args below meth c H locs ls F S P V Z hl
  exact lv_ineg F.1 F.2.1 hd (k p e s m args below meth c H locs ls F S P V Z hl)
theorem g_i2l {x : Int32} (hd : decode cc pc = .ok (.i2l, 1))
    (k : GG l B Ly d my cc nL ret mc ms Po n cells slots (pc + 1) lv (.long x.toInt64 :: st) M) : GG l B Ly d my cc nL ret mc ms Po n cells slots pc lv (.int x :: st) M := by
  intro p e s m args below meth c H locs ls F S P V Z hl
  exact lv_i2l F.1 F.2.1 hd rfl (k p e s m args below meth c H locs ls F S P V Z hl)
theorem g_i2b {x : Int32} (hd : decode cc pc = .ok (.i2b, 1))
    (k : GG l B Ly d my cc nL ret mc ms Po n cells slots (pc + 1) lv (.int x.toInt8.toInt32 :: st) M) : GG l B Ly d my cc nL ret mc ms Po n cells slots pc lv (.int x :: st) M := by
  intro p e s m args below meth c H locs ls F S P V Z hl
  exact lv_i2b F.1 F.2.1 hd rfl (k p e s m args below meth c H locs ls F S P V Z hl)
theorem g_i2c {x : Int32} (hd : decode cc pc = .ok (.i2c, 1))
    (k : GG l B Ly d my cc nL ret mc ms Po n cells slots (pc + 1) lv (.int (x.toUInt32 % 65536).toInt32 :: st) M) : GG l B Ly d my cc nL ret mc ms Po n cells slots pc lv (.int x :: st) M := by
  intro p e s m args below meth c H locs ls F S P V Z hl
  exact lv_i2c F.1 F.2.1 hd rfl (k p e s m args below meth c H locs ls F S P V Z hl)
theorem g_lcmp {x y : Int64} (hd : decode cc pc = .ok (.lcmp, 1))
    (k : GG l B Ly d my cc nL ret mc ms Po n cells slots (pc + 1) lv (.int (lg_cmp x y) :: st) M) : GG l B Ly d my cc nL ret mc ms Po n cells slots pc lv (.long y :: .long x :: st) M := by
  intro p e s m args below meth c H locs ls F S P V Z hl
  exact W.lcmp F.1 F.2.1 hd (k p e s m args below meth c H locs ls F S P V Z hl)
theorem g_dup {v : Value} (hd : decode cc pc = .ok (.dup, 1)) (hc : v.category = 1)
    (k : GG l B Ly d my cc nL ret mc ms Po n cells slots (pc + 1) lv (v :: v :: st) M) : GG l B Ly d my cc nL ret mc ms Po n cells slots pc lv (v :: st) M := by
  intro p e s m args below meth c H locs ls F S P V Z hl
  exact lv_dup F.1 F.2.1 hd (by rw [cv_cat]; exact hc) (k p e s m args below meth c H locs ls F S P V Z hl)
theorem g_pop {v : Value} (hd : decode cc pc = .ok (.pop, 1)) (hc : v.category = 1)
    (k : GG l B Ly d my cc nL ret mc ms Po n cells slots (pc + 1) lv (st) M) : GG l B Ly d my cc nL ret mc ms Po n cells slots pc lv (v :: st) M := by
  intro p e s m args below meth c H locs ls F S P V Z hl
  exact lv_pop F.1 F.2.1 hd (by rw [cv_cat]; exact hc) (k p e s m args below meth c H locs ls F S P V Z hl)
theorem g_dup2 {v w : Value} (hd : decode cc pc = .ok (.dup2, 1)) (hc : v.category = 1) (hw : w.category = 1)
    (k : GG l B Ly d my cc nL ret mc ms Po n cells slots (pc + 1) lv (v :: w :: v :: w :: st) M) : GG l B Ly d my cc nL ret mc ms Po n cells slots pc lv (v :: w :: st) M := by
  intro p e s m args below meth c H locs ls F S P V Z hl
  exact lv_dup2_11 F.1 F.2.1 hd (by rw [cv_cat]; exact hc) (by rw [cv_cat]; exact hw) (k p e s m args below meth c H locs ls F S P V Z hl)
theorem g_if_eq {x : Int32} {off : Int} {tgt : Nat} (hd : decode cc pc = .ok (.ifCond .eq off, 3)) (ht : (pc : Int) + off = (tgt : Int))
    (kt : x = 0 → GG l B Ly d my cc nL ret mc ms Po n cells slots tgt lv st M) (kf : ¬ x = 0 → GG l B Ly d my cc nL ret mc ms Po n cells slots (pc + 3) lv st M) : GG l B Ly d my cc nL ret mc ms Po n cells slots pc lv (.int x :: st) M := by
  intro p e s m args below meth c H locs ls F S P V Z hl
  exact lv_if_eq F.1 F.2.1 hd ht (fun z => kt z p e s m args below meth c H locs ls F S P V Z hl) (fun z => kf z p e s m args below meth c H locs ls F S P V Z hl)
theorem g_icmp_eq {x y : Int32} {off : Int} {tgt : Nat} (hd : decode cc pc = .ok (.if_icmp .eq off, 3)) (ht : (pc : Int) + off = (tgt : Int))
    (kt : x = y → GG l B Ly d my cc nL ret mc ms Po n cells slots tgt lv st M) (kf : ¬ x = y → GG l B Ly d my cc nL ret mc ms Po n cells slots (pc + 3) lv st M) : GG l B Ly d my cc nL ret mc ms Po n cells slots pc lv (.int y :: .int x :: st) M := by
  intro p e s m args below meth c H locs ls F S P V Z hl
  exact lv_icmp_eq F.1 F.2.1 hd ht (fun z => kt z p e s m args below meth c H locs ls F S P V Z hl) (fun z => kf z p e s m args below meth c H locs ls F S P V Z hl)
theorem g_if_ne {x : Int32} {off : Int} {tgt : Nat} (hd : decode cc pc = .ok (.ifCond .ne off, 3)) (ht : (pc : Int) + off = (tgt : Int))
    (kt : ¬ x = 0 → GG l B Ly d my cc nL ret mc ms Po n cells slots tgt lv st M) (kf : x = 0 → GG l B Ly d my cc nL ret mc ms Po n cells slots (pc + 3) lv st M) : GG l B Ly d my cc nL ret mc ms Po n cells slots pc lv (.int x :: st) M := by
  intro p e s m args below meth c H locs ls F S P V Z hl
  exact lv_if_ne F.1 F.2.1 hd ht (fun z => kt z p e s m args below meth c H locs ls F S P V Z hl) (fun z => kf z p e s m args below meth c H locs ls F S P V Z hl)
theorem g_icmp_ne {x y : Int32} {off : Int} {tgt : Nat} (hd : decode cc pc = .ok (.if_icmp .ne off, 3)) (ht : (pc : Int) + off = (tgt : Int))
    (kt : ¬ x = y → GG l B Ly d my cc nL ret mc ms Po n cells slots tgt lv st M) (kf : x = y → GG l B Ly d my cc nL ret mc ms Po n cells slots (pc + 3) lv st M) : GG l B Ly d my cc nL ret mc ms Po n cells slots pc lv (.int y :: .int x :: st) M := by
  intro p e s m args below meth c H locs ls F S P V Z hl
  exact lv_icmp_ne F.1 F.2.1 hd ht (fun z => kt z p e s m args below meth c H locs ls F S P V Z hl) (fun z => kf z p e s m args below meth c H locs ls F S P V Z hl)
theorem g_if_lt {x : Int32} {off : Int} {tgt : Nat} (hd : decode cc pc = .ok (.ifCond .lt off, 3)) (ht : (pc : Int) + off = (tgt : Int))
    (kt : x < 0 → GG l B Ly d my cc nL ret mc ms Po n cells slots tgt lv st M) (kf : ¬ x < 0 → GG l B Ly d my cc nL ret mc ms Po n cells slots (pc + 3) lv st M) : GG l B Ly d my cc nL ret mc ms Po n cells slots pc lv (.int x :: st) M := by
  intro p e s m args below meth c H locs ls F S P V Z hl
  exact lv_if_lt F.1 F.2.1 hd ht (fun z => kt z p e s m args below meth c H locs ls F S P V Z hl) (fun z => kf z p e s m args below meth c H locs ls F S P V Z hl)
theorem g_icmp_lt {x y : Int32} {off : Int} {tgt : Nat} (hd : decode cc pc = .ok (.if_icmp .lt off, 3)) (ht : (pc : Int) + off = (tgt : Int))
    (kt : x < y → GG l B Ly d my cc nL ret mc ms Po n cells slots tgt lv st M) (kf : ¬ x < y → GG l B Ly d my cc nL ret mc ms Po n cells slots (pc + 3) lv st M) : GG l B Ly d my cc nL ret mc ms Po n cells slots pc lv (.int y :: .int x :: st) M := by
  intro p e s m args below meth c H locs ls F S P V Z hl
  exact lv_icmp_lt F.1 F.2.1 hd ht (fun z => kt z p e s m args below meth c H locs ls F S P V Z hl) (fun z => kf z p e s m args below meth c H locs ls F S P V Z hl)
theorem g_if_ge {x : Int32} {off : Int} {tgt : Nat} (hd : decode cc pc = .ok (.ifCond .ge off, 3)) (ht : (pc : Int) + off = (tgt : Int))
    (kt : 0 ≤ x → GG l B Ly d my cc nL ret mc ms Po n cells slots tgt lv st M) (kf : ¬ 0 ≤ x → GG l B Ly d my cc nL ret mc ms Po n cells slots (pc + 3) lv st M) : GG l B Ly d my cc nL ret mc ms Po n cells slots pc lv (.int x :: st) M := by
  intro p e s m args below meth c H locs ls F S P V Z hl
  exact lv_if_ge F.1 F.2.1 hd ht (fun z => kt z p e s m args below meth c H locs ls F S P V Z hl) (fun z => kf z p e s m args below meth c H locs ls F S P V Z hl)
theorem g_icmp_ge {x y : Int32} {off : Int} {tgt : Nat} (hd : decode cc pc = .ok (.if_icmp .ge off, 3)) (ht : (pc : Int) + off = (tgt : Int))
    (kt : y ≤ x → GG l B Ly d my cc nL ret mc ms Po n cells slots tgt lv st M) (kf : ¬ y ≤ x → GG l B Ly d my cc nL ret mc ms Po n cells slots (pc + 3) lv st M) : GG l B Ly d my cc nL ret mc ms Po n cells slots pc lv (.int y :: .int x :: st) M := by
  intro p e s m args below meth c H locs ls F S P V Z hl
  exact lv_icmp_ge F.1 F.2.1 hd ht (fun z => kt z p e s m args below meth c H locs ls F S P V Z hl) (fun z => kf z p e s m args below meth c H locs ls F S P V Z hl)
theorem g_if_gt {x : Int32} {off : Int} {tgt : Nat} (hd : decode cc pc = .ok (.ifCond .gt off, 3)) (ht : (pc : Int) + off = (tgt : Int))
    (kt : 0 < x → GG l B Ly d my cc nL ret mc ms Po n cells slots tgt lv st M) (kf : ¬ 0 < x → GG l B Ly d my cc nL ret mc ms Po n cells slots (pc + 3) lv st M) : GG l B Ly d my cc nL ret mc ms Po n cells slots pc lv (.int x :: st) M := by
  intro p e s m args below meth c H locs ls F S P V Z hl
  exact lv_if_gt F.1 F.2.1 hd ht (fun z => kt z p e s m args below meth c H locs ls F S P V Z hl) (fun z => kf z p e s m args below meth c H locs ls F S P V Z hl)
theorem g_icmp_gt {x y : Int32} {off : Int} {tgt : Nat} (hd : decode cc pc = .ok (.if_icmp .gt off, 3)) (ht : (pc : Int) + off = (tgt : Int))
    (kt : y < x → GG l B Ly d my cc nL ret mc ms Po n cells slots tgt lv st M) (kf : ¬ y < x → GG l B Ly d my cc nL ret mc ms Po n cells slots (pc + 3) lv st M) : GG l B Ly d my cc nL ret mc ms Po n cells slots pc lv (.int y :: .int x :: st) M := by
  intro p e s m args below meth c H locs ls F S P V Z hl
  exact lv_icmp_gt F.1 F.2.1 hd ht (fun z => kt z p e s m args below meth c H locs ls F S P V Z hl) (fun z => kf z p e s m args below meth c H locs ls F S P V Z hl)
theorem g_if_le {x : Int32} {off : Int} {tgt : Nat} (hd : decode cc pc = .ok (.ifCond .le off, 3)) (ht : (pc : Int) + off = (tgt : Int))
    (kt : x ≤ 0 → GG l B Ly d my cc nL ret mc ms Po n cells slots tgt lv st M) (kf : ¬ x ≤ 0 → GG l B Ly d my cc nL ret mc ms Po n cells slots (pc + 3) lv st M) : GG l B Ly d my cc nL ret mc ms Po n cells slots pc lv (.int x :: st) M := by
  intro p e s m args below meth c H locs ls F S P V Z hl
  exact lv_if_le F.1 F.2.1 hd ht (fun z => kt z p e s m args below meth c H locs ls F S P V Z hl) (fun z => kf z p e s m args below meth c H locs ls F S P V Z hl)
theorem g_icmp_le {x y : Int32} {off : Int} {tgt : Nat} (hd : decode cc pc = .ok (.if_icmp .le off, 3)) (ht : (pc : Int) + off = (tgt : Int))
    (kt : x ≤ y → GG l B Ly d my cc nL ret mc ms Po n cells slots tgt lv st M) (kf : ¬ x ≤ y → GG l B Ly d my cc nL ret mc ms Po n cells slots (pc + 3) lv st M) : GG l B Ly d my cc nL ret mc ms Po n cells slots pc lv (.int y :: .int x :: st) M := by
  intro p e s m args below meth c H locs ls F S P V Z hl
  exact lv_icmp_le F.1 F.2.1 hd ht (fun z => kt z p e s m args below meth c H locs ls F S P V Z hl) (fun z => kf z p e s m args below meth c H locs ls F S P V Z hl)
theorem g_goto {off : Int} {tgt : Nat} (hd : decode cc pc = .ok (.goto off, 3)) (ht : (pc : Int) + off = (tgt : Int))
    (k : GG l B Ly d my cc nL ret mc ms Po n cells slots tgt lv st M) : GG l B Ly d my cc nL ret mc ms Po n cells slots pc lv st M := by
  intro p e s m args below meth c H locs ls F S P V Z hl
  exact lv_goto F.1 F.2.1 hd ht (k p e s m args below meth c H locs ls F S P V Z hl)
theorem g_ifnull {x : Nat} {off : Int} (hd : decode cc pc = .ok (.ifnull off, 3))
    (k : GG l B Ly d my cc nL ret mc ms Po n cells slots (pc + 3) lv st M) : GG l B Ly d my cc nL ret mc ms Po n cells slots pc lv (.ref x :: st) M := by
  intro p e s m args below meth c H locs ls F S P V Z hl
  exact lv_ifnull F.1 F.2.1 hd (k p e s m args below meth c H locs ls F S P V Z hl)
theorem g_ldc {i : Nat} {v : Int32} (hw : Cond.constant my.cls i v ∈ lw_big) (hd : decode cc pc = .ok (.ldc i, 2))
    (k : GG l B Ly d my cc nL ret mc ms Po n cells slots (pc + 2) lv (.int v :: st) M) : GG l B Ly d my cc nL ret mc ms Po n cells slots pc lv st M := by
  intro p e s m args below meth c H locs ls F S P V Z hl
  exact lv_ldc F.1 F.2.1 F.2.2.2.1 (F.2.2.2.2.1 _ hw) hd (k p e s m args below meth c H locs ls F S P V Z hl)
theorem g_ldcw {i : Nat} {v : Int32} (hw : Cond.constant my.cls i v ∈ lw_big) (hd : decode cc pc = .ok (.ldc_w i, 3))
    (k : GG l B Ly d my cc nL ret mc ms Po n cells slots (pc + 3) lv (.int v :: st) M) : GG l B Ly d my cc nL ret mc ms Po n cells slots pc lv st M := by
  intro p e s m args below meth c H locs ls F S P V Z hl
  exact lv_ldcw F.1 F.2.1 F.2.2.2.1 (F.2.2.2.2.1 _ hw) hd (k p e s m args below meth c H locs ls F S P V Z hl)
theorem g_ldc2 {i : Nat} {v : Int64} (hw : Cond.constantLong my.cls i v ∈ lw_big) (hd : decode cc pc = .ok (.ldc2_w i, 3))
    (k : GG l B Ly d my cc nL ret mc ms Po n cells slots (pc + 3) lv (.long v :: st) M) : GG l B Ly d my cc nL ret mc ms Po n cells slots pc lv st M := by
  intro p e s m args below meth c H locs ls F S P V Z hl
  exact lv_ldc2 F.1 F.2.1 F.2.2.2.1 (F.2.2.2.2.1 _ hw) hd (k p e s m args below meth c H locs ls F S P V Z hl)
theorem g_ldcS {i j : Nat} {tx : String} (hq : strq[j]? = some (my.cls, i, tx)) (hd : decode cc pc = .ok (.ldc i, 2))
    (k : GG l B Ly d my cc nL ret mc ms Po n cells slots (pc + 2) lv (.ref (1000 + j) :: st) M) : GG l B Ly d my cc nL ret mc ms Po n cells slots pc lv st M := by
  intro p e s m args below meth c H locs ls F S P V Z hl
  have e1 : ad B (1000 + j) = bS B j := by rw [ad, if_neg (by omega), Nat.add_sub_cancel_left]
  have k1 := k p e s m args below meth c H locs ls F S P V Z hl
  simp only [List.map_cons, cv, e1] at k1
  exact va_ldcS F.1 F.2.1 F.2.2.2.1 (S.2.2.2.1 j _ hq) hd k1
theorem g_tabOut {dflt lo hi : Int} {offs : Array Int} {len : Nat} {x : Int32} {tgt : Nat} (hd : decode cc pc = .ok (.tableswitch dflt lo hi offs, len)) (h : x.toInt < lo ∨ hi < x.toInt) (ht : (pc : Int) + dflt = (tgt : Int))
    (k : GG l B Ly d my cc nL ret mc ms Po n cells slots tgt lv st M) : GG l B Ly d my cc nL ret mc ms Po n cells slots pc lv (.int x :: st) M := by
  intro p e s m args below meth c H locs ls F S P V Z hl
  exact lv_tableOut F.1 F.2.1 hd h ht (k p e s m args below meth c H locs ls F S P V Z hl)
theorem g_tabIn {dflt lo hi : Int} {offs : Array Int} {len : Nat} {x : Int32} {off : Int} {tgt : Nat} (hd : decode cc pc = .ok (.tableswitch dflt lo hi offs, len)) (h1 : ¬ x.toInt < lo) (h2 : ¬ hi < x.toInt) (ho : offs[(x.toInt - lo).toNat]? = some off) (ht : (pc : Int) + off = (tgt : Int))
    (k : GG l B Ly d my cc nL ret mc ms Po n cells slots tgt lv st M) : GG l B Ly d my cc nL ret mc ms Po n cells slots pc lv (.int x :: st) M := by
  intro p e s m args below meth c H locs ls F S P V Z hl
  exact lv_tableIn F.1 F.2.1 hd h1 h2 ho ht (k p e s m args below meth c H locs ls F S P V Z hl)
theorem g_lookup {dflt : Int} {ps : Array (Int × Int)} {len : Nat} {x : Int32} {off : Int} {tgt : Nat} (hd : decode cc pc = .ok (.lookupswitch dflt ps, len)) (hp : (ps.toList.zip (ps.toList.drop 1)).all (fun (a, next) => a.1 < next.1) = true) (ho : Op.lookupswitch.offset ps.toList dflt x.toInt = off) (ht : (pc : Int) + off = (tgt : Int))
    (k : GG l B Ly d my cc nL ret mc ms Po n cells slots tgt lv st M) : GG l B Ly d my cc nL ret mc ms Po n cells slots pc lv (.int x :: st) M := by
  intro p e s m args below meth c H locs ls F S P V Z hl
  exact lv_lookup F.1 F.2.1 hd hp ho ht (k p e s m args below meth c H locs ls F S P V Z hl)
end Rules
