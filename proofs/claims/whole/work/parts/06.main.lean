/-! THE RUN PROPER: all 97 cells are made. Written by wip/programs/main_part.py. -/
def fk0 : List Fk := [(2, 1), (2, 2), (2, 3), (2, 4), (2, 5), (2, 6), (0, 0), (0, 0), (0, 0), (0, 0), (0, 0), (0, 0), (0, 0), (0, 0), (0, 0)]
def fk1 : List Fk := [(2, 1), (2, 2), (2, 3), (0, 0)]
def fk3 : List Fk := [(2, 1), (2, 2), (2, 3), (2, 4), (2, 5), (2, 6), (2, 7), (2, 8), (2, 9), (0, 0), (0, 0), (0, 0), (0, 0), (0, 0), (0, 0)]
def fk4 : List Fk := [(3, 62), (2, 11), (0, 0), (0, 0), (0, 0)]
def fk5 : List Fk := [(3, 15), (2, 1), (2, 2), (1, 0), (0, 0), (0, 0), (0, 0)]
def fk6 : List Fk := [(2, 1), (2, 2), (0, 0), (0, 0)]
def fk7 : List Fk := [(0, 0), (0, 0), (0, 0)]
def fk8 : List Fk := [(2, 1), (0, 0), (0, 0), (0, 0), (0, 0), (0, 0), (0, 0)]
def fk9 : List Fk := [(3, 15), (3, 17), (3, 20), (3, 30), (3, 61), (3, 73), (3, 77), (3, 80), (1, 0), (1, 0), (0, 0), (0, 0), (0, 0), (0, 0)]
def fk10 : List Fk := [(0, 0), (2, 1), (0, 0), (0, 0), (0, 0), (0, 0), (0, 0), (0, 0), (0, 0), (0, 0), (0, 0), (0, 0), (2, 2), (0, 0), (0, 0), (2, 3), (2, 4), (2, 5), (2, 6), (0, 0), (0, 0), (2, 7), (2, 8), (2, 9), (2, 10), (2, 11), (0, 0), (2, 12), (2, 13), (0, 0), (0, 0), (2, 14), (0, 0)]
def lyl : List Kd := [.inl (9, fk9), .inl (0, fk0), .inr (0, 5), .inr (0, 5), .inr (0, 20), .inr (0, 5), .inr (0, 20), .inr (0, 35), .inl (0, fk0), .inr (0, 5), .inr (0, 5), .inr (0, 20), .inr (0, 5), .inr (0, 20), .inr (0, 35), .inl (8, fk8), .inr (1, 900), .inl (5, fk5), .inr (0, 5), .inr (0, 5), .inl (3, fk3), .inr (0, 5), .inr (0, 5), .inr (0, 5), .inr (0, 5), .inr (0, 5), .inr (0, 5), .inr (0, 5), .inr (0, 5), .inr (0, 5), .inr (4, 3), .inl (3, fk3), .inr (0, 5), .inr (0, 5), .inr (0, 5), .inr (0, 5), .inr (0, 5), .inr (0, 5), .inr (0, 5), .inr (0, 5), .inr (0, 5), .inl (3, fk3), .inr (0, 5), .inr (0, 5), .inr (0, 5), .inr (0, 5), .inr (0, 5), .inr (0, 5), .inr (0, 5), .inr (0, 5), .inr (0, 5), .inl (3, fk3), .inr (0, 5), .inr (0, 5), .inr (0, 5), .inr (0, 5), .inr (0, 5), .inr (0, 5), .inr (0, 5), .inr (0, 5), .inr (0, 5), .inl (4, fk4), .inl (3, fk3), .inr (0, 5), .inr (0, 5), .inr (0, 5), .inr (0, 5), .inr (0, 5), .inr (0, 5), .inr (0, 5), .inr (0, 5), .inr (0, 5), .inr (0, 5), .inl (1, fk1), .inr (0, 20), .inr (0, 5), .inr (0, 5), .inl (6, fk6), .inr (0, 5), .inr (0, 5), .inl (7, fk7), .inl (10, fk10), .inr (0, 900), .inr (0, 8), .inr (0, 141), .inr (0, 141), .inr (0, 44), .inr (0, 176), .inr (0, 30), .inr (0, 30), .inr (0, 30), .inr (0, 5), .inr (0, 5), .inr (0, 5), .inr (0, 20), .inr (0, 5), .inr (2, 1)]
def LY (q : Nat) : Kd := (lyl[q]?).getD (.inr (9, 0))
theorem LY_lt {q : Nat} {k : Kd} (h : LY q = k) (hk : k ≠ .inr (9, 0)) : q < 97 := by
  rcases Nat.lt_or_ge q 97 with h1 | h1
  · exact h1
  · exact absurd (by rw [← h, LY, List.getElem?_eq_none (by exact h1)]; rfl) hk
theorem LY_o {q ci : Nat} {fs : List Fk} (h : LY q = .inl (ci, fs)) : q < 97 := LY_lt h (by simp)
theorem LY_a {q t n : Nat} (h : LY q = .inr (t, n)) (ht : t < 5) : q < 97 := LY_lt h (by intro e; injection e with e; injection e with e; omega)
def alen (q : Nat) : Nat := match LY q with
  | .inr a => a.2
  | .inl _ => 0
theorem al_of {q t n : Nat} (h : LY q = .inr (t, n)) : LY q = .inr (t, alen q) := by rw [alen, h]
def isO (ci q : Nat) : Bool := match LY q with
  | .inl o => o.1 == ci
  | .inr _ => false
theorem isO_of {q ci : Nat} {fs : List Fk} (h : LY q = .inl (ci, fs)) : isO ci q = true := by simp [isO, h]
theorem isG {q : Nat} (h : LY q = .inl (0, fk0)) : q = 1 ∨ q = 8 := (by decide +kernel : ∀ q, q < 97 → isO 0 q = true → q = 1 ∨ q = 8) q (LY_o h) (isO_of h)
theorem isP {q : Nat} (h : LY q = .inl (3, fk3)) : q = 20 ∨ q = 31 ∨ q = 41 ∨ q = 51 ∨ q = 62 := (by decide +kernel : ∀ q, q < 97 → isO 3 q = true → q = 20 ∨ q = 31 ∨ q = 41 ∨ q = 51 ∨ q = 62) q (LY_o h) (isO_of h)
theorem aX0_1 {q : Nat} (h : LY q = .inl (0, fk0)) : LY (q + 1) = .inr (0, 5) := by rcases isG h with rfl | rfl <;> rfl
theorem aX0_2 {q : Nat} (h : LY q = .inl (0, fk0)) : LY (q + 2) = .inr (0, 5) := by rcases isG h with rfl | rfl <;> rfl
theorem aX0_3 {q : Nat} (h : LY q = .inl (0, fk0)) : LY (q + 3) = .inr (0, 20) := by rcases isG h with rfl | rfl <;> rfl
theorem aX0_4 {q : Nat} (h : LY q = .inl (0, fk0)) : LY (q + 4) = .inr (0, 5) := by rcases isG h with rfl | rfl <;> rfl
theorem aX0_5 {q : Nat} (h : LY q = .inl (0, fk0)) : LY (q + 5) = .inr (0, 20) := by rcases isG h with rfl | rfl <;> rfl
theorem aX0_6 {q : Nat} (h : LY q = .inl (0, fk0)) : LY (q + 6) = .inr (0, 35) := by rcases isG h with rfl | rfl <;> rfl
theorem aX3_1 {q : Nat} (h : LY q = .inl (3, fk3)) : LY (q + 1) = .inr (0, 5) := by rcases isP h with rfl | rfl | rfl | rfl | rfl <;> rfl
theorem aX3_2 {q : Nat} (h : LY q = .inl (3, fk3)) : LY (q + 2) = .inr (0, 5) := by rcases isP h with rfl | rfl | rfl | rfl | rfl <;> rfl
theorem aX3_3 {q : Nat} (h : LY q = .inl (3, fk3)) : LY (q + 3) = .inr (0, 5) := by rcases isP h with rfl | rfl | rfl | rfl | rfl <;> rfl
theorem aX3_4 {q : Nat} (h : LY q = .inl (3, fk3)) : LY (q + 4) = .inr (0, 5) := by rcases isP h with rfl | rfl | rfl | rfl | rfl <;> rfl
theorem aX3_5 {q : Nat} (h : LY q = .inl (3, fk3)) : LY (q + 5) = .inr (0, 5) := by rcases isP h with rfl | rfl | rfl | rfl | rfl <;> rfl
theorem aX3_6 {q : Nat} (h : LY q = .inl (3, fk3)) : LY (q + 6) = .inr (0, 5) := by rcases isP h with rfl | rfl | rfl | rfl | rfl <;> rfl
theorem aX3_7 {q : Nat} (h : LY q = .inl (3, fk3)) : LY (q + 7) = .inr (0, 5) := by rcases isP h with rfl | rfl | rfl | rfl | rfl <;> rfl
theorem aX3_8 {q : Nat} (h : LY q = .inl (3, fk3)) : LY (q + 8) = .inr (0, 5) := by rcases isP h with rfl | rfl | rfl | rfl | rfl <;> rfl
theorem aX3_9 {q : Nat} (h : LY q = .inl (3, fk3)) : LY (q + 9) = .inr (0, 5) := by rcases isP h with rfl | rfl | rfl | rfl | rfl <;> rfl
theorem okX0 : clsOK 0 RX0 TX0 15 := by
  refine ⟨rfl, ?_, tyX0, tyX0_ok, nmX0⟩
  intro w hw
  obtain ⟨k, hk, rfl⟩ := List.mem_map.mp hw
  have hk : k < 15 := List.mem_range.mp hk
  match k, hk with
  | 0, _ => exact big_at 157 (by decide +kernel) rfl
  | 1, _ => exact big_at 159 (by decide +kernel) rfl
  | 2, _ => exact big_at 161 (by decide +kernel) rfl
  | 3, _ => exact big_at 163 (by decide +kernel) rfl
  | 4, _ => exact big_at 165 (by decide +kernel) rfl
  | 5, _ => exact big_at 167 (by decide +kernel) rfl
  | 6, _ => exact big_at 169 (by decide +kernel) rfl
  | 7, _ => exact big_at 171 (by decide +kernel) rfl
  | 8, _ => exact big_at 173 (by decide +kernel) rfl
  | 9, _ => exact big_at 175 (by decide +kernel) rfl
  | 10, _ => exact big_at 177 (by decide +kernel) rfl
  | 11, _ => exact big_at 179 (by decide +kernel) rfl
  | 12, _ => exact big_at 181 (by decide +kernel) rfl
  | 13, _ => exact big_at 183 (by decide +kernel) rfl
  | 14, _ => exact big_at 185 (by decide +kernel) rfl
theorem okX1 : clsOK 1 RX1 TX1 4 := by
  refine ⟨rfl, ?_, tyX1, tyX1_ok, nmX1⟩
  intro w hw
  obtain ⟨k, hk, rfl⟩ := List.mem_map.mp hw
  have hk : k < 4 := List.mem_range.mp hk
  match k, hk with
  | 0, _ => exact big_at 364 (by decide +kernel) rfl
  | 1, _ => exact big_at 366 (by decide +kernel) rfl
  | 2, _ => exact big_at 368 (by decide +kernel) rfl
  | 3, _ => exact big_at 370 (by decide +kernel) rfl
theorem okX3 : clsOK 3 RX3 TX3 15 := by
  refine ⟨rfl, ?_, tyX3, tyX3_ok, nmX3⟩
  intro w hw
  obtain ⟨k, hk, rfl⟩ := List.mem_map.mp hw
  have hk : k < 15 := List.mem_range.mp hk
  match k, hk with
  | 0, _ => exact big_at 292 (by decide +kernel) rfl
  | 1, _ => exact big_at 294 (by decide +kernel) rfl
  | 2, _ => exact big_at 296 (by decide +kernel) rfl
  | 3, _ => exact big_at 298 (by decide +kernel) rfl
  | 4, _ => exact big_at 300 (by decide +kernel) rfl
  | 5, _ => exact big_at 302 (by decide +kernel) rfl
  | 6, _ => exact big_at 304 (by decide +kernel) rfl
  | 7, _ => exact big_at 306 (by decide +kernel) rfl
  | 8, _ => exact big_at 308 (by decide +kernel) rfl
  | 9, _ => exact big_at 310 (by decide +kernel) rfl
  | 10, _ => exact big_at 312 (by decide +kernel) rfl
  | 11, _ => exact big_at 314 (by decide +kernel) rfl
  | 12, _ => exact big_at 316 (by decide +kernel) rfl
  | 13, _ => exact big_at 318 (by decide +kernel) rfl
  | 14, _ => exact big_at 320 (by decide +kernel) rfl
theorem okX4 : clsOK 4 RX4 TX4 5 := by
  refine ⟨rfl, ?_, tyX4, tyX4_ok, nmX4⟩
  intro w hw
  obtain ⟨k, hk, rfl⟩ := List.mem_map.mp hw
  have hk : k < 5 := List.mem_range.mp hk
  match k, hk with
  | 0, _ => exact big_at 341 (by decide +kernel) rfl
  | 1, _ => exact big_at 343 (by decide +kernel) rfl
  | 2, _ => exact big_at 345 (by decide +kernel) rfl
  | 3, _ => exact big_at 347 (by decide +kernel) rfl
  | 4, _ => exact big_at 349 (by decide +kernel) rfl
theorem okX5 : clsOK 5 RX5 TX5 7 := by
  refine ⟨rfl, ?_, tyX5, tyX5_ok, nmX5⟩
  intro w hw
  obtain ⟨k, hk, rfl⟩ := List.mem_map.mp hw
  have hk : k < 7 := List.mem_range.mp hk
  match k, hk with
  | 0, _ => exact big_at 238 (by decide +kernel) rfl
  | 1, _ => exact big_at 240 (by decide +kernel) rfl
  | 2, _ => exact big_at 242 (by decide +kernel) rfl
  | 3, _ => exact big_at 244 (by decide +kernel) rfl
  | 4, _ => exact big_at 246 (by decide +kernel) rfl
  | 5, _ => exact big_at 248 (by decide +kernel) rfl
  | 6, _ => exact big_at 250 (by decide +kernel) rfl
theorem okX6 : clsOK 6 RX6 TX6 4 := by
  refine ⟨rfl, ?_, tyX6, tyX6_ok, nmX6⟩
  intro w hw
  obtain ⟨k, hk, rfl⟩ := List.mem_map.mp hw
  have hk : k < 4 := List.mem_range.mp hk
  match k, hk with
  | 0, _ => exact big_at 385 (by decide +kernel) rfl
  | 1, _ => exact big_at 387 (by decide +kernel) rfl
  | 2, _ => exact big_at 389 (by decide +kernel) rfl
  | 3, _ => exact big_at 391 (by decide +kernel) rfl
theorem okX7 : clsOK 7 RX7 TX7 3 := by
  refine ⟨rfl, ?_, tyX7, tyX7_ok, nmX7⟩
  intro w hw
  obtain ⟨k, hk, rfl⟩ := List.mem_map.mp hw
  have hk : k < 3 := List.mem_range.mp hk
  match k, hk with
  | 0, _ => exact big_at 406 (by decide +kernel) rfl
  | 1, _ => exact big_at 408 (by decide +kernel) rfl
  | 2, _ => exact big_at 410 (by decide +kernel) rfl
theorem okX8 : clsOK 8 RX8 TX8 7 := by
  refine ⟨rfl, ?_, tyX8, tyX8_ok, nmX8⟩
  intro w hw
  obtain ⟨k, hk, rfl⟩ := List.mem_map.mp hw
  have hk : k < 7 := List.mem_range.mp hk
  match k, hk with
  | 0, _ => exact big_at 207 (by decide +kernel) rfl
  | 1, _ => exact big_at 209 (by decide +kernel) rfl
  | 2, _ => exact big_at 211 (by decide +kernel) rfl
  | 3, _ => exact big_at 213 (by decide +kernel) rfl
  | 4, _ => exact big_at 215 (by decide +kernel) rfl
  | 5, _ => exact big_at 217 (by decide +kernel) rfl
  | 6, _ => exact big_at 219 (by decide +kernel) rfl
theorem okX9 : clsOK 9 RX9 TX9 14 := by
  refine ⟨rfl, ?_, tyX9, tyX9_ok, nmX9⟩
  intro w hw
  obtain ⟨k, hk, rfl⟩ := List.mem_map.mp hw
  have hk : k < 14 := List.mem_range.mp hk
  match k, hk with
  | 0, _ => exact big_at 427 (by decide +kernel) rfl
  | 1, _ => exact big_at 429 (by decide +kernel) rfl
  | 2, _ => exact big_at 431 (by decide +kernel) rfl
  | 3, _ => exact big_at 433 (by decide +kernel) rfl
  | 4, _ => exact big_at 435 (by decide +kernel) rfl
  | 5, _ => exact big_at 437 (by decide +kernel) rfl
  | 6, _ => exact big_at 439 (by decide +kernel) rfl
  | 7, _ => exact big_at 441 (by decide +kernel) rfl
  | 8, _ => exact big_at 443 (by decide +kernel) rfl
  | 9, _ => exact big_at 445 (by decide +kernel) rfl
  | 10, _ => exact big_at 447 (by decide +kernel) rfl
  | 11, _ => exact big_at 449 (by decide +kernel) rfl
  | 12, _ => exact big_at 451 (by decide +kernel) rfl
  | 13, _ => exact big_at 453 (by decide +kernel) rfl
theorem okX10 : clsOK 10 RX10 TX10 33 := by
  refine ⟨rfl, ?_, tyX10, tyX10_ok, nmX10⟩
  intro w hw
  obtain ⟨k, hk, rfl⟩ := List.mem_map.mp hw
  have hk : k < 33 := List.mem_range.mp hk
  match k, hk with
  | 0, _ => exact big_at 1302 (by decide +kernel) rfl
  | 1, _ => exact big_at 1304 (by decide +kernel) rfl
  | 2, _ => exact big_at 1306 (by decide +kernel) rfl
  | 3, _ => exact big_at 1308 (by decide +kernel) rfl
  | 4, _ => exact big_at 1310 (by decide +kernel) rfl
  | 5, _ => exact big_at 1312 (by decide +kernel) rfl
  | 6, _ => exact big_at 1314 (by decide +kernel) rfl
  | 7, _ => exact big_at 1316 (by decide +kernel) rfl
  | 8, _ => exact big_at 1318 (by decide +kernel) rfl
  | 9, _ => exact big_at 1320 (by decide +kernel) rfl
  | 10, _ => exact big_at 1322 (by decide +kernel) rfl
  | 11, _ => exact big_at 1324 (by decide +kernel) rfl
  | 12, _ => exact big_at 1326 (by decide +kernel) rfl
  | 13, _ => exact big_at 1328 (by decide +kernel) rfl
  | 14, _ => exact big_at 1330 (by decide +kernel) rfl
  | 15, _ => exact big_at 1332 (by decide +kernel) rfl
  | 16, _ => exact big_at 1334 (by decide +kernel) rfl
  | 17, _ => exact big_at 1336 (by decide +kernel) rfl
  | 18, _ => exact big_at 1338 (by decide +kernel) rfl
  | 19, _ => exact big_at 1340 (by decide +kernel) rfl
  | 20, _ => exact big_at 1342 (by decide +kernel) rfl
  | 21, _ => exact big_at 1344 (by decide +kernel) rfl
  | 22, _ => exact big_at 1346 (by decide +kernel) rfl
  | 23, _ => exact big_at 1348 (by decide +kernel) rfl
  | 24, _ => exact big_at 1350 (by decide +kernel) rfl
  | 25, _ => exact big_at 1352 (by decide +kernel) rfl
  | 26, _ => exact big_at 1354 (by decide +kernel) rfl
  | 27, _ => exact big_at 1356 (by decide +kernel) rfl
  | 28, _ => exact big_at 1358 (by decide +kernel) rfl
  | 29, _ => exact big_at 1360 (by decide +kernel) rfl
  | 30, _ => exact big_at 1362 (by decide +kernel) rfl
  | 31, _ => exact big_at 1364 (by decide +kernel) rfl
  | 32, _ => exact big_at 1366 (by decide +kernel) rfl
  | k + 33, h => exact absurd h (by omega)
def PI (r : Int32) (M' : Mm) : Option Value → Nat → Mm → Prop := fun v n' M'' => v = some (.int r) ∧ n' = 97 ∧ M'' = M'
def PL (r : Int64) (M' : Mm) : Option Value → Nat → Mm → Prop := fun v n' M'' => v = some (.long r) ∧ n' = 97 ∧ M'' = M'
def PV (M' : Mm) : Option Value → Nat → Mm → Prop := fun v n' M'' => v = none ∧ n' = 97 ∧ M'' = M'
theorem pi_of {v r : Int32} {M M' : Mm} (h : some (v, M) = some (r, M')) : PI r M' (some (.int v)) 97 M := by cases h; exact ⟨rfl, rfl, rfl⟩
theorem pl_of {v r : Int64} {M M' : Mm} (h : some (v, M) = some (r, M')) : PL r M' (some (.long v)) 97 M := by cases h; exact ⟨rfl, rfl, rfl⟩
theorem pv_of {M M' : Mm} (h : some M = some M') : PV M' none 97 M := by cases h; exact ⟨rfl, rfl, rfl⟩
/-! the trees' small functions -/
def N0 : Nat := 1000000
def gd {α : Type} (b : Bool) (k : Option α) : Option α := if b = true then k else none
theorem gd_s {α : Type} {b : Bool} {k : Option α} {r : α} (h : gd b k = some r) : b = true ∧ k = some r := by
  unfold gd at h
  split at h
  · exact ⟨‹_›, h⟩
  · cases h
def bd {α β : Type} (x : Option (α × Mm)) (k : α → Mm → Option β) : Option β := match x with
  | none => none
  | some p => k p.1 p.2
theorem bd_e {α β : Type} {x : Option (α × Mm)} {k : α → Mm → Option β} {r : β} (h : bd x k = some r) : ∃ a m, x = some (a, m) ∧ k a m = some r := by
  cases x with
  | none => cases h
  | some p => exact ⟨p.1, p.2, rfl, h⟩
def bv {β : Type} (x : Option Mm) (k : Mm → Option β) : Option β := match x with
  | none => none
  | some p => k p
theorem bv_e {β : Type} {x : Option Mm} {k : Mm → Option β} {r : β} (h : bv x k = some r) : ∃ m, x = some m ∧ k m = some r := by
  cases x with
  | none => cases h
  | some p => exact ⟨p, rfl, h⟩
def lt {α β : Type} (a : α) (k : α → Option β) : Option β := k a
theorem lt_e {α β : Type} {a : α} {k : α → Option β} {r : β} (h : lt a k = some r) : ∃ x, x = a ∧ k x = some r := ⟨a, rfl, h⟩
def jn {α β : Type} (k : α) (f : α → Option β) : Option β := f k
theorem jn_e {α β : Type} {k : α} {f : α → Option β} {r : β} (h : jn k f = some r) : ∃ j, j = k ∧ f j = some r := ⟨k, rfl, h⟩
def inb (i : Int32) (n : Nat) : Bool := decide (0 ≤ i.toInt ∧ i.toInt < n)
theorem inb_vp {i : Int32} {n : Nat} (h : inb i n = true) : vp_in i n := vp_in_iff.mpr (by simpa [inb] using h)
def zo (v : Int32) : Bool := v == 0 || v == 1
theorem zo_s {v : Int32} (h : zo v = true) : v = 0 ∨ v = 1 := by simpa [zo] using h
theorem nar_zo {v : Int32} (h : zo v = true) : narrow .boolean (.int v) = .int v := by rcases zo_s h with rfl | rfl <;> rfl
def nzi (v : Int32) : Bool := v != 0
theorem nzi_s {v : Int32} (h : nzi v = true) : ¬ v = 0 := by simpa [nzi] using h
def nzl (v : Int64) : Bool := v != 0
theorem nzl_s {v : Int64} (h : nzl v = true) : ¬ v = 0 := by simpa [nzl] using h
/-- the GAME that a field names -/
def bg {β : Type} (x : Int32) (k : Nat → Option β) : Option β := if x = 1 then k 1 else if x = 8 then k 8 else none
theorem bg_e {β : Type} {x : Int32} {k : Nat → Option β} {r : β} (h : bg x k = some r) : ∃ g, x = nI g ∧ LY g = .inl (0, fk0) ∧ k g = some r := by
  unfold bg at h
  split at h
  · exact ⟨1, ‹_›, rfl, h⟩
  · split at h
    · exact ⟨8, ‹_›, rfl, h⟩
    · cases h
/-- the play that a mark names -/
def bp {β : Type} (x : Nat) (k : Nat → Option β) : Option β := if x = 31 then k 31 else if x = 41 then k 41 else if x = 51 then k 51 else none
theorem bp_e {β : Type} {x : Nat} {k : Nat → Option β} {r : β} (h : bp x k = some r) : ∃ g, g = x ∧ LY g = .inl (3, fk3) ∧ k g = some r := by
  unfold bp at h
  split at h
  · exact ⟨31, (‹x = 31›).symm, rfl, h⟩
  · split at h
    · exact ⟨41, (‹x = 41›).symm, rfl, h⟩
    · split at h
      · exact ⟨51, (‹x = 51›).symm, rfl, h⟩
      · cases h
theorem ite_p {α : Type} {c : Prop} [Decidable c] {a b : Option α} {r : α} (hc : c) (h : (if c then a else b) = some r) : a = some r := by rwa [if_pos hc] at h
theorem ite_n {α : Type} {c : Prop} [Decidable c] {a b : Option α} {r : α} (hc : ¬ c) (h : (if c then a else b) = some r) : b = some r := by rwa [if_neg hc] at h
section Main
variable {l : Launch} {B : BT} {d mc ms cells slots : Nat} {my : MethodName} {cc : ByteArray} {nL : Nat} {ret : Option FieldType} {Po : Option Value → Nat → Mm → Prop} {pc : Nat} {lv lv' : List (Nat × Value)} {st : List Value} {M : Mm}
theorem g_sub {Ly : Nat → Kd} {n : Nat} (ks : List Nat) (h : lv_pick lv ks = lv') (k : GG l B Ly d my cc nL ret mc ms Po n cells slots pc lv' st M) : GG l B Ly d my cc nL ret mc ms Po n cells slots pc lv st M := by
  intro p e s m args below meth c H locs ls F S P V Z hl
  refine k p e s m args below meth c H locs ls F S P V Z (lv_sub hl ks ?_)
  rw [← h, lv_pick, lv_pick, cvL, cvL, List.map_filterMap]
  simp
theorem g_cuti {x a : Int32} (e : x = a) (k : GG l B LY d my cc nL ret mc ms Po 97 cells slots pc lv (.int x :: st) M) : GG l B LY d my cc nL ret mc ms Po 97 cells slots pc lv (.int a :: st) M := e ▸ k
theorem g_cutl {x a : Int64} (e : x = a) (k : GG l B LY d my cc nL ret mc ms Po 97 cells slots pc lv (.long x :: st) M) : GG l B LY d my cc nL ret mc ms Po 97 cells slots pc lv (.long a :: st) M := e ▸ k
theorem m_geti {z : Nat} {ci : Nat} {C : String} {T : u_T} {N i q : Nat} {fks : List Fk} (k : Nat) (hc : clsOK ci C T N) (hL : LY q = .inl (ci, fks)) (hf : fks[k]? = some (0, z)) (hk : k < N) (hw : Cond.fieldLink my.cls i C (T k).2.1 (T k).2.2.1 ∈ lw_big) (hr : (T k).1 = C) (hd : decode cc pc = .ok (.getfield i, 3)) (kk : GG l B LY d my cc nL ret mc ms Po 97 cells slots (pc + 3) lv (.int (M q k) :: st) M) : GG l B LY d my cc nL ret mc ms Po 97 cells slots pc lv (.ref q :: st) M := g_geti hc (LY_o hL) hL hf hk hw hr hd kk
theorem m_getr {z : Nat} {ci : Nat} {C : String} {T : u_T} {N i q : Nat} {fks : List Fk} (k : Nat) (hc : clsOK ci C T N) (hL : LY q = .inl (ci, fks)) (hf : fks[k]? = some (2, z)) (hk : k < N) (hw : Cond.fieldLink my.cls i C (T k).2.1 (T k).2.2.1 ∈ lw_big) (hr : (T k).1 = C) (hd : decode cc pc = .ok (.getfield i, 3)) (kk : GG l B LY d my cc nL ret mc ms Po 97 cells slots (pc + 3) lv (.ref (q + z) :: st) M) : GG l B LY d my cc nL ret mc ms Po 97 cells slots pc lv (.ref q :: st) M := g_getr hc (LY_o hL) hL hf hk hw hr hd kk
theorem m_geta {z : Nat} {ci : Nat} {C : String} {T : u_T} {N i q : Nat} {fks : List Fk} (k : Nat) (hc : clsOK ci C T N) (hL : LY q = .inl (ci, fks)) (hf : fks[k]? = some (3, z)) (hk : k < N) (hw : Cond.fieldLink my.cls i C (T k).2.1 (T k).2.2.1 ∈ lw_big) (hr : (T k).1 = C) (hd : decode cc pc = .ok (.getfield i, 3)) (kk : GG l B LY d my cc nL ret mc ms Po 97 cells slots (pc + 3) lv (.ref z :: st) M) : GG l B LY d my cc nL ret mc ms Po 97 cells slots pc lv (.ref q :: st) M := g_geta hc (LY_o hL) hL hf hk hw hr hd kk
theorem LY_pos {q : Nat} (h : LY q = .inl (0, fk0)) : 0 < q := by
  rcases isG h with rfl | rfl <;> decide
theorem m_getm {z q' : Nat} {ci : Nat} {C : String} {T : u_T} {N i q : Nat} {fks : List Fk} (k : Nat) (hc : clsOK ci C T N) (hL : LY q = .inl (ci, fks)) (hf : fks[k]? = some (1, z)) (hk : k < N) (hw : Cond.fieldLink my.cls i C (T k).2.1 (T k).2.2.1 ∈ lw_big) (hr : (T k).1 = C) (hd : decode cc pc = .ok (.getfield i, 3)) (hm : M q k = nI q') (hg : LY q' = .inl (0, fk0)) (kk : GG l B LY d my cc nL ret mc ms Po 97 cells slots (pc + 3) lv (.ref q' :: st) M) : GG l B LY d my cc nL ret mc ms Po 97 cells slots pc lv (.ref q :: st) M := g_getm hc (LY_o hL) hL hf hk hw hr hd hm (LY_pos hg) (Nat.lt_trans (LY_o hg) (by decide)) kk
theorem m_puti {z : Nat} {x : Int32} {ci : Nat} {C : String} {T : u_T} {N i q : Nat} {fks : List Fk} (k : Nat) (hc : clsOK ci C T N) (hL : LY q = .inl (ci, fks)) (hf : fks[k]? = some (0, z)) (hk : k < N) (hw : Cond.fieldLink my.cls i C (T k).2.1 (T k).2.2.1 ∈ lw_big) (hr : (T k).1 = C) (hfin : (T k).2.2.2 = false) (hty : parseFieldDescriptor (T k).2.2.1 = some .int) (hd : decode cc pc = .ok (.putfield i, 3)) (kk : GG l B LY d my cc nL ret mc ms Po 97 cells slots (pc + 3) lv st (mset M q k x)) : GG l B LY d my cc nL ret mc ms Po 97 cells slots pc lv (.int x :: .ref q :: st) M := g_puti (by decide) hc (LY_o hL) hL hf hk hw hr hfin hty hd kk
theorem m_putz {z : Nat} {x : Int32} {ci : Nat} {C : String} {T : u_T} {N i q : Nat} {fks : List Fk} (k : Nat) (hc : clsOK ci C T N) (hL : LY q = .inl (ci, fks)) (hf : fks[k]? = some (0, z)) (hk : k < N) (hw : Cond.fieldLink my.cls i C (T k).2.1 (T k).2.2.1 ∈ lw_big) (hr : (T k).1 = C) (hfin : (T k).2.2.2 = false) (hty : parseFieldDescriptor (T k).2.2.1 = some .boolean) (hx : x = 0 ∨ x = 1) (hd : decode cc pc = .ok (.putfield i, 3)) (kk : GG l B LY d my cc nL ret mc ms Po 97 cells slots (pc + 3) lv st (mset M q k x)) : GG l B LY d my cc nL ret mc ms Po 97 cells slots pc lv (.int x :: .ref q :: st) M := g_putz (by decide) hc (LY_o hL) hL hf hk hw hr hfin hty hx hd kk
theorem m_putm {z q' : Nat} {ty : FieldType} {ci : Nat} {C : String} {T : u_T} {N i q : Nat} {fks : List Fk} (k : Nat) (hc : clsOK ci C T N) (hL : LY q = .inl (ci, fks)) (hf : fks[k]? = some (1, z)) (hk : k < N) (hw : Cond.fieldLink my.cls i C (T k).2.1 (T k).2.2.1 ∈ lw_big) (hr : (T k).1 = C) (hfin : (T k).2.2.2 = false) (hty : parseFieldDescriptor (T k).2.2.1 = some ty) (hs : (∃ s, ty = .object s) ∨ ∃ t, ty = .array t) (hg : LY q' = .inl (0, fk0)) (hd : decode cc pc = .ok (.putfield i, 3)) (kk : GG l B LY d my cc nL ret mc ms Po 97 cells slots (pc + 3) lv st (mset M q k (nI q'))) : GG l B LY d my cc nL ret mc ms Po 97 cells slots pc lv (.ref q' :: .ref q :: st) M := g_putm (by decide) hc (LY_o hL) hL hf hk hw hr (Or.inl hfin) hty hs (LY_pos hg) (Nat.lt_trans (LY_o hg) (by decide)) hd kk
theorem m_iald {q len : Nat} {i : Int32} (hL : LY q = .inr (0, len)) (hin : inb i len = true) (hd : decode cc pc = .ok (.iaload, 1)) (kk : GG l B LY d my cc nL ret mc ms Po 97 cells slots (pc + 1) lv (.int (M q i.toNatClampNeg) :: st) M) : GG l B LY d my cc nL ret mc ms Po 97 cells slots pc lv (.int i :: .ref q :: st) M := g_iald (LY_a hL (by decide)) hL (inb_vp hin) hd kk
theorem m_bald {q len : Nat} {i : Int32} (hL : LY q = .inr (1, len)) (hin : inb i len = true) (hd : decode cc pc = .ok (.baload, 1)) (kk : GG l B LY d my cc nL ret mc ms Po 97 cells slots (pc + 1) lv (.int (M q i.toNatClampNeg) :: st) M) : GG l B LY d my cc nL ret mc ms Po 97 cells slots pc lv (.int i :: .ref q :: st) M := g_bald (LY_a hL (by decide)) hL (inb_vp hin) hd kk
theorem m_aald {q len g : Nat} {i : Int32} (hL : LY q = .inr (4, len)) (hin : inb i len = true) (hd : decode cc pc = .ok (.aaload, 1)) (e : g = q + 1 + 10 * i.toNatClampNeg) (kk : GG l B LY d my cc nL ret mc ms Po 97 cells slots (pc + 1) lv (.ref g :: st) M) : GG l B LY d my cc nL ret mc ms Po 97 cells slots pc lv (.int i :: .ref q :: st) M := g_aald (LY_a hL (by decide)) hL (inb_vp hin) hd (e ▸ kk)
theorem m_iast {q len : Nat} {i x : Int32} (hA : bA B = false) (hL : LY q = .inr (0, len)) (hin : inb i len = true) (hd : decode cc pc = .ok (.iastore, 1)) (kk : GG l B LY d my cc nL ret mc ms Po 97 cells slots (pc + 1) lv st (mset M q i.toNatClampNeg x)) : GG l B LY d my cc nL ret mc ms Po 97 cells slots pc lv (.int x :: .int i :: .ref q :: st) M := g_iast (by decide) hA (LY_a hL (by decide)) hL (inb_vp hin) hd kk
theorem m_bast {q len : Nat} {i x : Int32} (hA : bA B = false) (hL : LY q = .inr (1, len)) (hin : inb i len = true) (hd : decode cc pc = .ok (.bastore, 1)) (kk : GG l B LY d my cc nL ret mc ms Po 97 cells slots (pc + 1) lv st (mset M q i.toNatClampNeg (vp_nar .byte x))) : GG l B LY d my cc nL ret mc ms Po 97 cells slots pc lv (.int x :: .int i :: .ref q :: st) M := g_bast (by decide) hA (LY_a hL (by decide)) hL (inb_vp hin) hd kk
theorem m_ialdL {q len k : Nat} {i : Int32} (hL : LY q = .inr (0, len)) (hin : inb i len = true) (hk : i.toNatClampNeg = k) (hd : decode cc pc = .ok (.iaload, 1)) (kk : GG l B LY d my cc nL ret mc ms Po 97 cells slots (pc + 1) lv (.int (M q k) :: st) M) : GG l B LY d my cc nL ret mc ms Po 97 cells slots pc lv (.int i :: .ref q :: st) M := m_iald hL hin hd (hk ▸ kk)
theorem m_iastL {q len k : Nat} {i x : Int32} (hA : bA B = false) (hL : LY q = .inr (0, len)) (hin : inb i len = true) (hk : i.toNatClampNeg = k) (hd : decode cc pc = .ok (.iastore, 1)) (kk : GG l B LY d my cc nL ret mc ms Po 97 cells slots (pc + 1) lv st (mset M q k x)) : GG l B LY d my cc nL ret mc ms Po 97 cells slots pc lv (.int x :: .int i :: .ref q :: st) M := m_iast hA hL hin hd (hk ▸ kk)
theorem m_alen {q t len : Nat} {v : Int32} (hL : LY q = .inr (t, len)) (ht : t < 5) (hv : nI len = v) (hd : decode cc pc = .ok (.arraylength, 1)) (kk : GG l B LY d my cc nL ret mc ms Po 97 cells slots (pc + 1) lv (.int v :: st) M) : GG l B LY d my cc nL ret mc ms Po 97 cells slots pc lv (.ref q :: st) M := g_alen (LY_a hL ht) hL ht hv hd kk
theorem m_mmax {x y : Int32} {i : Nat} (hlink : Cond.methodLink my.cls i Lib.Math.max.name ∈ lw_big) (hstat : Cond.static Lib.Math.max.name ∈ lw_big) (hini : Cond.initialized "java/lang/Math" ∈ lw_big) (hcode : Cond.code Lib.Math.max.name Lib.Math.max.code 2 (some .int) ∈ lw_big) (hst : (st.map fun v => v.category).sum ≤ 8) (hd : decode cc pc = .ok (.invokestatic i, 3))
    (kk : GG l B LY (d + 1) my cc nL ret mc ms Po 97 cells slots (pc + 3) lv (.int (if x < y then y else x) :: st) M) (hcs : cells ≤ mc ∧ slots ≤ ms := by exact ⟨Nat.le_refl _, Nat.le_refl _⟩) : GG l B LY (d + 1) my cc nL ret mc ms Po 97 cells slots pc lv (.int y :: .int x :: st) M := by
  intro p e s m args below meth c H locs ls F S P V Z hl
  have hts := F.2.2.2.2.1
  exact va_mmax F.1 F.2.1 (F.2.2.1.trans hl.1.symm) F.2.2.2.1 (hts _ hlink) (hts _ hstat) (hts _ hini) (hts _ hcode) (Nat.succ_le_succ (Nat.zero_le _)) (by rw [cats_cv]; show _ ≤ 35 * (d + 1) + 34; omega) hcs.1 hcs.2 hd (kk p e s m args below meth c H locs ls F S P V Z hl)
theorem m_mmin {x y : Int32} {i : Nat} (hlink : Cond.methodLink my.cls i Lib.Math.min.name ∈ lw_big) (hstat : Cond.static Lib.Math.min.name ∈ lw_big) (hini : Cond.initialized "java/lang/Math" ∈ lw_big) (hcode : Cond.code Lib.Math.min.name Lib.Math.min.code 2 (some .int) ∈ lw_big) (hst : (st.map fun v => v.category).sum ≤ 8) (hd : decode cc pc = .ok (.invokestatic i, 3))
    (kk : GG l B LY (d + 1) my cc nL ret mc ms Po 97 cells slots (pc + 3) lv (.int (if y < x then y else x) :: st) M) (hcs : cells ≤ mc ∧ slots ≤ ms := by exact ⟨Nat.le_refl _, Nat.le_refl _⟩) : GG l B LY (d + 1) my cc nL ret mc ms Po 97 cells slots pc lv (.int y :: .int x :: st) M := by
  intro p e s m args below meth c H locs ls F S P V Z hl
  have hts := F.2.2.2.2.1
  exact va_mmin F.1 F.2.1 (F.2.2.1.trans hl.1.symm) F.2.2.2.1 (hts _ hlink) (hts _ hstat) (hts _ hini) (hts _ hcode) (Nat.succ_le_succ (Nat.zero_le _)) (by rw [cats_cv]; show _ ≤ 35 * (d + 1) + 34; omega) hcs.1 hcs.2 hd (kk p e s m args below meth c H locs ls F S P V Z hl)
theorem m_mabs {x : Int32} {i : Nat} (hlink : Cond.methodLink my.cls i Lib.Math.abs.name ∈ lw_big) (hstat : Cond.static Lib.Math.abs.name ∈ lw_big) (hini : Cond.initialized "java/lang/Math" ∈ lw_big) (hcode : Cond.code Lib.Math.abs.name Lib.Math.abs.code 1 (some .int) ∈ lw_big) (hst : (st.map fun v => v.category).sum ≤ 8) (hd : decode cc pc = .ok (.invokestatic i, 3))
    (kk : GG l B LY (d + 1) my cc nL ret mc ms Po 97 cells slots (pc + 3) lv (.int (if 0 ≤ x then x else 0 - x) :: st) M) (hcs : cells ≤ mc ∧ slots ≤ ms := by exact ⟨Nat.le_refl _, Nat.le_refl _⟩) : GG l B LY (d + 1) my cc nL ret mc ms Po 97 cells slots pc lv (.int x :: st) M := by
  intro p e s m args below meth c H locs ls F S P V Z hl
  have hts := F.2.2.2.2.1
  exact va_mabs F.1 F.2.1 (F.2.2.1.trans hl.1.symm) F.2.2.2.1 (hts _ hlink) (hts _ hstat) (hts _ hini) (hts _ hcode) (Nat.succ_le_succ (Nat.zero_le _)) (by rw [cats_cv]; show _ ≤ 35 * (d + 1) + 34; omega) hcs.1 hcs.2 hd (kk p e s m args below meth c H locs ls F S P V Z hl)
/-- what the caller needs of a callee -/
def CKV (y : MethodName) (bytes : ByteArray) (nL' : Nat) (ret' : Option FieldType) (na : Nat) : Prop := nmOK y na ∧ Cond.code y bytes nL' ret' ∈ lw_big ∧ Cond.initialized y.cls ∈ lw_big ∧ (Cond.instanceMethod y ∈ lw_big ∧ Cond.selects y.cls y y ∈ lw_big) ∧ nL' ≤ 16
def CKS (y : MethodName) (bytes : ByteArray) (nL' : Nat) (ret' : Option FieldType) (na : Nat) : Prop := nmOK y na ∧ Cond.code y bytes nL' ret' ∈ lw_big ∧ Cond.initialized y.cls ∈ lw_big ∧ Cond.static y ∈ lw_big ∧ nL' ≤ 16
theorem m_callVi {y : MethodName} {bytes : ByteArray} {nL' na i q ci N : Nat} {T : u_T} {fks : List Fk} {ret' : Option FieldType} {As st : List Value} {r : Int32} {M' : Mm} (hc : Con l B LY d y bytes nL' ret' 0 0 (.ref q :: As) 97 M (PI r M')) (hL : LY q = .inl (ci, fks)) (hcl : clsOK ci y.cls T N) (ck : CKV y bytes nL' ret' na) (hlink : Cond.methodLink my.cls i y ∈ lw_big) (hn : As.length = na) (hst : (st.map fun v => v.category).sum ≤ 8) (hd : decode cc pc = .ok (.invokevirtual i, 3))
    (kk : GG l B LY (d + 1) my cc nL ret mc ms Po 97 cells slots (pc + 3) lv (.int r :: st) M') (hcs : cells ≤ mc ∧ slots ≤ ms := by exact ⟨Nat.le_refl _, Nat.le_refl _⟩) : GG l B LY (d + 1) my cc nL ret mc ms Po 97 cells slots pc lv (As.reverse ++ .ref q :: st) M :=
  g_callV hc (LY_o hL) hL hcl ck.1 ck.2.1 ck.2.2.1 hlink ck.2.2.2.1.1 ck.2.2.2.1.2 hn ck.2.2.2.2 hst hcs hd (fun v n' M'' h => by obtain ⟨rfl, rfl, rfl⟩ := h; exact kk)
theorem m_callSi {y : MethodName} {bytes : ByteArray} {nL' na i : Nat} {ret' : Option FieldType} {As st : List Value} {r : Int32} {M' : Mm} (hc : Con l B LY d y bytes nL' ret' 0 0 As 97 M (PI r M')) (ck : CKS y bytes nL' ret' na) (hlink : Cond.methodLink my.cls i y ∈ lw_big) (hn : As.length = na) (hst : (st.map fun v => v.category).sum ≤ 8) (hd : decode cc pc = .ok (.invokestatic i, 3))
    (kk : GG l B LY (d + 1) my cc nL ret mc ms Po 97 cells slots (pc + 3) lv (.int r :: st) M') (hcs : cells ≤ mc ∧ slots ≤ ms := by exact ⟨Nat.le_refl _, Nat.le_refl _⟩) : GG l B LY (d + 1) my cc nL ret mc ms Po 97 cells slots pc lv (As.reverse ++ st) M :=
  g_callS hc ck.1 ck.2.1 ck.2.2.1 hlink ck.2.2.2.1 hn ck.2.2.2.2 hst hcs hd (fun v n' M'' h => by obtain ⟨rfl, rfl, rfl⟩ := h; exact kk)
theorem m_callNi {y : MethodName} {bytes : ByteArray} {nL' na i : Nat} {ret' : Option FieldType} {As st : List Value} {r : Int32} {M' : Mm} {host : String} (hc : Con l B LY d y bytes nL' ret' 0 0 As 97 M (PI r M')) (ck : CKS y bytes nL' ret' na) (hlink : (my.cls, i, y, host) ∈ nestq) (hn : As.length = na) (hst : (st.map fun v => v.category).sum ≤ 8) (hd : decode cc pc = .ok (.invokestatic i, 3))
    (kk : GG l B LY (d + 1) my cc nL ret mc ms Po 97 cells slots (pc + 3) lv (.int r :: st) M') (hcs : cells ≤ mc ∧ slots ≤ ms := by exact ⟨Nat.le_refl _, Nat.le_refl _⟩) : GG l B LY (d + 1) my cc nL ret mc ms Po 97 cells slots pc lv (As.reverse ++ st) M :=
  g_callSN hc ck.1 ck.2.1 ck.2.2.1 hlink ck.2.2.2.1 hn ck.2.2.2.2 hst hcs hd (fun v n' M'' h => by obtain ⟨rfl, rfl, rfl⟩ := h; exact kk)
theorem m_callVl {y : MethodName} {bytes : ByteArray} {nL' na i q ci N : Nat} {T : u_T} {fks : List Fk} {ret' : Option FieldType} {As st : List Value} {r : Int64} {M' : Mm} (hc : Con l B LY d y bytes nL' ret' 0 0 (.ref q :: As) 97 M (PL r M')) (hL : LY q = .inl (ci, fks)) (hcl : clsOK ci y.cls T N) (ck : CKV y bytes nL' ret' na) (hlink : Cond.methodLink my.cls i y ∈ lw_big) (hn : As.length = na) (hst : (st.map fun v => v.category).sum ≤ 8) (hd : decode cc pc = .ok (.invokevirtual i, 3))
    (kk : GG l B LY (d + 1) my cc nL ret mc ms Po 97 cells slots (pc + 3) lv (.long r :: st) M') (hcs : cells ≤ mc ∧ slots ≤ ms := by exact ⟨Nat.le_refl _, Nat.le_refl _⟩) : GG l B LY (d + 1) my cc nL ret mc ms Po 97 cells slots pc lv (As.reverse ++ .ref q :: st) M :=
  g_callV hc (LY_o hL) hL hcl ck.1 ck.2.1 ck.2.2.1 hlink ck.2.2.2.1.1 ck.2.2.2.1.2 hn ck.2.2.2.2 hst hcs hd (fun v n' M'' h => by obtain ⟨rfl, rfl, rfl⟩ := h; exact kk)
theorem m_callSl {y : MethodName} {bytes : ByteArray} {nL' na i : Nat} {ret' : Option FieldType} {As st : List Value} {r : Int64} {M' : Mm} (hc : Con l B LY d y bytes nL' ret' 0 0 As 97 M (PL r M')) (ck : CKS y bytes nL' ret' na) (hlink : Cond.methodLink my.cls i y ∈ lw_big) (hn : As.length = na) (hst : (st.map fun v => v.category).sum ≤ 8) (hd : decode cc pc = .ok (.invokestatic i, 3))
    (kk : GG l B LY (d + 1) my cc nL ret mc ms Po 97 cells slots (pc + 3) lv (.long r :: st) M') (hcs : cells ≤ mc ∧ slots ≤ ms := by exact ⟨Nat.le_refl _, Nat.le_refl _⟩) : GG l B LY (d + 1) my cc nL ret mc ms Po 97 cells slots pc lv (As.reverse ++ st) M :=
  g_callS hc ck.1 ck.2.1 ck.2.2.1 hlink ck.2.2.2.1 hn ck.2.2.2.2 hst hcs hd (fun v n' M'' h => by obtain ⟨rfl, rfl, rfl⟩ := h; exact kk)
theorem m_callNl {y : MethodName} {bytes : ByteArray} {nL' na i : Nat} {ret' : Option FieldType} {As st : List Value} {r : Int64} {M' : Mm} {host : String} (hc : Con l B LY d y bytes nL' ret' 0 0 As 97 M (PL r M')) (ck : CKS y bytes nL' ret' na) (hlink : (my.cls, i, y, host) ∈ nestq) (hn : As.length = na) (hst : (st.map fun v => v.category).sum ≤ 8) (hd : decode cc pc = .ok (.invokestatic i, 3))
    (kk : GG l B LY (d + 1) my cc nL ret mc ms Po 97 cells slots (pc + 3) lv (.long r :: st) M') (hcs : cells ≤ mc ∧ slots ≤ ms := by exact ⟨Nat.le_refl _, Nat.le_refl _⟩) : GG l B LY (d + 1) my cc nL ret mc ms Po 97 cells slots pc lv (As.reverse ++ st) M :=
  g_callSN hc ck.1 ck.2.1 ck.2.2.1 hlink ck.2.2.2.1 hn ck.2.2.2.2 hst hcs hd (fun v n' M'' h => by obtain ⟨rfl, rfl, rfl⟩ := h; exact kk)
theorem m_callVv {y : MethodName} {bytes : ByteArray} {nL' na i q ci N : Nat} {T : u_T} {fks : List Fk} {ret' : Option FieldType} {As st : List Value}  {M' : Mm} (hc : Con l B LY d y bytes nL' ret' 0 0 (.ref q :: As) 97 M (PV M')) (hL : LY q = .inl (ci, fks)) (hcl : clsOK ci y.cls T N) (ck : CKV y bytes nL' ret' na) (hlink : Cond.methodLink my.cls i y ∈ lw_big) (hn : As.length = na) (hst : (st.map fun v => v.category).sum ≤ 8) (hd : decode cc pc = .ok (.invokevirtual i, 3))
    (kk : GG l B LY (d + 1) my cc nL ret mc ms Po 97 cells slots (pc + 3) lv (st) M') (hcs : cells ≤ mc ∧ slots ≤ ms := by exact ⟨Nat.le_refl _, Nat.le_refl _⟩) : GG l B LY (d + 1) my cc nL ret mc ms Po 97 cells slots pc lv (As.reverse ++ .ref q :: st) M :=
  g_callV hc (LY_o hL) hL hcl ck.1 ck.2.1 ck.2.2.1 hlink ck.2.2.2.1.1 ck.2.2.2.1.2 hn ck.2.2.2.2 hst hcs hd (fun v n' M'' h => by obtain ⟨rfl, rfl, rfl⟩ := h; exact kk)
theorem m_callSv {y : MethodName} {bytes : ByteArray} {nL' na i : Nat} {ret' : Option FieldType} {As st : List Value}  {M' : Mm} (hc : Con l B LY d y bytes nL' ret' 0 0 As 97 M (PV M')) (ck : CKS y bytes nL' ret' na) (hlink : Cond.methodLink my.cls i y ∈ lw_big) (hn : As.length = na) (hst : (st.map fun v => v.category).sum ≤ 8) (hd : decode cc pc = .ok (.invokestatic i, 3))
    (kk : GG l B LY (d + 1) my cc nL ret mc ms Po 97 cells slots (pc + 3) lv (st) M') (hcs : cells ≤ mc ∧ slots ≤ ms := by exact ⟨Nat.le_refl _, Nat.le_refl _⟩) : GG l B LY (d + 1) my cc nL ret mc ms Po 97 cells slots pc lv (As.reverse ++ st) M :=
  g_callS hc ck.1 ck.2.1 ck.2.2.1 hlink ck.2.2.2.1 hn ck.2.2.2.2 hst hcs hd (fun v n' M'' h => by obtain ⟨rfl, rfl, rfl⟩ := h; exact kk)
theorem m_callNv {y : MethodName} {bytes : ByteArray} {nL' na i : Nat} {ret' : Option FieldType} {As st : List Value}  {M' : Mm} {host : String} (hc : Con l B LY d y bytes nL' ret' 0 0 As 97 M (PV M')) (ck : CKS y bytes nL' ret' na) (hlink : (my.cls, i, y, host) ∈ nestq) (hn : As.length = na) (hst : (st.map fun v => v.category).sum ≤ 8) (hd : decode cc pc = .ok (.invokestatic i, 3))
    (kk : GG l B LY (d + 1) my cc nL ret mc ms Po 97 cells slots (pc + 3) lv (st) M') (hcs : cells ≤ mc ∧ slots ≤ ms := by exact ⟨Nat.le_refl _, Nat.le_refl _⟩) : GG l B LY (d + 1) my cc nL ret mc ms Po 97 cells slots pc lv (As.reverse ++ st) M :=
  g_callSN hc ck.1 ck.2.1 ck.2.2.1 hlink ck.2.2.2.1 hn ck.2.2.2.2 hst hcs hd (fun v n' M'' h => by obtain ⟨rfl, rfl, rfl⟩ := h; exact kk)
theorem m_lald {q len : Nat} {i : Int32} (hL : LY q = .inr (2, len)) (hin : inb i len = true) (hd : decode cc pc = .ok (.laload, 1)) (kk : GG l B LY d my cc nL ret mc ms Po 97 cells slots (pc + 1) lv (.long (M q i.toNatClampNeg).toInt64 :: st) M) : GG l B LY d my cc nL ret mc ms Po 97 cells slots pc lv (.int i :: .ref q :: st) M := by
  intro p e s m args below meth c H locs ls F S P V Z hl
  exact va_lald F.1 F.2.1 S.1 P q 2 (wz_row (LY_a hL (by decide)) hL) rfl (inb_vp hin) hd (kk p e s m args below meth c H locs ls F S P V Z hl)
/-- the script -/
theorem m_sld {i : Int32} (hin : inb i (bN B) = true) (hd : decode cc pc = .ok (.iaload, 1)) (kk : GG l B LY d my cc nL ret mc ms Po 97 cells slots (pc + 1) lv (.int (bX B i.toNatClampNeg) :: st) M) : GG l B LY d my cc nL ret mc ms Po 97 cells slots pc lv (.int i :: .ref (1000 + 46) :: st) M := by
  intro p e s m args below meth c H locs ls F S P V Z hl
  have e1 : ad B (1000 + 46) = bS B 46 := by rw [ad, if_neg (by omega), Nat.add_sub_cancel_left]
  show W p l e _ s m args below meth c H locs cells slots _ (F0 m pc ls (.int i :: .ref (ad B (1000 + 46)) :: st.map (cv B)))
  rw [e1]
  exact va_ti F.1 F.2.1 S.2.2.2.2.2.2.2.2.2.2.2 V (inb_vp hin) rfl hd (kk p e s m args below meth c H locs ls F S P V Z hl)
theorem m_slength {v : Int32} (hv : nI (bN B) = v) (hd : decode cc pc = .ok (.arraylength, 1)) (kk : GG l B LY d my cc nL ret mc ms Po 97 cells slots (pc + 1) lv (.int v :: st) M) : GG l B LY d my cc nL ret mc ms Po 97 cells slots pc lv (.ref (1000 + 46) :: st) M := by
  intro p e s m args below meth c H locs ls F S P V Z hl
  have e1 : ad B (1000 + 46) = bS B 46 := by rw [ad, if_neg (by omega), Nat.add_sub_cancel_left]
  show W p l e _ s m args below meth c H locs cells slots _ (F0 m pc ls (.ref (ad B (1000 + 46)) :: st.map (cv B)))
  rw [e1]
  exact va_tlen F.1 F.2.1 S.2.2.2.2.2.2.2.2.2.2.2 V hv hd (kk p e s m args below meth c H locs ls F S P V Z hl)
end Main
