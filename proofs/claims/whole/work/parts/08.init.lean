/-! THE CONSTRUCTORS. Written by wip/programs/gen_init.py. -/
def fkc0 : List Fk := [(1, 0), (1, 0), (1, 0), (1, 0), (1, 0), (1, 0), (0, 0), (0, 0), (0, 0), (0, 0), (0, 0), (0, 0), (0, 0), (0, 0), (0, 0)]
def fkc1 : List Fk := [(1, 0), (1, 0), (1, 0), (0, 0)]
def fkc3 : List Fk := [(1, 0), (1, 0), (1, 0), (1, 0), (1, 0), (1, 0), (1, 0), (1, 0), (1, 0), (0, 0), (0, 0), (0, 0), (0, 0), (0, 0), (0, 0)]
def fkc4 : List Fk := [(1, 0), (1, 0), (0, 0), (0, 0), (0, 0)]
def fkc5 : List Fk := [(1, 0), (1, 0), (1, 0), (1, 0), (0, 0), (0, 0), (0, 0)]
def fkc6 : List Fk := [(1, 0), (1, 0), (0, 0), (0, 0)]
def fkc7 : List Fk := [(0, 0), (0, 0), (0, 0)]
def fkc8 : List Fk := [(1, 0), (0, 0), (0, 0), (0, 0), (0, 0), (0, 0), (0, 0)]
def fkc9 : List Fk := [(1, 0), (1, 0), (1, 0), (1, 0), (1, 0), (1, 0), (1, 0), (1, 0), (1, 0), (1, 0), (0, 0), (0, 0), (0, 0), (0, 0)]
def fkc10 : List Fk := [(0, 0), (1, 0), (0, 0), (0, 0), (0, 0), (0, 0), (0, 0), (0, 0), (0, 0), (0, 0), (0, 0), (0, 0), (1, 0), (0, 0), (0, 0), (1, 0), (1, 0), (1, 0), (1, 0), (0, 0), (0, 0), (1, 0), (1, 0), (1, 0), (1, 0), (1, 0), (0, 0), (1, 0), (1, 0), (0, 0), (0, 0), (1, 0), (0, 0)]
def lylc : List Kd := [.inl (9, fkc9), .inl (0, fkc0), .inr (0, 5), .inr (0, 5), .inr (0, 20), .inr (0, 5), .inr (0, 20), .inr (0, 35), .inl (0, fkc0), .inr (0, 5), .inr (0, 5), .inr (0, 20), .inr (0, 5), .inr (0, 20), .inr (0, 35), .inl (8, fkc8), .inr (1, 900), .inl (5, fkc5), .inr (0, 5), .inr (0, 5), .inl (3, fkc3), .inr (0, 5), .inr (0, 5), .inr (0, 5), .inr (0, 5), .inr (0, 5), .inr (0, 5), .inr (0, 5), .inr (0, 5), .inr (0, 5), .inr (3, 3), .inl (3, fkc3), .inr (0, 5), .inr (0, 5), .inr (0, 5), .inr (0, 5), .inr (0, 5), .inr (0, 5), .inr (0, 5), .inr (0, 5), .inr (0, 5), .inl (3, fkc3), .inr (0, 5), .inr (0, 5), .inr (0, 5), .inr (0, 5), .inr (0, 5), .inr (0, 5), .inr (0, 5), .inr (0, 5), .inr (0, 5), .inl (3, fkc3), .inr (0, 5), .inr (0, 5), .inr (0, 5), .inr (0, 5), .inr (0, 5), .inr (0, 5), .inr (0, 5), .inr (0, 5), .inr (0, 5), .inl (4, fkc4), .inl (3, fkc3), .inr (0, 5), .inr (0, 5), .inr (0, 5), .inr (0, 5), .inr (0, 5), .inr (0, 5), .inr (0, 5), .inr (0, 5), .inr (0, 5), .inr (0, 5), .inl (1, fkc1), .inr (0, 20), .inr (0, 5), .inr (0, 5), .inl (6, fkc6), .inr (0, 5), .inr (0, 5), .inl (7, fkc7), .inl (10, fkc10), .inr (0, 900), .inr (0, 8), .inr (0, 141), .inr (0, 141), .inr (0, 44), .inr (0, 176), .inr (0, 30), .inr (0, 30), .inr (0, 30), .inr (0, 5), .inr (0, 5), .inr (0, 5), .inr (0, 20), .inr (0, 5), .inr (2, 1)]
def LYc (q : Nat) : Kd := (lylc[q]?).getD (.inr (9, 0))
def mi_0 : Mm := fun _ _ => 0
theorem dfX0 : ∀ j, j < 15 → ∃ f, fkc0[j]? = some f ∧ dfb f (tyX0 j) = true := by
  intro j hj
  match j, hj with
  | 0, _ => exact ⟨_, rfl, rfl⟩
  | 1, _ => exact ⟨_, rfl, rfl⟩
  | 2, _ => exact ⟨_, rfl, rfl⟩
  | 3, _ => exact ⟨_, rfl, rfl⟩
  | 4, _ => exact ⟨_, rfl, rfl⟩
  | 5, _ => exact ⟨_, rfl, rfl⟩
  | 6, _ => exact ⟨_, rfl, rfl⟩
  | 7, _ => exact ⟨_, rfl, rfl⟩
  | 8, _ => exact ⟨_, rfl, rfl⟩
  | 9, _ => exact ⟨_, rfl, rfl⟩
  | 10, _ => exact ⟨_, rfl, rfl⟩
  | 11, _ => exact ⟨_, rfl, rfl⟩
  | 12, _ => exact ⟨_, rfl, rfl⟩
  | 13, _ => exact ⟨_, rfl, rfl⟩
  | 14, _ => exact ⟨_, rfl, rfl⟩
  | k + 15, h => exact absurd h (by omega)
theorem dfX1 : ∀ j, j < 4 → ∃ f, fkc1[j]? = some f ∧ dfb f (tyX1 j) = true := by
  intro j hj
  match j, hj with
  | 0, _ => exact ⟨_, rfl, rfl⟩
  | 1, _ => exact ⟨_, rfl, rfl⟩
  | 2, _ => exact ⟨_, rfl, rfl⟩
  | 3, _ => exact ⟨_, rfl, rfl⟩
theorem dfX3 : ∀ j, j < 15 → ∃ f, fkc3[j]? = some f ∧ dfb f (tyX3 j) = true := by
  intro j hj
  match j, hj with
  | 0, _ => exact ⟨_, rfl, rfl⟩
  | 1, _ => exact ⟨_, rfl, rfl⟩
  | 2, _ => exact ⟨_, rfl, rfl⟩
  | 3, _ => exact ⟨_, rfl, rfl⟩
  | 4, _ => exact ⟨_, rfl, rfl⟩
  | 5, _ => exact ⟨_, rfl, rfl⟩
  | 6, _ => exact ⟨_, rfl, rfl⟩
  | 7, _ => exact ⟨_, rfl, rfl⟩
  | 8, _ => exact ⟨_, rfl, rfl⟩
  | 9, _ => exact ⟨_, rfl, rfl⟩
  | 10, _ => exact ⟨_, rfl, rfl⟩
  | 11, _ => exact ⟨_, rfl, rfl⟩
  | 12, _ => exact ⟨_, rfl, rfl⟩
  | 13, _ => exact ⟨_, rfl, rfl⟩
  | 14, _ => exact ⟨_, rfl, rfl⟩
  | k + 15, h => exact absurd h (by omega)
theorem dfX4 : ∀ j, j < 5 → ∃ f, fkc4[j]? = some f ∧ dfb f (tyX4 j) = true := by
  intro j hj
  match j, hj with
  | 0, _ => exact ⟨_, rfl, rfl⟩
  | 1, _ => exact ⟨_, rfl, rfl⟩
  | 2, _ => exact ⟨_, rfl, rfl⟩
  | 3, _ => exact ⟨_, rfl, rfl⟩
  | 4, _ => exact ⟨_, rfl, rfl⟩
theorem dfX5 : ∀ j, j < 7 → ∃ f, fkc5[j]? = some f ∧ dfb f (tyX5 j) = true := by
  intro j hj
  match j, hj with
  | 0, _ => exact ⟨_, rfl, rfl⟩
  | 1, _ => exact ⟨_, rfl, rfl⟩
  | 2, _ => exact ⟨_, rfl, rfl⟩
  | 3, _ => exact ⟨_, rfl, rfl⟩
  | 4, _ => exact ⟨_, rfl, rfl⟩
  | 5, _ => exact ⟨_, rfl, rfl⟩
  | 6, _ => exact ⟨_, rfl, rfl⟩
theorem dfX6 : ∀ j, j < 4 → ∃ f, fkc6[j]? = some f ∧ dfb f (tyX6 j) = true := by
  intro j hj
  match j, hj with
  | 0, _ => exact ⟨_, rfl, rfl⟩
  | 1, _ => exact ⟨_, rfl, rfl⟩
  | 2, _ => exact ⟨_, rfl, rfl⟩
  | 3, _ => exact ⟨_, rfl, rfl⟩
theorem dfX7 : ∀ j, j < 3 → ∃ f, fkc7[j]? = some f ∧ dfb f (tyX7 j) = true := by
  intro j hj
  match j, hj with
  | 0, _ => exact ⟨_, rfl, rfl⟩
  | 1, _ => exact ⟨_, rfl, rfl⟩
  | 2, _ => exact ⟨_, rfl, rfl⟩
theorem dfX8 : ∀ j, j < 7 → ∃ f, fkc8[j]? = some f ∧ dfb f (tyX8 j) = true := by
  intro j hj
  match j, hj with
  | 0, _ => exact ⟨_, rfl, rfl⟩
  | 1, _ => exact ⟨_, rfl, rfl⟩
  | 2, _ => exact ⟨_, rfl, rfl⟩
  | 3, _ => exact ⟨_, rfl, rfl⟩
  | 4, _ => exact ⟨_, rfl, rfl⟩
  | 5, _ => exact ⟨_, rfl, rfl⟩
  | 6, _ => exact ⟨_, rfl, rfl⟩
theorem dfX9 : ∀ j, j < 14 → ∃ f, fkc9[j]? = some f ∧ dfb f (tyX9 j) = true := by
  intro j hj
  match j, hj with
  | 0, _ => exact ⟨_, rfl, rfl⟩
  | 1, _ => exact ⟨_, rfl, rfl⟩
  | 2, _ => exact ⟨_, rfl, rfl⟩
  | 3, _ => exact ⟨_, rfl, rfl⟩
  | 4, _ => exact ⟨_, rfl, rfl⟩
  | 5, _ => exact ⟨_, rfl, rfl⟩
  | 6, _ => exact ⟨_, rfl, rfl⟩
  | 7, _ => exact ⟨_, rfl, rfl⟩
  | 8, _ => exact ⟨_, rfl, rfl⟩
  | 9, _ => exact ⟨_, rfl, rfl⟩
  | 10, _ => exact ⟨_, rfl, rfl⟩
  | 11, _ => exact ⟨_, rfl, rfl⟩
  | 12, _ => exact ⟨_, rfl, rfl⟩
  | 13, _ => exact ⟨_, rfl, rfl⟩
  | k + 14, h => exact absurd h (by omega)
theorem dfX10 : ∀ j, j < 33 → ∃ f, fkc10[j]? = some f ∧ dfb f (tyX10 j) = true := by
  intro j hj
  match j, hj with
  | 0, _ => exact ⟨_, rfl, rfl⟩
  | 1, _ => exact ⟨_, rfl, rfl⟩
  | 2, _ => exact ⟨_, rfl, rfl⟩
  | 3, _ => exact ⟨_, rfl, rfl⟩
  | 4, _ => exact ⟨_, rfl, rfl⟩
  | 5, _ => exact ⟨_, rfl, rfl⟩
  | 6, _ => exact ⟨_, rfl, rfl⟩
  | 7, _ => exact ⟨_, rfl, rfl⟩
  | 8, _ => exact ⟨_, rfl, rfl⟩
  | 9, _ => exact ⟨_, rfl, rfl⟩
  | 10, _ => exact ⟨_, rfl, rfl⟩
  | 11, _ => exact ⟨_, rfl, rfl⟩
  | 12, _ => exact ⟨_, rfl, rfl⟩
  | 13, _ => exact ⟨_, rfl, rfl⟩
  | 14, _ => exact ⟨_, rfl, rfl⟩
  | 15, _ => exact ⟨_, rfl, rfl⟩
  | 16, _ => exact ⟨_, rfl, rfl⟩
  | 17, _ => exact ⟨_, rfl, rfl⟩
  | 18, _ => exact ⟨_, rfl, rfl⟩
  | 19, _ => exact ⟨_, rfl, rfl⟩
  | 20, _ => exact ⟨_, rfl, rfl⟩
  | 21, _ => exact ⟨_, rfl, rfl⟩
  | 22, _ => exact ⟨_, rfl, rfl⟩
  | 23, _ => exact ⟨_, rfl, rfl⟩
  | 24, _ => exact ⟨_, rfl, rfl⟩
  | 25, _ => exact ⟨_, rfl, rfl⟩
  | 26, _ => exact ⟨_, rfl, rfl⟩
  | 27, _ => exact ⟨_, rfl, rfl⟩
  | 28, _ => exact ⟨_, rfl, rfl⟩
  | 29, _ => exact ⟨_, rfl, rfl⟩
  | 30, _ => exact ⟨_, rfl, rfl⟩
  | 31, _ => exact ⟨_, rfl, rfl⟩
  | 32, _ => exact ⟨_, rfl, rfl⟩
  | k + 33, h => exact absurd h (by omega)
theorem dX0_init_0 : decode cX0_init 0 = .ok (.aload_n 0, 1) := by decide +kernel
theorem dX0_init_1 : decode cX0_init 1 = .ok (.invokespecial 3, 3) := by decide +kernel
theorem dX0_init_4 : decode cX0_init 4 = .ok (.aload_n 0, 1) := by decide +kernel
theorem dX0_init_5 : decode cX0_init 5 = .ok (.iconst 5, 1) := by decide +kernel
theorem dX0_init_6 : decode cX0_init 6 = .ok (.newarray .int, 2) := by decide +kernel
theorem dX0_init_8 : decode cX0_init 8 = .ok (.putfield 9, 3) := by decide +kernel
theorem dX0_init_11 : decode cX0_init 11 = .ok (.aload_n 0, 1) := by decide +kernel
theorem dX0_init_12 : decode cX0_init 12 = .ok (.iconst 5, 1) := by decide +kernel
theorem dX0_init_13 : decode cX0_init 13 = .ok (.newarray .int, 2) := by decide +kernel
theorem dX0_init_15 : decode cX0_init 15 = .ok (.putfield 15, 3) := by decide +kernel
theorem dX0_init_18 : decode cX0_init 18 = .ok (.aload_n 0, 1) := by decide +kernel
theorem dX0_init_19 : decode cX0_init 19 = .ok (.bipush 20, 2) := by decide +kernel
theorem dX0_init_21 : decode cX0_init 21 = .ok (.newarray .int, 2) := by decide +kernel
theorem dX0_init_23 : decode cX0_init 23 = .ok (.putfield 18, 3) := by decide +kernel
theorem dX0_init_26 : decode cX0_init 26 = .ok (.aload_n 0, 1) := by decide +kernel
theorem dX0_init_27 : decode cX0_init 27 = .ok (.iconst 5, 1) := by decide +kernel
theorem dX0_init_28 : decode cX0_init 28 = .ok (.newarray .int, 2) := by decide +kernel
theorem dX0_init_30 : decode cX0_init 30 = .ok (.putfield 21, 3) := by decide +kernel
theorem dX0_init_33 : decode cX0_init 33 = .ok (.aload_n 0, 1) := by decide +kernel
theorem dX0_init_34 : decode cX0_init 34 = .ok (.bipush 20, 2) := by decide +kernel
theorem dX0_init_36 : decode cX0_init 36 = .ok (.newarray .int, 2) := by decide +kernel
theorem dX0_init_38 : decode cX0_init 38 = .ok (.putfield 24, 3) := by decide +kernel
theorem dX0_init_41 : decode cX0_init 41 = .ok (.aload_n 0, 1) := by decide +kernel
theorem dX0_init_42 : decode cX0_init 42 = .ok (.bipush 35, 2) := by decide +kernel
theorem dX0_init_44 : decode cX0_init 44 = .ok (.newarray .int, 2) := by decide +kernel
theorem dX0_init_46 : decode cX0_init 46 = .ok (.putfield 27, 3) := by decide +kernel
theorem dX0_init_49 : decode cX0_init 49 = .ok (.return_, 1) := by decide +kernel
theorem dX10_init_0 : decode cX10_init 0 = .ok (.aload_n 0, 1) := by decide +kernel
theorem dX10_init_1 : decode cX10_init 1 = .ok (.invokespecial 1, 3) := by decide +kernel
theorem dX10_init_4 : decode cX10_init 4 = .ok (.aload_n 0, 1) := by decide +kernel
theorem dX10_init_5 : decode cX10_init 5 = .ok (.sipush 900, 3) := by decide +kernel
theorem dX10_init_8 : decode cX10_init 8 = .ok (.newarray .int, 2) := by decide +kernel
theorem dX10_init_10 : decode cX10_init 10 = .ok (.putfield 7, 3) := by decide +kernel
theorem dX10_init_13 : decode cX10_init 13 = .ok (.aload_n 0, 1) := by decide +kernel
theorem dX10_init_14 : decode cX10_init 14 = .ok (.iconst (-1), 1) := by decide +kernel
theorem dX10_init_15 : decode cX10_init 15 = .ok (.putfield 13, 3) := by decide +kernel
theorem dX10_init_18 : decode cX10_init 18 = .ok (.aload_n 0, 1) := by decide +kernel
theorem dX10_init_19 : decode cX10_init 19 = .ok (.bipush 8, 2) := by decide +kernel
theorem dX10_init_21 : decode cX10_init 21 = .ok (.newarray .int, 2) := by decide +kernel
theorem dX10_init_23 : decode cX10_init 23 = .ok (.putfield 17, 3) := by decide +kernel
theorem dX10_init_26 : decode cX10_init 26 = .ok (.aload_n 0, 1) := by decide +kernel
theorem dX10_init_27 : decode cX10_init 27 = .ok (.sipush 141, 3) := by decide +kernel
theorem dX10_init_30 : decode cX10_init 30 = .ok (.newarray .int, 2) := by decide +kernel
theorem dX10_init_32 : decode cX10_init 32 = .ok (.putfield 20, 3) := by decide +kernel
theorem dX10_init_35 : decode cX10_init 35 = .ok (.aload_n 0, 1) := by decide +kernel
theorem dX10_init_36 : decode cX10_init 36 = .ok (.sipush 141, 3) := by decide +kernel
theorem dX10_init_39 : decode cX10_init 39 = .ok (.newarray .int, 2) := by decide +kernel
theorem dX10_init_41 : decode cX10_init 41 = .ok (.putfield 23, 3) := by decide +kernel
theorem dX10_init_44 : decode cX10_init 44 = .ok (.aload_n 0, 1) := by decide +kernel
theorem dX10_init_45 : decode cX10_init 45 = .ok (.bipush 44, 2) := by decide +kernel
theorem dX10_init_47 : decode cX10_init 47 = .ok (.newarray .int, 2) := by decide +kernel
theorem dX10_init_49 : decode cX10_init 49 = .ok (.putfield 26, 3) := by decide +kernel
theorem dX10_init_52 : decode cX10_init 52 = .ok (.aload_n 0, 1) := by decide +kernel
theorem dX10_init_53 : decode cX10_init 53 = .ok (.sipush 176, 3) := by decide +kernel
theorem dX10_init_56 : decode cX10_init 56 = .ok (.newarray .int, 2) := by decide +kernel
theorem dX10_init_58 : decode cX10_init 58 = .ok (.putfield 29, 3) := by decide +kernel
theorem dX10_init_61 : decode cX10_init 61 = .ok (.aload_n 0, 1) := by decide +kernel
theorem dX10_init_62 : decode cX10_init 62 = .ok (.iconst (-1), 1) := by decide +kernel
theorem dX10_init_63 : decode cX10_init 63 = .ok (.putfield 32, 3) := by decide +kernel
theorem dX10_init_66 : decode cX10_init 66 = .ok (.aload_n 0, 1) := by decide +kernel
theorem dX10_init_67 : decode cX10_init 67 = .ok (.bipush 30, 2) := by decide +kernel
theorem dX10_init_69 : decode cX10_init 69 = .ok (.newarray .int, 2) := by decide +kernel
theorem dX10_init_71 : decode cX10_init 71 = .ok (.putfield 35, 3) := by decide +kernel
theorem dX10_init_74 : decode cX10_init 74 = .ok (.aload_n 0, 1) := by decide +kernel
theorem dX10_init_75 : decode cX10_init 75 = .ok (.bipush 30, 2) := by decide +kernel
theorem dX10_init_77 : decode cX10_init 77 = .ok (.newarray .int, 2) := by decide +kernel
theorem dX10_init_79 : decode cX10_init 79 = .ok (.putfield 38, 3) := by decide +kernel
theorem dX10_init_82 : decode cX10_init 82 = .ok (.aload_n 0, 1) := by decide +kernel
theorem dX10_init_83 : decode cX10_init 83 = .ok (.bipush 30, 2) := by decide +kernel
theorem dX10_init_85 : decode cX10_init 85 = .ok (.newarray .int, 2) := by decide +kernel
theorem dX10_init_87 : decode cX10_init 87 = .ok (.putfield 41, 3) := by decide +kernel
theorem dX10_init_90 : decode cX10_init 90 = .ok (.aload_n 0, 1) := by decide +kernel
theorem dX10_init_91 : decode cX10_init 91 = .ok (.iconst 5, 1) := by decide +kernel
theorem dX10_init_92 : decode cX10_init 92 = .ok (.newarray .int, 2) := by decide +kernel
theorem dX10_init_94 : decode cX10_init 94 = .ok (.putfield 44, 3) := by decide +kernel
theorem dX10_init_97 : decode cX10_init 97 = .ok (.aload_n 0, 1) := by decide +kernel
theorem dX10_init_98 : decode cX10_init 98 = .ok (.iconst 5, 1) := by decide +kernel
theorem dX10_init_99 : decode cX10_init 99 = .ok (.newarray .int, 2) := by decide +kernel
theorem dX10_init_101 : decode cX10_init 101 = .ok (.putfield 47, 3) := by decide +kernel
theorem dX10_init_104 : decode cX10_init 104 = .ok (.aload_n 0, 1) := by decide +kernel
theorem dX10_init_105 : decode cX10_init 105 = .ok (.iconst 5, 1) := by decide +kernel
theorem dX10_init_106 : decode cX10_init 106 = .ok (.newarray .int, 2) := by decide +kernel
theorem dX10_init_108 : decode cX10_init 108 = .ok (.putfield 50, 3) := by decide +kernel
theorem dX10_init_111 : decode cX10_init 111 = .ok (.aload_n 0, 1) := by decide +kernel
theorem dX10_init_112 : decode cX10_init 112 = .ok (.bipush 20, 2) := by decide +kernel
theorem dX10_init_114 : decode cX10_init 114 = .ok (.newarray .int, 2) := by decide +kernel
theorem dX10_init_116 : decode cX10_init 116 = .ok (.putfield 53, 3) := by decide +kernel
theorem dX10_init_119 : decode cX10_init 119 = .ok (.aload_n 0, 1) := by decide +kernel
theorem dX10_init_120 : decode cX10_init 120 = .ok (.iconst 5, 1) := by decide +kernel
theorem dX10_init_121 : decode cX10_init 121 = .ok (.newarray .int, 2) := by decide +kernel
theorem dX10_init_123 : decode cX10_init 123 = .ok (.putfield 56, 3) := by decide +kernel
theorem dX10_init_126 : decode cX10_init 126 = .ok (.return_, 1) := by decide +kernel
theorem dX1_init_0 : decode cX1_init 0 = .ok (.aload_n 0, 1) := by decide +kernel
theorem dX1_init_1 : decode cX1_init 1 = .ok (.invokespecial 3, 3) := by decide +kernel
theorem dX1_init_4 : decode cX1_init 4 = .ok (.aload_n 0, 1) := by decide +kernel
theorem dX1_init_5 : decode cX1_init 5 = .ok (.bipush 20, 2) := by decide +kernel
theorem dX1_init_7 : decode cX1_init 7 = .ok (.newarray .int, 2) := by decide +kernel
theorem dX1_init_9 : decode cX1_init 9 = .ok (.putfield 11, 3) := by decide +kernel
theorem dX1_init_12 : decode cX1_init 12 = .ok (.aload_n 0, 1) := by decide +kernel
theorem dX1_init_13 : decode cX1_init 13 = .ok (.iconst 5, 1) := by decide +kernel
theorem dX1_init_14 : decode cX1_init 14 = .ok (.newarray .int, 2) := by decide +kernel
theorem dX1_init_16 : decode cX1_init 16 = .ok (.putfield 15, 3) := by decide +kernel
theorem dX1_init_19 : decode cX1_init 19 = .ok (.aload_n 0, 1) := by decide +kernel
theorem dX1_init_20 : decode cX1_init 20 = .ok (.iconst 5, 1) := by decide +kernel
theorem dX1_init_21 : decode cX1_init 21 = .ok (.newarray .int, 2) := by decide +kernel
theorem dX1_init_23 : decode cX1_init 23 = .ok (.putfield 18, 3) := by decide +kernel
theorem dX1_init_26 : decode cX1_init 26 = .ok (.return_, 1) := by decide +kernel
theorem dX3_init_0 : decode cX3_init 0 = .ok (.aload_n 0, 1) := by decide +kernel
theorem dX3_init_1 : decode cX3_init 1 = .ok (.invokespecial 3, 3) := by decide +kernel
theorem dX3_init_4 : decode cX3_init 4 = .ok (.aload_n 0, 1) := by decide +kernel
theorem dX3_init_5 : decode cX3_init 5 = .ok (.iconst 5, 1) := by decide +kernel
theorem dX3_init_6 : decode cX3_init 6 = .ok (.newarray .int, 2) := by decide +kernel
theorem dX3_init_8 : decode cX3_init 8 = .ok (.putfield 9, 3) := by decide +kernel
theorem dX3_init_11 : decode cX3_init 11 = .ok (.aload_n 0, 1) := by decide +kernel
theorem dX3_init_12 : decode cX3_init 12 = .ok (.iconst 5, 1) := by decide +kernel
theorem dX3_init_13 : decode cX3_init 13 = .ok (.newarray .int, 2) := by decide +kernel
theorem dX3_init_15 : decode cX3_init 15 = .ok (.putfield 15, 3) := by decide +kernel
theorem dX3_init_18 : decode cX3_init 18 = .ok (.aload_n 0, 1) := by decide +kernel
theorem dX3_init_19 : decode cX3_init 19 = .ok (.iconst 5, 1) := by decide +kernel
theorem dX3_init_20 : decode cX3_init 20 = .ok (.newarray .int, 2) := by decide +kernel
theorem dX3_init_22 : decode cX3_init 22 = .ok (.putfield 18, 3) := by decide +kernel
theorem dX3_init_25 : decode cX3_init 25 = .ok (.aload_n 0, 1) := by decide +kernel
theorem dX3_init_26 : decode cX3_init 26 = .ok (.iconst 5, 1) := by decide +kernel
theorem dX3_init_27 : decode cX3_init 27 = .ok (.newarray .int, 2) := by decide +kernel
theorem dX3_init_29 : decode cX3_init 29 = .ok (.putfield 21, 3) := by decide +kernel
theorem dX3_init_32 : decode cX3_init 32 = .ok (.aload_n 0, 1) := by decide +kernel
theorem dX3_init_33 : decode cX3_init 33 = .ok (.iconst 5, 1) := by decide +kernel
theorem dX3_init_34 : decode cX3_init 34 = .ok (.newarray .int, 2) := by decide +kernel
theorem dX3_init_36 : decode cX3_init 36 = .ok (.putfield 24, 3) := by decide +kernel
theorem dX3_init_39 : decode cX3_init 39 = .ok (.aload_n 0, 1) := by decide +kernel
theorem dX3_init_40 : decode cX3_init 40 = .ok (.iconst 5, 1) := by decide +kernel
theorem dX3_init_41 : decode cX3_init 41 = .ok (.newarray .int, 2) := by decide +kernel
theorem dX3_init_43 : decode cX3_init 43 = .ok (.putfield 27, 3) := by decide +kernel
theorem dX3_init_46 : decode cX3_init 46 = .ok (.aload_n 0, 1) := by decide +kernel
theorem dX3_init_47 : decode cX3_init 47 = .ok (.iconst 5, 1) := by decide +kernel
theorem dX3_init_48 : decode cX3_init 48 = .ok (.newarray .int, 2) := by decide +kernel
theorem dX3_init_50 : decode cX3_init 50 = .ok (.putfield 30, 3) := by decide +kernel
theorem dX3_init_53 : decode cX3_init 53 = .ok (.aload_n 0, 1) := by decide +kernel
theorem dX3_init_54 : decode cX3_init 54 = .ok (.iconst 5, 1) := by decide +kernel
theorem dX3_init_55 : decode cX3_init 55 = .ok (.newarray .int, 2) := by decide +kernel
theorem dX3_init_57 : decode cX3_init 57 = .ok (.putfield 33, 3) := by decide +kernel
theorem dX3_init_60 : decode cX3_init 60 = .ok (.aload_n 0, 1) := by decide +kernel
theorem dX3_init_61 : decode cX3_init 61 = .ok (.iconst 5, 1) := by decide +kernel
theorem dX3_init_62 : decode cX3_init 62 = .ok (.newarray .int, 2) := by decide +kernel
theorem dX3_init_64 : decode cX3_init 64 = .ok (.putfield 36, 3) := by decide +kernel
theorem dX3_init_67 : decode cX3_init 67 = .ok (.aload_n 0, 1) := by decide +kernel
theorem dX3_init_68 : decode cX3_init 68 = .ok (.bipush (-2), 2) := by decide +kernel
theorem dX3_init_70 : decode cX3_init 70 = .ok (.putfield 39, 3) := by decide +kernel
theorem dX3_init_73 : decode cX3_init 73 = .ok (.return_, 1) := by decide +kernel
theorem dX4_init_0 : decode cX4_init 0 = .ok (.aload_n 0, 1) := by decide +kernel
theorem dX4_init_1 : decode cX4_init 1 = .ok (.invokespecial 3, 3) := by decide +kernel
theorem dX4_init_4 : decode cX4_init 4 = .ok (.aload_n 0, 1) := by decide +kernel
theorem dX4_init_5 : decode cX4_init 5 = .ok (.new 9, 3) := by decide +kernel
theorem dX4_init_8 : decode cX4_init 8 = .ok (.dup, 1) := by decide +kernel
theorem dX4_init_9 : decode cX4_init 9 = .ok (.invokespecial 11, 3) := by decide +kernel
theorem dX4_init_12 : decode cX4_init 12 = .ok (.putfield 12, 3) := by decide +kernel
theorem dX4_init_15 : decode cX4_init 15 = .ok (.aload_n 0, 1) := by decide +kernel
theorem dX4_init_16 : decode cX4_init 16 = .ok (.iconst 5, 1) := by decide +kernel
theorem dX4_init_17 : decode cX4_init 17 = .ok (.newarray .int, 2) := by decide +kernel
theorem dX4_init_19 : decode cX4_init 19 = .ok (.putfield 18, 3) := by decide +kernel
theorem dX4_init_22 : decode cX4_init 22 = .ok (.return_, 1) := by decide +kernel
theorem dX5_init_0 : decode cX5_init 0 = .ok (.aload_n 0, 1) := by decide +kernel
theorem dX5_init_1 : decode cX5_init 1 = .ok (.invokespecial 3, 3) := by decide +kernel
theorem dX5_init_4 : decode cX5_init 4 = .ok (.aload_n 0, 1) := by decide +kernel
theorem dX5_init_5 : decode cX5_init 5 = .ok (.iconst 5, 1) := by decide +kernel
theorem dX5_init_6 : decode cX5_init 6 = .ok (.newarray .int, 2) := by decide +kernel
theorem dX5_init_8 : decode cX5_init 8 = .ok (.putfield 9, 3) := by decide +kernel
theorem dX5_init_11 : decode cX5_init 11 = .ok (.aload_n 0, 1) := by decide +kernel
theorem dX5_init_12 : decode cX5_init 12 = .ok (.iconst 5, 1) := by decide +kernel
theorem dX5_init_13 : decode cX5_init 13 = .ok (.newarray .int, 2) := by decide +kernel
theorem dX5_init_15 : decode cX5_init 15 = .ok (.putfield 15, 3) := by decide +kernel
theorem dX5_init_18 : decode cX5_init 18 = .ok (.aload_n 0, 1) := by decide +kernel
theorem dX5_init_19 : decode cX5_init 19 = .ok (.aload_n 1, 1) := by decide +kernel
theorem dX5_init_20 : decode cX5_init 20 = .ok (.putfield 18, 3) := by decide +kernel
theorem dX5_init_23 : decode cX5_init 23 = .ok (.aload_n 0, 1) := by decide +kernel
theorem dX5_init_24 : decode cX5_init 24 = .ok (.aload_n 2, 1) := by decide +kernel
theorem dX5_init_25 : decode cX5_init 25 = .ok (.putfield 22, 3) := by decide +kernel
theorem dX5_init_28 : decode cX5_init 28 = .ok (.return_, 1) := by decide +kernel
theorem dX6_init_0 : decode cX6_init 0 = .ok (.aload_n 0, 1) := by decide +kernel
theorem dX6_init_1 : decode cX6_init 1 = .ok (.invokespecial 3, 3) := by decide +kernel
theorem dX6_init_4 : decode cX6_init 4 = .ok (.aload_n 0, 1) := by decide +kernel
theorem dX6_init_5 : decode cX6_init 5 = .ok (.iconst 5, 1) := by decide +kernel
theorem dX6_init_6 : decode cX6_init 6 = .ok (.newarray .int, 2) := by decide +kernel
theorem dX6_init_8 : decode cX6_init 8 = .ok (.putfield 9, 3) := by decide +kernel
theorem dX6_init_11 : decode cX6_init 11 = .ok (.aload_n 0, 1) := by decide +kernel
theorem dX6_init_12 : decode cX6_init 12 = .ok (.iconst 5, 1) := by decide +kernel
theorem dX6_init_13 : decode cX6_init 13 = .ok (.newarray .int, 2) := by decide +kernel
theorem dX6_init_15 : decode cX6_init 15 = .ok (.putfield 15, 3) := by decide +kernel
theorem dX6_init_18 : decode cX6_init 18 = .ok (.return_, 1) := by decide +kernel
theorem dX7_init_0 : decode cX7_init 0 = .ok (.aload_n 0, 1) := by decide +kernel
theorem dX7_init_1 : decode cX7_init 1 = .ok (.invokespecial 3, 3) := by decide +kernel
theorem dX7_init_4 : decode cX7_init 4 = .ok (.return_, 1) := by decide +kernel
theorem dX8_init_0 : decode cX8_init 0 = .ok (.aload_n 0, 1) := by decide +kernel
theorem dX8_init_1 : decode cX8_init 1 = .ok (.invokespecial 3, 3) := by decide +kernel
theorem dX8_init_4 : decode cX8_init 4 = .ok (.aload_n 0, 1) := by decide +kernel
theorem dX8_init_5 : decode cX8_init 5 = .ok (.sipush 900, 3) := by decide +kernel
theorem dX8_init_8 : decode cX8_init 8 = .ok (.newarray .byte, 2) := by decide +kernel
theorem dX8_init_10 : decode cX8_init 10 = .ok (.putfield 9, 3) := by decide +kernel
theorem dX8_init_13 : decode cX8_init 13 = .ok (.return_, 1) := by decide +kernel
theorem dX9_init_0 : decode cX9_init 0 = .ok (.aload_n 0, 1) := by decide +kernel
theorem dX9_init_1 : decode cX9_init 1 = .ok (.invokespecial 1, 3) := by decide +kernel
theorem dX9_init_4 : decode cX9_init 4 = .ok (.aload_n 0, 1) := by decide +kernel
theorem dX9_init_5 : decode cX9_init 5 = .ok (.new 7, 3) := by decide +kernel
theorem dX9_init_8 : decode cX9_init 8 = .ok (.dup, 1) := by decide +kernel
theorem dX9_init_9 : decode cX9_init 9 = .ok (.invokespecial 9, 3) := by decide +kernel
theorem dX9_init_12 : decode cX9_init 12 = .ok (.putfield 10, 3) := by decide +kernel
theorem dX9_init_15 : decode cX9_init 15 = .ok (.aload_n 0, 1) := by decide +kernel
theorem dX9_init_16 : decode cX9_init 16 = .ok (.new 7, 3) := by decide +kernel
theorem dX9_init_19 : decode cX9_init 19 = .ok (.dup, 1) := by decide +kernel
theorem dX9_init_20 : decode cX9_init 20 = .ok (.invokespecial 9, 3) := by decide +kernel
theorem dX9_init_23 : decode cX9_init 23 = .ok (.putfield 16, 3) := by decide +kernel
theorem dX9_init_26 : decode cX9_init 26 = .ok (.aload_n 0, 1) := by decide +kernel
theorem dX9_init_27 : decode cX9_init 27 = .ok (.new 19, 3) := by decide +kernel
theorem dX9_init_30 : decode cX9_init 30 = .ok (.dup, 1) := by decide +kernel
theorem dX9_init_31 : decode cX9_init 31 = .ok (.invokespecial 21, 3) := by decide +kernel
theorem dX9_init_34 : decode cX9_init 34 = .ok (.putfield 22, 3) := by decide +kernel
theorem dX9_init_37 : decode cX9_init 37 = .ok (.aload_n 0, 1) := by decide +kernel
theorem dX9_init_38 : decode cX9_init 38 = .ok (.new 26, 3) := by decide +kernel
theorem dX9_init_41 : decode cX9_init 41 = .ok (.dup, 1) := by decide +kernel
theorem dX9_init_42 : decode cX9_init 42 = .ok (.aload_n 0, 1) := by decide +kernel
theorem dX9_init_43 : decode cX9_init 43 = .ok (.getfield 22, 3) := by decide +kernel
theorem dX9_init_46 : decode cX9_init 46 = .ok (.aload_n 0, 1) := by decide +kernel
theorem dX9_init_47 : decode cX9_init 47 = .ok (.getfield 16, 3) := by decide +kernel
theorem dX9_init_50 : decode cX9_init 50 = .ok (.invokespecial 28, 3) := by decide +kernel
theorem dX9_init_53 : decode cX9_init 53 = .ok (.putfield 31, 3) := by decide +kernel
theorem dX9_init_56 : decode cX9_init 56 = .ok (.aload_n 0, 1) := by decide +kernel
theorem dX9_init_57 : decode cX9_init 57 = .ok (.new 35, 3) := by decide +kernel
theorem dX9_init_60 : decode cX9_init 60 = .ok (.dup, 1) := by decide +kernel
theorem dX9_init_61 : decode cX9_init 61 = .ok (.invokespecial 37, 3) := by decide +kernel
theorem dX9_init_64 : decode cX9_init 64 = .ok (.putfield 38, 3) := by decide +kernel
theorem dX9_init_67 : decode cX9_init 67 = .ok (.aload_n 0, 1) := by decide +kernel
theorem dX9_init_68 : decode cX9_init 68 = .ok (.iconst 3, 1) := by decide +kernel
theorem dX9_init_69 : decode cX9_init 69 = .ok (.anewarray 35, 3) := by decide +kernel
theorem dX9_init_72 : decode cX9_init 72 = .ok (.putfield 42, 3) := by decide +kernel
theorem dX9_init_75 : decode cX9_init 75 = .ok (.iconst 0, 1) := by decide +kernel
theorem dX9_init_76 : decode cX9_init 76 = .ok (.istore_n 1, 1) := by decide +kernel
theorem dX9_init_77 : decode cX9_init 77 = .ok (.iload_n 1, 1) := by decide +kernel
theorem dX9_init_78 : decode cX9_init 78 = .ok (.aload_n 0, 1) := by decide +kernel
theorem dX9_init_79 : decode cX9_init 79 = .ok (.getfield 42, 3) := by decide +kernel
theorem dX9_init_82 : decode cX9_init 82 = .ok (.arraylength, 1) := by decide +kernel
theorem dX9_init_83 : decode cX9_init 83 = .ok (.if_icmp .ge 22, 3) := by decide +kernel
theorem dX9_init_86 : decode cX9_init 86 = .ok (.aload_n 0, 1) := by decide +kernel
theorem dX9_init_87 : decode cX9_init 87 = .ok (.getfield 42, 3) := by decide +kernel
theorem dX9_init_90 : decode cX9_init 90 = .ok (.iload_n 1, 1) := by decide +kernel
theorem dX9_init_91 : decode cX9_init 91 = .ok (.new 35, 3) := by decide +kernel
theorem dX9_init_94 : decode cX9_init 94 = .ok (.dup, 1) := by decide +kernel
theorem dX9_init_95 : decode cX9_init 95 = .ok (.invokespecial 37, 3) := by decide +kernel
theorem dX9_init_98 : decode cX9_init 98 = .ok (.aastore, 1) := by decide +kernel
theorem dX9_init_99 : decode cX9_init 99 = .ok (.iinc 1 1, 3) := by decide +kernel
theorem dX9_init_102 : decode cX9_init 102 = .ok (.goto (-25), 3) := by decide +kernel
theorem dX9_init_105 : decode cX9_init 105 = .ok (.aload_n 0, 1) := by decide +kernel
theorem dX9_init_106 : decode cX9_init 106 = .ok (.new 46, 3) := by decide +kernel
theorem dX9_init_109 : decode cX9_init 109 = .ok (.dup, 1) := by decide +kernel
theorem dX9_init_110 : decode cX9_init 110 = .ok (.invokespecial 48, 3) := by decide +kernel
theorem dX9_init_113 : decode cX9_init 113 = .ok (.putfield 49, 3) := by decide +kernel
theorem dX9_init_116 : decode cX9_init 116 = .ok (.aload_n 0, 1) := by decide +kernel
theorem dX9_init_117 : decode cX9_init 117 = .ok (.new 53, 3) := by decide +kernel
theorem dX9_init_120 : decode cX9_init 120 = .ok (.dup, 1) := by decide +kernel
theorem dX9_init_121 : decode cX9_init 121 = .ok (.invokespecial 55, 3) := by decide +kernel
theorem dX9_init_124 : decode cX9_init 124 = .ok (.putfield 56, 3) := by decide +kernel
theorem dX9_init_127 : decode cX9_init 127 = .ok (.aload_n 0, 1) := by decide +kernel
theorem dX9_init_128 : decode cX9_init 128 = .ok (.new 60, 3) := by decide +kernel
theorem dX9_init_131 : decode cX9_init 131 = .ok (.dup, 1) := by decide +kernel
theorem dX9_init_132 : decode cX9_init 132 = .ok (.invokespecial 62, 3) := by decide +kernel
theorem dX9_init_135 : decode cX9_init 135 = .ok (.putfield 63, 3) := by decide +kernel
theorem dX9_init_138 : decode cX9_init 138 = .ok (.aload_n 0, 1) := by decide +kernel
theorem dX9_init_139 : decode cX9_init 139 = .ok (.new 67, 3) := by decide +kernel
theorem dX9_init_142 : decode cX9_init 142 = .ok (.dup, 1) := by decide +kernel
theorem dX9_init_143 : decode cX9_init 143 = .ok (.invokespecial 69, 3) := by decide +kernel
theorem dX9_init_146 : decode cX9_init 146 = .ok (.putfield 70, 3) := by decide +kernel
theorem dX9_init_149 : decode cX9_init 149 = .ok (.return_, 1) := by decide +kernel
def mi_1 : Mm := mset mi_0 1 0 (nI 2)
def mi_2 : Mm := mset mi_1 1 1 (nI 3)
def mi_3 : Mm := mset mi_2 1 2 (nI 4)
def mi_4 : Mm := mset mi_3 1 3 (nI 5)
def mi_5 : Mm := mset mi_4 1 4 (nI 6)
def mi_6 : Mm := mset mi_5 1 5 (nI 7)
def mi_7 : Mm := mset mi_6 0 8 (nI 1)
def mi_8 : Mm := mset mi_7 8 0 (nI 9)
def mi_9 : Mm := mset mi_8 8 1 (nI 10)
def mi_10 : Mm := mset mi_9 8 2 (nI 11)
def mi_11 : Mm := mset mi_10 8 3 (nI 12)
def mi_12 : Mm := mset mi_11 8 4 (nI 13)
def mi_13 : Mm := mset mi_12 8 5 (nI 14)
def mi_14 : Mm := mset mi_13 0 9 (nI 8)
def mi_15 : Mm := mset mi_14 15 0 (nI 16)
def mi_16 : Mm := mset mi_15 0 0 (nI 15)
def mi_17 : Mm := mset mi_16 17 1 (nI 18)
def mi_18 : Mm := mset mi_17 17 2 (nI 19)
def mi_19 : Mm := mset mi_18 17 0 (nI 15)
def mi_20 : Mm := mset mi_19 17 3 (nI 8)
def mi_21 : Mm := mset mi_20 0 1 (nI 17)
def mi_22 : Mm := mset mi_21 20 0 (nI 21)
def mi_23 : Mm := mset mi_22 20 1 (nI 22)
def mi_24 : Mm := mset mi_23 20 2 (nI 23)
def mi_25 : Mm := mset mi_24 20 3 (nI 24)
def mi_26 : Mm := mset mi_25 20 4 (nI 25)
def mi_27 : Mm := mset mi_26 20 5 (nI 26)
def mi_28 : Mm := mset mi_27 20 6 (nI 27)
def mi_29 : Mm := mset mi_28 20 7 (nI 28)
def mi_30 : Mm := mset mi_29 20 8 (nI 29)
def mi_31 : Mm := mset mi_30 20 14 (-2)
def mi_32 : Mm := mset mi_31 0 2 (nI 20)
def mi_33 : Mm := mset mi_32 0 3 (nI 30)
def mi_34 : Mm := mset mi_33 31 0 (nI 32)
def mi_35 : Mm := mset mi_34 31 1 (nI 33)
def mi_36 : Mm := mset mi_35 31 2 (nI 34)
def mi_37 : Mm := mset mi_36 31 3 (nI 35)
def mi_38 : Mm := mset mi_37 31 4 (nI 36)
def mi_39 : Mm := mset mi_38 31 5 (nI 37)
def mi_40 : Mm := mset mi_39 31 6 (nI 38)
def mi_41 : Mm := mset mi_40 31 7 (nI 39)
def mi_42 : Mm := mset mi_41 31 8 (nI 40)
def mi_43 : Mm := mset mi_42 31 14 (-2)
def mi_44 : Mm := mset mi_43 30 0 (nI 31)
def mi_45 : Mm := mset mi_44 41 0 (nI 42)
def mi_46 : Mm := mset mi_45 41 1 (nI 43)
def mi_47 : Mm := mset mi_46 41 2 (nI 44)
def mi_48 : Mm := mset mi_47 41 3 (nI 45)
def mi_49 : Mm := mset mi_48 41 4 (nI 46)
def mi_50 : Mm := mset mi_49 41 5 (nI 47)
def mi_51 : Mm := mset mi_50 41 6 (nI 48)
def mi_52 : Mm := mset mi_51 41 7 (nI 49)
def mi_53 : Mm := mset mi_52 41 8 (nI 50)
def mi_54 : Mm := mset mi_53 41 14 (-2)
def mi_55 : Mm := mset mi_54 30 1 (nI 41)
def mi_56 : Mm := mset mi_55 51 0 (nI 52)
def mi_57 : Mm := mset mi_56 51 1 (nI 53)
def mi_58 : Mm := mset mi_57 51 2 (nI 54)
def mi_59 : Mm := mset mi_58 51 3 (nI 55)
def mi_60 : Mm := mset mi_59 51 4 (nI 56)
def mi_61 : Mm := mset mi_60 51 5 (nI 57)
def mi_62 : Mm := mset mi_61 51 6 (nI 58)
def mi_63 : Mm := mset mi_62 51 7 (nI 59)
def mi_64 : Mm := mset mi_63 51 8 (nI 60)
def mi_65 : Mm := mset mi_64 51 14 (-2)
def mi_66 : Mm := mset mi_65 30 2 (nI 51)
def mi_67 : Mm := mset mi_66 62 0 (nI 63)
def mi_68 : Mm := mset mi_67 62 1 (nI 64)
def mi_69 : Mm := mset mi_68 62 2 (nI 65)
def mi_70 : Mm := mset mi_69 62 3 (nI 66)
def mi_71 : Mm := mset mi_70 62 4 (nI 67)
def mi_72 : Mm := mset mi_71 62 5 (nI 68)
def mi_73 : Mm := mset mi_72 62 6 (nI 69)
def mi_74 : Mm := mset mi_73 62 7 (nI 70)
def mi_75 : Mm := mset mi_74 62 8 (nI 71)
def mi_76 : Mm := mset mi_75 62 14 (-2)
def mi_77 : Mm := mset mi_76 61 0 (nI 62)
def mi_78 : Mm := mset mi_77 61 1 (nI 72)
def mi_79 : Mm := mset mi_78 0 4 (nI 61)
def mi_80 : Mm := mset mi_79 73 0 (nI 74)
def mi_81 : Mm := mset mi_80 73 1 (nI 75)
def mi_82 : Mm := mset mi_81 73 2 (nI 76)
def mi_83 : Mm := mset mi_82 0 5 (nI 73)
def mi_84 : Mm := mset mi_83 77 0 (nI 78)
def mi_85 : Mm := mset mi_84 77 1 (nI 79)
def mi_86 : Mm := mset mi_85 0 6 (nI 77)
def mi_87 : Mm := mset mi_86 0 7 (nI 80)
def mi_88 : Mm := mset mi_87 81 1 (nI 82)
def mi_89 : Mm := mset mi_88 81 10 (-1)
def mi_90 : Mm := mset mi_89 81 12 (nI 83)
def mi_91 : Mm := mset mi_90 81 15 (nI 84)
def mi_92 : Mm := mset mi_91 81 16 (nI 85)
def mi_93 : Mm := mset mi_92 81 17 (nI 86)
def mi_94 : Mm := mset mi_93 81 18 (nI 87)
def mi_95 : Mm := mset mi_94 81 20 (-1)
def mi_96 : Mm := mset mi_95 81 21 (nI 88)
def mi_97 : Mm := mset mi_96 81 22 (nI 89)
def mi_98 : Mm := mset mi_97 81 23 (nI 90)
def mi_99 : Mm := mset mi_98 81 24 (nI 91)
def mi_100 : Mm := mset mi_99 81 25 (nI 92)
def mi_101 : Mm := mset mi_100 81 27 (nI 93)
def mi_102 : Mm := mset mi_101 81 28 (nI 94)
def mi_103 : Mm := mset mi_102 81 31 (nI 95)
theorem c_putm {l : Launch} {B : BT} {Ly : Nat → Kd} {d : Nat} {my : MethodName} {cc : ByteArray} {nL : Nat} {ret : Option FieldType} {mc ms : Nat} {Po : Option Value → Nat → Mm → Prop} {n cells slots pc : Nat} {lv : List (Nat × Value)} {st : List Value} {M M' : Mm} {ci : Nat} {C : String} {T : u_T} {N q k i z q' : Nat} {fks : List Fk} {ty : FieldType} (hN : n ≤ 1000) (hc : clsOK ci C T N) (hq : q < n) (hL : Ly q = .inl (ci, fks)) (hf : fks[k]? = some (1, z)) (hk : k < N) (hw : Cond.fieldLink my.cls i C (T k).2.1 (T k).2.2.1 ∈ lw_big) (hr : (T k).1 = C) (hfin : (T k).2.2.2 = false ∨ ((T k).2.2.2 = true ∧ my.name = "<init>" ∧ (T k).1 = my.cls)) (hty : parseFieldDescriptor (T k).2.2.1 = some ty) (hs : (∃ s, ty = .object s) ∨ ∃ t, ty = .array t) (h0 : 0 < q') (h1 : q' < 1000) (hd : decode cc pc = .ok (.putfield i, 3)) (hM : M' = mset M q k (nI q')) (kk : GG l B Ly d my cc nL ret mc ms Po n cells slots (pc + 3) lv st M') : GG l B Ly d my cc nL ret mc ms Po n cells slots pc lv (.ref q' :: .ref q :: st) M := g_putm hN hc hq hL hf hk hw hr hfin hty hs h0 h1 hd (hM ▸ kk)
theorem c_puti {l : Launch} {B : BT} {Ly : Nat → Kd} {d : Nat} {my : MethodName} {cc : ByteArray} {nL : Nat} {ret : Option FieldType} {mc ms : Nat} {Po : Option Value → Nat → Mm → Prop} {n cells slots pc : Nat} {lv : List (Nat × Value)} {st : List Value} {M M' : Mm} {ci : Nat} {C : String} {T : u_T} {N q k i z : Nat} {fks : List Fk} {x : Int32} (hN : n ≤ 1000) (hc : clsOK ci C T N) (hq : q < n) (hL : Ly q = .inl (ci, fks)) (hf : fks[k]? = some (0, z)) (hk : k < N) (hw : Cond.fieldLink my.cls i C (T k).2.1 (T k).2.2.1 ∈ lw_big) (hr : (T k).1 = C) (hfin : (T k).2.2.2 = false) (hty : parseFieldDescriptor (T k).2.2.1 = some .int) (hd : decode cc pc = .ok (.putfield i, 3)) (hM : M' = mset M q k x) (kk : GG l B Ly d my cc nL ret mc ms Po n cells slots (pc + 3) lv st M') : GG l B Ly d my cc nL ret mc ms Po n cells slots pc lv (.int x :: .ref q :: st) M := g_puti hN hc hq hL hf hk hw hr hfin hty hd (hM ▸ kk)
set_option maxHeartbeats 4000000 in
set_option maxRecDepth 100000 in
theorem i_X0_init_1 {l : Launch} {B : BT} (hA : bA B = true) {d : Nat} : Con l B LYc (d + 1) yX0_init cX0_init 1 none 6 90 [.ref 1] 2 mi_0 (PN 8 mi_6) := by
  refine con_of (by decide) (Nat.le_of_ble_eq_true rfl) ?_
  show GG l B LYc (d + 1) yX0_init cX0_init 1 none 6 90 (PN 8 mi_6) 2 0 0 0 [(0, .ref 1)] [] mi_0
  refine g_aload_n dX0_init_0 rfl 0 rfl ?_
  refine g_objinit rfl (big_at 106 (by decide +kernel) (by decide +kernel)) (big_at 99 (by decide +kernel) (by decide +kernel)) (big_at 100 (by decide +kernel) (by decide +kernel)) (Nat.le_of_ble_eq_true rfl) dX0_init_1 ?_
  refine g_aload_n dX0_init_4 rfl 0 rfl ?_
  refine g_iconst (v := 5) dX0_init_5 (by decide) ?_
  refine g_newarr (t := 0) (len := 5) (ty := .int) hA (Nat.le_of_ble_eq_true rfl) rfl (by simp) rfl (fun _ => rfl) (big_at 188 (by decide +kernel) (by decide +kernel)) (by decide) (by decide) (Nat.le_of_ble_eq_true rfl) (Nat.le_of_ble_eq_true rfl) (Nat.le_of_ble_eq_true rfl) dX0_init_6 ?_
  refine c_putm (k := 0) (M' := mi_1) (Nat.le_of_ble_eq_true rfl) okX0 (Nat.le_of_ble_eq_true rfl) rfl rfl (by decide) (big_at 107 (by decide +kernel) (by decide +kernel)) rfl (Or.inr ⟨rfl, rfl, rfl⟩) rfl (by first | exact Or.inl ⟨_, rfl⟩ | exact Or.inr ⟨_, rfl⟩) (Nat.le_of_ble_eq_true rfl) (Nat.le_of_ble_eq_true rfl) dX0_init_8 rfl ?_
  refine g_aload_n dX0_init_11 rfl 0 rfl ?_
  refine g_iconst (v := 5) dX0_init_12 (by decide) ?_
  refine g_newarr (t := 0) (len := 5) (ty := .int) hA (Nat.le_of_ble_eq_true rfl) rfl (by simp) rfl (fun _ => rfl) (big_at 188 (by decide +kernel) (by decide +kernel)) (by decide) (by decide) (Nat.le_of_ble_eq_true rfl) (Nat.le_of_ble_eq_true rfl) (Nat.le_of_ble_eq_true rfl) dX0_init_13 ?_
  refine c_putm (k := 1) (M' := mi_2) (Nat.le_of_ble_eq_true rfl) okX0 (Nat.le_of_ble_eq_true rfl) rfl rfl (by decide) (big_at 108 (by decide +kernel) (by decide +kernel)) rfl (Or.inr ⟨rfl, rfl, rfl⟩) rfl (by first | exact Or.inl ⟨_, rfl⟩ | exact Or.inr ⟨_, rfl⟩) (Nat.le_of_ble_eq_true rfl) (Nat.le_of_ble_eq_true rfl) dX0_init_15 rfl ?_
  refine g_aload_n dX0_init_18 rfl 0 rfl ?_
  refine g_bipush (v := 20) dX0_init_19 (by decide) ?_
  refine g_newarr (t := 0) (len := 20) (ty := .int) hA (Nat.le_of_ble_eq_true rfl) rfl (by simp) rfl (fun _ => rfl) (big_at 188 (by decide +kernel) (by decide +kernel)) (by decide) (by decide) (Nat.le_of_ble_eq_true rfl) (Nat.le_of_ble_eq_true rfl) (Nat.le_of_ble_eq_true rfl) dX0_init_21 ?_
  refine c_putm (k := 2) (M' := mi_3) (Nat.le_of_ble_eq_true rfl) okX0 (Nat.le_of_ble_eq_true rfl) rfl rfl (by decide) (big_at 110 (by decide +kernel) (by decide +kernel)) rfl (Or.inr ⟨rfl, rfl, rfl⟩) rfl (by first | exact Or.inl ⟨_, rfl⟩ | exact Or.inr ⟨_, rfl⟩) (Nat.le_of_ble_eq_true rfl) (Nat.le_of_ble_eq_true rfl) dX0_init_23 rfl ?_
  refine g_aload_n dX0_init_26 rfl 0 rfl ?_
  refine g_iconst (v := 5) dX0_init_27 (by decide) ?_
  refine g_newarr (t := 0) (len := 5) (ty := .int) hA (Nat.le_of_ble_eq_true rfl) rfl (by simp) rfl (fun _ => rfl) (big_at 188 (by decide +kernel) (by decide +kernel)) (by decide) (by decide) (Nat.le_of_ble_eq_true rfl) (Nat.le_of_ble_eq_true rfl) (Nat.le_of_ble_eq_true rfl) dX0_init_28 ?_
  refine c_putm (k := 3) (M' := mi_4) (Nat.le_of_ble_eq_true rfl) okX0 (Nat.le_of_ble_eq_true rfl) rfl rfl (by decide) (big_at 111 (by decide +kernel) (by decide +kernel)) rfl (Or.inr ⟨rfl, rfl, rfl⟩) rfl (by first | exact Or.inl ⟨_, rfl⟩ | exact Or.inr ⟨_, rfl⟩) (Nat.le_of_ble_eq_true rfl) (Nat.le_of_ble_eq_true rfl) dX0_init_30 rfl ?_
  refine g_aload_n dX0_init_33 rfl 0 rfl ?_
  refine g_bipush (v := 20) dX0_init_34 (by decide) ?_
  refine g_newarr (t := 0) (len := 20) (ty := .int) hA (Nat.le_of_ble_eq_true rfl) rfl (by simp) rfl (fun _ => rfl) (big_at 188 (by decide +kernel) (by decide +kernel)) (by decide) (by decide) (Nat.le_of_ble_eq_true rfl) (Nat.le_of_ble_eq_true rfl) (Nat.le_of_ble_eq_true rfl) dX0_init_36 ?_
  refine c_putm (k := 4) (M' := mi_5) (Nat.le_of_ble_eq_true rfl) okX0 (Nat.le_of_ble_eq_true rfl) rfl rfl (by decide) (big_at 116 (by decide +kernel) (by decide +kernel)) rfl (Or.inr ⟨rfl, rfl, rfl⟩) rfl (by first | exact Or.inl ⟨_, rfl⟩ | exact Or.inr ⟨_, rfl⟩) (Nat.le_of_ble_eq_true rfl) (Nat.le_of_ble_eq_true rfl) dX0_init_38 rfl ?_
  refine g_aload_n dX0_init_41 rfl 0 rfl ?_
  refine g_bipush (v := 35) dX0_init_42 (by decide) ?_
  refine g_newarr (t := 0) (len := 35) (ty := .int) hA (Nat.le_of_ble_eq_true rfl) rfl (by simp) rfl (fun _ => rfl) (big_at 188 (by decide +kernel) (by decide +kernel)) (by decide) (by decide) (Nat.le_of_ble_eq_true rfl) (Nat.le_of_ble_eq_true rfl) (Nat.le_of_ble_eq_true rfl) dX0_init_44 ?_
  refine c_putm (k := 5) (M' := mi_6) (Nat.le_of_ble_eq_true rfl) okX0 (Nat.le_of_ble_eq_true rfl) rfl rfl (by decide) (big_at 118 (by decide +kernel) (by decide +kernel)) rfl (Or.inr ⟨rfl, rfl, rfl⟩) rfl (by first | exact Or.inl ⟨_, rfl⟩ | exact Or.inr ⟨_, rfl⟩) (Nat.le_of_ble_eq_true rfl) (Nat.le_of_ble_eq_true rfl) dX0_init_46 rfl ?_
  exact g_vret rfl ⟨rfl, rfl, rfl⟩ dX0_init_49
set_option maxHeartbeats 4000000 in
set_option maxRecDepth 100000 in
theorem i_X0_init_8 {l : Launch} {B : BT} (hA : bA B = true) {d : Nat} : Con l B LYc (d + 1) yX0_init cX0_init 1 none 6 90 [.ref 8] 9 mi_7 (PN 15 mi_13) := by
  refine con_of (by decide) (Nat.le_of_ble_eq_true rfl) ?_
  show GG l B LYc (d + 1) yX0_init cX0_init 1 none 6 90 (PN 15 mi_13) 9 0 0 0 [(0, .ref 8)] [] mi_7
  refine g_aload_n dX0_init_0 rfl 0 rfl ?_
  refine g_objinit rfl (big_at 106 (by decide +kernel) (by decide +kernel)) (big_at 99 (by decide +kernel) (by decide +kernel)) (big_at 100 (by decide +kernel) (by decide +kernel)) (Nat.le_of_ble_eq_true rfl) dX0_init_1 ?_
  refine g_aload_n dX0_init_4 rfl 0 rfl ?_
  refine g_iconst (v := 5) dX0_init_5 (by decide) ?_
  refine g_newarr (t := 0) (len := 5) (ty := .int) hA (Nat.le_of_ble_eq_true rfl) rfl (by simp) rfl (fun _ => rfl) (big_at 188 (by decide +kernel) (by decide +kernel)) (by decide) (by decide) (Nat.le_of_ble_eq_true rfl) (Nat.le_of_ble_eq_true rfl) (Nat.le_of_ble_eq_true rfl) dX0_init_6 ?_
  refine c_putm (k := 0) (M' := mi_8) (Nat.le_of_ble_eq_true rfl) okX0 (Nat.le_of_ble_eq_true rfl) rfl rfl (by decide) (big_at 107 (by decide +kernel) (by decide +kernel)) rfl (Or.inr ⟨rfl, rfl, rfl⟩) rfl (by first | exact Or.inl ⟨_, rfl⟩ | exact Or.inr ⟨_, rfl⟩) (Nat.le_of_ble_eq_true rfl) (Nat.le_of_ble_eq_true rfl) dX0_init_8 rfl ?_
  refine g_aload_n dX0_init_11 rfl 0 rfl ?_
  refine g_iconst (v := 5) dX0_init_12 (by decide) ?_
  refine g_newarr (t := 0) (len := 5) (ty := .int) hA (Nat.le_of_ble_eq_true rfl) rfl (by simp) rfl (fun _ => rfl) (big_at 188 (by decide +kernel) (by decide +kernel)) (by decide) (by decide) (Nat.le_of_ble_eq_true rfl) (Nat.le_of_ble_eq_true rfl) (Nat.le_of_ble_eq_true rfl) dX0_init_13 ?_
  refine c_putm (k := 1) (M' := mi_9) (Nat.le_of_ble_eq_true rfl) okX0 (Nat.le_of_ble_eq_true rfl) rfl rfl (by decide) (big_at 108 (by decide +kernel) (by decide +kernel)) rfl (Or.inr ⟨rfl, rfl, rfl⟩) rfl (by first | exact Or.inl ⟨_, rfl⟩ | exact Or.inr ⟨_, rfl⟩) (Nat.le_of_ble_eq_true rfl) (Nat.le_of_ble_eq_true rfl) dX0_init_15 rfl ?_
  refine g_aload_n dX0_init_18 rfl 0 rfl ?_
  refine g_bipush (v := 20) dX0_init_19 (by decide) ?_
  refine g_newarr (t := 0) (len := 20) (ty := .int) hA (Nat.le_of_ble_eq_true rfl) rfl (by simp) rfl (fun _ => rfl) (big_at 188 (by decide +kernel) (by decide +kernel)) (by decide) (by decide) (Nat.le_of_ble_eq_true rfl) (Nat.le_of_ble_eq_true rfl) (Nat.le_of_ble_eq_true rfl) dX0_init_21 ?_
  refine c_putm (k := 2) (M' := mi_10) (Nat.le_of_ble_eq_true rfl) okX0 (Nat.le_of_ble_eq_true rfl) rfl rfl (by decide) (big_at 110 (by decide +kernel) (by decide +kernel)) rfl (Or.inr ⟨rfl, rfl, rfl⟩) rfl (by first | exact Or.inl ⟨_, rfl⟩ | exact Or.inr ⟨_, rfl⟩) (Nat.le_of_ble_eq_true rfl) (Nat.le_of_ble_eq_true rfl) dX0_init_23 rfl ?_
  refine g_aload_n dX0_init_26 rfl 0 rfl ?_
  refine g_iconst (v := 5) dX0_init_27 (by decide) ?_
  refine g_newarr (t := 0) (len := 5) (ty := .int) hA (Nat.le_of_ble_eq_true rfl) rfl (by simp) rfl (fun _ => rfl) (big_at 188 (by decide +kernel) (by decide +kernel)) (by decide) (by decide) (Nat.le_of_ble_eq_true rfl) (Nat.le_of_ble_eq_true rfl) (Nat.le_of_ble_eq_true rfl) dX0_init_28 ?_
  refine c_putm (k := 3) (M' := mi_11) (Nat.le_of_ble_eq_true rfl) okX0 (Nat.le_of_ble_eq_true rfl) rfl rfl (by decide) (big_at 111 (by decide +kernel) (by decide +kernel)) rfl (Or.inr ⟨rfl, rfl, rfl⟩) rfl (by first | exact Or.inl ⟨_, rfl⟩ | exact Or.inr ⟨_, rfl⟩) (Nat.le_of_ble_eq_true rfl) (Nat.le_of_ble_eq_true rfl) dX0_init_30 rfl ?_
  refine g_aload_n dX0_init_33 rfl 0 rfl ?_
  refine g_bipush (v := 20) dX0_init_34 (by decide) ?_
  refine g_newarr (t := 0) (len := 20) (ty := .int) hA (Nat.le_of_ble_eq_true rfl) rfl (by simp) rfl (fun _ => rfl) (big_at 188 (by decide +kernel) (by decide +kernel)) (by decide) (by decide) (Nat.le_of_ble_eq_true rfl) (Nat.le_of_ble_eq_true rfl) (Nat.le_of_ble_eq_true rfl) dX0_init_36 ?_
  refine c_putm (k := 4) (M' := mi_12) (Nat.le_of_ble_eq_true rfl) okX0 (Nat.le_of_ble_eq_true rfl) rfl rfl (by decide) (big_at 116 (by decide +kernel) (by decide +kernel)) rfl (Or.inr ⟨rfl, rfl, rfl⟩) rfl (by first | exact Or.inl ⟨_, rfl⟩ | exact Or.inr ⟨_, rfl⟩) (Nat.le_of_ble_eq_true rfl) (Nat.le_of_ble_eq_true rfl) dX0_init_38 rfl ?_
  refine g_aload_n dX0_init_41 rfl 0 rfl ?_
  refine g_bipush (v := 35) dX0_init_42 (by decide) ?_
  refine g_newarr (t := 0) (len := 35) (ty := .int) hA (Nat.le_of_ble_eq_true rfl) rfl (by simp) rfl (fun _ => rfl) (big_at 188 (by decide +kernel) (by decide +kernel)) (by decide) (by decide) (Nat.le_of_ble_eq_true rfl) (Nat.le_of_ble_eq_true rfl) (Nat.le_of_ble_eq_true rfl) dX0_init_44 ?_
  refine c_putm (k := 5) (M' := mi_13) (Nat.le_of_ble_eq_true rfl) okX0 (Nat.le_of_ble_eq_true rfl) rfl rfl (by decide) (big_at 118 (by decide +kernel) (by decide +kernel)) rfl (Or.inr ⟨rfl, rfl, rfl⟩) rfl (by first | exact Or.inl ⟨_, rfl⟩ | exact Or.inr ⟨_, rfl⟩) (Nat.le_of_ble_eq_true rfl) (Nat.le_of_ble_eq_true rfl) dX0_init_46 rfl ?_
  exact g_vret rfl ⟨rfl, rfl, rfl⟩ dX0_init_49
set_option maxHeartbeats 4000000 in
set_option maxRecDepth 100000 in
theorem i_X8_init_15 {l : Launch} {B : BT} (hA : bA B = true) {d : Nat} : Con l B LYc (d + 1) yX8_init cX8_init 1 none 1 900 [.ref 15] 16 mi_14 (PN 17 mi_15) := by
  refine con_of (by decide) (Nat.le_of_ble_eq_true rfl) ?_
  show GG l B LYc (d + 1) yX8_init cX8_init 1 none 1 900 (PN 17 mi_15) 16 0 0 0 [(0, .ref 15)] [] mi_14
  refine g_aload_n dX8_init_0 rfl 0 rfl ?_
  refine g_objinit rfl (big_at 194 (by decide +kernel) (by decide +kernel)) (big_at 99 (by decide +kernel) (by decide +kernel)) (big_at 100 (by decide +kernel) (by decide +kernel)) (Nat.le_of_ble_eq_true rfl) dX8_init_1 ?_
  refine g_aload_n dX8_init_4 rfl 0 rfl ?_
  refine g_sipush (v := 900) dX8_init_5 (by decide) ?_
  refine g_newarr (t := 1) (len := 900) (ty := .byte) hA (Nat.le_of_ble_eq_true rfl) rfl (by simp) rfl (fun _ => rfl) (big_at 222 (by decide +kernel) (by decide +kernel)) (by decide) (by decide) (Nat.le_of_ble_eq_true rfl) (Nat.le_of_ble_eq_true rfl) (Nat.le_of_ble_eq_true rfl) dX8_init_8 ?_
  refine c_putm (k := 0) (M' := mi_15) (Nat.le_of_ble_eq_true rfl) okX8 (Nat.le_of_ble_eq_true rfl) rfl rfl (by decide) (big_at 195 (by decide +kernel) (by decide +kernel)) rfl (Or.inr ⟨rfl, rfl, rfl⟩) rfl (by first | exact Or.inl ⟨_, rfl⟩ | exact Or.inr ⟨_, rfl⟩) (Nat.le_of_ble_eq_true rfl) (Nat.le_of_ble_eq_true rfl) dX8_init_10 rfl ?_
  exact g_vret rfl ⟨rfl, rfl, rfl⟩ dX8_init_13
set_option maxHeartbeats 4000000 in
set_option maxRecDepth 100000 in
theorem i_X5_init_17 {l : Launch} {B : BT} (hA : bA B = true) {d : Nat} : Con l B LYc (d + 1) yX5_init cX5_init 3 none 2 10 [.ref 17, .ref 15, .ref 8] 18 mi_16 (PN 20 mi_20) := by
  refine con_of (by decide) (Nat.le_of_ble_eq_true rfl) ?_
  show GG l B LYc (d + 1) yX5_init cX5_init 3 none 2 10 (PN 20 mi_20) 18 0 0 0 [(0, .ref 17), (1, .ref 15), (2, .ref 8)] [] mi_16
  refine g_aload_n dX5_init_0 rfl 0 rfl ?_
  refine g_objinit rfl (big_at 228 (by decide +kernel) (by decide +kernel)) (big_at 99 (by decide +kernel) (by decide +kernel)) (big_at 100 (by decide +kernel) (by decide +kernel)) (Nat.le_of_ble_eq_true rfl) dX5_init_1 ?_
  refine g_aload_n dX5_init_4 rfl 0 rfl ?_
  refine g_iconst (v := 5) dX5_init_5 (by decide) ?_
  refine g_newarr (t := 0) (len := 5) (ty := .int) hA (Nat.le_of_ble_eq_true rfl) rfl (by simp) rfl (fun _ => rfl) (big_at 188 (by decide +kernel) (by decide +kernel)) (by decide) (by decide) (Nat.le_of_ble_eq_true rfl) (Nat.le_of_ble_eq_true rfl) (Nat.le_of_ble_eq_true rfl) dX5_init_6 ?_
  refine c_putm (k := 1) (M' := mi_17) (Nat.le_of_ble_eq_true rfl) okX5 (Nat.le_of_ble_eq_true rfl) rfl rfl (by decide) (big_at 230 (by decide +kernel) (by decide +kernel)) rfl (Or.inr ⟨rfl, rfl, rfl⟩) rfl (by first | exact Or.inl ⟨_, rfl⟩ | exact Or.inr ⟨_, rfl⟩) (Nat.le_of_ble_eq_true rfl) (Nat.le_of_ble_eq_true rfl) dX5_init_8 rfl ?_
  refine g_aload_n dX5_init_11 rfl 0 rfl ?_
  refine g_iconst (v := 5) dX5_init_12 (by decide) ?_
  refine g_newarr (t := 0) (len := 5) (ty := .int) hA (Nat.le_of_ble_eq_true rfl) rfl (by simp) rfl (fun _ => rfl) (big_at 188 (by decide +kernel) (by decide +kernel)) (by decide) (by decide) (Nat.le_of_ble_eq_true rfl) (Nat.le_of_ble_eq_true rfl) (Nat.le_of_ble_eq_true rfl) dX5_init_13 ?_
  refine c_putm (k := 2) (M' := mi_18) (Nat.le_of_ble_eq_true rfl) okX5 (Nat.le_of_ble_eq_true rfl) rfl rfl (by decide) (big_at 231 (by decide +kernel) (by decide +kernel)) rfl (Or.inr ⟨rfl, rfl, rfl⟩) rfl (by first | exact Or.inl ⟨_, rfl⟩ | exact Or.inr ⟨_, rfl⟩) (Nat.le_of_ble_eq_true rfl) (Nat.le_of_ble_eq_true rfl) dX5_init_15 rfl ?_
  refine g_aload_n dX5_init_18 rfl 0 rfl ?_
  refine g_aload_n dX5_init_19 rfl 1 rfl ?_
  refine c_putm (k := 0) (M' := mi_19) (Nat.le_of_ble_eq_true rfl) okX5 (Nat.le_of_ble_eq_true rfl) rfl rfl (by decide) (big_at 229 (by decide +kernel) (by decide +kernel)) rfl (Or.inr ⟨rfl, rfl, rfl⟩) rfl (by first | exact Or.inl ⟨_, rfl⟩ | exact Or.inr ⟨_, rfl⟩) (Nat.le_of_ble_eq_true rfl) (Nat.le_of_ble_eq_true rfl) dX5_init_20 rfl ?_
  refine g_aload_n dX5_init_23 rfl 0 rfl ?_
  refine g_aload_n dX5_init_24 rfl 2 rfl ?_
  refine c_putm (k := 3) (M' := mi_20) (Nat.le_of_ble_eq_true rfl) okX5 (Nat.le_of_ble_eq_true rfl) rfl rfl (by decide) (big_at 232 (by decide +kernel) (by decide +kernel)) rfl (Or.inl rfl) rfl (by first | exact Or.inl ⟨_, rfl⟩ | exact Or.inr ⟨_, rfl⟩) (Nat.le_of_ble_eq_true rfl) (Nat.le_of_ble_eq_true rfl) dX5_init_25 rfl ?_
  exact g_vret rfl ⟨rfl, rfl, rfl⟩ dX5_init_28
set_option maxHeartbeats 4000000 in
set_option maxRecDepth 100000 in
theorem i_X3_init_20 {l : Launch} {B : BT} (hA : bA B = true) {d : Nat} : Con l B LYc (d + 1) yX3_init cX3_init 1 none 9 45 [.ref 20] 21 mi_21 (PN 30 mi_31) := by
  refine con_of (by decide) (Nat.le_of_ble_eq_true rfl) ?_
  show GG l B LYc (d + 1) yX3_init cX3_init 1 none 9 45 (PN 30 mi_31) 21 0 0 0 [(0, .ref 20)] [] mi_21
  refine g_aload_n dX3_init_0 rfl 0 rfl ?_
  refine g_objinit rfl (big_at 258 (by decide +kernel) (by decide +kernel)) (big_at 99 (by decide +kernel) (by decide +kernel)) (big_at 100 (by decide +kernel) (by decide +kernel)) (Nat.le_of_ble_eq_true rfl) dX3_init_1 ?_
  refine g_aload_n dX3_init_4 rfl 0 rfl ?_
  refine g_iconst (v := 5) dX3_init_5 (by decide) ?_
  refine g_newarr (t := 0) (len := 5) (ty := .int) hA (Nat.le_of_ble_eq_true rfl) rfl (by simp) rfl (fun _ => rfl) (big_at 188 (by decide +kernel) (by decide +kernel)) (by decide) (by decide) (Nat.le_of_ble_eq_true rfl) (Nat.le_of_ble_eq_true rfl) (Nat.le_of_ble_eq_true rfl) dX3_init_6 ?_
  refine c_putm (k := 0) (M' := mi_22) (Nat.le_of_ble_eq_true rfl) okX3 (Nat.le_of_ble_eq_true rfl) rfl rfl (by decide) (big_at 259 (by decide +kernel) (by decide +kernel)) rfl (Or.inr ⟨rfl, rfl, rfl⟩) rfl (by first | exact Or.inl ⟨_, rfl⟩ | exact Or.inr ⟨_, rfl⟩) (Nat.le_of_ble_eq_true rfl) (Nat.le_of_ble_eq_true rfl) dX3_init_8 rfl ?_
  refine g_aload_n dX3_init_11 rfl 0 rfl ?_
  refine g_iconst (v := 5) dX3_init_12 (by decide) ?_
  refine g_newarr (t := 0) (len := 5) (ty := .int) hA (Nat.le_of_ble_eq_true rfl) rfl (by simp) rfl (fun _ => rfl) (big_at 188 (by decide +kernel) (by decide +kernel)) (by decide) (by decide) (Nat.le_of_ble_eq_true rfl) (Nat.le_of_ble_eq_true rfl) (Nat.le_of_ble_eq_true rfl) dX3_init_13 ?_
  refine c_putm (k := 1) (M' := mi_23) (Nat.le_of_ble_eq_true rfl) okX3 (Nat.le_of_ble_eq_true rfl) rfl rfl (by decide) (big_at 263 (by decide +kernel) (by decide +kernel)) rfl (Or.inr ⟨rfl, rfl, rfl⟩) rfl (by first | exact Or.inl ⟨_, rfl⟩ | exact Or.inr ⟨_, rfl⟩) (Nat.le_of_ble_eq_true rfl) (Nat.le_of_ble_eq_true rfl) dX3_init_15 rfl ?_
  refine g_aload_n dX3_init_18 rfl 0 rfl ?_
  refine g_iconst (v := 5) dX3_init_19 (by decide) ?_
  refine g_newarr (t := 0) (len := 5) (ty := .int) hA (Nat.le_of_ble_eq_true rfl) rfl (by simp) rfl (fun _ => rfl) (big_at 188 (by decide +kernel) (by decide +kernel)) (by decide) (by decide) (Nat.le_of_ble_eq_true rfl) (Nat.le_of_ble_eq_true rfl) (Nat.le_of_ble_eq_true rfl) dX3_init_20 ?_
  refine c_putm (k := 2) (M' := mi_24) (Nat.le_of_ble_eq_true rfl) okX3 (Nat.le_of_ble_eq_true rfl) rfl rfl (by decide) (big_at 265 (by decide +kernel) (by decide +kernel)) rfl (Or.inr ⟨rfl, rfl, rfl⟩) rfl (by first | exact Or.inl ⟨_, rfl⟩ | exact Or.inr ⟨_, rfl⟩) (Nat.le_of_ble_eq_true rfl) (Nat.le_of_ble_eq_true rfl) dX3_init_22 rfl ?_
  refine g_aload_n dX3_init_25 rfl 0 rfl ?_
  refine g_iconst (v := 5) dX3_init_26 (by decide) ?_
  refine g_newarr (t := 0) (len := 5) (ty := .int) hA (Nat.le_of_ble_eq_true rfl) rfl (by simp) rfl (fun _ => rfl) (big_at 188 (by decide +kernel) (by decide +kernel)) (by decide) (by decide) (Nat.le_of_ble_eq_true rfl) (Nat.le_of_ble_eq_true rfl) (Nat.le_of_ble_eq_true rfl) dX3_init_27 ?_
  refine c_putm (k := 3) (M' := mi_25) (Nat.le_of_ble_eq_true rfl) okX3 (Nat.le_of_ble_eq_true rfl) rfl rfl (by decide) (big_at 267 (by decide +kernel) (by decide +kernel)) rfl (Or.inr ⟨rfl, rfl, rfl⟩) rfl (by first | exact Or.inl ⟨_, rfl⟩ | exact Or.inr ⟨_, rfl⟩) (Nat.le_of_ble_eq_true rfl) (Nat.le_of_ble_eq_true rfl) dX3_init_29 rfl ?_
  refine g_aload_n dX3_init_32 rfl 0 rfl ?_
  refine g_iconst (v := 5) dX3_init_33 (by decide) ?_
  refine g_newarr (t := 0) (len := 5) (ty := .int) hA (Nat.le_of_ble_eq_true rfl) rfl (by simp) rfl (fun _ => rfl) (big_at 188 (by decide +kernel) (by decide +kernel)) (by decide) (by decide) (Nat.le_of_ble_eq_true rfl) (Nat.le_of_ble_eq_true rfl) (Nat.le_of_ble_eq_true rfl) dX3_init_34 ?_
  refine c_putm (k := 4) (M' := mi_26) (Nat.le_of_ble_eq_true rfl) okX3 (Nat.le_of_ble_eq_true rfl) rfl rfl (by decide) (big_at 270 (by decide +kernel) (by decide +kernel)) rfl (Or.inr ⟨rfl, rfl, rfl⟩) rfl (by first | exact Or.inl ⟨_, rfl⟩ | exact Or.inr ⟨_, rfl⟩) (Nat.le_of_ble_eq_true rfl) (Nat.le_of_ble_eq_true rfl) dX3_init_36 rfl ?_
  refine g_aload_n dX3_init_39 rfl 0 rfl ?_
  refine g_iconst (v := 5) dX3_init_40 (by decide) ?_
  refine g_newarr (t := 0) (len := 5) (ty := .int) hA (Nat.le_of_ble_eq_true rfl) rfl (by simp) rfl (fun _ => rfl) (big_at 188 (by decide +kernel) (by decide +kernel)) (by decide) (by decide) (Nat.le_of_ble_eq_true rfl) (Nat.le_of_ble_eq_true rfl) (Nat.le_of_ble_eq_true rfl) dX3_init_41 ?_
  refine c_putm (k := 5) (M' := mi_27) (Nat.le_of_ble_eq_true rfl) okX3 (Nat.le_of_ble_eq_true rfl) rfl rfl (by decide) (big_at 273 (by decide +kernel) (by decide +kernel)) rfl (Or.inr ⟨rfl, rfl, rfl⟩) rfl (by first | exact Or.inl ⟨_, rfl⟩ | exact Or.inr ⟨_, rfl⟩) (Nat.le_of_ble_eq_true rfl) (Nat.le_of_ble_eq_true rfl) dX3_init_43 rfl ?_
  refine g_aload_n dX3_init_46 rfl 0 rfl ?_
  refine g_iconst (v := 5) dX3_init_47 (by decide) ?_
  refine g_newarr (t := 0) (len := 5) (ty := .int) hA (Nat.le_of_ble_eq_true rfl) rfl (by simp) rfl (fun _ => rfl) (big_at 188 (by decide +kernel) (by decide +kernel)) (by decide) (by decide) (Nat.le_of_ble_eq_true rfl) (Nat.le_of_ble_eq_true rfl) (Nat.le_of_ble_eq_true rfl) dX3_init_48 ?_
  refine c_putm (k := 6) (M' := mi_28) (Nat.le_of_ble_eq_true rfl) okX3 (Nat.le_of_ble_eq_true rfl) rfl rfl (by decide) (big_at 274 (by decide +kernel) (by decide +kernel)) rfl (Or.inr ⟨rfl, rfl, rfl⟩) rfl (by first | exact Or.inl ⟨_, rfl⟩ | exact Or.inr ⟨_, rfl⟩) (Nat.le_of_ble_eq_true rfl) (Nat.le_of_ble_eq_true rfl) dX3_init_50 rfl ?_
  refine g_aload_n dX3_init_53 rfl 0 rfl ?_
  refine g_iconst (v := 5) dX3_init_54 (by decide) ?_
  refine g_newarr (t := 0) (len := 5) (ty := .int) hA (Nat.le_of_ble_eq_true rfl) rfl (by simp) rfl (fun _ => rfl) (big_at 188 (by decide +kernel) (by decide +kernel)) (by decide) (by decide) (Nat.le_of_ble_eq_true rfl) (Nat.le_of_ble_eq_true rfl) (Nat.le_of_ble_eq_true rfl) dX3_init_55 ?_
  refine c_putm (k := 7) (M' := mi_29) (Nat.le_of_ble_eq_true rfl) okX3 (Nat.le_of_ble_eq_true rfl) rfl rfl (by decide) (big_at 275 (by decide +kernel) (by decide +kernel)) rfl (Or.inr ⟨rfl, rfl, rfl⟩) rfl (by first | exact Or.inl ⟨_, rfl⟩ | exact Or.inr ⟨_, rfl⟩) (Nat.le_of_ble_eq_true rfl) (Nat.le_of_ble_eq_true rfl) dX3_init_57 rfl ?_
  refine g_aload_n dX3_init_60 rfl 0 rfl ?_
  refine g_iconst (v := 5) dX3_init_61 (by decide) ?_
  refine g_newarr (t := 0) (len := 5) (ty := .int) hA (Nat.le_of_ble_eq_true rfl) rfl (by simp) rfl (fun _ => rfl) (big_at 188 (by decide +kernel) (by decide +kernel)) (by decide) (by decide) (Nat.le_of_ble_eq_true rfl) (Nat.le_of_ble_eq_true rfl) (Nat.le_of_ble_eq_true rfl) dX3_init_62 ?_
  refine c_putm (k := 8) (M' := mi_30) (Nat.le_of_ble_eq_true rfl) okX3 (Nat.le_of_ble_eq_true rfl) rfl rfl (by decide) (big_at 276 (by decide +kernel) (by decide +kernel)) rfl (Or.inr ⟨rfl, rfl, rfl⟩) rfl (by first | exact Or.inl ⟨_, rfl⟩ | exact Or.inr ⟨_, rfl⟩) (Nat.le_of_ble_eq_true rfl) (Nat.le_of_ble_eq_true rfl) dX3_init_64 rfl ?_
  refine g_aload_n dX3_init_67 rfl 0 rfl ?_
  refine g_bipush (v := (-2)) dX3_init_68 (by decide) ?_
  refine c_puti (k := 14) (M' := mi_31) (Nat.le_of_ble_eq_true rfl) okX3 (Nat.le_of_ble_eq_true rfl) rfl rfl (by decide) (big_at 289 (by decide +kernel) (by decide +kernel)) rfl rfl rfl dX3_init_70 rfl ?_
  exact g_vret rfl ⟨rfl, rfl, rfl⟩ dX3_init_73
set_option maxHeartbeats 4000000 in
set_option maxRecDepth 100000 in
theorem i_X3_init_31 {l : Launch} {B : BT} (hA : bA B = true) {d : Nat} : Con l B LYc (d + 1) yX3_init cX3_init 1 none 9 45 [.ref 31] 32 mi_33 (PN 41 mi_43) := by
  refine con_of (by decide) (Nat.le_of_ble_eq_true rfl) ?_
  show GG l B LYc (d + 1) yX3_init cX3_init 1 none 9 45 (PN 41 mi_43) 32 0 0 0 [(0, .ref 31)] [] mi_33
  refine g_aload_n dX3_init_0 rfl 0 rfl ?_
  refine g_objinit rfl (big_at 258 (by decide +kernel) (by decide +kernel)) (big_at 99 (by decide +kernel) (by decide +kernel)) (big_at 100 (by decide +kernel) (by decide +kernel)) (Nat.le_of_ble_eq_true rfl) dX3_init_1 ?_
  refine g_aload_n dX3_init_4 rfl 0 rfl ?_
  refine g_iconst (v := 5) dX3_init_5 (by decide) ?_
  refine g_newarr (t := 0) (len := 5) (ty := .int) hA (Nat.le_of_ble_eq_true rfl) rfl (by simp) rfl (fun _ => rfl) (big_at 188 (by decide +kernel) (by decide +kernel)) (by decide) (by decide) (Nat.le_of_ble_eq_true rfl) (Nat.le_of_ble_eq_true rfl) (Nat.le_of_ble_eq_true rfl) dX3_init_6 ?_
  refine c_putm (k := 0) (M' := mi_34) (Nat.le_of_ble_eq_true rfl) okX3 (Nat.le_of_ble_eq_true rfl) rfl rfl (by decide) (big_at 259 (by decide +kernel) (by decide +kernel)) rfl (Or.inr ⟨rfl, rfl, rfl⟩) rfl (by first | exact Or.inl ⟨_, rfl⟩ | exact Or.inr ⟨_, rfl⟩) (Nat.le_of_ble_eq_true rfl) (Nat.le_of_ble_eq_true rfl) dX3_init_8 rfl ?_
  refine g_aload_n dX3_init_11 rfl 0 rfl ?_
  refine g_iconst (v := 5) dX3_init_12 (by decide) ?_
  refine g_newarr (t := 0) (len := 5) (ty := .int) hA (Nat.le_of_ble_eq_true rfl) rfl (by simp) rfl (fun _ => rfl) (big_at 188 (by decide +kernel) (by decide +kernel)) (by decide) (by decide) (Nat.le_of_ble_eq_true rfl) (Nat.le_of_ble_eq_true rfl) (Nat.le_of_ble_eq_true rfl) dX3_init_13 ?_
  refine c_putm (k := 1) (M' := mi_35) (Nat.le_of_ble_eq_true rfl) okX3 (Nat.le_of_ble_eq_true rfl) rfl rfl (by decide) (big_at 263 (by decide +kernel) (by decide +kernel)) rfl (Or.inr ⟨rfl, rfl, rfl⟩) rfl (by first | exact Or.inl ⟨_, rfl⟩ | exact Or.inr ⟨_, rfl⟩) (Nat.le_of_ble_eq_true rfl) (Nat.le_of_ble_eq_true rfl) dX3_init_15 rfl ?_
  refine g_aload_n dX3_init_18 rfl 0 rfl ?_
  refine g_iconst (v := 5) dX3_init_19 (by decide) ?_
  refine g_newarr (t := 0) (len := 5) (ty := .int) hA (Nat.le_of_ble_eq_true rfl) rfl (by simp) rfl (fun _ => rfl) (big_at 188 (by decide +kernel) (by decide +kernel)) (by decide) (by decide) (Nat.le_of_ble_eq_true rfl) (Nat.le_of_ble_eq_true rfl) (Nat.le_of_ble_eq_true rfl) dX3_init_20 ?_
  refine c_putm (k := 2) (M' := mi_36) (Nat.le_of_ble_eq_true rfl) okX3 (Nat.le_of_ble_eq_true rfl) rfl rfl (by decide) (big_at 265 (by decide +kernel) (by decide +kernel)) rfl (Or.inr ⟨rfl, rfl, rfl⟩) rfl (by first | exact Or.inl ⟨_, rfl⟩ | exact Or.inr ⟨_, rfl⟩) (Nat.le_of_ble_eq_true rfl) (Nat.le_of_ble_eq_true rfl) dX3_init_22 rfl ?_
  refine g_aload_n dX3_init_25 rfl 0 rfl ?_
  refine g_iconst (v := 5) dX3_init_26 (by decide) ?_
  refine g_newarr (t := 0) (len := 5) (ty := .int) hA (Nat.le_of_ble_eq_true rfl) rfl (by simp) rfl (fun _ => rfl) (big_at 188 (by decide +kernel) (by decide +kernel)) (by decide) (by decide) (Nat.le_of_ble_eq_true rfl) (Nat.le_of_ble_eq_true rfl) (Nat.le_of_ble_eq_true rfl) dX3_init_27 ?_
  refine c_putm (k := 3) (M' := mi_37) (Nat.le_of_ble_eq_true rfl) okX3 (Nat.le_of_ble_eq_true rfl) rfl rfl (by decide) (big_at 267 (by decide +kernel) (by decide +kernel)) rfl (Or.inr ⟨rfl, rfl, rfl⟩) rfl (by first | exact Or.inl ⟨_, rfl⟩ | exact Or.inr ⟨_, rfl⟩) (Nat.le_of_ble_eq_true rfl) (Nat.le_of_ble_eq_true rfl) dX3_init_29 rfl ?_
  refine g_aload_n dX3_init_32 rfl 0 rfl ?_
  refine g_iconst (v := 5) dX3_init_33 (by decide) ?_
  refine g_newarr (t := 0) (len := 5) (ty := .int) hA (Nat.le_of_ble_eq_true rfl) rfl (by simp) rfl (fun _ => rfl) (big_at 188 (by decide +kernel) (by decide +kernel)) (by decide) (by decide) (Nat.le_of_ble_eq_true rfl) (Nat.le_of_ble_eq_true rfl) (Nat.le_of_ble_eq_true rfl) dX3_init_34 ?_
  refine c_putm (k := 4) (M' := mi_38) (Nat.le_of_ble_eq_true rfl) okX3 (Nat.le_of_ble_eq_true rfl) rfl rfl (by decide) (big_at 270 (by decide +kernel) (by decide +kernel)) rfl (Or.inr ⟨rfl, rfl, rfl⟩) rfl (by first | exact Or.inl ⟨_, rfl⟩ | exact Or.inr ⟨_, rfl⟩) (Nat.le_of_ble_eq_true rfl) (Nat.le_of_ble_eq_true rfl) dX3_init_36 rfl ?_
  refine g_aload_n dX3_init_39 rfl 0 rfl ?_
  refine g_iconst (v := 5) dX3_init_40 (by decide) ?_
  refine g_newarr (t := 0) (len := 5) (ty := .int) hA (Nat.le_of_ble_eq_true rfl) rfl (by simp) rfl (fun _ => rfl) (big_at 188 (by decide +kernel) (by decide +kernel)) (by decide) (by decide) (Nat.le_of_ble_eq_true rfl) (Nat.le_of_ble_eq_true rfl) (Nat.le_of_ble_eq_true rfl) dX3_init_41 ?_
  refine c_putm (k := 5) (M' := mi_39) (Nat.le_of_ble_eq_true rfl) okX3 (Nat.le_of_ble_eq_true rfl) rfl rfl (by decide) (big_at 273 (by decide +kernel) (by decide +kernel)) rfl (Or.inr ⟨rfl, rfl, rfl⟩) rfl (by first | exact Or.inl ⟨_, rfl⟩ | exact Or.inr ⟨_, rfl⟩) (Nat.le_of_ble_eq_true rfl) (Nat.le_of_ble_eq_true rfl) dX3_init_43 rfl ?_
  refine g_aload_n dX3_init_46 rfl 0 rfl ?_
  refine g_iconst (v := 5) dX3_init_47 (by decide) ?_
  refine g_newarr (t := 0) (len := 5) (ty := .int) hA (Nat.le_of_ble_eq_true rfl) rfl (by simp) rfl (fun _ => rfl) (big_at 188 (by decide +kernel) (by decide +kernel)) (by decide) (by decide) (Nat.le_of_ble_eq_true rfl) (Nat.le_of_ble_eq_true rfl) (Nat.le_of_ble_eq_true rfl) dX3_init_48 ?_
  refine c_putm (k := 6) (M' := mi_40) (Nat.le_of_ble_eq_true rfl) okX3 (Nat.le_of_ble_eq_true rfl) rfl rfl (by decide) (big_at 274 (by decide +kernel) (by decide +kernel)) rfl (Or.inr ⟨rfl, rfl, rfl⟩) rfl (by first | exact Or.inl ⟨_, rfl⟩ | exact Or.inr ⟨_, rfl⟩) (Nat.le_of_ble_eq_true rfl) (Nat.le_of_ble_eq_true rfl) dX3_init_50 rfl ?_
  refine g_aload_n dX3_init_53 rfl 0 rfl ?_
  refine g_iconst (v := 5) dX3_init_54 (by decide) ?_
  refine g_newarr (t := 0) (len := 5) (ty := .int) hA (Nat.le_of_ble_eq_true rfl) rfl (by simp) rfl (fun _ => rfl) (big_at 188 (by decide +kernel) (by decide +kernel)) (by decide) (by decide) (Nat.le_of_ble_eq_true rfl) (Nat.le_of_ble_eq_true rfl) (Nat.le_of_ble_eq_true rfl) dX3_init_55 ?_
  refine c_putm (k := 7) (M' := mi_41) (Nat.le_of_ble_eq_true rfl) okX3 (Nat.le_of_ble_eq_true rfl) rfl rfl (by decide) (big_at 275 (by decide +kernel) (by decide +kernel)) rfl (Or.inr ⟨rfl, rfl, rfl⟩) rfl (by first | exact Or.inl ⟨_, rfl⟩ | exact Or.inr ⟨_, rfl⟩) (Nat.le_of_ble_eq_true rfl) (Nat.le_of_ble_eq_true rfl) dX3_init_57 rfl ?_
  refine g_aload_n dX3_init_60 rfl 0 rfl ?_
  refine g_iconst (v := 5) dX3_init_61 (by decide) ?_
  refine g_newarr (t := 0) (len := 5) (ty := .int) hA (Nat.le_of_ble_eq_true rfl) rfl (by simp) rfl (fun _ => rfl) (big_at 188 (by decide +kernel) (by decide +kernel)) (by decide) (by decide) (Nat.le_of_ble_eq_true rfl) (Nat.le_of_ble_eq_true rfl) (Nat.le_of_ble_eq_true rfl) dX3_init_62 ?_
  refine c_putm (k := 8) (M' := mi_42) (Nat.le_of_ble_eq_true rfl) okX3 (Nat.le_of_ble_eq_true rfl) rfl rfl (by decide) (big_at 276 (by decide +kernel) (by decide +kernel)) rfl (Or.inr ⟨rfl, rfl, rfl⟩) rfl (by first | exact Or.inl ⟨_, rfl⟩ | exact Or.inr ⟨_, rfl⟩) (Nat.le_of_ble_eq_true rfl) (Nat.le_of_ble_eq_true rfl) dX3_init_64 rfl ?_
  refine g_aload_n dX3_init_67 rfl 0 rfl ?_
  refine g_bipush (v := (-2)) dX3_init_68 (by decide) ?_
  refine c_puti (k := 14) (M' := mi_43) (Nat.le_of_ble_eq_true rfl) okX3 (Nat.le_of_ble_eq_true rfl) rfl rfl (by decide) (big_at 289 (by decide +kernel) (by decide +kernel)) rfl rfl rfl dX3_init_70 rfl ?_
  exact g_vret rfl ⟨rfl, rfl, rfl⟩ dX3_init_73
set_option maxHeartbeats 4000000 in
set_option maxRecDepth 100000 in
theorem i_X3_init_41 {l : Launch} {B : BT} (hA : bA B = true) {d : Nat} : Con l B LYc (d + 1) yX3_init cX3_init 1 none 9 45 [.ref 41] 42 mi_44 (PN 51 mi_54) := by
  refine con_of (by decide) (Nat.le_of_ble_eq_true rfl) ?_
  show GG l B LYc (d + 1) yX3_init cX3_init 1 none 9 45 (PN 51 mi_54) 42 0 0 0 [(0, .ref 41)] [] mi_44
  refine g_aload_n dX3_init_0 rfl 0 rfl ?_
  refine g_objinit rfl (big_at 258 (by decide +kernel) (by decide +kernel)) (big_at 99 (by decide +kernel) (by decide +kernel)) (big_at 100 (by decide +kernel) (by decide +kernel)) (Nat.le_of_ble_eq_true rfl) dX3_init_1 ?_
  refine g_aload_n dX3_init_4 rfl 0 rfl ?_
  refine g_iconst (v := 5) dX3_init_5 (by decide) ?_
  refine g_newarr (t := 0) (len := 5) (ty := .int) hA (Nat.le_of_ble_eq_true rfl) rfl (by simp) rfl (fun _ => rfl) (big_at 188 (by decide +kernel) (by decide +kernel)) (by decide) (by decide) (Nat.le_of_ble_eq_true rfl) (Nat.le_of_ble_eq_true rfl) (Nat.le_of_ble_eq_true rfl) dX3_init_6 ?_
  refine c_putm (k := 0) (M' := mi_45) (Nat.le_of_ble_eq_true rfl) okX3 (Nat.le_of_ble_eq_true rfl) rfl rfl (by decide) (big_at 259 (by decide +kernel) (by decide +kernel)) rfl (Or.inr ⟨rfl, rfl, rfl⟩) rfl (by first | exact Or.inl ⟨_, rfl⟩ | exact Or.inr ⟨_, rfl⟩) (Nat.le_of_ble_eq_true rfl) (Nat.le_of_ble_eq_true rfl) dX3_init_8 rfl ?_
  refine g_aload_n dX3_init_11 rfl 0 rfl ?_
  refine g_iconst (v := 5) dX3_init_12 (by decide) ?_
  refine g_newarr (t := 0) (len := 5) (ty := .int) hA (Nat.le_of_ble_eq_true rfl) rfl (by simp) rfl (fun _ => rfl) (big_at 188 (by decide +kernel) (by decide +kernel)) (by decide) (by decide) (Nat.le_of_ble_eq_true rfl) (Nat.le_of_ble_eq_true rfl) (Nat.le_of_ble_eq_true rfl) dX3_init_13 ?_
  refine c_putm (k := 1) (M' := mi_46) (Nat.le_of_ble_eq_true rfl) okX3 (Nat.le_of_ble_eq_true rfl) rfl rfl (by decide) (big_at 263 (by decide +kernel) (by decide +kernel)) rfl (Or.inr ⟨rfl, rfl, rfl⟩) rfl (by first | exact Or.inl ⟨_, rfl⟩ | exact Or.inr ⟨_, rfl⟩) (Nat.le_of_ble_eq_true rfl) (Nat.le_of_ble_eq_true rfl) dX3_init_15 rfl ?_
  refine g_aload_n dX3_init_18 rfl 0 rfl ?_
  refine g_iconst (v := 5) dX3_init_19 (by decide) ?_
  refine g_newarr (t := 0) (len := 5) (ty := .int) hA (Nat.le_of_ble_eq_true rfl) rfl (by simp) rfl (fun _ => rfl) (big_at 188 (by decide +kernel) (by decide +kernel)) (by decide) (by decide) (Nat.le_of_ble_eq_true rfl) (Nat.le_of_ble_eq_true rfl) (Nat.le_of_ble_eq_true rfl) dX3_init_20 ?_
  refine c_putm (k := 2) (M' := mi_47) (Nat.le_of_ble_eq_true rfl) okX3 (Nat.le_of_ble_eq_true rfl) rfl rfl (by decide) (big_at 265 (by decide +kernel) (by decide +kernel)) rfl (Or.inr ⟨rfl, rfl, rfl⟩) rfl (by first | exact Or.inl ⟨_, rfl⟩ | exact Or.inr ⟨_, rfl⟩) (Nat.le_of_ble_eq_true rfl) (Nat.le_of_ble_eq_true rfl) dX3_init_22 rfl ?_
  refine g_aload_n dX3_init_25 rfl 0 rfl ?_
  refine g_iconst (v := 5) dX3_init_26 (by decide) ?_
  refine g_newarr (t := 0) (len := 5) (ty := .int) hA (Nat.le_of_ble_eq_true rfl) rfl (by simp) rfl (fun _ => rfl) (big_at 188 (by decide +kernel) (by decide +kernel)) (by decide) (by decide) (Nat.le_of_ble_eq_true rfl) (Nat.le_of_ble_eq_true rfl) (Nat.le_of_ble_eq_true rfl) dX3_init_27 ?_
  refine c_putm (k := 3) (M' := mi_48) (Nat.le_of_ble_eq_true rfl) okX3 (Nat.le_of_ble_eq_true rfl) rfl rfl (by decide) (big_at 267 (by decide +kernel) (by decide +kernel)) rfl (Or.inr ⟨rfl, rfl, rfl⟩) rfl (by first | exact Or.inl ⟨_, rfl⟩ | exact Or.inr ⟨_, rfl⟩) (Nat.le_of_ble_eq_true rfl) (Nat.le_of_ble_eq_true rfl) dX3_init_29 rfl ?_
  refine g_aload_n dX3_init_32 rfl 0 rfl ?_
  refine g_iconst (v := 5) dX3_init_33 (by decide) ?_
  refine g_newarr (t := 0) (len := 5) (ty := .int) hA (Nat.le_of_ble_eq_true rfl) rfl (by simp) rfl (fun _ => rfl) (big_at 188 (by decide +kernel) (by decide +kernel)) (by decide) (by decide) (Nat.le_of_ble_eq_true rfl) (Nat.le_of_ble_eq_true rfl) (Nat.le_of_ble_eq_true rfl) dX3_init_34 ?_
  refine c_putm (k := 4) (M' := mi_49) (Nat.le_of_ble_eq_true rfl) okX3 (Nat.le_of_ble_eq_true rfl) rfl rfl (by decide) (big_at 270 (by decide +kernel) (by decide +kernel)) rfl (Or.inr ⟨rfl, rfl, rfl⟩) rfl (by first | exact Or.inl ⟨_, rfl⟩ | exact Or.inr ⟨_, rfl⟩) (Nat.le_of_ble_eq_true rfl) (Nat.le_of_ble_eq_true rfl) dX3_init_36 rfl ?_
  refine g_aload_n dX3_init_39 rfl 0 rfl ?_
  refine g_iconst (v := 5) dX3_init_40 (by decide) ?_
  refine g_newarr (t := 0) (len := 5) (ty := .int) hA (Nat.le_of_ble_eq_true rfl) rfl (by simp) rfl (fun _ => rfl) (big_at 188 (by decide +kernel) (by decide +kernel)) (by decide) (by decide) (Nat.le_of_ble_eq_true rfl) (Nat.le_of_ble_eq_true rfl) (Nat.le_of_ble_eq_true rfl) dX3_init_41 ?_
  refine c_putm (k := 5) (M' := mi_50) (Nat.le_of_ble_eq_true rfl) okX3 (Nat.le_of_ble_eq_true rfl) rfl rfl (by decide) (big_at 273 (by decide +kernel) (by decide +kernel)) rfl (Or.inr ⟨rfl, rfl, rfl⟩) rfl (by first | exact Or.inl ⟨_, rfl⟩ | exact Or.inr ⟨_, rfl⟩) (Nat.le_of_ble_eq_true rfl) (Nat.le_of_ble_eq_true rfl) dX3_init_43 rfl ?_
  refine g_aload_n dX3_init_46 rfl 0 rfl ?_
  refine g_iconst (v := 5) dX3_init_47 (by decide) ?_
  refine g_newarr (t := 0) (len := 5) (ty := .int) hA (Nat.le_of_ble_eq_true rfl) rfl (by simp) rfl (fun _ => rfl) (big_at 188 (by decide +kernel) (by decide +kernel)) (by decide) (by decide) (Nat.le_of_ble_eq_true rfl) (Nat.le_of_ble_eq_true rfl) (Nat.le_of_ble_eq_true rfl) dX3_init_48 ?_
  refine c_putm (k := 6) (M' := mi_51) (Nat.le_of_ble_eq_true rfl) okX3 (Nat.le_of_ble_eq_true rfl) rfl rfl (by decide) (big_at 274 (by decide +kernel) (by decide +kernel)) rfl (Or.inr ⟨rfl, rfl, rfl⟩) rfl (by first | exact Or.inl ⟨_, rfl⟩ | exact Or.inr ⟨_, rfl⟩) (Nat.le_of_ble_eq_true rfl) (Nat.le_of_ble_eq_true rfl) dX3_init_50 rfl ?_
  refine g_aload_n dX3_init_53 rfl 0 rfl ?_
  refine g_iconst (v := 5) dX3_init_54 (by decide) ?_
  refine g_newarr (t := 0) (len := 5) (ty := .int) hA (Nat.le_of_ble_eq_true rfl) rfl (by simp) rfl (fun _ => rfl) (big_at 188 (by decide +kernel) (by decide +kernel)) (by decide) (by decide) (Nat.le_of_ble_eq_true rfl) (Nat.le_of_ble_eq_true rfl) (Nat.le_of_ble_eq_true rfl) dX3_init_55 ?_
  refine c_putm (k := 7) (M' := mi_52) (Nat.le_of_ble_eq_true rfl) okX3 (Nat.le_of_ble_eq_true rfl) rfl rfl (by decide) (big_at 275 (by decide +kernel) (by decide +kernel)) rfl (Or.inr ⟨rfl, rfl, rfl⟩) rfl (by first | exact Or.inl ⟨_, rfl⟩ | exact Or.inr ⟨_, rfl⟩) (Nat.le_of_ble_eq_true rfl) (Nat.le_of_ble_eq_true rfl) dX3_init_57 rfl ?_
  refine g_aload_n dX3_init_60 rfl 0 rfl ?_
  refine g_iconst (v := 5) dX3_init_61 (by decide) ?_
  refine g_newarr (t := 0) (len := 5) (ty := .int) hA (Nat.le_of_ble_eq_true rfl) rfl (by simp) rfl (fun _ => rfl) (big_at 188 (by decide +kernel) (by decide +kernel)) (by decide) (by decide) (Nat.le_of_ble_eq_true rfl) (Nat.le_of_ble_eq_true rfl) (Nat.le_of_ble_eq_true rfl) dX3_init_62 ?_
  refine c_putm (k := 8) (M' := mi_53) (Nat.le_of_ble_eq_true rfl) okX3 (Nat.le_of_ble_eq_true rfl) rfl rfl (by decide) (big_at 276 (by decide +kernel) (by decide +kernel)) rfl (Or.inr ⟨rfl, rfl, rfl⟩) rfl (by first | exact Or.inl ⟨_, rfl⟩ | exact Or.inr ⟨_, rfl⟩) (Nat.le_of_ble_eq_true rfl) (Nat.le_of_ble_eq_true rfl) dX3_init_64 rfl ?_
  refine g_aload_n dX3_init_67 rfl 0 rfl ?_
  refine g_bipush (v := (-2)) dX3_init_68 (by decide) ?_
  refine c_puti (k := 14) (M' := mi_54) (Nat.le_of_ble_eq_true rfl) okX3 (Nat.le_of_ble_eq_true rfl) rfl rfl (by decide) (big_at 289 (by decide +kernel) (by decide +kernel)) rfl rfl rfl dX3_init_70 rfl ?_
  exact g_vret rfl ⟨rfl, rfl, rfl⟩ dX3_init_73
set_option maxHeartbeats 4000000 in
set_option maxRecDepth 100000 in
theorem i_X3_init_51 {l : Launch} {B : BT} (hA : bA B = true) {d : Nat} : Con l B LYc (d + 1) yX3_init cX3_init 1 none 9 45 [.ref 51] 52 mi_55 (PN 61 mi_65) := by
  refine con_of (by decide) (Nat.le_of_ble_eq_true rfl) ?_
  show GG l B LYc (d + 1) yX3_init cX3_init 1 none 9 45 (PN 61 mi_65) 52 0 0 0 [(0, .ref 51)] [] mi_55
  refine g_aload_n dX3_init_0 rfl 0 rfl ?_
  refine g_objinit rfl (big_at 258 (by decide +kernel) (by decide +kernel)) (big_at 99 (by decide +kernel) (by decide +kernel)) (big_at 100 (by decide +kernel) (by decide +kernel)) (Nat.le_of_ble_eq_true rfl) dX3_init_1 ?_
  refine g_aload_n dX3_init_4 rfl 0 rfl ?_
  refine g_iconst (v := 5) dX3_init_5 (by decide) ?_
  refine g_newarr (t := 0) (len := 5) (ty := .int) hA (Nat.le_of_ble_eq_true rfl) rfl (by simp) rfl (fun _ => rfl) (big_at 188 (by decide +kernel) (by decide +kernel)) (by decide) (by decide) (Nat.le_of_ble_eq_true rfl) (Nat.le_of_ble_eq_true rfl) (Nat.le_of_ble_eq_true rfl) dX3_init_6 ?_
  refine c_putm (k := 0) (M' := mi_56) (Nat.le_of_ble_eq_true rfl) okX3 (Nat.le_of_ble_eq_true rfl) rfl rfl (by decide) (big_at 259 (by decide +kernel) (by decide +kernel)) rfl (Or.inr ⟨rfl, rfl, rfl⟩) rfl (by first | exact Or.inl ⟨_, rfl⟩ | exact Or.inr ⟨_, rfl⟩) (Nat.le_of_ble_eq_true rfl) (Nat.le_of_ble_eq_true rfl) dX3_init_8 rfl ?_
  refine g_aload_n dX3_init_11 rfl 0 rfl ?_
  refine g_iconst (v := 5) dX3_init_12 (by decide) ?_
  refine g_newarr (t := 0) (len := 5) (ty := .int) hA (Nat.le_of_ble_eq_true rfl) rfl (by simp) rfl (fun _ => rfl) (big_at 188 (by decide +kernel) (by decide +kernel)) (by decide) (by decide) (Nat.le_of_ble_eq_true rfl) (Nat.le_of_ble_eq_true rfl) (Nat.le_of_ble_eq_true rfl) dX3_init_13 ?_
  refine c_putm (k := 1) (M' := mi_57) (Nat.le_of_ble_eq_true rfl) okX3 (Nat.le_of_ble_eq_true rfl) rfl rfl (by decide) (big_at 263 (by decide +kernel) (by decide +kernel)) rfl (Or.inr ⟨rfl, rfl, rfl⟩) rfl (by first | exact Or.inl ⟨_, rfl⟩ | exact Or.inr ⟨_, rfl⟩) (Nat.le_of_ble_eq_true rfl) (Nat.le_of_ble_eq_true rfl) dX3_init_15 rfl ?_
  refine g_aload_n dX3_init_18 rfl 0 rfl ?_
  refine g_iconst (v := 5) dX3_init_19 (by decide) ?_
  refine g_newarr (t := 0) (len := 5) (ty := .int) hA (Nat.le_of_ble_eq_true rfl) rfl (by simp) rfl (fun _ => rfl) (big_at 188 (by decide +kernel) (by decide +kernel)) (by decide) (by decide) (Nat.le_of_ble_eq_true rfl) (Nat.le_of_ble_eq_true rfl) (Nat.le_of_ble_eq_true rfl) dX3_init_20 ?_
  refine c_putm (k := 2) (M' := mi_58) (Nat.le_of_ble_eq_true rfl) okX3 (Nat.le_of_ble_eq_true rfl) rfl rfl (by decide) (big_at 265 (by decide +kernel) (by decide +kernel)) rfl (Or.inr ⟨rfl, rfl, rfl⟩) rfl (by first | exact Or.inl ⟨_, rfl⟩ | exact Or.inr ⟨_, rfl⟩) (Nat.le_of_ble_eq_true rfl) (Nat.le_of_ble_eq_true rfl) dX3_init_22 rfl ?_
  refine g_aload_n dX3_init_25 rfl 0 rfl ?_
  refine g_iconst (v := 5) dX3_init_26 (by decide) ?_
  refine g_newarr (t := 0) (len := 5) (ty := .int) hA (Nat.le_of_ble_eq_true rfl) rfl (by simp) rfl (fun _ => rfl) (big_at 188 (by decide +kernel) (by decide +kernel)) (by decide) (by decide) (Nat.le_of_ble_eq_true rfl) (Nat.le_of_ble_eq_true rfl) (Nat.le_of_ble_eq_true rfl) dX3_init_27 ?_
  refine c_putm (k := 3) (M' := mi_59) (Nat.le_of_ble_eq_true rfl) okX3 (Nat.le_of_ble_eq_true rfl) rfl rfl (by decide) (big_at 267 (by decide +kernel) (by decide +kernel)) rfl (Or.inr ⟨rfl, rfl, rfl⟩) rfl (by first | exact Or.inl ⟨_, rfl⟩ | exact Or.inr ⟨_, rfl⟩) (Nat.le_of_ble_eq_true rfl) (Nat.le_of_ble_eq_true rfl) dX3_init_29 rfl ?_
  refine g_aload_n dX3_init_32 rfl 0 rfl ?_
  refine g_iconst (v := 5) dX3_init_33 (by decide) ?_
  refine g_newarr (t := 0) (len := 5) (ty := .int) hA (Nat.le_of_ble_eq_true rfl) rfl (by simp) rfl (fun _ => rfl) (big_at 188 (by decide +kernel) (by decide +kernel)) (by decide) (by decide) (Nat.le_of_ble_eq_true rfl) (Nat.le_of_ble_eq_true rfl) (Nat.le_of_ble_eq_true rfl) dX3_init_34 ?_
  refine c_putm (k := 4) (M' := mi_60) (Nat.le_of_ble_eq_true rfl) okX3 (Nat.le_of_ble_eq_true rfl) rfl rfl (by decide) (big_at 270 (by decide +kernel) (by decide +kernel)) rfl (Or.inr ⟨rfl, rfl, rfl⟩) rfl (by first | exact Or.inl ⟨_, rfl⟩ | exact Or.inr ⟨_, rfl⟩) (Nat.le_of_ble_eq_true rfl) (Nat.le_of_ble_eq_true rfl) dX3_init_36 rfl ?_
  refine g_aload_n dX3_init_39 rfl 0 rfl ?_
  refine g_iconst (v := 5) dX3_init_40 (by decide) ?_
  refine g_newarr (t := 0) (len := 5) (ty := .int) hA (Nat.le_of_ble_eq_true rfl) rfl (by simp) rfl (fun _ => rfl) (big_at 188 (by decide +kernel) (by decide +kernel)) (by decide) (by decide) (Nat.le_of_ble_eq_true rfl) (Nat.le_of_ble_eq_true rfl) (Nat.le_of_ble_eq_true rfl) dX3_init_41 ?_
  refine c_putm (k := 5) (M' := mi_61) (Nat.le_of_ble_eq_true rfl) okX3 (Nat.le_of_ble_eq_true rfl) rfl rfl (by decide) (big_at 273 (by decide +kernel) (by decide +kernel)) rfl (Or.inr ⟨rfl, rfl, rfl⟩) rfl (by first | exact Or.inl ⟨_, rfl⟩ | exact Or.inr ⟨_, rfl⟩) (Nat.le_of_ble_eq_true rfl) (Nat.le_of_ble_eq_true rfl) dX3_init_43 rfl ?_
  refine g_aload_n dX3_init_46 rfl 0 rfl ?_
  refine g_iconst (v := 5) dX3_init_47 (by decide) ?_
  refine g_newarr (t := 0) (len := 5) (ty := .int) hA (Nat.le_of_ble_eq_true rfl) rfl (by simp) rfl (fun _ => rfl) (big_at 188 (by decide +kernel) (by decide +kernel)) (by decide) (by decide) (Nat.le_of_ble_eq_true rfl) (Nat.le_of_ble_eq_true rfl) (Nat.le_of_ble_eq_true rfl) dX3_init_48 ?_
  refine c_putm (k := 6) (M' := mi_62) (Nat.le_of_ble_eq_true rfl) okX3 (Nat.le_of_ble_eq_true rfl) rfl rfl (by decide) (big_at 274 (by decide +kernel) (by decide +kernel)) rfl (Or.inr ⟨rfl, rfl, rfl⟩) rfl (by first | exact Or.inl ⟨_, rfl⟩ | exact Or.inr ⟨_, rfl⟩) (Nat.le_of_ble_eq_true rfl) (Nat.le_of_ble_eq_true rfl) dX3_init_50 rfl ?_
  refine g_aload_n dX3_init_53 rfl 0 rfl ?_
  refine g_iconst (v := 5) dX3_init_54 (by decide) ?_
  refine g_newarr (t := 0) (len := 5) (ty := .int) hA (Nat.le_of_ble_eq_true rfl) rfl (by simp) rfl (fun _ => rfl) (big_at 188 (by decide +kernel) (by decide +kernel)) (by decide) (by decide) (Nat.le_of_ble_eq_true rfl) (Nat.le_of_ble_eq_true rfl) (Nat.le_of_ble_eq_true rfl) dX3_init_55 ?_
  refine c_putm (k := 7) (M' := mi_63) (Nat.le_of_ble_eq_true rfl) okX3 (Nat.le_of_ble_eq_true rfl) rfl rfl (by decide) (big_at 275 (by decide +kernel) (by decide +kernel)) rfl (Or.inr ⟨rfl, rfl, rfl⟩) rfl (by first | exact Or.inl ⟨_, rfl⟩ | exact Or.inr ⟨_, rfl⟩) (Nat.le_of_ble_eq_true rfl) (Nat.le_of_ble_eq_true rfl) dX3_init_57 rfl ?_
  refine g_aload_n dX3_init_60 rfl 0 rfl ?_
  refine g_iconst (v := 5) dX3_init_61 (by decide) ?_
  refine g_newarr (t := 0) (len := 5) (ty := .int) hA (Nat.le_of_ble_eq_true rfl) rfl (by simp) rfl (fun _ => rfl) (big_at 188 (by decide +kernel) (by decide +kernel)) (by decide) (by decide) (Nat.le_of_ble_eq_true rfl) (Nat.le_of_ble_eq_true rfl) (Nat.le_of_ble_eq_true rfl) dX3_init_62 ?_
  refine c_putm (k := 8) (M' := mi_64) (Nat.le_of_ble_eq_true rfl) okX3 (Nat.le_of_ble_eq_true rfl) rfl rfl (by decide) (big_at 276 (by decide +kernel) (by decide +kernel)) rfl (Or.inr ⟨rfl, rfl, rfl⟩) rfl (by first | exact Or.inl ⟨_, rfl⟩ | exact Or.inr ⟨_, rfl⟩) (Nat.le_of_ble_eq_true rfl) (Nat.le_of_ble_eq_true rfl) dX3_init_64 rfl ?_
  refine g_aload_n dX3_init_67 rfl 0 rfl ?_
  refine g_bipush (v := (-2)) dX3_init_68 (by decide) ?_
  refine c_puti (k := 14) (M' := mi_65) (Nat.le_of_ble_eq_true rfl) okX3 (Nat.le_of_ble_eq_true rfl) rfl rfl (by decide) (big_at 289 (by decide +kernel) (by decide +kernel)) rfl rfl rfl dX3_init_70 rfl ?_
  exact g_vret rfl ⟨rfl, rfl, rfl⟩ dX3_init_73
set_option maxHeartbeats 4000000 in
set_option maxRecDepth 100000 in
theorem i_X3_init_62 {l : Launch} {B : BT} (hA : bA B = true) {d : Nat} : Con l B LYc (d + 1) yX3_init cX3_init 1 none 9 45 [.ref 62] 63 mi_66 (PN 72 mi_76) := by
  refine con_of (by decide) (Nat.le_of_ble_eq_true rfl) ?_
  show GG l B LYc (d + 1) yX3_init cX3_init 1 none 9 45 (PN 72 mi_76) 63 0 0 0 [(0, .ref 62)] [] mi_66
  refine g_aload_n dX3_init_0 rfl 0 rfl ?_
  refine g_objinit rfl (big_at 258 (by decide +kernel) (by decide +kernel)) (big_at 99 (by decide +kernel) (by decide +kernel)) (big_at 100 (by decide +kernel) (by decide +kernel)) (Nat.le_of_ble_eq_true rfl) dX3_init_1 ?_
  refine g_aload_n dX3_init_4 rfl 0 rfl ?_
  refine g_iconst (v := 5) dX3_init_5 (by decide) ?_
  refine g_newarr (t := 0) (len := 5) (ty := .int) hA (Nat.le_of_ble_eq_true rfl) rfl (by simp) rfl (fun _ => rfl) (big_at 188 (by decide +kernel) (by decide +kernel)) (by decide) (by decide) (Nat.le_of_ble_eq_true rfl) (Nat.le_of_ble_eq_true rfl) (Nat.le_of_ble_eq_true rfl) dX3_init_6 ?_
  refine c_putm (k := 0) (M' := mi_67) (Nat.le_of_ble_eq_true rfl) okX3 (Nat.le_of_ble_eq_true rfl) rfl rfl (by decide) (big_at 259 (by decide +kernel) (by decide +kernel)) rfl (Or.inr ⟨rfl, rfl, rfl⟩) rfl (by first | exact Or.inl ⟨_, rfl⟩ | exact Or.inr ⟨_, rfl⟩) (Nat.le_of_ble_eq_true rfl) (Nat.le_of_ble_eq_true rfl) dX3_init_8 rfl ?_
  refine g_aload_n dX3_init_11 rfl 0 rfl ?_
  refine g_iconst (v := 5) dX3_init_12 (by decide) ?_
  refine g_newarr (t := 0) (len := 5) (ty := .int) hA (Nat.le_of_ble_eq_true rfl) rfl (by simp) rfl (fun _ => rfl) (big_at 188 (by decide +kernel) (by decide +kernel)) (by decide) (by decide) (Nat.le_of_ble_eq_true rfl) (Nat.le_of_ble_eq_true rfl) (Nat.le_of_ble_eq_true rfl) dX3_init_13 ?_
  refine c_putm (k := 1) (M' := mi_68) (Nat.le_of_ble_eq_true rfl) okX3 (Nat.le_of_ble_eq_true rfl) rfl rfl (by decide) (big_at 263 (by decide +kernel) (by decide +kernel)) rfl (Or.inr ⟨rfl, rfl, rfl⟩) rfl (by first | exact Or.inl ⟨_, rfl⟩ | exact Or.inr ⟨_, rfl⟩) (Nat.le_of_ble_eq_true rfl) (Nat.le_of_ble_eq_true rfl) dX3_init_15 rfl ?_
  refine g_aload_n dX3_init_18 rfl 0 rfl ?_
  refine g_iconst (v := 5) dX3_init_19 (by decide) ?_
  refine g_newarr (t := 0) (len := 5) (ty := .int) hA (Nat.le_of_ble_eq_true rfl) rfl (by simp) rfl (fun _ => rfl) (big_at 188 (by decide +kernel) (by decide +kernel)) (by decide) (by decide) (Nat.le_of_ble_eq_true rfl) (Nat.le_of_ble_eq_true rfl) (Nat.le_of_ble_eq_true rfl) dX3_init_20 ?_
  refine c_putm (k := 2) (M' := mi_69) (Nat.le_of_ble_eq_true rfl) okX3 (Nat.le_of_ble_eq_true rfl) rfl rfl (by decide) (big_at 265 (by decide +kernel) (by decide +kernel)) rfl (Or.inr ⟨rfl, rfl, rfl⟩) rfl (by first | exact Or.inl ⟨_, rfl⟩ | exact Or.inr ⟨_, rfl⟩) (Nat.le_of_ble_eq_true rfl) (Nat.le_of_ble_eq_true rfl) dX3_init_22 rfl ?_
  refine g_aload_n dX3_init_25 rfl 0 rfl ?_
  refine g_iconst (v := 5) dX3_init_26 (by decide) ?_
  refine g_newarr (t := 0) (len := 5) (ty := .int) hA (Nat.le_of_ble_eq_true rfl) rfl (by simp) rfl (fun _ => rfl) (big_at 188 (by decide +kernel) (by decide +kernel)) (by decide) (by decide) (Nat.le_of_ble_eq_true rfl) (Nat.le_of_ble_eq_true rfl) (Nat.le_of_ble_eq_true rfl) dX3_init_27 ?_
  refine c_putm (k := 3) (M' := mi_70) (Nat.le_of_ble_eq_true rfl) okX3 (Nat.le_of_ble_eq_true rfl) rfl rfl (by decide) (big_at 267 (by decide +kernel) (by decide +kernel)) rfl (Or.inr ⟨rfl, rfl, rfl⟩) rfl (by first | exact Or.inl ⟨_, rfl⟩ | exact Or.inr ⟨_, rfl⟩) (Nat.le_of_ble_eq_true rfl) (Nat.le_of_ble_eq_true rfl) dX3_init_29 rfl ?_
  refine g_aload_n dX3_init_32 rfl 0 rfl ?_
  refine g_iconst (v := 5) dX3_init_33 (by decide) ?_
  refine g_newarr (t := 0) (len := 5) (ty := .int) hA (Nat.le_of_ble_eq_true rfl) rfl (by simp) rfl (fun _ => rfl) (big_at 188 (by decide +kernel) (by decide +kernel)) (by decide) (by decide) (Nat.le_of_ble_eq_true rfl) (Nat.le_of_ble_eq_true rfl) (Nat.le_of_ble_eq_true rfl) dX3_init_34 ?_
  refine c_putm (k := 4) (M' := mi_71) (Nat.le_of_ble_eq_true rfl) okX3 (Nat.le_of_ble_eq_true rfl) rfl rfl (by decide) (big_at 270 (by decide +kernel) (by decide +kernel)) rfl (Or.inr ⟨rfl, rfl, rfl⟩) rfl (by first | exact Or.inl ⟨_, rfl⟩ | exact Or.inr ⟨_, rfl⟩) (Nat.le_of_ble_eq_true rfl) (Nat.le_of_ble_eq_true rfl) dX3_init_36 rfl ?_
  refine g_aload_n dX3_init_39 rfl 0 rfl ?_
  refine g_iconst (v := 5) dX3_init_40 (by decide) ?_
  refine g_newarr (t := 0) (len := 5) (ty := .int) hA (Nat.le_of_ble_eq_true rfl) rfl (by simp) rfl (fun _ => rfl) (big_at 188 (by decide +kernel) (by decide +kernel)) (by decide) (by decide) (Nat.le_of_ble_eq_true rfl) (Nat.le_of_ble_eq_true rfl) (Nat.le_of_ble_eq_true rfl) dX3_init_41 ?_
  refine c_putm (k := 5) (M' := mi_72) (Nat.le_of_ble_eq_true rfl) okX3 (Nat.le_of_ble_eq_true rfl) rfl rfl (by decide) (big_at 273 (by decide +kernel) (by decide +kernel)) rfl (Or.inr ⟨rfl, rfl, rfl⟩) rfl (by first | exact Or.inl ⟨_, rfl⟩ | exact Or.inr ⟨_, rfl⟩) (Nat.le_of_ble_eq_true rfl) (Nat.le_of_ble_eq_true rfl) dX3_init_43 rfl ?_
  refine g_aload_n dX3_init_46 rfl 0 rfl ?_
  refine g_iconst (v := 5) dX3_init_47 (by decide) ?_
  refine g_newarr (t := 0) (len := 5) (ty := .int) hA (Nat.le_of_ble_eq_true rfl) rfl (by simp) rfl (fun _ => rfl) (big_at 188 (by decide +kernel) (by decide +kernel)) (by decide) (by decide) (Nat.le_of_ble_eq_true rfl) (Nat.le_of_ble_eq_true rfl) (Nat.le_of_ble_eq_true rfl) dX3_init_48 ?_
  refine c_putm (k := 6) (M' := mi_73) (Nat.le_of_ble_eq_true rfl) okX3 (Nat.le_of_ble_eq_true rfl) rfl rfl (by decide) (big_at 274 (by decide +kernel) (by decide +kernel)) rfl (Or.inr ⟨rfl, rfl, rfl⟩) rfl (by first | exact Or.inl ⟨_, rfl⟩ | exact Or.inr ⟨_, rfl⟩) (Nat.le_of_ble_eq_true rfl) (Nat.le_of_ble_eq_true rfl) dX3_init_50 rfl ?_
  refine g_aload_n dX3_init_53 rfl 0 rfl ?_
  refine g_iconst (v := 5) dX3_init_54 (by decide) ?_
  refine g_newarr (t := 0) (len := 5) (ty := .int) hA (Nat.le_of_ble_eq_true rfl) rfl (by simp) rfl (fun _ => rfl) (big_at 188 (by decide +kernel) (by decide +kernel)) (by decide) (by decide) (Nat.le_of_ble_eq_true rfl) (Nat.le_of_ble_eq_true rfl) (Nat.le_of_ble_eq_true rfl) dX3_init_55 ?_
  refine c_putm (k := 7) (M' := mi_74) (Nat.le_of_ble_eq_true rfl) okX3 (Nat.le_of_ble_eq_true rfl) rfl rfl (by decide) (big_at 275 (by decide +kernel) (by decide +kernel)) rfl (Or.inr ⟨rfl, rfl, rfl⟩) rfl (by first | exact Or.inl ⟨_, rfl⟩ | exact Or.inr ⟨_, rfl⟩) (Nat.le_of_ble_eq_true rfl) (Nat.le_of_ble_eq_true rfl) dX3_init_57 rfl ?_
  refine g_aload_n dX3_init_60 rfl 0 rfl ?_
  refine g_iconst (v := 5) dX3_init_61 (by decide) ?_
  refine g_newarr (t := 0) (len := 5) (ty := .int) hA (Nat.le_of_ble_eq_true rfl) rfl (by simp) rfl (fun _ => rfl) (big_at 188 (by decide +kernel) (by decide +kernel)) (by decide) (by decide) (Nat.le_of_ble_eq_true rfl) (Nat.le_of_ble_eq_true rfl) (Nat.le_of_ble_eq_true rfl) dX3_init_62 ?_
  refine c_putm (k := 8) (M' := mi_75) (Nat.le_of_ble_eq_true rfl) okX3 (Nat.le_of_ble_eq_true rfl) rfl rfl (by decide) (big_at 276 (by decide +kernel) (by decide +kernel)) rfl (Or.inr ⟨rfl, rfl, rfl⟩) rfl (by first | exact Or.inl ⟨_, rfl⟩ | exact Or.inr ⟨_, rfl⟩) (Nat.le_of_ble_eq_true rfl) (Nat.le_of_ble_eq_true rfl) dX3_init_64 rfl ?_
  refine g_aload_n dX3_init_67 rfl 0 rfl ?_
  refine g_bipush (v := (-2)) dX3_init_68 (by decide) ?_
  refine c_puti (k := 14) (M' := mi_76) (Nat.le_of_ble_eq_true rfl) okX3 (Nat.le_of_ble_eq_true rfl) rfl rfl (by decide) (big_at 289 (by decide +kernel) (by decide +kernel)) rfl rfl rfl dX3_init_70 rfl ?_
  exact g_vret rfl ⟨rfl, rfl, rfl⟩ dX3_init_73
set_option maxHeartbeats 4000000 in
set_option maxRecDepth 100000 in
theorem i_X4_init_61 {l : Launch} {B : BT} (hA : bA B = true) {d : Nat} : Con l B LYc (d + 2) yX4_init cX4_init 1 none 11 65 [.ref 61] 62 mi_66 (PN 73 mi_78) := by
  refine con_of (by decide) (Nat.le_of_ble_eq_true rfl) ?_
  show GG l B LYc (d + 2) yX4_init cX4_init 1 none 11 65 (PN 73 mi_78) 62 0 0 0 [(0, .ref 61)] [] mi_66
  refine g_aload_n dX4_init_0 rfl 0 rfl ?_
  refine g_objinit rfl (big_at 329 (by decide +kernel) (by decide +kernel)) (big_at 99 (by decide +kernel) (by decide +kernel)) (big_at 100 (by decide +kernel) (by decide +kernel)) (Nat.le_of_ble_eq_true rfl) dX4_init_1 ?_
  refine g_aload_n dX4_init_4 rfl 0 rfl ?_
  refine g_new (ci := 3) hA (Nat.le_of_ble_eq_true rfl) rfl okX3.2.1 tyX3 tyX3_ok rfl dfX3 (fun _ => rfl) (big_at 330 (by decide +kernel) (by decide +kernel)) (big_at 254 (by decide +kernel) (by decide +kernel)) (big_at 76 (by decide +kernel) (by decide +kernel)) (Nat.le_of_ble_eq_true rfl) (Nat.le_of_ble_eq_true rfl) dX4_init_5 ?_
  refine g_dup dX4_init_8 rfl ?_
  refine g_callIN (As := []) (st := [.ref 62, .ref 61]) (i_X3_init_62 (d := d + 0) hA) ⟨by decide, by decide, by decide +kernel⟩ (big_at 257 (by decide +kernel) (by decide +kernel)) (big_at 76 (by decide +kernel) (by decide +kernel)) (big_at 256 (by decide +kernel) (by decide +kernel)) rfl (by decide) (host := "StillYard") (List.mem_of_getElem? (i := 4) rfl) rfl (Nat.le_of_ble_eq_true rfl) ⟨(Nat.le_of_ble_eq_true rfl), (Nat.le_of_ble_eq_true rfl)⟩ dX4_init_9 ?_
  refine c_putm (k := 0) (M' := mi_77) (Nat.le_of_ble_eq_true rfl) okX4 (Nat.le_of_ble_eq_true rfl) rfl rfl (by decide) (big_at 332 (by decide +kernel) (by decide +kernel)) rfl (Or.inr ⟨rfl, rfl, rfl⟩) rfl (by first | exact Or.inl ⟨_, rfl⟩ | exact Or.inr ⟨_, rfl⟩) (Nat.le_of_ble_eq_true rfl) (Nat.le_of_ble_eq_true rfl) dX4_init_12 rfl ?_
  refine g_aload_n dX4_init_15 rfl 0 rfl ?_
  refine g_iconst (v := 5) dX4_init_16 (by decide) ?_
  refine g_newarr (t := 0) (len := 5) (ty := .int) hA (Nat.le_of_ble_eq_true rfl) rfl (by simp) rfl (fun _ => rfl) (big_at 188 (by decide +kernel) (by decide +kernel)) (by decide) (by decide) (Nat.le_of_ble_eq_true rfl) (Nat.le_of_ble_eq_true rfl) (Nat.le_of_ble_eq_true rfl) dX4_init_17 ?_
  refine c_putm (k := 1) (M' := mi_78) (Nat.le_of_ble_eq_true rfl) okX4 (Nat.le_of_ble_eq_true rfl) rfl rfl (by decide) (big_at 333 (by decide +kernel) (by decide +kernel)) rfl (Or.inr ⟨rfl, rfl, rfl⟩) rfl (by first | exact Or.inl ⟨_, rfl⟩ | exact Or.inr ⟨_, rfl⟩) (Nat.le_of_ble_eq_true rfl) (Nat.le_of_ble_eq_true rfl) dX4_init_19 rfl ?_
  exact g_vret rfl ⟨rfl, rfl, rfl⟩ dX4_init_22
set_option maxHeartbeats 4000000 in
set_option maxRecDepth 100000 in
theorem i_X1_init_73 {l : Launch} {B : BT} (hA : bA B = true) {d : Nat} : Con l B LYc (d + 1) yX1_init cX1_init 1 none 3 30 [.ref 73] 74 mi_79 (PN 77 mi_82) := by
  refine con_of (by decide) (Nat.le_of_ble_eq_true rfl) ?_
  show GG l B LYc (d + 1) yX1_init cX1_init 1 none 3 30 (PN 77 mi_82) 74 0 0 0 [(0, .ref 73)] [] mi_79
  refine g_aload_n dX1_init_0 rfl 0 rfl ?_
  refine g_objinit rfl (big_at 357 (by decide +kernel) (by decide +kernel)) (big_at 99 (by decide +kernel) (by decide +kernel)) (big_at 100 (by decide +kernel) (by decide +kernel)) (Nat.le_of_ble_eq_true rfl) dX1_init_1 ?_
  refine g_aload_n dX1_init_4 rfl 0 rfl ?_
  refine g_bipush (v := 20) dX1_init_5 (by decide) ?_
  refine g_newarr (t := 0) (len := 20) (ty := .int) hA (Nat.le_of_ble_eq_true rfl) rfl (by simp) rfl (fun _ => rfl) (big_at 188 (by decide +kernel) (by decide +kernel)) (by decide) (by decide) (Nat.le_of_ble_eq_true rfl) (Nat.le_of_ble_eq_true rfl) (Nat.le_of_ble_eq_true rfl) dX1_init_7 ?_
  refine c_putm (k := 0) (M' := mi_80) (Nat.le_of_ble_eq_true rfl) okX1 (Nat.le_of_ble_eq_true rfl) rfl rfl (by decide) (big_at 358 (by decide +kernel) (by decide +kernel)) rfl (Or.inr ⟨rfl, rfl, rfl⟩) rfl (by first | exact Or.inl ⟨_, rfl⟩ | exact Or.inr ⟨_, rfl⟩) (Nat.le_of_ble_eq_true rfl) (Nat.le_of_ble_eq_true rfl) dX1_init_9 rfl ?_
  refine g_aload_n dX1_init_12 rfl 0 rfl ?_
  refine g_iconst (v := 5) dX1_init_13 (by decide) ?_
  refine g_newarr (t := 0) (len := 5) (ty := .int) hA (Nat.le_of_ble_eq_true rfl) rfl (by simp) rfl (fun _ => rfl) (big_at 188 (by decide +kernel) (by decide +kernel)) (by decide) (by decide) (Nat.le_of_ble_eq_true rfl) (Nat.le_of_ble_eq_true rfl) (Nat.le_of_ble_eq_true rfl) dX1_init_14 ?_
  refine c_putm (k := 1) (M' := mi_81) (Nat.le_of_ble_eq_true rfl) okX1 (Nat.le_of_ble_eq_true rfl) rfl rfl (by decide) (big_at 359 (by decide +kernel) (by decide +kernel)) rfl (Or.inr ⟨rfl, rfl, rfl⟩) rfl (by first | exact Or.inl ⟨_, rfl⟩ | exact Or.inr ⟨_, rfl⟩) (Nat.le_of_ble_eq_true rfl) (Nat.le_of_ble_eq_true rfl) dX1_init_16 rfl ?_
  refine g_aload_n dX1_init_19 rfl 0 rfl ?_
  refine g_iconst (v := 5) dX1_init_20 (by decide) ?_
  refine g_newarr (t := 0) (len := 5) (ty := .int) hA (Nat.le_of_ble_eq_true rfl) rfl (by simp) rfl (fun _ => rfl) (big_at 188 (by decide +kernel) (by decide +kernel)) (by decide) (by decide) (Nat.le_of_ble_eq_true rfl) (Nat.le_of_ble_eq_true rfl) (Nat.le_of_ble_eq_true rfl) dX1_init_21 ?_
  refine c_putm (k := 2) (M' := mi_82) (Nat.le_of_ble_eq_true rfl) okX1 (Nat.le_of_ble_eq_true rfl) rfl rfl (by decide) (big_at 361 (by decide +kernel) (by decide +kernel)) rfl (Or.inr ⟨rfl, rfl, rfl⟩) rfl (by first | exact Or.inl ⟨_, rfl⟩ | exact Or.inr ⟨_, rfl⟩) (Nat.le_of_ble_eq_true rfl) (Nat.le_of_ble_eq_true rfl) dX1_init_23 rfl ?_
  exact g_vret rfl ⟨rfl, rfl, rfl⟩ dX1_init_26
set_option maxHeartbeats 4000000 in
set_option maxRecDepth 100000 in
theorem i_X6_init_77 {l : Launch} {B : BT} (hA : bA B = true) {d : Nat} : Con l B LYc (d + 1) yX6_init cX6_init 1 none 2 10 [.ref 77] 78 mi_83 (PN 80 mi_85) := by
  refine con_of (by decide) (Nat.le_of_ble_eq_true rfl) ?_
  show GG l B LYc (d + 1) yX6_init cX6_init 1 none 2 10 (PN 80 mi_85) 78 0 0 0 [(0, .ref 77)] [] mi_83
  refine g_aload_n dX6_init_0 rfl 0 rfl ?_
  refine g_objinit rfl (big_at 378 (by decide +kernel) (by decide +kernel)) (big_at 99 (by decide +kernel) (by decide +kernel)) (big_at 100 (by decide +kernel) (by decide +kernel)) (Nat.le_of_ble_eq_true rfl) dX6_init_1 ?_
  refine g_aload_n dX6_init_4 rfl 0 rfl ?_
  refine g_iconst (v := 5) dX6_init_5 (by decide) ?_
  refine g_newarr (t := 0) (len := 5) (ty := .int) hA (Nat.le_of_ble_eq_true rfl) rfl (by simp) rfl (fun _ => rfl) (big_at 188 (by decide +kernel) (by decide +kernel)) (by decide) (by decide) (Nat.le_of_ble_eq_true rfl) (Nat.le_of_ble_eq_true rfl) (Nat.le_of_ble_eq_true rfl) dX6_init_6 ?_
  refine c_putm (k := 0) (M' := mi_84) (Nat.le_of_ble_eq_true rfl) okX6 (Nat.le_of_ble_eq_true rfl) rfl rfl (by decide) (big_at 379 (by decide +kernel) (by decide +kernel)) rfl (Or.inr ⟨rfl, rfl, rfl⟩) rfl (by first | exact Or.inl ⟨_, rfl⟩ | exact Or.inr ⟨_, rfl⟩) (Nat.le_of_ble_eq_true rfl) (Nat.le_of_ble_eq_true rfl) dX6_init_8 rfl ?_
  refine g_aload_n dX6_init_11 rfl 0 rfl ?_
  refine g_iconst (v := 5) dX6_init_12 (by decide) ?_
  refine g_newarr (t := 0) (len := 5) (ty := .int) hA (Nat.le_of_ble_eq_true rfl) rfl (by simp) rfl (fun _ => rfl) (big_at 188 (by decide +kernel) (by decide +kernel)) (by decide) (by decide) (Nat.le_of_ble_eq_true rfl) (Nat.le_of_ble_eq_true rfl) (Nat.le_of_ble_eq_true rfl) dX6_init_13 ?_
  refine c_putm (k := 1) (M' := mi_85) (Nat.le_of_ble_eq_true rfl) okX6 (Nat.le_of_ble_eq_true rfl) rfl rfl (by decide) (big_at 380 (by decide +kernel) (by decide +kernel)) rfl (Or.inr ⟨rfl, rfl, rfl⟩) rfl (by first | exact Or.inl ⟨_, rfl⟩ | exact Or.inr ⟨_, rfl⟩) (Nat.le_of_ble_eq_true rfl) (Nat.le_of_ble_eq_true rfl) dX6_init_15 rfl ?_
  exact g_vret rfl ⟨rfl, rfl, rfl⟩ dX6_init_18
set_option maxHeartbeats 4000000 in
set_option maxRecDepth 100000 in
theorem i_X7_init_80 {l : Launch} {B : BT} (hA : bA B = true) {d : Nat} : Con l B LYc (d + 1) yX7_init cX7_init 1 none 0 0 [.ref 80] 81 mi_86 (PN 81 mi_86) := by
  refine con_of (by decide) (Nat.le_of_ble_eq_true rfl) ?_
  show GG l B LYc (d + 1) yX7_init cX7_init 1 none 0 0 (PN 81 mi_86) 81 0 0 0 [(0, .ref 80)] [] mi_86
  refine g_aload_n dX7_init_0 rfl 0 rfl ?_
  refine g_objinit rfl (big_at 399 (by decide +kernel) (by decide +kernel)) (big_at 99 (by decide +kernel) (by decide +kernel)) (big_at 100 (by decide +kernel) (by decide +kernel)) (Nat.le_of_ble_eq_true rfl) dX7_init_1 ?_
  exact g_vret rfl ⟨rfl, rfl, rfl⟩ dX7_init_4
set_option maxHeartbeats 4000000 in
set_option maxRecDepth 100000 in
theorem i_X9_init_0 {l : Launch} {B : BT} (hA : bA B = true) {d : Nat} : Con l B LYc (d + 3) yX9_init cX9_init 2 none 80 1498 [.ref 0] 1 mi_0 (PN 81 mi_87) := by
  refine con_of (by decide) (Nat.le_of_ble_eq_true rfl) ?_
  show GG l B LYc (d + 3) yX9_init cX9_init 2 none 80 1498 (PN 81 mi_87) 1 0 0 0 [(0, .ref 0)] [] mi_0
  refine g_aload_n dX9_init_0 rfl 0 rfl ?_
  refine g_objinit rfl (big_at 98 (by decide +kernel) (by decide +kernel)) (big_at 99 (by decide +kernel) (by decide +kernel)) (big_at 100 (by decide +kernel) (by decide +kernel)) (Nat.le_of_ble_eq_true rfl) dX9_init_1 ?_
  refine g_aload_n dX9_init_4 rfl 0 rfl ?_
  refine g_new (ci := 0) hA (Nat.le_of_ble_eq_true rfl) rfl okX0.2.1 tyX0 tyX0_ok rfl dfX0 (fun _ => rfl) (big_at 101 (by decide +kernel) (by decide +kernel)) (big_at 102 (by decide +kernel) (by decide +kernel)) (big_at 73 (by decide +kernel) (by decide +kernel)) (Nat.le_of_ble_eq_true rfl) (Nat.le_of_ble_eq_true rfl) dX9_init_5 ?_
  refine g_dup dX9_init_8 rfl ?_
  refine g_callIN (As := []) (st := [.ref 1, .ref 0]) (i_X0_init_1 (d := d + 1) hA) ⟨by decide, by decide, by decide +kernel⟩ (big_at 105 (by decide +kernel) (by decide +kernel)) (big_at 73 (by decide +kernel) (by decide +kernel)) (big_at 104 (by decide +kernel) (by decide +kernel)) rfl (by decide) (host := "StillYard") (List.mem_of_getElem? (i := 0) rfl) rfl (Nat.le_of_ble_eq_true rfl) ⟨(Nat.le_of_ble_eq_true rfl), (Nat.le_of_ble_eq_true rfl)⟩ dX9_init_9 ?_
  refine c_putm (k := 8) (M' := mi_7) (Nat.le_of_ble_eq_true rfl) okX9 (Nat.le_of_ble_eq_true rfl) rfl rfl (by decide) (big_at 421 (by decide +kernel) (by decide +kernel)) rfl (Or.inl rfl) rfl (by first | exact Or.inl ⟨_, rfl⟩ | exact Or.inr ⟨_, rfl⟩) (Nat.le_of_ble_eq_true rfl) (Nat.le_of_ble_eq_true rfl) dX9_init_12 rfl ?_
  refine g_aload_n dX9_init_15 rfl 0 rfl ?_
  refine g_new (ci := 0) hA (Nat.le_of_ble_eq_true rfl) rfl okX0.2.1 tyX0 tyX0_ok rfl dfX0 (fun _ => rfl) (big_at 101 (by decide +kernel) (by decide +kernel)) (big_at 102 (by decide +kernel) (by decide +kernel)) (big_at 73 (by decide +kernel) (by decide +kernel)) (Nat.le_of_ble_eq_true rfl) (Nat.le_of_ble_eq_true rfl) dX9_init_16 ?_
  refine g_dup dX9_init_19 rfl ?_
  refine g_callIN (As := []) (st := [.ref 8, .ref 0]) (i_X0_init_8 (d := d + 1) hA) ⟨by decide, by decide, by decide +kernel⟩ (big_at 105 (by decide +kernel) (by decide +kernel)) (big_at 73 (by decide +kernel) (by decide +kernel)) (big_at 104 (by decide +kernel) (by decide +kernel)) rfl (by decide) (host := "StillYard") (List.mem_of_getElem? (i := 0) rfl) rfl (Nat.le_of_ble_eq_true rfl) ⟨(Nat.le_of_ble_eq_true rfl), (Nat.le_of_ble_eq_true rfl)⟩ dX9_init_20 ?_
  refine c_putm (k := 9) (M' := mi_14) (Nat.le_of_ble_eq_true rfl) okX9 (Nat.le_of_ble_eq_true rfl) rfl rfl (by decide) (big_at 422 (by decide +kernel) (by decide +kernel)) rfl (Or.inl rfl) rfl (by first | exact Or.inl ⟨_, rfl⟩ | exact Or.inr ⟨_, rfl⟩) (Nat.le_of_ble_eq_true rfl) (Nat.le_of_ble_eq_true rfl) dX9_init_23 rfl ?_
  refine g_aload_n dX9_init_26 rfl 0 rfl ?_
  refine g_new (ci := 8) hA (Nat.le_of_ble_eq_true rfl) rfl okX8.2.1 tyX8 tyX8_ok rfl dfX8 (fun _ => rfl) (big_at 189 (by decide +kernel) (by decide +kernel)) (big_at 190 (by decide +kernel) (by decide +kernel)) (big_at 74 (by decide +kernel) (by decide +kernel)) (Nat.le_of_ble_eq_true rfl) (Nat.le_of_ble_eq_true rfl) dX9_init_27 ?_
  refine g_dup dX9_init_30 rfl ?_
  refine g_callIN (As := []) (st := [.ref 15, .ref 0]) (i_X8_init_15 (d := d + 1) hA) ⟨by decide, by decide, by decide +kernel⟩ (big_at 193 (by decide +kernel) (by decide +kernel)) (big_at 74 (by decide +kernel) (by decide +kernel)) (big_at 192 (by decide +kernel) (by decide +kernel)) rfl (by decide) (host := "StillYard") (List.mem_of_getElem? (i := 1) rfl) rfl (Nat.le_of_ble_eq_true rfl) ⟨(Nat.le_of_ble_eq_true rfl), (Nat.le_of_ble_eq_true rfl)⟩ dX9_init_31 ?_
  refine c_putm (k := 0) (M' := mi_16) (Nat.le_of_ble_eq_true rfl) okX9 (Nat.le_of_ble_eq_true rfl) rfl rfl (by decide) (big_at 413 (by decide +kernel) (by decide +kernel)) rfl (Or.inr ⟨rfl, rfl, rfl⟩) rfl (by first | exact Or.inl ⟨_, rfl⟩ | exact Or.inr ⟨_, rfl⟩) (Nat.le_of_ble_eq_true rfl) (Nat.le_of_ble_eq_true rfl) dX9_init_34 rfl ?_
  refine g_aload_n dX9_init_37 rfl 0 rfl ?_
  refine g_new (ci := 5) hA (Nat.le_of_ble_eq_true rfl) rfl okX5.2.1 tyX5 tyX5_ok rfl dfX5 (fun _ => rfl) (big_at 223 (by decide +kernel) (by decide +kernel)) (big_at 224 (by decide +kernel) (by decide +kernel)) (big_at 75 (by decide +kernel) (by decide +kernel)) (Nat.le_of_ble_eq_true rfl) (Nat.le_of_ble_eq_true rfl) dX9_init_38 ?_
  refine g_dup dX9_init_41 rfl ?_
  refine g_aload_n dX9_init_42 rfl 0 rfl ?_
  refine g_getm (k := 0) (q' := 15) okX9 (Nat.le_of_ble_eq_true rfl) rfl rfl (by decide) (big_at 413 (by decide +kernel) (by decide +kernel)) rfl dX9_init_43 rfl (Nat.le_of_ble_eq_true rfl) (Nat.le_of_ble_eq_true rfl) ?_
  refine g_aload_n dX9_init_46 rfl 0 rfl ?_
  refine g_getm (k := 9) (q' := 8) okX9 (Nat.le_of_ble_eq_true rfl) rfl rfl (by decide) (big_at 422 (by decide +kernel) (by decide +kernel)) rfl dX9_init_47 rfl (Nat.le_of_ble_eq_true rfl) (Nat.le_of_ble_eq_true rfl) ?_
  refine g_callI (As := [.ref 15, .ref 8]) (st := [.ref 17, .ref 0]) (i_X5_init_17 (d := d + 1) hA) ⟨by decide, by decide, by decide +kernel⟩ (big_at 227 (by decide +kernel) (by decide +kernel)) (big_at 75 (by decide +kernel) (by decide +kernel)) (big_at 226 (by decide +kernel) (by decide +kernel)) rfl (by decide) (big_at 225 (by decide +kernel) (by decide +kernel)) rfl (Nat.le_of_ble_eq_true rfl) ⟨(Nat.le_of_ble_eq_true rfl), (Nat.le_of_ble_eq_true rfl)⟩ dX9_init_50 ?_
  refine c_putm (k := 1) (M' := mi_21) (Nat.le_of_ble_eq_true rfl) okX9 (Nat.le_of_ble_eq_true rfl) rfl rfl (by decide) (big_at 414 (by decide +kernel) (by decide +kernel)) rfl (Or.inr ⟨rfl, rfl, rfl⟩) rfl (by first | exact Or.inl ⟨_, rfl⟩ | exact Or.inr ⟨_, rfl⟩) (Nat.le_of_ble_eq_true rfl) (Nat.le_of_ble_eq_true rfl) dX9_init_53 rfl ?_
  refine g_aload_n dX9_init_56 rfl 0 rfl ?_
  refine g_new (ci := 3) hA (Nat.le_of_ble_eq_true rfl) rfl okX3.2.1 tyX3 tyX3_ok rfl dfX3 (fun _ => rfl) (big_at 253 (by decide +kernel) (by decide +kernel)) (big_at 254 (by decide +kernel) (by decide +kernel)) (big_at 76 (by decide +kernel) (by decide +kernel)) (Nat.le_of_ble_eq_true rfl) (Nat.le_of_ble_eq_true rfl) dX9_init_57 ?_
  refine g_dup dX9_init_60 rfl ?_
  refine g_callIN (As := []) (st := [.ref 20, .ref 0]) (i_X3_init_20 (d := d + 1) hA) ⟨by decide, by decide, by decide +kernel⟩ (big_at 257 (by decide +kernel) (by decide +kernel)) (big_at 76 (by decide +kernel) (by decide +kernel)) (big_at 256 (by decide +kernel) (by decide +kernel)) rfl (by decide) (host := "StillYard") (List.mem_of_getElem? (i := 2) rfl) rfl (Nat.le_of_ble_eq_true rfl) ⟨(Nat.le_of_ble_eq_true rfl), (Nat.le_of_ble_eq_true rfl)⟩ dX9_init_61 ?_
  refine c_putm (k := 2) (M' := mi_32) (Nat.le_of_ble_eq_true rfl) okX9 (Nat.le_of_ble_eq_true rfl) rfl rfl (by decide) (big_at 415 (by decide +kernel) (by decide +kernel)) rfl (Or.inr ⟨rfl, rfl, rfl⟩) rfl (by first | exact Or.inl ⟨_, rfl⟩ | exact Or.inr ⟨_, rfl⟩) (Nat.le_of_ble_eq_true rfl) (Nat.le_of_ble_eq_true rfl) dX9_init_64 rfl ?_
  refine g_aload_n dX9_init_67 rfl 0 rfl ?_
  refine g_iconst (v := 3) dX9_init_68 (by decide) ?_
  refine g_anew (len := 3) hA (Nat.le_of_ble_eq_true rfl) rfl (fun _ => rfl) (big_at 253 (by decide +kernel) (by decide +kernel)) (by decide) (by decide) (Nat.le_of_ble_eq_true rfl) (Nat.le_of_ble_eq_true rfl) (Nat.le_of_ble_eq_true rfl) dX9_init_69 ?_
  refine c_putm (k := 3) (M' := mi_33) (Nat.le_of_ble_eq_true rfl) okX9 (Nat.le_of_ble_eq_true rfl) rfl rfl (by decide) (big_at 416 (by decide +kernel) (by decide +kernel)) rfl (Or.inr ⟨rfl, rfl, rfl⟩) rfl (by first | exact Or.inl ⟨_, rfl⟩ | exact Or.inr ⟨_, rfl⟩) (Nat.le_of_ble_eq_true rfl) (Nat.le_of_ble_eq_true rfl) dX9_init_72 rfl ?_
  refine g_iconst (v := 0) dX9_init_75 (by decide) ?_
  refine g_istore_n (lv' := [(1, .int (0 : Int32)), (0, .ref 0)]) dX9_init_76 rfl (by decide) rfl ?_
  refine g_iload_n dX9_init_77 rfl 0 rfl ?_
  refine g_aload_n dX9_init_78 rfl 1 rfl ?_
  refine g_getm (k := 3) (q' := 30) okX9 (Nat.le_of_ble_eq_true rfl) rfl rfl (by decide) (big_at 416 (by decide +kernel) (by decide +kernel)) rfl dX9_init_79 rfl (Nat.le_of_ble_eq_true rfl) (Nat.le_of_ble_eq_true rfl) ?_
  refine g_alen (v := 3) (t := 3) (len := 3) (Nat.le_of_ble_eq_true rfl) rfl (by decide) (by decide) dX9_init_82 ?_
  refine g_icmp_ge (tgt := 105) dX9_init_83 (by decide) (fun z => absurd z (by decide)) (fun _ => ?_)
  refine g_aload_n dX9_init_86 rfl 1 rfl ?_
  refine g_getm (k := 3) (q' := 30) okX9 (Nat.le_of_ble_eq_true rfl) rfl rfl (by decide) (big_at 416 (by decide +kernel) (by decide +kernel)) rfl dX9_init_87 rfl (Nat.le_of_ble_eq_true rfl) (Nat.le_of_ble_eq_true rfl) ?_
  refine g_iload_n dX9_init_90 rfl 0 rfl ?_
  refine g_new (ci := 3) hA (Nat.le_of_ble_eq_true rfl) rfl okX3.2.1 tyX3 tyX3_ok rfl dfX3 (fun _ => rfl) (big_at 253 (by decide +kernel) (by decide +kernel)) (big_at 254 (by decide +kernel) (by decide +kernel)) (big_at 76 (by decide +kernel) (by decide +kernel)) (Nat.le_of_ble_eq_true rfl) (Nat.le_of_ble_eq_true rfl) dX9_init_91 ?_
  refine g_dup dX9_init_94 rfl ?_
  refine g_callIN (As := []) (st := [.ref 31, .int (0 : Int32), .ref 30]) (i_X3_init_31 (d := d + 1) hA) ⟨by decide, by decide, by decide +kernel⟩ (big_at 257 (by decide +kernel) (by decide +kernel)) (big_at 76 (by decide +kernel) (by decide +kernel)) (big_at 256 (by decide +kernel) (by decide +kernel)) rfl (by decide) (host := "StillYard") (List.mem_of_getElem? (i := 2) rfl) rfl (Nat.le_of_ble_eq_true rfl) ⟨(Nat.le_of_ble_eq_true rfl), (Nat.le_of_ble_eq_true rfl)⟩ dX9_init_95 ?_
  refine g_aast (M' := mi_44) (len := 3) hA (Nat.le_of_ble_eq_true rfl) (Nat.le_of_ble_eq_true rfl) rfl (Nat.le_of_ble_eq_true rfl) rfl (Nat.le_of_ble_eq_true rfl) (inb_vp rfl) dX9_init_98 rfl ?_
  refine g_iinc (v := 1) (lv' := [(1, .int (1 : Int32)), (0, .ref 0)]) dX9_init_99 0 rfl (by decide) (by decide) rfl ?_
  refine g_goto (tgt := 77) dX9_init_102 (by decide) ?_
  refine g_iload_n dX9_init_77 rfl 0 rfl ?_
  refine g_aload_n dX9_init_78 rfl 1 rfl ?_
  refine g_getm (k := 3) (q' := 30) okX9 (Nat.le_of_ble_eq_true rfl) rfl rfl (by decide) (big_at 416 (by decide +kernel) (by decide +kernel)) rfl dX9_init_79 rfl (Nat.le_of_ble_eq_true rfl) (Nat.le_of_ble_eq_true rfl) ?_
  refine g_alen (v := 3) (t := 3) (len := 3) (Nat.le_of_ble_eq_true rfl) rfl (by decide) (by decide) dX9_init_82 ?_
  refine g_icmp_ge (tgt := 105) dX9_init_83 (by decide) (fun z => absurd z (by decide)) (fun _ => ?_)
  refine g_aload_n dX9_init_86 rfl 1 rfl ?_
  refine g_getm (k := 3) (q' := 30) okX9 (Nat.le_of_ble_eq_true rfl) rfl rfl (by decide) (big_at 416 (by decide +kernel) (by decide +kernel)) rfl dX9_init_87 rfl (Nat.le_of_ble_eq_true rfl) (Nat.le_of_ble_eq_true rfl) ?_
  refine g_iload_n dX9_init_90 rfl 0 rfl ?_
  refine g_new (ci := 3) hA (Nat.le_of_ble_eq_true rfl) rfl okX3.2.1 tyX3 tyX3_ok rfl dfX3 (fun _ => rfl) (big_at 253 (by decide +kernel) (by decide +kernel)) (big_at 254 (by decide +kernel) (by decide +kernel)) (big_at 76 (by decide +kernel) (by decide +kernel)) (Nat.le_of_ble_eq_true rfl) (Nat.le_of_ble_eq_true rfl) dX9_init_91 ?_
  refine g_dup dX9_init_94 rfl ?_
  refine g_callIN (As := []) (st := [.ref 41, .int (1 : Int32), .ref 30]) (i_X3_init_41 (d := d + 1) hA) ⟨by decide, by decide, by decide +kernel⟩ (big_at 257 (by decide +kernel) (by decide +kernel)) (big_at 76 (by decide +kernel) (by decide +kernel)) (big_at 256 (by decide +kernel) (by decide +kernel)) rfl (by decide) (host := "StillYard") (List.mem_of_getElem? (i := 2) rfl) rfl (Nat.le_of_ble_eq_true rfl) ⟨(Nat.le_of_ble_eq_true rfl), (Nat.le_of_ble_eq_true rfl)⟩ dX9_init_95 ?_
  refine g_aast (M' := mi_55) (len := 3) hA (Nat.le_of_ble_eq_true rfl) (Nat.le_of_ble_eq_true rfl) rfl (Nat.le_of_ble_eq_true rfl) rfl (Nat.le_of_ble_eq_true rfl) (inb_vp rfl) dX9_init_98 rfl ?_
  refine g_iinc (v := 2) (lv' := [(1, .int (2 : Int32)), (0, .ref 0)]) dX9_init_99 0 rfl (by decide) (by decide) rfl ?_
  refine g_goto (tgt := 77) dX9_init_102 (by decide) ?_
  refine g_iload_n dX9_init_77 rfl 0 rfl ?_
  refine g_aload_n dX9_init_78 rfl 1 rfl ?_
  refine g_getm (k := 3) (q' := 30) okX9 (Nat.le_of_ble_eq_true rfl) rfl rfl (by decide) (big_at 416 (by decide +kernel) (by decide +kernel)) rfl dX9_init_79 rfl (Nat.le_of_ble_eq_true rfl) (Nat.le_of_ble_eq_true rfl) ?_
  refine g_alen (v := 3) (t := 3) (len := 3) (Nat.le_of_ble_eq_true rfl) rfl (by decide) (by decide) dX9_init_82 ?_
  refine g_icmp_ge (tgt := 105) dX9_init_83 (by decide) (fun z => absurd z (by decide)) (fun _ => ?_)
  refine g_aload_n dX9_init_86 rfl 1 rfl ?_
  refine g_getm (k := 3) (q' := 30) okX9 (Nat.le_of_ble_eq_true rfl) rfl rfl (by decide) (big_at 416 (by decide +kernel) (by decide +kernel)) rfl dX9_init_87 rfl (Nat.le_of_ble_eq_true rfl) (Nat.le_of_ble_eq_true rfl) ?_
  refine g_iload_n dX9_init_90 rfl 0 rfl ?_
  refine g_new (ci := 3) hA (Nat.le_of_ble_eq_true rfl) rfl okX3.2.1 tyX3 tyX3_ok rfl dfX3 (fun _ => rfl) (big_at 253 (by decide +kernel) (by decide +kernel)) (big_at 254 (by decide +kernel) (by decide +kernel)) (big_at 76 (by decide +kernel) (by decide +kernel)) (Nat.le_of_ble_eq_true rfl) (Nat.le_of_ble_eq_true rfl) dX9_init_91 ?_
  refine g_dup dX9_init_94 rfl ?_
  refine g_callIN (As := []) (st := [.ref 51, .int (2 : Int32), .ref 30]) (i_X3_init_51 (d := d + 1) hA) ⟨by decide, by decide, by decide +kernel⟩ (big_at 257 (by decide +kernel) (by decide +kernel)) (big_at 76 (by decide +kernel) (by decide +kernel)) (big_at 256 (by decide +kernel) (by decide +kernel)) rfl (by decide) (host := "StillYard") (List.mem_of_getElem? (i := 2) rfl) rfl (Nat.le_of_ble_eq_true rfl) ⟨(Nat.le_of_ble_eq_true rfl), (Nat.le_of_ble_eq_true rfl)⟩ dX9_init_95 ?_
  refine g_aast (M' := mi_66) (len := 3) hA (Nat.le_of_ble_eq_true rfl) (Nat.le_of_ble_eq_true rfl) rfl (Nat.le_of_ble_eq_true rfl) rfl (Nat.le_of_ble_eq_true rfl) (inb_vp rfl) dX9_init_98 rfl ?_
  refine g_iinc (v := 3) (lv' := [(1, .int (3 : Int32)), (0, .ref 0)]) dX9_init_99 0 rfl (by decide) (by decide) rfl ?_
  refine g_goto (tgt := 77) dX9_init_102 (by decide) ?_
  refine g_iload_n dX9_init_77 rfl 0 rfl ?_
  refine g_aload_n dX9_init_78 rfl 1 rfl ?_
  refine g_getm (k := 3) (q' := 30) okX9 (Nat.le_of_ble_eq_true rfl) rfl rfl (by decide) (big_at 416 (by decide +kernel) (by decide +kernel)) rfl dX9_init_79 rfl (Nat.le_of_ble_eq_true rfl) (Nat.le_of_ble_eq_true rfl) ?_
  refine g_alen (v := 3) (t := 3) (len := 3) (Nat.le_of_ble_eq_true rfl) rfl (by decide) (by decide) dX9_init_82 ?_
  refine g_icmp_ge (tgt := 105) dX9_init_83 (by decide) (fun _ => ?_) (fun z => absurd (by decide) z)
  refine g_aload_n dX9_init_105 rfl 1 rfl ?_
  refine g_new (ci := 4) hA (Nat.le_of_ble_eq_true rfl) rfl okX4.2.1 tyX4 tyX4_ok rfl dfX4 (fun _ => rfl) (big_at 324 (by decide +kernel) (by decide +kernel)) (big_at 325 (by decide +kernel) (by decide +kernel)) (big_at 77 (by decide +kernel) (by decide +kernel)) (Nat.le_of_ble_eq_true rfl) (Nat.le_of_ble_eq_true rfl) dX9_init_106 ?_
  refine g_dup dX9_init_109 rfl ?_
  refine g_callIN (As := []) (st := [.ref 61, .ref 0]) (i_X4_init_61 (d := d + 0) hA) ⟨by decide, by decide, by decide +kernel⟩ (big_at 328 (by decide +kernel) (by decide +kernel)) (big_at 77 (by decide +kernel) (by decide +kernel)) (big_at 327 (by decide +kernel) (by decide +kernel)) rfl (by decide) (host := "StillYard") (List.mem_of_getElem? (i := 3) rfl) rfl (Nat.le_of_ble_eq_true rfl) ⟨(Nat.le_of_ble_eq_true rfl), (Nat.le_of_ble_eq_true rfl)⟩ dX9_init_110 ?_
  refine c_putm (k := 4) (M' := mi_79) (Nat.le_of_ble_eq_true rfl) okX9 (Nat.le_of_ble_eq_true rfl) rfl rfl (by decide) (big_at 417 (by decide +kernel) (by decide +kernel)) rfl (Or.inr ⟨rfl, rfl, rfl⟩) rfl (by first | exact Or.inl ⟨_, rfl⟩ | exact Or.inr ⟨_, rfl⟩) (Nat.le_of_ble_eq_true rfl) (Nat.le_of_ble_eq_true rfl) dX9_init_113 rfl ?_
  refine g_aload_n dX9_init_116 rfl 1 rfl ?_
  refine g_new (ci := 1) hA (Nat.le_of_ble_eq_true rfl) rfl okX1.2.1 tyX1 tyX1_ok rfl dfX1 (fun _ => rfl) (big_at 352 (by decide +kernel) (by decide +kernel)) (big_at 353 (by decide +kernel) (by decide +kernel)) (big_at 78 (by decide +kernel) (by decide +kernel)) (Nat.le_of_ble_eq_true rfl) (Nat.le_of_ble_eq_true rfl) dX9_init_117 ?_
  refine g_dup dX9_init_120 rfl ?_
  refine g_callIN (As := []) (st := [.ref 73, .ref 0]) (i_X1_init_73 (d := d + 1) hA) ⟨by decide, by decide, by decide +kernel⟩ (big_at 356 (by decide +kernel) (by decide +kernel)) (big_at 78 (by decide +kernel) (by decide +kernel)) (big_at 355 (by decide +kernel) (by decide +kernel)) rfl (by decide) (host := "StillYard") (List.mem_of_getElem? (i := 5) rfl) rfl (Nat.le_of_ble_eq_true rfl) ⟨(Nat.le_of_ble_eq_true rfl), (Nat.le_of_ble_eq_true rfl)⟩ dX9_init_121 ?_
  refine c_putm (k := 5) (M' := mi_83) (Nat.le_of_ble_eq_true rfl) okX9 (Nat.le_of_ble_eq_true rfl) rfl rfl (by decide) (big_at 418 (by decide +kernel) (by decide +kernel)) rfl (Or.inr ⟨rfl, rfl, rfl⟩) rfl (by first | exact Or.inl ⟨_, rfl⟩ | exact Or.inr ⟨_, rfl⟩) (Nat.le_of_ble_eq_true rfl) (Nat.le_of_ble_eq_true rfl) dX9_init_124 rfl ?_
  refine g_aload_n dX9_init_127 rfl 1 rfl ?_
  refine g_new (ci := 6) hA (Nat.le_of_ble_eq_true rfl) rfl okX6.2.1 tyX6 tyX6_ok rfl dfX6 (fun _ => rfl) (big_at 373 (by decide +kernel) (by decide +kernel)) (big_at 374 (by decide +kernel) (by decide +kernel)) (big_at 79 (by decide +kernel) (by decide +kernel)) (Nat.le_of_ble_eq_true rfl) (Nat.le_of_ble_eq_true rfl) dX9_init_128 ?_
  refine g_dup dX9_init_131 rfl ?_
  refine g_callIN (As := []) (st := [.ref 77, .ref 0]) (i_X6_init_77 (d := d + 1) hA) ⟨by decide, by decide, by decide +kernel⟩ (big_at 377 (by decide +kernel) (by decide +kernel)) (big_at 79 (by decide +kernel) (by decide +kernel)) (big_at 376 (by decide +kernel) (by decide +kernel)) rfl (by decide) (host := "StillYard") (List.mem_of_getElem? (i := 6) rfl) rfl (Nat.le_of_ble_eq_true rfl) ⟨(Nat.le_of_ble_eq_true rfl), (Nat.le_of_ble_eq_true rfl)⟩ dX9_init_132 ?_
  refine c_putm (k := 6) (M' := mi_86) (Nat.le_of_ble_eq_true rfl) okX9 (Nat.le_of_ble_eq_true rfl) rfl rfl (by decide) (big_at 419 (by decide +kernel) (by decide +kernel)) rfl (Or.inr ⟨rfl, rfl, rfl⟩) rfl (by first | exact Or.inl ⟨_, rfl⟩ | exact Or.inr ⟨_, rfl⟩) (Nat.le_of_ble_eq_true rfl) (Nat.le_of_ble_eq_true rfl) dX9_init_135 rfl ?_
  refine g_aload_n dX9_init_138 rfl 1 rfl ?_
  refine g_new (ci := 7) hA (Nat.le_of_ble_eq_true rfl) rfl okX7.2.1 tyX7 tyX7_ok rfl dfX7 (fun _ => rfl) (big_at 394 (by decide +kernel) (by decide +kernel)) (big_at 395 (by decide +kernel) (by decide +kernel)) (big_at 80 (by decide +kernel) (by decide +kernel)) (Nat.le_of_ble_eq_true rfl) (Nat.le_of_ble_eq_true rfl) dX9_init_139 ?_
  refine g_dup dX9_init_142 rfl ?_
  refine g_callIN (As := []) (st := [.ref 80, .ref 0]) (i_X7_init_80 (d := d + 1) hA) ⟨by decide, by decide, by decide +kernel⟩ (big_at 398 (by decide +kernel) (by decide +kernel)) (big_at 80 (by decide +kernel) (by decide +kernel)) (big_at 397 (by decide +kernel) (by decide +kernel)) rfl (by decide) (host := "StillYard") (List.mem_of_getElem? (i := 7) rfl) rfl (Nat.le_of_ble_eq_true rfl) ⟨(Nat.le_of_ble_eq_true rfl), (Nat.le_of_ble_eq_true rfl)⟩ dX9_init_143 ?_
  refine c_putm (k := 7) (M' := mi_87) (Nat.le_of_ble_eq_true rfl) okX9 (Nat.le_of_ble_eq_true rfl) rfl rfl (by decide) (big_at 420 (by decide +kernel) (by decide +kernel)) rfl (Or.inr ⟨rfl, rfl, rfl⟩) rfl (by first | exact Or.inl ⟨_, rfl⟩ | exact Or.inr ⟨_, rfl⟩) (Nat.le_of_ble_eq_true rfl) (Nat.le_of_ble_eq_true rfl) dX9_init_146 rfl ?_
  exact g_vret rfl ⟨rfl, rfl, rfl⟩ dX9_init_149
set_option maxHeartbeats 4000000 in
set_option maxRecDepth 100000 in
theorem i_X10_init_81 {l : Launch} {B : BT} (hA : bA B = true) {d : Nat} : Con l B LYc (d + 1) yX10_init cX10_init 1 none 14 1540 [.ref 81] 82 mi_87 (PN 96 mi_103) := by
  refine con_of (by decide) (Nat.le_of_ble_eq_true rfl) ?_
  show GG l B LYc (d + 1) yX10_init cX10_init 1 none 14 1540 (PN 96 mi_103) 82 0 0 0 [(0, .ref 81)] [] mi_87
  refine g_aload_n dX10_init_0 rfl 0 rfl ?_
  refine g_objinit rfl (big_at 1268 (by decide +kernel) (by decide +kernel)) (big_at 99 (by decide +kernel) (by decide +kernel)) (big_at 100 (by decide +kernel) (by decide +kernel)) (Nat.le_of_ble_eq_true rfl) dX10_init_1 ?_
  refine g_aload_n dX10_init_4 rfl 0 rfl ?_
  refine g_sipush (v := 900) dX10_init_5 (by decide) ?_
  refine g_newarr (t := 0) (len := 900) (ty := .int) hA (Nat.le_of_ble_eq_true rfl) rfl (by simp) rfl (fun _ => rfl) (big_at 188 (by decide +kernel) (by decide +kernel)) (by decide) (by decide) (Nat.le_of_ble_eq_true rfl) (Nat.le_of_ble_eq_true rfl) (Nat.le_of_ble_eq_true rfl) dX10_init_8 ?_
  refine c_putm (k := 1) (M' := mi_88) (Nat.le_of_ble_eq_true rfl) okX10 (Nat.le_of_ble_eq_true rfl) rfl rfl (by decide) (big_at 1270 (by decide +kernel) (by decide +kernel)) rfl (Or.inr ⟨rfl, rfl, rfl⟩) rfl (by first | exact Or.inl ⟨_, rfl⟩ | exact Or.inr ⟨_, rfl⟩) (Nat.le_of_ble_eq_true rfl) (Nat.le_of_ble_eq_true rfl) dX10_init_10 rfl ?_
  refine g_aload_n dX10_init_13 rfl 0 rfl ?_
  refine g_iconst (v := (-1)) dX10_init_14 (by decide) ?_
  refine c_puti (k := 10) (M' := mi_89) (Nat.le_of_ble_eq_true rfl) okX10 (Nat.le_of_ble_eq_true rfl) rfl rfl (by decide) (big_at 1279 (by decide +kernel) (by decide +kernel)) rfl rfl rfl dX10_init_15 rfl ?_
  refine g_aload_n dX10_init_18 rfl 0 rfl ?_
  refine g_bipush (v := 8) dX10_init_19 (by decide) ?_
  refine g_newarr (t := 0) (len := 8) (ty := .int) hA (Nat.le_of_ble_eq_true rfl) rfl (by simp) rfl (fun _ => rfl) (big_at 188 (by decide +kernel) (by decide +kernel)) (by decide) (by decide) (Nat.le_of_ble_eq_true rfl) (Nat.le_of_ble_eq_true rfl) (Nat.le_of_ble_eq_true rfl) dX10_init_21 ?_
  refine c_putm (k := 12) (M' := mi_90) (Nat.le_of_ble_eq_true rfl) okX10 (Nat.le_of_ble_eq_true rfl) rfl rfl (by decide) (big_at 1281 (by decide +kernel) (by decide +kernel)) rfl (Or.inr ⟨rfl, rfl, rfl⟩) rfl (by first | exact Or.inl ⟨_, rfl⟩ | exact Or.inr ⟨_, rfl⟩) (Nat.le_of_ble_eq_true rfl) (Nat.le_of_ble_eq_true rfl) dX10_init_23 rfl ?_
  refine g_aload_n dX10_init_26 rfl 0 rfl ?_
  refine g_sipush (v := 141) dX10_init_27 (by decide) ?_
  refine g_newarr (t := 0) (len := 141) (ty := .int) hA (Nat.le_of_ble_eq_true rfl) rfl (by simp) rfl (fun _ => rfl) (big_at 188 (by decide +kernel) (by decide +kernel)) (by decide) (by decide) (Nat.le_of_ble_eq_true rfl) (Nat.le_of_ble_eq_true rfl) (Nat.le_of_ble_eq_true rfl) dX10_init_30 ?_
  refine c_putm (k := 15) (M' := mi_91) (Nat.le_of_ble_eq_true rfl) okX10 (Nat.le_of_ble_eq_true rfl) rfl rfl (by decide) (big_at 1284 (by decide +kernel) (by decide +kernel)) rfl (Or.inr ⟨rfl, rfl, rfl⟩) rfl (by first | exact Or.inl ⟨_, rfl⟩ | exact Or.inr ⟨_, rfl⟩) (Nat.le_of_ble_eq_true rfl) (Nat.le_of_ble_eq_true rfl) dX10_init_32 rfl ?_
  refine g_aload_n dX10_init_35 rfl 0 rfl ?_
  refine g_sipush (v := 141) dX10_init_36 (by decide) ?_
  refine g_newarr (t := 0) (len := 141) (ty := .int) hA (Nat.le_of_ble_eq_true rfl) rfl (by simp) rfl (fun _ => rfl) (big_at 188 (by decide +kernel) (by decide +kernel)) (by decide) (by decide) (Nat.le_of_ble_eq_true rfl) (Nat.le_of_ble_eq_true rfl) (Nat.le_of_ble_eq_true rfl) dX10_init_39 ?_
  refine c_putm (k := 16) (M' := mi_92) (Nat.le_of_ble_eq_true rfl) okX10 (Nat.le_of_ble_eq_true rfl) rfl rfl (by decide) (big_at 1285 (by decide +kernel) (by decide +kernel)) rfl (Or.inr ⟨rfl, rfl, rfl⟩) rfl (by first | exact Or.inl ⟨_, rfl⟩ | exact Or.inr ⟨_, rfl⟩) (Nat.le_of_ble_eq_true rfl) (Nat.le_of_ble_eq_true rfl) dX10_init_41 rfl ?_
  refine g_aload_n dX10_init_44 rfl 0 rfl ?_
  refine g_bipush (v := 44) dX10_init_45 (by decide) ?_
  refine g_newarr (t := 0) (len := 44) (ty := .int) hA (Nat.le_of_ble_eq_true rfl) rfl (by simp) rfl (fun _ => rfl) (big_at 188 (by decide +kernel) (by decide +kernel)) (by decide) (by decide) (Nat.le_of_ble_eq_true rfl) (Nat.le_of_ble_eq_true rfl) (Nat.le_of_ble_eq_true rfl) dX10_init_47 ?_
  refine c_putm (k := 17) (M' := mi_93) (Nat.le_of_ble_eq_true rfl) okX10 (Nat.le_of_ble_eq_true rfl) rfl rfl (by decide) (big_at 1286 (by decide +kernel) (by decide +kernel)) rfl (Or.inr ⟨rfl, rfl, rfl⟩) rfl (by first | exact Or.inl ⟨_, rfl⟩ | exact Or.inr ⟨_, rfl⟩) (Nat.le_of_ble_eq_true rfl) (Nat.le_of_ble_eq_true rfl) dX10_init_49 rfl ?_
  refine g_aload_n dX10_init_52 rfl 0 rfl ?_
  refine g_sipush (v := 176) dX10_init_53 (by decide) ?_
  refine g_newarr (t := 0) (len := 176) (ty := .int) hA (Nat.le_of_ble_eq_true rfl) rfl (by simp) rfl (fun _ => rfl) (big_at 188 (by decide +kernel) (by decide +kernel)) (by decide) (by decide) (Nat.le_of_ble_eq_true rfl) (Nat.le_of_ble_eq_true rfl) (Nat.le_of_ble_eq_true rfl) dX10_init_56 ?_
  refine c_putm (k := 18) (M' := mi_94) (Nat.le_of_ble_eq_true rfl) okX10 (Nat.le_of_ble_eq_true rfl) rfl rfl (by decide) (big_at 1287 (by decide +kernel) (by decide +kernel)) rfl (Or.inr ⟨rfl, rfl, rfl⟩) rfl (by first | exact Or.inl ⟨_, rfl⟩ | exact Or.inr ⟨_, rfl⟩) (Nat.le_of_ble_eq_true rfl) (Nat.le_of_ble_eq_true rfl) dX10_init_58 rfl ?_
  refine g_aload_n dX10_init_61 rfl 0 rfl ?_
  refine g_iconst (v := (-1)) dX10_init_62 (by decide) ?_
  refine c_puti (k := 20) (M' := mi_95) (Nat.le_of_ble_eq_true rfl) okX10 (Nat.le_of_ble_eq_true rfl) rfl rfl (by decide) (big_at 1289 (by decide +kernel) (by decide +kernel)) rfl rfl rfl dX10_init_63 rfl ?_
  refine g_aload_n dX10_init_66 rfl 0 rfl ?_
  refine g_bipush (v := 30) dX10_init_67 (by decide) ?_
  refine g_newarr (t := 0) (len := 30) (ty := .int) hA (Nat.le_of_ble_eq_true rfl) rfl (by simp) rfl (fun _ => rfl) (big_at 188 (by decide +kernel) (by decide +kernel)) (by decide) (by decide) (Nat.le_of_ble_eq_true rfl) (Nat.le_of_ble_eq_true rfl) (Nat.le_of_ble_eq_true rfl) dX10_init_69 ?_
  refine c_putm (k := 21) (M' := mi_96) (Nat.le_of_ble_eq_true rfl) okX10 (Nat.le_of_ble_eq_true rfl) rfl rfl (by decide) (big_at 1290 (by decide +kernel) (by decide +kernel)) rfl (Or.inr ⟨rfl, rfl, rfl⟩) rfl (by first | exact Or.inl ⟨_, rfl⟩ | exact Or.inr ⟨_, rfl⟩) (Nat.le_of_ble_eq_true rfl) (Nat.le_of_ble_eq_true rfl) dX10_init_71 rfl ?_
  refine g_aload_n dX10_init_74 rfl 0 rfl ?_
  refine g_bipush (v := 30) dX10_init_75 (by decide) ?_
  refine g_newarr (t := 0) (len := 30) (ty := .int) hA (Nat.le_of_ble_eq_true rfl) rfl (by simp) rfl (fun _ => rfl) (big_at 188 (by decide +kernel) (by decide +kernel)) (by decide) (by decide) (Nat.le_of_ble_eq_true rfl) (Nat.le_of_ble_eq_true rfl) (Nat.le_of_ble_eq_true rfl) dX10_init_77 ?_
  refine c_putm (k := 22) (M' := mi_97) (Nat.le_of_ble_eq_true rfl) okX10 (Nat.le_of_ble_eq_true rfl) rfl rfl (by decide) (big_at 1291 (by decide +kernel) (by decide +kernel)) rfl (Or.inr ⟨rfl, rfl, rfl⟩) rfl (by first | exact Or.inl ⟨_, rfl⟩ | exact Or.inr ⟨_, rfl⟩) (Nat.le_of_ble_eq_true rfl) (Nat.le_of_ble_eq_true rfl) dX10_init_79 rfl ?_
  refine g_aload_n dX10_init_82 rfl 0 rfl ?_
  refine g_bipush (v := 30) dX10_init_83 (by decide) ?_
  refine g_newarr (t := 0) (len := 30) (ty := .int) hA (Nat.le_of_ble_eq_true rfl) rfl (by simp) rfl (fun _ => rfl) (big_at 188 (by decide +kernel) (by decide +kernel)) (by decide) (by decide) (Nat.le_of_ble_eq_true rfl) (Nat.le_of_ble_eq_true rfl) (Nat.le_of_ble_eq_true rfl) dX10_init_85 ?_
  refine c_putm (k := 23) (M' := mi_98) (Nat.le_of_ble_eq_true rfl) okX10 (Nat.le_of_ble_eq_true rfl) rfl rfl (by decide) (big_at 1292 (by decide +kernel) (by decide +kernel)) rfl (Or.inr ⟨rfl, rfl, rfl⟩) rfl (by first | exact Or.inl ⟨_, rfl⟩ | exact Or.inr ⟨_, rfl⟩) (Nat.le_of_ble_eq_true rfl) (Nat.le_of_ble_eq_true rfl) dX10_init_87 rfl ?_
  refine g_aload_n dX10_init_90 rfl 0 rfl ?_
  refine g_iconst (v := 5) dX10_init_91 (by decide) ?_
  refine g_newarr (t := 0) (len := 5) (ty := .int) hA (Nat.le_of_ble_eq_true rfl) rfl (by simp) rfl (fun _ => rfl) (big_at 188 (by decide +kernel) (by decide +kernel)) (by decide) (by decide) (Nat.le_of_ble_eq_true rfl) (Nat.le_of_ble_eq_true rfl) (Nat.le_of_ble_eq_true rfl) dX10_init_92 ?_
  refine c_putm (k := 24) (M' := mi_99) (Nat.le_of_ble_eq_true rfl) okX10 (Nat.le_of_ble_eq_true rfl) rfl rfl (by decide) (big_at 1293 (by decide +kernel) (by decide +kernel)) rfl (Or.inr ⟨rfl, rfl, rfl⟩) rfl (by first | exact Or.inl ⟨_, rfl⟩ | exact Or.inr ⟨_, rfl⟩) (Nat.le_of_ble_eq_true rfl) (Nat.le_of_ble_eq_true rfl) dX10_init_94 rfl ?_
  refine g_aload_n dX10_init_97 rfl 0 rfl ?_
  refine g_iconst (v := 5) dX10_init_98 (by decide) ?_
  refine g_newarr (t := 0) (len := 5) (ty := .int) hA (Nat.le_of_ble_eq_true rfl) rfl (by simp) rfl (fun _ => rfl) (big_at 188 (by decide +kernel) (by decide +kernel)) (by decide) (by decide) (Nat.le_of_ble_eq_true rfl) (Nat.le_of_ble_eq_true rfl) (Nat.le_of_ble_eq_true rfl) dX10_init_99 ?_
  refine c_putm (k := 25) (M' := mi_100) (Nat.le_of_ble_eq_true rfl) okX10 (Nat.le_of_ble_eq_true rfl) rfl rfl (by decide) (big_at 1294 (by decide +kernel) (by decide +kernel)) rfl (Or.inr ⟨rfl, rfl, rfl⟩) rfl (by first | exact Or.inl ⟨_, rfl⟩ | exact Or.inr ⟨_, rfl⟩) (Nat.le_of_ble_eq_true rfl) (Nat.le_of_ble_eq_true rfl) dX10_init_101 rfl ?_
  refine g_aload_n dX10_init_104 rfl 0 rfl ?_
  refine g_iconst (v := 5) dX10_init_105 (by decide) ?_
  refine g_newarr (t := 0) (len := 5) (ty := .int) hA (Nat.le_of_ble_eq_true rfl) rfl (by simp) rfl (fun _ => rfl) (big_at 188 (by decide +kernel) (by decide +kernel)) (by decide) (by decide) (Nat.le_of_ble_eq_true rfl) (Nat.le_of_ble_eq_true rfl) (Nat.le_of_ble_eq_true rfl) dX10_init_106 ?_
  refine c_putm (k := 27) (M' := mi_101) (Nat.le_of_ble_eq_true rfl) okX10 (Nat.le_of_ble_eq_true rfl) rfl rfl (by decide) (big_at 1296 (by decide +kernel) (by decide +kernel)) rfl (Or.inr ⟨rfl, rfl, rfl⟩) rfl (by first | exact Or.inl ⟨_, rfl⟩ | exact Or.inr ⟨_, rfl⟩) (Nat.le_of_ble_eq_true rfl) (Nat.le_of_ble_eq_true rfl) dX10_init_108 rfl ?_
  refine g_aload_n dX10_init_111 rfl 0 rfl ?_
  refine g_bipush (v := 20) dX10_init_112 (by decide) ?_
  refine g_newarr (t := 0) (len := 20) (ty := .int) hA (Nat.le_of_ble_eq_true rfl) rfl (by simp) rfl (fun _ => rfl) (big_at 188 (by decide +kernel) (by decide +kernel)) (by decide) (by decide) (Nat.le_of_ble_eq_true rfl) (Nat.le_of_ble_eq_true rfl) (Nat.le_of_ble_eq_true rfl) dX10_init_114 ?_
  refine c_putm (k := 28) (M' := mi_102) (Nat.le_of_ble_eq_true rfl) okX10 (Nat.le_of_ble_eq_true rfl) rfl rfl (by decide) (big_at 1297 (by decide +kernel) (by decide +kernel)) rfl (Or.inr ⟨rfl, rfl, rfl⟩) rfl (by first | exact Or.inl ⟨_, rfl⟩ | exact Or.inr ⟨_, rfl⟩) (Nat.le_of_ble_eq_true rfl) (Nat.le_of_ble_eq_true rfl) dX10_init_116 rfl ?_
  refine g_aload_n dX10_init_119 rfl 0 rfl ?_
  refine g_iconst (v := 5) dX10_init_120 (by decide) ?_
  refine g_newarr (t := 0) (len := 5) (ty := .int) hA (Nat.le_of_ble_eq_true rfl) rfl (by simp) rfl (fun _ => rfl) (big_at 188 (by decide +kernel) (by decide +kernel)) (by decide) (by decide) (Nat.le_of_ble_eq_true rfl) (Nat.le_of_ble_eq_true rfl) (Nat.le_of_ble_eq_true rfl) dX10_init_121 ?_
  refine c_putm (k := 31) (M' := mi_103) (Nat.le_of_ble_eq_true rfl) okX10 (Nat.le_of_ble_eq_true rfl) rfl rfl (by decide) (big_at 1300 (by decide +kernel) (by decide +kernel)) rfl (Or.inr ⟨rfl, rfl, rfl⟩) rfl (by first | exact Or.inl ⟨_, rfl⟩ | exact Or.inr ⟨_, rfl⟩) (Nat.le_of_ble_eq_true rfl) (Nat.le_of_ble_eq_true rfl) dX10_init_123 rfl ?_
  exact g_vret rfl ⟨rfl, rfl, rfl⟩ dX10_init_126
def miE : Mm := mi_103
theorem convE {B : BT} : ∀ q, q < 97 → q ≠ 30 → cellE B LYc q (miE q) = cellE B LY q (miE q) := by
  intro q hq h30
  match q, hq with
  | 0, _ => rfl
  | 1, _ => rfl
  | 2, _ => rfl
  | 3, _ => rfl
  | 4, _ => rfl
  | 5, _ => rfl
  | 6, _ => rfl
  | 7, _ => rfl
  | 8, _ => rfl
  | 9, _ => rfl
  | 10, _ => rfl
  | 11, _ => rfl
  | 12, _ => rfl
  | 13, _ => rfl
  | 14, _ => rfl
  | 15, _ => rfl
  | 16, _ => rfl
  | 17, _ => rfl
  | 18, _ => rfl
  | 19, _ => rfl
  | 20, _ => rfl
  | 21, _ => rfl
  | 22, _ => rfl
  | 23, _ => rfl
  | 24, _ => rfl
  | 25, _ => rfl
  | 26, _ => rfl
  | 27, _ => rfl
  | 28, _ => rfl
  | 29, _ => rfl
  | 30, _ => exact absurd rfl h30
  | 31, _ => rfl
  | 32, _ => rfl
  | 33, _ => rfl
  | 34, _ => rfl
  | 35, _ => rfl
  | 36, _ => rfl
  | 37, _ => rfl
  | 38, _ => rfl
  | 39, _ => rfl
  | 40, _ => rfl
  | 41, _ => rfl
  | 42, _ => rfl
  | 43, _ => rfl
  | 44, _ => rfl
  | 45, _ => rfl
  | 46, _ => rfl
  | 47, _ => rfl
  | 48, _ => rfl
  | 49, _ => rfl
  | 50, _ => rfl
  | 51, _ => rfl
  | 52, _ => rfl
  | 53, _ => rfl
  | 54, _ => rfl
  | 55, _ => rfl
  | 56, _ => rfl
  | 57, _ => rfl
  | 58, _ => rfl
  | 59, _ => rfl
  | 60, _ => rfl
  | 61, _ => rfl
  | 62, _ => rfl
  | 63, _ => rfl
  | 64, _ => rfl
  | 65, _ => rfl
  | 66, _ => rfl
  | 67, _ => rfl
  | 68, _ => rfl
  | 69, _ => rfl
  | 70, _ => rfl
  | 71, _ => rfl
  | 72, _ => rfl
  | 73, _ => rfl
  | 74, _ => rfl
  | 75, _ => rfl
  | 76, _ => rfl
  | 77, _ => rfl
  | 78, _ => rfl
  | 79, _ => rfl
  | 80, _ => rfl
  | 81, _ => rfl
  | 82, _ => rfl
  | 83, _ => rfl
  | 84, _ => rfl
  | 85, _ => rfl
  | 86, _ => rfl
  | 87, _ => rfl
  | 88, _ => rfl
  | 89, _ => rfl
  | 90, _ => rfl
  | 91, _ => rfl
  | 92, _ => rfl
  | 93, _ => rfl
  | 94, _ => rfl
  | 95, _ => rfl
  | 96, _ => rfl
  | k + 97, h => exact absurd h (by omega)
theorem conv {B : BT} {H : Heap} (hC : bC B 3 = bC B 4) (h : va_P (bD B) classes (wz B LYc 97 miE) H) : va_P (bD B) classes (wz B LY 97 miE) H := by
  intro k q hq
  obtain ⟨hk, rfl⟩ := wz_out hq
  have h1 := h k _ (wz_get hk)
  by_cases e : k = 30
  · subst e
    have h2 : H[ad B 30]? = some (vp_cell (bC B 3) (3, arc B (miE 30) 30 3)) := h1
    show H[ad B 30]? = some (vp_cell (bC B 4) (3, arc B (miE 30) 30 4))
    rw [h2, hC]
    congr 1
  · rw [← convE k hk e]
    exact h1
