/-! every method's plain code is its decoded code: decided; what a method is, decided -/
def qckB (j : Nat) : Bool := qchk (qb j) (qownL.getD j 0) (qpcs (qRL.getD j [])) (qRL.getD j []) (qCL.getD j [])
def qyfB (j : Nat) : Bool := plainName (qy j).cls && (decide ((qy j).cls ≠ "java/lang/invoke/MethodHandle") && (decide ((qy j).cls ≠ "java/lang/invoke/VarHandle") && (decide ((parseMethodDescriptor (qy j).desc).map (fun d => d.parameters.length) = some (qarL.getD j 0)) && (decide (qpc j 0 = 0) && (Nat.ble (qnl j) 200 && decide ((qy j).cls = qow j))))))
theorem qck_0 : ([0, 1, 2, 3, 4, 5, 6, 7, 8, 9] : List Nat).all qckB = true := by decide +kernel
theorem qck_1 : ([10, 11, 12, 13, 14, 15, 16, 17, 18, 19] : List Nat).all qckB = true := by decide +kernel
theorem qck_2 : ([20, 21, 22, 23, 24, 25, 26, 27, 28, 29] : List Nat).all qckB = true := by decide +kernel
theorem qck_3 : ([30, 31, 32, 33, 34, 35, 36, 37, 38, 39] : List Nat).all qckB = true := by decide +kernel
theorem qck_4 : ([40, 41, 42, 43, 44, 45, 46, 47, 48, 49] : List Nat).all qckB = true := by decide +kernel
theorem qck_5 : ([50, 51, 52, 53, 54, 55, 56, 57, 58, 59] : List Nat).all qckB = true := by decide +kernel
theorem qck_6 : ([60, 61, 62, 63, 64, 65, 66, 67, 68, 69] : List Nat).all qckB = true := by decide +kernel
theorem qck_7 : ([70, 71, 72, 73, 74, 75, 76, 77, 78, 79] : List Nat).all qckB = true := by decide +kernel
theorem qck_8 : ([80, 81, 82, 83, 84, 85, 86, 87, 88, 89] : List Nat).all qckB = true := by decide +kernel
theorem qck_9 : ([90, 91, 92, 93, 94, 95, 96, 97, 98, 99] : List Nat).all qckB = true := by decide +kernel
theorem qck_10 : ([100, 101, 102, 103, 104, 105, 106, 107, 108, 109] : List Nat).all qckB = true := by decide +kernel
theorem qck_11 : ([110, 111, 112, 113, 114, 115, 116, 117, 118, 119] : List Nat).all qckB = true := by decide +kernel
theorem qck_12 : ([120, 121, 122, 123, 124, 125, 126, 127, 128, 129] : List Nat).all qckB = true := by decide +kernel
theorem qck_13 : ([130, 131, 132, 133, 134, 135, 136, 137, 138] : List Nat).all qckB = true := by decide +kernel
theorem qyf_0 : ([0, 1, 2, 3, 4, 5, 6, 7, 8, 9, 10, 11, 12, 13, 14, 15, 16, 17, 18, 19, 20, 21, 22, 23, 24, 25, 26, 27, 28, 29, 30, 31, 32, 33] : List Nat).all qyfB = true := by decide +kernel
theorem qyf_1 : ([34, 35, 36, 37, 38, 39, 40, 41, 42, 43, 44, 45, 46, 47, 48, 49, 50, 51, 52, 53, 54, 55, 56, 57, 58, 59, 60, 61, 62, 63, 64, 65, 66, 67] : List Nat).all qyfB = true := by decide +kernel
theorem qyf_2 : ([68, 69, 70, 71, 72, 73, 74, 75, 76, 77, 78, 79, 80, 81, 82, 83, 84, 85, 86, 87, 88, 89, 90, 91, 92, 93, 94, 95, 96, 97, 98, 99, 100, 101] : List Nat).all qyfB = true := by decide +kernel
theorem qyf_3 : ([102, 103, 104, 105, 106, 107, 108, 109, 110, 111, 112, 113, 114, 115, 116, 117, 118, 119, 120, 121, 122, 123, 124, 125, 126, 127, 128, 129, 130, 131, 132, 133, 134, 135] : List Nat).all qyfB = true := by decide +kernel
theorem qck : ∀ j, j < 139 → qckB j = true := by
  intro j hj
  have e : List.range 139 = ([0, 1, 2, 3, 4, 5, 6, 7, 8, 9] : List Nat) ++ ([10, 11, 12, 13, 14, 15, 16, 17, 18, 19] : List Nat) ++ ([20, 21, 22, 23, 24, 25, 26, 27, 28, 29] : List Nat) ++ ([30, 31, 32, 33, 34, 35, 36, 37, 38, 39] : List Nat) ++ ([40, 41, 42, 43, 44, 45, 46, 47, 48, 49] : List Nat) ++ ([50, 51, 52, 53, 54, 55, 56, 57, 58, 59] : List Nat) ++ ([60, 61, 62, 63, 64, 65, 66, 67, 68, 69] : List Nat) ++ ([70, 71, 72, 73, 74, 75, 76, 77, 78, 79] : List Nat) ++ ([80, 81, 82, 83, 84, 85, 86, 87, 88, 89] : List Nat) ++ ([90, 91, 92, 93, 94, 95, 96, 97, 98, 99] : List Nat) ++ ([100, 101, 102, 103, 104, 105, 106, 107, 108, 109] : List Nat) ++ ([110, 111, 112, 113, 114, 115, 116, 117, 118, 119] : List Nat) ++ ([120, 121, 122, 123, 124, 125, 126, 127, 128, 129] : List Nat) ++ ([130, 131, 132, 133, 134, 135, 136, 137, 138] : List Nat) := by decide +kernel
  have hm := List.mem_range.mpr hj
  rw [e] at hm
  simp only [List.mem_append] at hm
  rcases hm with ((((((((((((h | h) | h) | h) | h) | h) | h) | h) | h) | h) | h) | h) | h) | h
  all_goals first | exact List.all_eq_true.mp qck_0 j h | exact List.all_eq_true.mp qck_1 j h | exact List.all_eq_true.mp qck_2 j h | exact List.all_eq_true.mp qck_3 j h | exact List.all_eq_true.mp qck_4 j h | exact List.all_eq_true.mp qck_5 j h | exact List.all_eq_true.mp qck_6 j h | exact List.all_eq_true.mp qck_7 j h | exact List.all_eq_true.mp qck_8 j h | exact List.all_eq_true.mp qck_9 j h | exact List.all_eq_true.mp qck_10 j h | exact List.all_eq_true.mp qck_11 j h | exact List.all_eq_true.mp qck_12 j h | exact List.all_eq_true.mp qck_13 j h
theorem qyf : ∀ j, j < 136 → qyfB j = true := by
  intro j hj
  have e : List.range 136 = ([0, 1, 2, 3, 4, 5, 6, 7, 8, 9, 10, 11, 12, 13, 14, 15, 16, 17, 18, 19, 20, 21, 22, 23, 24, 25, 26, 27, 28, 29, 30, 31, 32, 33] : List Nat) ++ ([34, 35, 36, 37, 38, 39, 40, 41, 42, 43, 44, 45, 46, 47, 48, 49, 50, 51, 52, 53, 54, 55, 56, 57, 58, 59, 60, 61, 62, 63, 64, 65, 66, 67] : List Nat) ++ ([68, 69, 70, 71, 72, 73, 74, 75, 76, 77, 78, 79, 80, 81, 82, 83, 84, 85, 86, 87, 88, 89, 90, 91, 92, 93, 94, 95, 96, 97, 98, 99, 100, 101] : List Nat) ++ ([102, 103, 104, 105, 106, 107, 108, 109, 110, 111, 112, 113, 114, 115, 116, 117, 118, 119, 120, 121, 122, 123, 124, 125, 126, 127, 128, 129, 130, 131, 132, 133, 134, 135] : List Nat) := by decide +kernel
  have hm := List.mem_range.mpr hj
  rw [e] at hm
  simp only [List.mem_append] at hm
  rcases hm with ((h | h) | h) | h
  all_goals first | exact List.all_eq_true.mp qyf_0 j h | exact List.all_eq_true.mp qyf_1 j h | exact List.all_eq_true.mp qyf_2 j h | exact List.all_eq_true.mp qyf_3 j h
