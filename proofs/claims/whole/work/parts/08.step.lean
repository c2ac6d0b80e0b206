def qwP (j : Nat) : Prop := qWd (qy j) (qb j) (qnl j) (qrt j) (qstL.getD j false)
theorem qwd_0 : ∀ j ∈ ([0, 1, 2, 3, 4, 5, 6, 7, 8, 9, 10, 11, 12, 13, 14, 15, 16, 17, 18, 19, 20, 21, 22, 23, 24, 25, 26, 27, 28, 29, 30, 31, 32, 33] : List Nat), qwP j := List.forall_mem_cons.mpr ⟨qw0, List.forall_mem_cons.mpr ⟨qw1, List.forall_mem_cons.mpr ⟨qw2, List.forall_mem_cons.mpr ⟨qw3, List.forall_mem_cons.mpr ⟨qw4, List.forall_mem_cons.mpr ⟨qw5, List.forall_mem_cons.mpr ⟨qw6, List.forall_mem_cons.mpr ⟨qw7, List.forall_mem_cons.mpr ⟨qw8, List.forall_mem_cons.mpr ⟨qw9, List.forall_mem_cons.mpr ⟨qw10, List.forall_mem_cons.mpr ⟨qw11, List.forall_mem_cons.mpr ⟨qw12, List.forall_mem_cons.mpr ⟨qw13, List.forall_mem_cons.mpr ⟨qw14, List.forall_mem_cons.mpr ⟨qw15, List.forall_mem_cons.mpr ⟨qw16, List.forall_mem_cons.mpr ⟨qw17, List.forall_mem_cons.mpr ⟨qw18, List.forall_mem_cons.mpr ⟨qw19, List.forall_mem_cons.mpr ⟨qw20, List.forall_mem_cons.mpr ⟨qw21, List.forall_mem_cons.mpr ⟨qw22, List.forall_mem_cons.mpr ⟨qw23, List.forall_mem_cons.mpr ⟨qw24, List.forall_mem_cons.mpr ⟨qw25, List.forall_mem_cons.mpr ⟨qw26, List.forall_mem_cons.mpr ⟨qw27, List.forall_mem_cons.mpr ⟨qw28, List.forall_mem_cons.mpr ⟨qw29, List.forall_mem_cons.mpr ⟨qw30, List.forall_mem_cons.mpr ⟨qw31, List.forall_mem_cons.mpr ⟨qw32, List.forall_mem_cons.mpr ⟨qw33, fun _ h => absurd h List.not_mem_nil⟩⟩⟩⟩⟩⟩⟩⟩⟩⟩⟩⟩⟩⟩⟩⟩⟩⟩⟩⟩⟩⟩⟩⟩⟩⟩⟩⟩⟩⟩⟩⟩⟩⟩
theorem qwd_1 : ∀ j ∈ ([34, 35, 36, 37, 38, 39, 40, 41, 42, 43, 44, 45, 46, 47, 48, 49, 50, 51, 52, 53, 54, 55, 56, 57, 58, 59, 60, 61, 62, 63, 64, 65, 66, 67] : List Nat), qwP j := List.forall_mem_cons.mpr ⟨qw34, List.forall_mem_cons.mpr ⟨qw35, List.forall_mem_cons.mpr ⟨qw36, List.forall_mem_cons.mpr ⟨qw37, List.forall_mem_cons.mpr ⟨qw38, List.forall_mem_cons.mpr ⟨qw39, List.forall_mem_cons.mpr ⟨qw40, List.forall_mem_cons.mpr ⟨qw41, List.forall_mem_cons.mpr ⟨qw42, List.forall_mem_cons.mpr ⟨qw43, List.forall_mem_cons.mpr ⟨qw44, List.forall_mem_cons.mpr ⟨qw45, List.forall_mem_cons.mpr ⟨qw46, List.forall_mem_cons.mpr ⟨qw47, List.forall_mem_cons.mpr ⟨qw48, List.forall_mem_cons.mpr ⟨qw49, List.forall_mem_cons.mpr ⟨qw50, List.forall_mem_cons.mpr ⟨qw51, List.forall_mem_cons.mpr ⟨qw52, List.forall_mem_cons.mpr ⟨qw53, List.forall_mem_cons.mpr ⟨qw54, List.forall_mem_cons.mpr ⟨qw55, List.forall_mem_cons.mpr ⟨qw56, List.forall_mem_cons.mpr ⟨qw57, List.forall_mem_cons.mpr ⟨qw58, List.forall_mem_cons.mpr ⟨qw59, List.forall_mem_cons.mpr ⟨qw60, List.forall_mem_cons.mpr ⟨qw61, List.forall_mem_cons.mpr ⟨qw62, List.forall_mem_cons.mpr ⟨qw63, List.forall_mem_cons.mpr ⟨qw64, List.forall_mem_cons.mpr ⟨qw65, List.forall_mem_cons.mpr ⟨qw66, List.forall_mem_cons.mpr ⟨qw67, fun _ h => absurd h List.not_mem_nil⟩⟩⟩⟩⟩⟩⟩⟩⟩⟩⟩⟩⟩⟩⟩⟩⟩⟩⟩⟩⟩⟩⟩⟩⟩⟩⟩⟩⟩⟩⟩⟩⟩⟩
theorem qwd_2 : ∀ j ∈ ([68, 69, 70, 71, 72, 73, 74, 75, 76, 77, 78, 79, 80, 81, 82, 83, 84, 85, 86, 87, 88, 89, 90, 91, 92, 93, 94, 95, 96, 97, 98, 99, 100, 101] : List Nat), qwP j := List.forall_mem_cons.mpr ⟨qw68, List.forall_mem_cons.mpr ⟨qw69, List.forall_mem_cons.mpr ⟨qw70, List.forall_mem_cons.mpr ⟨qw71, List.forall_mem_cons.mpr ⟨qw72, List.forall_mem_cons.mpr ⟨qw73, List.forall_mem_cons.mpr ⟨qw74, List.forall_mem_cons.mpr ⟨qw75, List.forall_mem_cons.mpr ⟨qw76, List.forall_mem_cons.mpr ⟨qw77, List.forall_mem_cons.mpr ⟨qw78, List.forall_mem_cons.mpr ⟨qw79, List.forall_mem_cons.mpr ⟨qw80, List.forall_mem_cons.mpr ⟨qw81, List.forall_mem_cons.mpr ⟨qw82, List.forall_mem_cons.mpr ⟨qw83, List.forall_mem_cons.mpr ⟨qw84, List.forall_mem_cons.mpr ⟨qw85, List.forall_mem_cons.mpr ⟨qw86, List.forall_mem_cons.mpr ⟨qw87, List.forall_mem_cons.mpr ⟨qw88, List.forall_mem_cons.mpr ⟨qw89, List.forall_mem_cons.mpr ⟨qw90, List.forall_mem_cons.mpr ⟨qw91, List.forall_mem_cons.mpr ⟨qw92, List.forall_mem_cons.mpr ⟨qw93, List.forall_mem_cons.mpr ⟨qw94, List.forall_mem_cons.mpr ⟨qw95, List.forall_mem_cons.mpr ⟨qw96, List.forall_mem_cons.mpr ⟨qw97, List.forall_mem_cons.mpr ⟨qw98, List.forall_mem_cons.mpr ⟨qw99, List.forall_mem_cons.mpr ⟨qw100, List.forall_mem_cons.mpr ⟨qw101, fun _ h => absurd h List.not_mem_nil⟩⟩⟩⟩⟩⟩⟩⟩⟩⟩⟩⟩⟩⟩⟩⟩⟩⟩⟩⟩⟩⟩⟩⟩⟩⟩⟩⟩⟩⟩⟩⟩⟩⟩
theorem qwd_3 : ∀ j ∈ ([102, 103, 104, 105, 106, 107, 108, 109, 110, 111, 112, 113, 114, 115, 116, 117, 118, 119, 120, 121, 122, 123, 124, 125, 126, 127, 128, 129, 130, 131, 132, 133, 134, 135] : List Nat), qwP j := List.forall_mem_cons.mpr ⟨qw102, List.forall_mem_cons.mpr ⟨qw103, List.forall_mem_cons.mpr ⟨qw104, List.forall_mem_cons.mpr ⟨qw105, List.forall_mem_cons.mpr ⟨qw106, List.forall_mem_cons.mpr ⟨qw107, List.forall_mem_cons.mpr ⟨qw108, List.forall_mem_cons.mpr ⟨qw109, List.forall_mem_cons.mpr ⟨qw110, List.forall_mem_cons.mpr ⟨qw111, List.forall_mem_cons.mpr ⟨qw112, List.forall_mem_cons.mpr ⟨qw113, List.forall_mem_cons.mpr ⟨qw114, List.forall_mem_cons.mpr ⟨qw115, List.forall_mem_cons.mpr ⟨qw116, List.forall_mem_cons.mpr ⟨qw117, List.forall_mem_cons.mpr ⟨qw118, List.forall_mem_cons.mpr ⟨qw119, List.forall_mem_cons.mpr ⟨qw120, List.forall_mem_cons.mpr ⟨qw121, List.forall_mem_cons.mpr ⟨qw122, List.forall_mem_cons.mpr ⟨qw123, List.forall_mem_cons.mpr ⟨qw124, List.forall_mem_cons.mpr ⟨qw125, List.forall_mem_cons.mpr ⟨qw126, List.forall_mem_cons.mpr ⟨qw127, List.forall_mem_cons.mpr ⟨qw128, List.forall_mem_cons.mpr ⟨qw129, List.forall_mem_cons.mpr ⟨qw130, List.forall_mem_cons.mpr ⟨qw131, List.forall_mem_cons.mpr ⟨qw132, List.forall_mem_cons.mpr ⟨qw133, List.forall_mem_cons.mpr ⟨qw134, List.forall_mem_cons.mpr ⟨qw135, fun _ h => absurd h List.not_mem_nil⟩⟩⟩⟩⟩⟩⟩⟩⟩⟩⟩⟩⟩⟩⟩⟩⟩⟩⟩⟩⟩⟩⟩⟩⟩⟩⟩⟩⟩⟩⟩⟩⟩⟩
theorem qwd : ∀ j, j < 136 → qwP j := by
  intro j hj
  have e : List.range 136 = ([0, 1, 2, 3, 4, 5, 6, 7, 8, 9, 10, 11, 12, 13, 14, 15, 16, 17, 18, 19, 20, 21, 22, 23, 24, 25, 26, 27, 28, 29, 30, 31, 32, 33] : List Nat) ++ ([34, 35, 36, 37, 38, 39, 40, 41, 42, 43, 44, 45, 46, 47, 48, 49, 50, 51, 52, 53, 54, 55, 56, 57, 58, 59, 60, 61, 62, 63, 64, 65, 66, 67] : List Nat) ++ ([68, 69, 70, 71, 72, 73, 74, 75, 76, 77, 78, 79, 80, 81, 82, 83, 84, 85, 86, 87, 88, 89, 90, 91, 92, 93, 94, 95, 96, 97, 98, 99, 100, 101] : List Nat) ++ ([102, 103, 104, 105, 106, 107, 108, 109, 110, 111, 112, 113, 114, 115, 116, 117, 118, 119, 120, 121, 122, 123, 124, 125, 126, 127, 128, 129, 130, 131, 132, 133, 134, 135] : List Nat) := by decide +kernel
  have hm := List.mem_range.mpr hj
  rw [e] at hm
  simp only [List.mem_append] at hm
  rcases hm with ((h | h) | h) | h
  all_goals first | exact qwd_0 j h | exact qwd_1 j h | exact qwd_2 j h | exact qwd_3 j h
/-! ## the code's rows, read back -/
theorem qnth_map {α β : Type} (f : α → β) : ∀ (l : List α) (i : Nat), qnth (l.map f) i = (qnth l i).map f
  | [], _ => rfl
  | _ :: _, 0 => rfl
  | _ :: l, i + 1 => qnth_map f l i
theorem qnth_getD {α : Type} (d : α) : ∀ (l : List α) (i : Nat) (a : α), qnth l i = some a → l.getD i d = a
  | _ :: _, 0, _, h => by cases h; rfl
  | _ :: l, i + 1, a, h => qnth_getD d l i a h
theorem qchk_at {b : ByteArray} {own : Nat} {pcs : List Nat} : ∀ (R : List (Nat × Instr × Nat)) (C : List Instr), qchk b own pcs R C = true → ∀ (i : Nat) (a : Instr), qnth C i = some a → ∃ (pc : Nat) (ins : Instr) (len : Nat), qnth R i = some (pc, ins, len) ∧ decode b pc = .ok (ins, len) ∧ qmatch own pcs pc len ins a = true ∧ ((∃ q, qnth R (i + 1) = some q ∧ q.1 = pc + len) ∨ qend a = true)
  | [], [], _, i, a, h => by cases h
  | [], _ :: _, hq, _, _, _ => by cases hq
  | _ :: _, [], hq, _, _, _ => by cases hq
  | (pc, ins, len) :: R, a0 :: C, hq, 0, a, h => by
    cases h
    unfold qchk at hq
    simp only [Bool.and_eq_true, decide_eq_true_eq] at hq
    obtain ⟨h1, h2, h3, h4⟩ := hq
    refine ⟨pc, ins, len, rfl, h1, h3, ?_⟩
    cases R with
    | nil => exact Or.inr h2
    | cons q R => exact Or.inl ⟨q, rfl, eq_of_beq h2⟩
  | (pc, ins, len) :: R, a0 :: C, hq, i + 1, a, h => by
    unfold qchk at hq
    simp only [Bool.and_eq_true] at hq
    obtain ⟨h1, h2, h3, h4⟩ := hq
    exact qchk_at R C h4 i a h
theorem qcode {j i : Nat} {a : Instr} (hj : j < 139) (h : qnth (qCL.getD j []) i = some a) : ∃ (ins : Instr) (len : Nat), decode (qb j) (qpc j i) = .ok (ins, len) ∧ qmatch (qownL.getD j 0) (qpcs (qRL.getD j [])) (qpc j i) len ins a = true ∧ (qpc j (i + 1) = qpc j i + len ∨ qend a = true) := by
  obtain ⟨pc, ins, len, h1, h2, h3, h4⟩ := qchk_at _ _ (qck j hj) i a h
  have e : qpc j i = pc := by
    unfold qpc qpcs
    refine qnth_getD 0 _ i pc ?_
    rw [qnth_map, h1]
    rfl
  refine ⟨ins, len, by rw [e]; exact h2, by rw [e]; exact h3, ?_⟩
  rcases h4 with ⟨q, hq, e2⟩ | h4
  · refine Or.inl ?_
    rw [e, ← e2]
    unfold qpc qpcs
    refine qnth_getD 0 _ (i + 1) q.1 ?_
    rw [qnth_map, hq]
    rfl
  · exact Or.inr h4
theorem qtg_ok {R : List (Nat × Instr × Nat)} {pc : Nat} {off t : Int} (h : qtg (qpcs R) pc off t = true) : (pc : Int) + off = (((qpcs R).getD t.toNat 0 : Nat) : Int) := by
  unfold qtg at h
  split at h
  · rename_i g hg
    rw [List.getD_eq_getElem?_getD, hg]
    exact of_decide_eq_true h
  · cases h
theorem qone_ok {a ins : Instr} {len : Nat} (h : (qone a && (decide (ins = a) && len == 1)) = true) : ins = a ∧ len = 1 := by
  simp only [Bool.and_eq_true, decide_eq_true_eq] at h
  exact ⟨h.2.1, eq_of_beq h.2.2⟩
theorem qm_iload {own pc len k : Nat} {pcs : List Nat} {ins : Instr} (h : qmatch own pcs pc len ins (.iload k) = true) : (∃ f : Fin 4, f.val = k ∧ ins = .iload_n f ∧ len = 1) ∨ (ins = .iload k ∧ len = 2) := by
  simp only [qmatch] at h
  split at h
  · rename_i f
    simp only [Bool.and_eq_true] at h
    exact Or.inl ⟨f, eq_of_beq h.1, rfl, eq_of_beq h.2⟩
  · simp only [Bool.and_eq_true] at h
    obtain rfl := eq_of_beq h.1
    exact Or.inr ⟨rfl, eq_of_beq h.2⟩
  · cases h
theorem qm_lload {own pc len k : Nat} {pcs : List Nat} {ins : Instr} (h : qmatch own pcs pc len ins (.lload k) = true) : (∃ f : Fin 4, f.val = k ∧ ins = .lload_n f ∧ len = 1) ∨ (ins = .lload k ∧ len = 2) := by
  simp only [qmatch] at h
  split at h
  · rename_i f
    simp only [Bool.and_eq_true] at h
    exact Or.inl ⟨f, eq_of_beq h.1, rfl, eq_of_beq h.2⟩
  · simp only [Bool.and_eq_true] at h
    obtain rfl := eq_of_beq h.1
    exact Or.inr ⟨rfl, eq_of_beq h.2⟩
  · cases h
theorem qm_aload {own pc len k : Nat} {pcs : List Nat} {ins : Instr} (h : qmatch own pcs pc len ins (.aload k) = true) : (∃ f : Fin 4, f.val = k ∧ ins = .aload_n f ∧ len = 1) ∨ (ins = .aload k ∧ len = 2) := by
  simp only [qmatch] at h
  split at h
  · rename_i f
    simp only [Bool.and_eq_true] at h
    exact Or.inl ⟨f, eq_of_beq h.1, rfl, eq_of_beq h.2⟩
  · simp only [Bool.and_eq_true] at h
    obtain rfl := eq_of_beq h.1
    exact Or.inr ⟨rfl, eq_of_beq h.2⟩
  · cases h
theorem qm_istore {own pc len k : Nat} {pcs : List Nat} {ins : Instr} (h : qmatch own pcs pc len ins (.istore k) = true) : (∃ f : Fin 4, f.val = k ∧ ins = .istore_n f ∧ len = 1) ∨ (ins = .istore k ∧ len = 2) := by
  simp only [qmatch] at h
  split at h
  · rename_i f
    simp only [Bool.and_eq_true] at h
    exact Or.inl ⟨f, eq_of_beq h.1, rfl, eq_of_beq h.2⟩
  · simp only [Bool.and_eq_true] at h
    obtain rfl := eq_of_beq h.1
    exact Or.inr ⟨rfl, eq_of_beq h.2⟩
  · cases h
theorem qm_lstore {own pc len k : Nat} {pcs : List Nat} {ins : Instr} (h : qmatch own pcs pc len ins (.lstore k) = true) : (∃ f : Fin 4, f.val = k ∧ ins = .lstore_n f ∧ len = 1) ∨ (ins = .lstore k ∧ len = 2) := by
  simp only [qmatch] at h
  split at h
  · rename_i f
    simp only [Bool.and_eq_true] at h
    exact Or.inl ⟨f, eq_of_beq h.1, rfl, eq_of_beq h.2⟩
  · simp only [Bool.and_eq_true] at h
    obtain rfl := eq_of_beq h.1
    exact Or.inr ⟨rfl, eq_of_beq h.2⟩
  · cases h
theorem qm_astore {own pc len k : Nat} {pcs : List Nat} {ins : Instr} (h : qmatch own pcs pc len ins (.astore k) = true) : (∃ f : Fin 4, f.val = k ∧ ins = .astore_n f ∧ len = 1) ∨ (ins = .astore k ∧ len = 2) := by
  simp only [qmatch] at h
  split at h
  · rename_i f
    simp only [Bool.and_eq_true] at h
    exact Or.inl ⟨f, eq_of_beq h.1, rfl, eq_of_beq h.2⟩
  · simp only [Bool.and_eq_true] at h
    obtain rfl := eq_of_beq h.1
    exact Or.inr ⟨rfl, eq_of_beq h.2⟩
  · cases h
theorem qm_iinc {own pc len k : Nat} {v : Int} {pcs : List Nat} {ins : Instr} (h : qmatch own pcs pc len ins (.iinc k v) = true) : ins = .iinc k v ∧ len = 3 := by
  simp only [qmatch] at h
  split at h
  · simp only [Bool.and_eq_true, decide_eq_true_eq] at h
    obtain rfl := eq_of_beq h.1
    obtain rfl := h.2.1
    exact ⟨rfl, eq_of_beq h.2.2⟩
  · cases h
theorem qm_iconst {own pc len : Nat} {v : Int} {pcs : List Nat} {ins : Instr} (h : qmatch own pcs pc len ins (.iconst v) = true) : (ins = .iconst v ∧ len = 1) ∨ (∃ w, ins = .bipush w ∧ len = 2 ∧ (Int8.ofInt w).toInt32 = Int32.ofInt v) ∨ (∃ w, ins = .sipush w ∧ len = 3 ∧ (Int16.ofInt w).toInt32 = Int32.ofInt v) ∨ (∃ k, ins = .ldc k ∧ len = 2 ∧ qIT.elem (own, k, v) = true) ∨ (∃ k, ins = .ldc_w k ∧ len = 3 ∧ qIT.elem (own, k, v) = true) := by
  simp only [qmatch] at h
  split at h
  · simp only [Bool.and_eq_true, decide_eq_true_eq] at h
    obtain rfl := h.1
    exact Or.inl ⟨rfl, eq_of_beq h.2⟩
  · simp only [Bool.and_eq_true, decide_eq_true_eq] at h
    exact Or.inr (Or.inl ⟨_, rfl, eq_of_beq h.2, h.1⟩)
  · simp only [Bool.and_eq_true, decide_eq_true_eq] at h
    exact Or.inr (Or.inr (Or.inl ⟨_, rfl, eq_of_beq h.2, h.1⟩))
  · simp only [Bool.and_eq_true] at h
    exact Or.inr (Or.inr (Or.inr (Or.inl ⟨_, rfl, eq_of_beq h.2, h.1⟩)))
  · simp only [Bool.and_eq_true] at h
    exact Or.inr (Or.inr (Or.inr (Or.inr ⟨_, rfl, eq_of_beq h.2, h.1⟩)))
  · cases h
theorem qm_jsr {own pc len : Nat} {v : Int} {pcs : List Nat} {ins : Instr} (h : qmatch own pcs pc len ins (.jsr v) = true) : (∃ w : Fin 2, ins = .lconst w ∧ len = 1 ∧ Int64.ofNat w = Int64.ofInt v) ∨ (∃ k, ins = .ldc2_w k ∧ len = 3 ∧ qJT.elem (own, k, v) = true) := by
  simp only [qmatch] at h
  split at h
  · simp only [Bool.and_eq_true, decide_eq_true_eq] at h
    exact Or.inl ⟨_, rfl, eq_of_beq h.2, h.1⟩
  · simp only [Bool.and_eq_true] at h
    exact Or.inr ⟨_, rfl, eq_of_beq h.2, h.1⟩
  · cases h
theorem qm_ldc {own pc len k : Nat} {pcs : List Nat} {ins : Instr} (h : qmatch own pcs pc len ins (.ldc k) = true) : ins = .ldc 23 ∧ own = 2 ∧ len = 2 := by
  simp only [qmatch] at h
  split at h
  · simp only [Bool.and_eq_true] at h
    obtain rfl := eq_of_beq h.2.1
    exact ⟨rfl, eq_of_beq h.1, eq_of_beq h.2.2⟩
  · cases h
theorem qm_getfield {own pc len f : Nat} {pcs : List Nat} {ins : Instr} (h : qmatch own pcs pc len ins (.getfield f) = true) : ∃ k, ins = .getfield k ∧ len = 3 ∧ qlk own k f = true := by
  simp only [qmatch] at h
  split at h
  · rw [Bool.and_eq_true] at h
    exact ⟨_, rfl, eq_of_beq h.2, h.1⟩
  · cases h
theorem qm_putfield {own pc len f : Nat} {pcs : List Nat} {ins : Instr} (h : qmatch own pcs pc len ins (.putfield f) = true) : ∃ k, ins = .putfield k ∧ len = 3 ∧ qlk own k f = true := by
  simp only [qmatch] at h
  split at h
  · rw [Bool.and_eq_true] at h
    exact ⟨_, rfl, eq_of_beq h.2, h.1⟩
  · cases h
theorem qm_getstatic {own pc len f : Nat} {pcs : List Nat} {ins : Instr} (h : qmatch own pcs pc len ins (.getstatic f) = true) : ∃ k, ins = .getstatic k ∧ len = 3 ∧ qST.elem (own, k) = true := by
  simp only [qmatch] at h
  split at h
  · rw [Bool.and_eq_true] at h
    exact ⟨_, rfl, eq_of_beq h.2, h.1⟩
  · cases h
theorem qm_goto {own pc len : Nat} {t : Int} {pcs : List Nat} {ins : Instr} (h : qmatch own pcs pc len ins (.goto t) = true) : ∃ o, ins = .goto o ∧ len = 3 ∧ qtg pcs pc o t = true := by
  simp only [qmatch] at h
  split at h
  · rw [Bool.and_eq_true] at h
    exact ⟨_, rfl, eq_of_beq h.2, h.1⟩
  · cases h
theorem qm_ifCond {own pc len : Nat} {c : ClassFile.Cond} {t : Int} {pcs : List Nat} {ins : Instr} (h : qmatch own pcs pc len ins (.ifCond c t) = true) : ∃ o, ins = .ifCond c o ∧ len = 3 ∧ qtg pcs pc o t = true := by
  simp only [qmatch] at h
  split at h
  · simp only [Bool.and_eq_true, decide_eq_true_eq] at h
    obtain rfl := h.1
    exact ⟨_, rfl, eq_of_beq h.2.2, h.2.1⟩
  · cases h
theorem qm_if_icmp {own pc len : Nat} {c : ClassFile.Cond} {t : Int} {pcs : List Nat} {ins : Instr} (h : qmatch own pcs pc len ins (.if_icmp c t) = true) : ∃ o, ins = .if_icmp c o ∧ len = 3 ∧ qtg pcs pc o t = true := by
  simp only [qmatch] at h
  split at h
  · simp only [Bool.and_eq_true, decide_eq_true_eq] at h
    obtain rfl := h.1
    exact ⟨_, rfl, eq_of_beq h.2.2, h.2.1⟩
  · cases h
theorem qm_fadd {own pc len : Nat} {pcs : List Nat} {ins : Instr} (h : qmatch own pcs pc len ins .fadd = true) : ∃ k, ins = .invokestatic k ∧ len = 3 ∧ qMT.elem (own, k, 136) = true := by
  simp only [qmatch] at h
  split at h
  · rw [Bool.and_eq_true] at h
    exact ⟨_, rfl, eq_of_beq h.2, h.1⟩
  · cases h
theorem qm_fsub {own pc len : Nat} {pcs : List Nat} {ins : Instr} (h : qmatch own pcs pc len ins .fsub = true) : ∃ k, ins = .invokestatic k ∧ len = 3 ∧ qMT.elem (own, k, 137) = true := by
  simp only [qmatch] at h
  split at h
  · rw [Bool.and_eq_true] at h
    exact ⟨_, rfl, eq_of_beq h.2, h.1⟩
  · cases h
theorem qm_static {own pc len f : Nat} {pcs : List Nat} {ins : Instr} (h : qmatch own pcs pc len ins (.invokestatic f) = true) : ∃ k, ins = .invokestatic k ∧ len = 3 ∧ qMT.elem (own, k, f / 16) = true ∧ f / 16 < 136 ∧ qstL.getD (f / 16) false = true ∧ qarL.getD (f / 16) 0 = f % 16 := by
  simp only [qmatch] at h
  split at h
  · simp only [Bool.and_eq_true] at h
    obtain ⟨h1, h2, h3, h4, h5⟩ := h
    exact ⟨_, rfl, eq_of_beq h5, h1, Nat.le_of_ble_eq_true h2, eq_of_beq h3, eq_of_beq h4⟩
  · cases h
theorem qm_virtual {own pc len f : Nat} {pcs : List Nat} {ins : Instr} (h : qmatch own pcs pc len ins (.invokevirtual f) = true) : ∃ k, ins = .invokevirtual k ∧ len = 3 ∧ qMT.elem (own, k, f / 256) = true ∧ f / 256 < 136 ∧ qstL.getD (f / 256) true = false ∧ qarL.getD (f / 256) 0 + 1 = f / 16 % 16 ∧ (qyL.getD (f / 256) yL_law).cls = (vwCl.getD (f % 16) (RJ0, TX0, 0)).1 := by
  simp only [qmatch] at h
  split at h
  · simp only [Bool.and_eq_true, decide_eq_true_eq] at h
    obtain ⟨h1, h2, h3, h4, h5, h6⟩ := h
    exact ⟨_, rfl, eq_of_beq h6, h1, Nat.le_of_ble_eq_true h2, eq_of_beq h3, eq_of_beq h4, h5⟩
  · cases h
/-! ## the shapes, read back -/
theorem eI_ok {st : List Value} {f : Int32 → List Value → Prop} (h : eI st f) : ∃ x r, st = .int x :: r ∧ f x r := by
  unfold eI at h
  split at h
  · exact ⟨_, _, rfl, h⟩
  · exact h.elim
theorem eII_ok {st : List Value} {f : Int32 → Int32 → List Value → Prop} (h : eII st f) : ∃ y x r, st = .int y :: .int x :: r ∧ f y x r := by
  unfold eII at h
  split at h
  · exact ⟨_, _, _, rfl, h⟩
  · exact h.elim
theorem eL_ok {st : List Value} {f : Int64 → List Value → Prop} (h : eL st f) : ∃ x r, st = .long x :: r ∧ f x r := by
  unfold eL at h
  split at h
  · exact ⟨_, _, rfl, h⟩
  · exact h.elim
theorem eLL_ok {st : List Value} {f : Int64 → Int64 → List Value → Prop} (h : eLL st f) : ∃ y x r, st = .long y :: .long x :: r ∧ f y x r := by
  unfold eLL at h
  split at h
  · exact ⟨_, _, _, rfl, h⟩
  · exact h.elim
theorem eR_ok {st : List Value} {f : Nat → List Value → Prop} (h : eR st f) : ∃ x r, st = .ref x :: r ∧ f x r := by
  unfold eR at h
  split at h
  · exact ⟨_, _, rfl, h⟩
  · exact h.elim
theorem eIR_ok {st : List Value} {f : Int32 → Nat → List Value → Prop} (h : eIR st f) : ∃ i x r, st = .int i :: .ref x :: r ∧ f i x r := by
  unfold eIR at h
  split at h
  · exact ⟨_, _, _, rfl, h⟩
  · exact h.elim
theorem eIIR_ok {st : List Value} {f : Int32 → Int32 → Nat → List Value → Prop} (h : eIIR st f) : ∃ v i x r, st = .int v :: .int i :: .ref x :: r ∧ f v i x r := by
  unfold eIIR at h
  split at h
  · exact ⟨_, _, _, _, rfl, h⟩
  · exact h.elim
theorem eVR_ok {st : List Value} {f : Value → Nat → List Value → Prop} (h : eVR st f) : ∃ v x r, st = v :: .ref x :: r ∧ f v x r := by
  unfold eVR at h
  split at h
  · exact ⟨_, _, _, rfl, h⟩
  · exact h.elim
theorem eo_ok {b : Bool} {f : Prop} (h : eo b f) : b = true ∧ f := by
  cases b with
  | true => exact ⟨rfl, h⟩
  | false => exact h.elim
theorem eV_ok {st : List Value} {f : Value → List Value → Prop} (h : eV st f) : ∃ v r, st = v :: r ∧ v.category = 1 ∧ f v r := by
  cases st with
  | nil => exact h.elim
  | cons v r =>
    simp only [eV] at h
    cases hc : (v.category == 1) with
    | true => rw [hc] at h; exact ⟨v, r, rfl, eq_of_beq hc, h⟩
    | false => rw [hc] at h; exact h.elim
theorem eVV_ok {st : List Value} {f : Value → Value → List Value → Prop} (h : eVV st f) : ∃ v w r, st = v :: w :: r ∧ v.category = 1 ∧ w.category = 1 ∧ f v w r := by
  cases st with
  | nil => exact h.elim
  | cons v r =>
    cases r with
    | nil => exact h.elim
    | cons w r =>
      simp only [eVV] at h
      cases hc : (v.category == 1 && w.category == 1) with
      | true =>
        rw [hc] at h
        rw [Bool.and_eq_true] at hc
        exact ⟨v, w, r, rfl, eq_of_beq hc.1, eq_of_beq hc.2, h⟩
      | false => rw [hc] at h; exact h.elim
theorem eN_ok {st : List Value} {f : Prop} (h : eN st f) : st = [] ∧ f := by
  cases st with
  | nil => exact ⟨rfl, h⟩
  | cons v r => exact h.elim
theorem lI_ok {ls : qL} {k : Nat} {f : Int32 → Prop} (h : lI ls k f) : ∃ x, ls.getD k none = some (.int x) ∧ f x := by
  unfold lI at h
  split at h
  · rename_i x hx
    exact ⟨x, hx, h⟩
  · exact h.elim
theorem lL_ok {ls : qL} {k : Nat} {f : Int64 → Prop} (h : lL ls k f) : ∃ x, ls.getD k none = some (.long x) ∧ f x := by
  unfold lL at h
  split at h
  · rename_i x hx
    exact ⟨x, hx, h⟩
  · exact h.elim
theorem lR_ok {ls : qL} {k : Nat} {f : Nat → Prop} (h : lR ls k f) : ∃ x, ls.getD k none = some (.ref x) ∧ f x := by
  unfold lR at h
  split at h
  · rename_i x hx
    exact ⟨x, hx, h⟩
  · exact h.elim
