/-! ## the page: what fits where, the first fault, the court of a page without one -/
def kdN (c : Nat) : Nat := if c = 109 then 0 else if c = 107 then 1 else if c = 99 then 2 else if c = 110 then 3 else if c = 113 then 4 else 5
def kdI (c : Nat) : Int32 := if kdN c = 5 then -1 else nI (kdN c)
def dg (x lo hi : Nat) : Bool := decide (48 + lo ≤ x) && decide (x ≤ 48 + hi)
def fitP (c : Nat → Nat) (i : Nat) : Bool := match i % 4 with
  | 0 => kdN (c i) != 5
  | 1 => dg (c i) 1 9
  | 2 => dg (c i) 0 4
  | _ => (c i == 44 && decide (i < 15)) || (c i == 59 && decide (7 ≤ i))
def stE (c : Nat → Nat) : Nat → Option Nat
  | 0 => none
  | i + 1 => match stE c i with
    | some e => some e
    | none => if c i = 59 then some i else none
def fit (c : Nat → Nat) (i : Nat) : Bool := match stE c i with
  | none => fitP c i
  | some e => decide (i < e + 5) && dg (c i) 1 9
def gfa (c : Nat → Nat) : Nat → Nat → Nat
  | i, 0 => i
  | i, n + 1 => if fit c i = true then gfa c (i + 1) n else i
def gwh (c : Nat → Nat) (L : Nat) : Bool := decide (gfa c 0 L = L) && decide (5 ≤ L) && c (L - 5) == 59
theorem gfa_all {c : Nat → Nat} : ∀ n i, (∀ j, j < n → fit c (i + j) = true) → gfa c i n = i + n
  | 0, i, _ => rfl
  | n + 1, i, h => by
    have h0 := h 0 (by omega)
    rw [Nat.add_zero] at h0
    rw [gfa, if_pos h0, gfa_all n (i + 1) (fun j hj => by rw [show i + 1 + j = i + (j + 1) by omega]; exact h (j + 1) (by omega))]
    omega
theorem gfa_bad {c : Nat → Nat} : ∀ n i k, k < n → (∀ j, j < k → fit c (i + j) = true) → fit c (i + k) = false → gfa c i n = i + k
  | 0, i, k, hk, _, _ => by omega
  | n + 1, i, 0, _, _, hf => by
    rw [Nat.add_zero] at hf
    rw [gfa, hf]
    rfl
  | n + 1, i, k + 1, hk, h, hf => by
    have h0 := h 0 (by omega)
    rw [Nat.add_zero] at h0
    rw [gfa, if_pos h0, gfa_bad n (i + 1) k (by omega) (fun j hj => by rw [show i + 1 + j = i + (j + 1) by omega]; exact h (j + 1) (by omega)) (by rw [show i + 1 + k = i + (k + 1) by omega]; exact hf)]
    omega
theorem gfa_inv {c : Nat → Nat} : ∀ n i, gfa c i n = i + n → ∀ j, j < n → fit c (i + j) = true
  | 0, i, _, j, hj => by omega
  | n + 1, i, h, j, hj => by
    rw [gfa] at h
    by_cases e : fit c i = true
    · rw [if_pos e] at h
      match j, hj with
      | 0, _ => exact e
      | j + 1, hj =>
        have := gfa_inv (c := c) n (i + 1) (by omega) j (by omega)
        rw [show i + 1 + j = i + (j + 1) by omega] at this
        exact this
    · rw [if_neg e] at h
      omega
theorem gfa_L {c : Nat → Nat} {L : Nat} (h : ∀ j, j < L → fit c j = true) : gfa c 0 L = L := by
  have := gfa_all (c := c) L 0 (fun j hj => by rw [Nat.zero_add]; exact h j hj)
  omega
theorem gfa_k {c : Nat → Nat} {L k : Nat} (hk : k < L) (h : ∀ j, j < k → fit c j = true) (hf : fit c k = false) : gfa c 0 L = k := by
  have := gfa_bad (c := c) L 0 k hk (fun j hj => by rw [Nat.zero_add]; exact h j hj) (by rw [Nat.zero_add]; exact hf)
  omega
theorem gfa_i {c : Nat → Nat} {L : Nat} (h : gfa c 0 L = L) : ∀ j, j < L → fit c j = true := by
  intro j hj
  have := gfa_inv (c := c) L 0 (by omega) j hj
  rw [Nat.zero_add] at this
  exact this
theorem gfa_le {c : Nat → Nat} : ∀ n i, gfa c i n ≤ i + n
  | 0, i => Nat.le_refl _
  | n + 1, i => by
    rw [gfa]
    split
    · have := gfa_le (c := c) n (i + 1)
      omega
    · omega
theorem stE_lt {c : Nat → Nat} : ∀ i e, stE c i = some e → e < i ∧ c e = 59
  | 0, e, h => by cases h
  | i + 1, e, h => by
    rw [stE] at h
    cases z : stE c i with
    | some x =>
      rw [z] at h
      cases h
      have := stE_lt i e z
      exact ⟨by omega, this.2⟩
    | none =>
      rw [z] at h
      dsimp only at h
      by_cases e1 : c i = 59
      · rw [if_pos e1] at h
        cases h
        exact ⟨by omega, e1⟩
      · rw [if_neg e1] at h
        cases h
theorem stE_up {c : Nat → Nat} {i e : Nat} (h : stE c i = some e) : ∀ n, stE c (i + n) = some e
  | 0 => h
  | n + 1 => by
    rw [← Nat.add_assoc, stE, stE_up h n]
theorem stE_ge {c : Nat → Nat} {i j e : Nat} (h : stE c i = some e) (hj : i ≤ j) : stE c j = some e := by
  have := stE_up h (j - i)
  rw [show i + (j - i) = j by omega] at this
  exact this
theorem stE_down {c : Nat → Nat} {i j : Nat} (h : stE c i = none) (hj : j ≤ i) : stE c j = none := by
  cases e : stE c j with
  | none => rfl
  | some x =>
    rw [stE_ge e hj] at h
    cases h
theorem stE_hit {c : Nat → Nat} {i : Nat} (h : stE c i = none) (e : c i = 59) : stE c (i + 1) = some i := by
  rw [stE, h]
  exact if_pos e
theorem stE_miss {c : Nat → Nat} {i : Nat} (h : stE c i = none) (e : c i ≠ 59) : stE c (i + 1) = none := by
  rw [stE, h]
  exact if_neg e
theorem stE_no {c : Nat → Nat} : ∀ i, stE c i = none → ∀ j, j < i → c j ≠ 59
  | 0, _, j, hj => by omega
  | i + 1, h, j, hj => by
    intro z
    have h0 := stE_down h (show j ≤ i + 1 by omega)
    have := stE_hit h0 z
    rw [stE_ge this (show j + 1 ≤ i + 1 by omega)] at h
    cases h
theorem fit_n {c : Nat → Nat} {i : Nat} (h : stE c i = none) : fit c i = fitP c i := by
  unfold fit
  rw [h]
theorem fit_s {c : Nat → Nat} {i e : Nat} (h : stE c i = some e) : fit c i = (decide (i < e + 5) && dg (c i) 1 9) := by
  unfold fit
  rw [h]
theorem fitP_0 {c : Nat → Nat} {i : Nat} (h : i % 4 = 0) : fitP c i = (kdN (c i) != 5) := by
  unfold fitP
  rw [h]
  rfl
theorem fitP_1 {c : Nat → Nat} {i : Nat} (h : i % 4 = 1) : fitP c i = dg (c i) 1 9 := by
  unfold fitP
  rw [h]
  rfl
theorem fitP_2 {c : Nat → Nat} {i : Nat} (h : i % 4 = 2) : fitP c i = dg (c i) 0 4 := by
  unfold fitP
  rw [h]
  rfl
theorem fitP_3 {c : Nat → Nat} {i : Nat} (h : i % 4 = 3) : fitP c i = ((c i == 44 && decide (i < 15)) || (c i == 59 && decide (7 ≤ i))) := by
  unfold fitP
  rw [h]
  rfl
theorem dg_59 {lo hi : Nat} (h : hi < 11) : dg 59 lo hi = false := by
  unfold dg
  rw [show decide (59 ≤ 48 + hi) = false from decide_eq_false (by omega), Bool.and_false]
theorem kdN_le (c : Nat) : kdN c ≤ 5 := by
  unfold kdN
  split
  · omega
  · split
    · omega
    · split
      · omega
      · split
        · omega
        · split <;> omega
theorem dg_i {x lo hi : Nat} (h : dg x lo hi = true) : 48 + lo ≤ x ∧ x ≤ 48 + hi := by
  unfold dg at h
  simp only [Bool.and_eq_true, decide_eq_true_eq] at h
  exact h
/-- a whole page: people, the sign behind them, four digits -/
theorem gwh_i {c : Nat → Nat} {L : Nat} (hL : L ≤ 22) (h : gwh c L = true) : ∃ P, 2 ≤ P ∧ P ≤ 4 ∧ L = 4 * P + 4 ∧ (∀ p, p < P → kdN (c (4 * p)) < 5 ∧ dg (c (4 * p + 1)) 1 9 = true ∧ dg (c (4 * p + 2)) 0 4 = true) ∧ ∀ k, k < 4 → dg (c (4 * P + k)) 1 9 = true := by
  unfold gwh at h
  simp only [Bool.and_eq_true, decide_eq_true_eq, beq_iff_eq] at h
  obtain ⟨⟨h1, h5⟩, h59⟩ := h
  have hall := gfa_i h1
  have he := hall (L - 5) (by omega)
  have n0 : stE c (L - 5) = none := by
    cases z : stE c (L - 5) with
    | none => rfl
    | some x =>
      rw [fit_s z, h59, dg_59 (by decide), Bool.and_false] at he
      cases he
  rw [fit_n n0] at he
  have hs := stE_hit n0 h59
  rcases (show (L - 5) % 4 = 0 ∨ (L - 5) % 4 = 1 ∨ (L - 5) % 4 = 2 ∨ (L - 5) % 4 = 3 by omega) with m | m | m | m
  · rw [fitP_0 m, h59] at he
    exact absurd he (by decide)
  · rw [fitP_1 m, h59] at he
    exact absurd he (by decide)
  · rw [fitP_2 m, h59] at he
    exact absurd he (by decide)
  · rw [fitP_3 m, h59] at he
    have e7 : 7 ≤ L - 5 := by simpa using he
    refine ⟨L / 4 - 1, by omega, by omega, by omega, fun p hp => ⟨?_, ?_, ?_⟩, fun k hk => ?_⟩
    · have := hall (4 * p) (by omega)
      rw [fit_n (stE_down n0 (by omega)), fitP_0 (by omega)] at this
      have h6 := kdN_le (c (4 * p))
      have h7 : kdN (c (4 * p)) ≠ 5 := by simpa using this
      omega
    · have := hall (4 * p + 1) (by omega)
      rw [fit_n (stE_down n0 (by omega)), fitP_1 (by omega)] at this
      exact this
    · have := hall (4 * p + 2) (by omega)
      rw [fit_n (stE_down n0 (by omega)), fitP_2 (by omega)] at this
      exact this
    · have := hall (4 * (L / 4 - 1) + k) (by omega)
      rw [fit_s (stE_ge hs (by omega)), Bool.and_eq_true] at this
      exact this.2
theorem gwh_t {c : Nat → Nat} {L e : Nat} (h : ∀ j, j < L → fit c j = true) (he : c e = 59) (hL : L = e + 5) : gwh c L = true := by
  unfold gwh
  rw [gfa_L h, decide_eq_true rfl, decide_eq_true (show 5 ≤ L by omega), show L - 5 = e by omega, he]
  rfl
theorem gwh_f {c : Nat → Nat} {L : Nat} (h : gfa c 0 L ≠ L) : gwh c L = false := by
  unfold gwh
  rw [decide_eq_false h]
  rfl
theorem gwh_n {c : Nat → Nat} {L : Nat} (h : stE c L = none) : gwh c L = false := by
  unfold gwh
  by_cases h5 : 5 ≤ L
  · rw [show (c (L - 5) == 59) = false from beq_eq_false_iff_ne.mpr (stE_no L h _ (by omega)), Bool.and_false]
  · rw [decide_eq_false h5]
    simp
theorem gwh_s {c : Nat → Nat} {L e : Nat} (h : stE c L = some e) (hn : L ≠ e + 5) : gwh c L = false := by
  cases z : gwh c L with
  | false => rfl
  | true =>
    exfalso
    unfold gwh at z
    simp only [Bool.and_eq_true, decide_eq_true_eq, beq_iff_eq] at z
    obtain ⟨⟨h1, h5⟩, h59⟩ := z
    have hf := gfa_i h1 (L - 5) (by omega)
    cases q : stE c (L - 5) with
    | some x =>
      rw [fit_s q, h59, dg_59 (by decide), Bool.and_false] at hf
      cases hf
    | none =>
      have := stE_ge (stE_hit q h59) (show L - 5 + 1 ≤ L by omega)
      rw [h] at this
      cases this
      omega
/-- the court that is read -/
def fkn (f : Nat) : Nat := if f = 4 then 0 else 1 <<< f
def gct (S : gS) : gS := fun x y => if x = 0 then (if y = 0 then S 10 0 / 4 - 1 else S x y) else if x = 1 then kdN (S 11 (4 * y)) else if x = 2 then S 11 (4 * y + 1) - 48 else if x = 3 then S 11 (4 * (S 10 0 / 4 - 1) + y) - 48 else if x = 4 then fkn (S 11 (4 * y + 2) - 48) else if x = 5 then 0 else if x = 6 then 0 else if x = 10 then 0 else if x = 12 then (if y = 1 then S 12 1 + 1 else S x y) else if x = 13 then 0 else S x y
def aFault (S : gS) : Int32 := nI (gfa (S 11) 0 (S 10 0))
def aCourt (S : gS) : Int32 := if gwh (S 11) (S 10 0) = true then nI (S 10 0 / 4 - 1) else -103
def uCourt (S : gS) : gS := if gwh (S 11) (S 10 0) = true then gct S else S
theorem fkn_lt : ∀ f, f < 5 → fkn f < 16 := by decide +kernel
theorem gct_B {S : gS} (hL : S 10 0 ≤ 22) (h : gwh (S 11) (S 10 0) = true) : GB (gct S) := by
  obtain ⟨P, p2, p4, e, hp, hk⟩ := gwh_i hL h
  have eP : S 10 0 / 4 - 1 = P := by omega
  refine ⟨?_, fun p hpp => ?_, fun k hk4 => ?_, by show (0 : Nat) < 16; decide, by show (0 : Nat) < 16; decide, by show (0 : Nat) < 16; decide⟩
  · show S 10 0 / 4 - 1 ≤ 4
    omega
  · have hpp : p < S 10 0 / 4 - 1 := hpp
    obtain ⟨q1, q2, q3⟩ := hp p (by omega)
    have q2 := dg_i q2
    have q3 := dg_i q3
    refine ⟨q1, ?_, ?_⟩
    · show S 11 (4 * p + 1) - 48 < 10
      omega
    · show fkn (S 11 (4 * p + 2) - 48) < 16
      exact fkn_lt _ (by omega)
  · show S 11 (4 * (S 10 0 / 4 - 1) + k) - 48 < 10
    rw [eP]
    have := dg_i (hk k hk4)
    omega

