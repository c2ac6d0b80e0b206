/-! ## counting bits; what to ask next -/
def ush (x y : Int32) : Int32 := (x.toUInt32 >>> (y.toUInt32 &&& Int32.toUInt32 31)).toInt32
def fb1 (x : Int32) : Int32 := x - (ush x 1 &&& 1431655765)
def fb2 (x : Int32) : Int32 := (x &&& 858993459) + (ush x 2 &&& 858993459)
def fb3 (x : Int32) : Int32 := x + ush x 4 &&& 252645135
def fb4 (x : Int32) : Int32 := x + ush x 8
def fb5 (x : Int32) : Int32 := x + ush x 16
def fbc (x : Int32) : Int32 := fb5 (fb4 (fb3 (fb2 (fb1 x)))) &&& 63
def gpopN (n : Nat) : Nat → Nat
  | 0 => 0
  | k + 1 => gpopN n k + (if n.testBit k then 1 else 0)
def gpop (n : Nat) : Nat := gpopN n 9
theorem bc_ok : ∀ n, n < 512 → fbc (nI n) = nI (gpop n) := by decide +kernel
theorem gpop_le : ∀ n, n < 512 → gpop n ≤ 9 := by decide +kernel
theorem q_hi : ∀ q, q < 64 → nI q >>> ((4 : Int32) &&& 31) = nI (q / 16) := by decide +kernel
theorem q_lo : ∀ q, q < 64 → nI q &&& 15 = nI (q % 16) := by decide +kernel
theorem q_bit : ∀ q, q < 64 → ∀ k, k < 4 → (nI q &&& ((1 : Int32) <<< (nI k &&& 31)) = 0 ↔ q.testBit k = false) := by decide +kernel
def gleft (S : gS) (s P q : Nat) : Nat := max (gpop (P &&& gamt S (q / 16) (q % 16) s)) (gpop (P &&& (511 ^^^ gamt S (q / 16) (q % 16) s)))
/-- the best question (one more than it; 0 none) and what it leaves at worst, of the first n -/
def gbq (S : gS) (s P : Nat) : Nat → Nat × Nat
  | 0 => (0, 10)
  | q + 1 => if q.testBit s && decide (gleft S s P q < (gbq S s P q).2) then (q + 1, gleft S s P q) else gbq S s P q
def ib (b : Nat) : Int32 := nI b - 1
theorem max_nI {a b : Nat} (ha : a < 2 ^ 31) (hb : b < 2 ^ 31) : (if nI a < nI b then nI b else nI a) = nI (max a b) := by
  by_cases h : a < b
  · rw [if_pos ((nI_ltI ha hb).mpr h), Nat.max_eq_right (by omega)]
  · rw [if_neg (fun z => h ((nI_ltI ha hb).mp z)), Nat.max_eq_left (by omega)]
theorem and_lt {P a : Nat} (h : P < 512) : P &&& a < 512 := Nat.lt_of_le_of_lt Nat.and_le_left h
theorem gleft_le {S : gS} {s P q : Nat} (hP : P < 512) : gleft S s P q ≤ 9 := by
  unfold gleft
  exact Nat.max_le.mpr ⟨gpop_le _ (and_lt hP), gpop_le _ (and_lt hP)⟩
theorem gbq_le {S : gS} {s P : Nat} (hP : P < 512) : ∀ q, (gbq S s P q).2 ≤ 10
  | 0 => Nat.le_refl _
  | q + 1 => by
    unfold gbq
    split
    · have := gleft_le (S := S) (s := s) (q := q) hP
      show gleft S s P q ≤ 10
      omega
    · exact gbq_le hP q
section QN
variable {d : Nat} {h : qH} {K : qK} {S : gS}
theorem c_bitCount {n : Nat} (hn : n < 512) (hk : K (some (.int (nI (gpop n)))) h) : qCall (d + 1) 135 [.int (nI n)] h K := by
  refine call_wp (n := 80) (cut := []) _ (by decide) (Nat.lt_succ_self _) rfl rfl (Nat.le_of_ble_eq_true rfl) rfl ?_
  rw [← bc_ok n hn] at hk
  exact hk
theorem l_best {s P : Nat} (hC : RC h S) (hB : GB S) (hs : s < 4) (hP : P < 512) (hk : K (some (.int (ib (gbq S s P (16 * S 0 0)).1))) h) : ∀ m q, q + m = 16 * S 0 0 → ∀ u v, qAt (d + 3, 69, some .int, q0, K) 6 [some (.ref 0), some (.int (nI s)), some (.int (nI P)), some (.int (ib (gbq S s P q).1)), some (.int (nI (gbq S s P q).2)), some (.int (nI q)), u, v] [] h := by
  have hn0 := hB.1
  have e : (16 : Int32) * h.1 3 0 = nI (16 * S 0 0) := by rw [hC.1]; exact pk_mul 16 _
  intro m
  induction m with
  | zero =>
    intro q hq u v
    have hq : q = 16 * S 0 0 := by omega
    refine at_wp [] 12 (Nat.le_of_ble_eq_true rfl) rfl ?_
    refine And.intro (fun _ => ?_) (fun c => absurd (by show (16 : Int32) * h.1 3 0 ≤ nI q; rw [e, hq]; exact nI_le (Nat.le_refl _) (by omega)) c)
    rw [← hq] at hk
    exact hk
  | succ m ih =>
    intro q hq u v
    have hq64 : q < 64 := by omega
    have ihq := ih (q + 1) (by omega)
    refine at_wp [6] 90 (Nat.le_of_ble_eq_true rfl) rfl ?_
    refine And.intro (fun c => absurd c (by show ¬ (16 : Int32) * h.1 3 0 ≤ nI q; rw [e]; exact nI_ge (by omega) (by omega))) (fun _ => ?_)
    refine And.intro (fun c1 => ?_) (fun c1 => ?_)
    · have c1 := (q_bit q hq64 s hs).mp c1
      rw [gbq, c1, Bool.false_and, ← nI_1] at ihq
      exact ihq _ _
    · have c1 : q.testBit s = true := by
        cases hb : q.testBit s with
        | true => rfl
        | false => exact absurd ((q_bit q hq64 s hs).mpr hb) c1
      show qCall _ 25 [.ref 3, .int (nI q >>> ((4 : Int32) &&& 31)), .int (nI q &&& 15), .int (nI s)] h _
      rw [q_hi q hq64, q_lo q hq64]
      refine c_inferringAmounts hC hB (by omega) (by omega) hs ?_
      have ha : gamt S (q / 16) (q % 16) s < 512 := gamtF_lt _ _ _ 9
      show qCall _ 135 [.int (nI P &&& nI (gamt S (q / 16) (q % 16) s))] h _
      rw [and_and hP ha]
      refine c_bitCount (and_lt hP) ?_
      show qCall _ 135 [.int (nI P &&& (nI (gamt S (q / 16) (q % 16) s) ^^^ (-1)))] h _
      rw [not_and hP ha]
      refine c_bitCount (and_lt hP) ?_
      have l1 := gpop_le (P &&& gamt S (q / 16) (q % 16) s) (and_lt hP)
      have l2 := gpop_le (P &&& (511 ^^^ gamt S (q / 16) (q % 16) s)) (and_lt hP)
      have em := max_nI (a := gpop (P &&& gamt S (q / 16) (q % 16) s)) (b := gpop (P &&& (511 ^^^ gamt S (q / 16) (q % 16) s))) (by omega) (by omega)
      have l3 := gleft_le (S := S) (s := s) (q := q) hP
      have l4 := gbq_le (S := S) (s := s) hP q
      refine And.intro (fun c2 => ?_) (fun c2 => ?_)
      · have c2 : nI (gbq S s P q).2 ≤ (if nI (gpop (P &&& gamt S (q / 16) (q % 16) s)) < nI (gpop (P &&& (511 ^^^ gamt S (q / 16) (q % 16) s))) then nI (gpop (P &&& (511 ^^^ gamt S (q / 16) (q % 16) s))) else nI (gpop (P &&& gamt S (q / 16) (q % 16) s))) := c2
        rw [em, nI_leI (by omega) (by omega)] at c2
        have c3 : ¬ gleft S s P q < (gbq S s P q).2 := by unfold gleft; omega
        rw [gbq, c1, decide_eq_false c3, Bool.and_false, ← nI_1] at ihq
        exact ihq _ _
      · have c2 : ¬ nI (gbq S s P q).2 ≤ (if nI (gpop (P &&& gamt S (q / 16) (q % 16) s)) < nI (gpop (P &&& (511 ^^^ gamt S (q / 16) (q % 16) s))) then nI (gpop (P &&& (511 ^^^ gamt S (q / 16) (q % 16) s))) else nI (gpop (P &&& gamt S (q / 16) (q % 16) s))) := c2
        rw [em, nI_leI (by omega) (by omega)] at c2
        have c3 : gleft S s P q < (gbq S s P q).2 := by unfold gleft; omega
        rw [gbq, c1, decide_eq_true c3, Bool.and_true, if_pos rfl, ← nI_1] at ihq
        have e1 : ib (q + 1, gleft S s P q).1 = nI q := nI_pred q
        rw [e1] at ihq
        show qAt _ 6 [some (.ref 0), some (.int (nI s)), some (.int (nI P)), some (.int (nI q)), some (.int (if nI (gpop (P &&& gamt S (q / 16) (q % 16) s)) < nI (gpop (P &&& (511 ^^^ gamt S (q / 16) (q % 16) s))) then nI (gpop (P &&& (511 ^^^ gamt S (q / 16) (q % 16) s))) else nI (gpop (P &&& gamt S (q / 16) (q % 16) s)))), some (.int (nI q + 1)), some _, some _] [] h
        rw [em]
        exact ihq _ _
theorem c_bestQuestion {s P : Nat} (hC : RC h S) (hB : GB S) (hs : s < 4) (hP : P < 512) (hk : K (some (.int (ib (gbq S s P (16 * S 0 0)).1))) h) : qCall (d + 4) 69 [.ref 0, .int (nI s), .int (nI P)] h K := by
  refine call_wp (n := 6) (cut := []) _ (by decide) (Nat.lt_succ_self _) rfl rfl (Nat.le_of_ble_eq_true rfl) rfl ?_
  exact l_best hC hB hs hP hk (16 * S 0 0) 0 (by omega) _ _
end QN
