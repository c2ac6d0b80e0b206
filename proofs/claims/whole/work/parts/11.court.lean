/-! the game, in numbers: S 0 0 people, S 1 p kind, S 2 p need, S 3 k how much a sign tells, S 4 p known signs, S 5 0 hanged, S 5 1 said, S 5 2 forbidden, S 5 3 words, S 5 4 how much is asked, S 6 p told by, S 7 / 8 / 9 i asked who, signs, so -/
abbrev gS : Type := Nat → Nat → Nat
def b2 (b : Bool) : Int32 := match b with
  | true => 1
  | false => 0
def gtog (S : gS) (s : Nat) : Nat := (if s.testBit 0 then S 3 0 else 0) + (if s.testBit 1 then S 3 1 else 0) + (if s.testBit 2 then S 3 2 else 0) + (if s.testBit 3 then S 3 3 else 0)
def gen (k n : Nat) : Nat := match k with
  | 2 => (n + 1) / 2
  | 4 => n + 2
  | _ => n
def ginf (S : gS) (p s : Nat) : Bool := decide (gen (S 1 p) (S 2 p) ≤ gtog S s)
def gking (S : gS) (p : Nat) : Bool := S 1 p == 1 || S 1 p == 4
def gisA (S : gS) (p k : Nat) : Bool := k == 0 || k == S 1 p || (k == 1 && S 1 p == 4)
def gcan (S : gS) (f t s : Nat) : Bool := f != t && (S 4 f).testBit s && !(S 4 t).testBit s && !(S 5 0).testBit f && !(S 5 0).testBit t
def gnew (S : gS) (t s : Nat) : Bool := !ginf S t (S 4 t) && ginf S t (S 4 t ||| 1 <<< s)
def ghang (S : gS) (f t s : Nat) : Bool := S 1 f != 2 && (((S 5 2).testBit s && S 1 f != 3) || (!gking S t && gnew S t s))
/-- bounds -/
def GB (S : gS) : Prop := S 0 0 ≤ 4 ∧ (∀ p, p < S 0 0 → S 1 p < 5 ∧ S 2 p < 10 ∧ S 4 p < 16) ∧ (∀ k, k < 4 → S 3 k < 10) ∧ S 5 0 < 16 ∧ S 5 1 < 16 ∧ S 5 2 < 16
def fget (a b : Int32) : Int32 := a >>> (4 * b &&& 31) &&& 15
def fput (a b v : Int32) : Int32 := (a &&& (15 <<< (4 * b &&& 31) ^^^ (-1))) ||| ((v &&& 15) <<< (4 * b &&& 31))
/-- the class's court -/
def RC (h : qH) (S : gS) : Prop := h.1 3 0 = nI (S 0 0) ∧ (∀ p, p < S 0 0 → fget (h.1 3 1) (nI p) = nI (S 1 p) ∧ fget (h.1 3 2) (nI p) = nI (S 2 p) ∧ fget (h.1 3 4) (nI p) = nI (gen (S 1 p) (S 2 p))) ∧ (∀ k, k < 4 → fget (h.1 3 5) (nI k) = nI (S 3 k)) ∧ ∀ s, s < 16 → h.1 4 s = nI (gtog S s)
theorem kI {K : qK} {x y : Int32} {h : qH} (hk : K (some (.int x)) h) (e : x = y) : K (some (.int y)) h := e ▸ hk
theorem gtog_lt {S : gS} (hB : GB S) (s : Nat) : gtog S s < 40 := by
  have h0 := hB.2.2.1 0 (by decide)
  have h1 := hB.2.2.1 1 (by decide)
  have h2 := hB.2.2.1 2 (by decide)
  have h3 := hB.2.2.1 3 (by decide)
  unfold gtog
  split <;> split <;> split <;> split <;> omega
theorem gen_lt {S : gS} (hB : GB S) {p : Nat} (hp : p < S 0 0) : gen (S 1 p) (S 2 p) < 12 := by
  have := (hB.2.1 p hp).2.1
  unfold gen
  split <;> omega
section QC
variable {d : Nat} {h : qH} {K : qK} {S : gS}
theorem c_get {a b : Int32} (hk : K (some (.int (fget a b))) h) : qCall (d + 1) 0 [.int a, .int b] h K := by
  refine call_wp (n := 20) (cut := []) _ (by decide) (Nat.lt_succ_self _) rfl rfl (Nat.le_of_ble_eq_true rfl) rfl ?_
  exact hk
theorem c_put {a b v : Int32} (hk : K (some (.int (fput a b v))) h) : qCall (d + 1) 1 [.int a, .int b, .int v] h K := by
  refine call_wp (n := 30) (cut := []) _ (by decide) (Nat.lt_succ_self _) rfl rfl (Nat.le_of_ble_eq_true rfl) rfl ?_
  exact hk
theorem c_isPerson {p : Int32} (hC : RC h S) (hB : GB S) (ht : ∀ n, n < S 0 0 → p = nI n → K (some (.int 1)) h) (hf : (∀ n, n < S 0 0 → p ≠ nI n) → K (some (.int 0)) h) : qCall (d + 1) 15 [.ref 3, .int p] h K := by
  refine call_wp (n := 20) (cut := []) _ (by decide) (Nat.lt_succ_self _) rfl rfl (Nat.le_of_ble_eq_true rfl) rfl ?_
  have e := hC.1
  have hn := hB.1
  refine And.intro (fun c1 => ?_) (fun c1 => ?_)
  · refine ⟨Or.inl rfl, hf (fun n hn z => ?_)⟩
    rw [z] at c1
    exact nI_pos (by omega) c1
  · obtain ⟨q, hq, rfl⟩ := nI_of c1
    refine And.intro (fun c2 => ?_) (fun c2 => ?_)
    · refine ⟨Or.inl rfl, hf (fun n hn z => ?_)⟩
      have c2 : h.1 3 0 ≤ nI q := c2
      rw [e, nI_leI (by omega) (by omega)] at c2
      rw [nI_eq (by omega) (by omega)] at z
      omega
    · have c2 : ¬ h.1 3 0 ≤ nI q := c2
      rw [e, nI_leI (by omega) (by omega)] at c2
      exact ⟨Or.inr rfl, ht q (by omega) rfl⟩
theorem c_isSign {p : Int32} (hC : RC h S) (hB : GB S) (ht : ∀ n, n < 4 → 0 < S 0 0 → p = nI n → K (some (.int 1)) h) (hf : (0 < S 0 0 → ∀ n, n < 4 → p ≠ nI n) → K (some (.int 0)) h) : qCall (d + 1) 17 [.ref 3, .int p] h K := by
  refine call_wp (n := 20) (cut := []) _ (by decide) (Nat.lt_succ_self _) rfl rfl (Nat.le_of_ble_eq_true rfl) rfl ?_
  have e := hC.1
  have hn := hB.1
  refine And.intro (fun c1 => ?_) (fun c1 => ?_)
  · refine ⟨Or.inl rfl, hf (fun h0 => ?_)⟩
    have c1 : h.1 3 0 ≤ nI 0 := c1
    rw [e, nI_leI (by omega) (by omega)] at c1
    omega
  · have c1 : ¬ h.1 3 0 ≤ nI 0 := c1
    rw [e, nI_leI (by omega) (by omega)] at c1
    refine And.intro (fun c2 => ?_) (fun c2 => ?_)
    · refine ⟨Or.inl rfl, hf (fun h0 n hn z => ?_)⟩
      rw [z] at c2
      exact nI_pos (by omega) c2
    · obtain ⟨q, hq, rfl⟩ := nI_of c2
      refine And.intro (fun c3 => ?_) (fun c3 => ?_)
      · refine ⟨Or.inl rfl, hf (fun h0 n hn z => ?_)⟩
        have c3 : nI 4 ≤ nI q := c3
        rw [nI_leI (by omega) (by omega)] at c3
        rw [nI_eq (by omega) (by omega)] at z
        omega
      · have c3 : ¬ nI 4 ≤ nI q := c3
        rw [nI_leI (by omega) (by omega)] at c3
        exact ⟨Or.inr rfl, ht q (by omega) (by omega) rfl⟩
theorem c_kindOf {p : Nat} (hC : RC h S) (hp : p < S 0 0) (hk : K (some (.int (nI (S 1 p)))) h) : qCall (d + 2) 18 [.ref 3, .int (nI p)] h K := by
  refine call_wp (n := 20) (cut := []) _ (by decide) (Nat.lt_succ_self _) rfl rfl (Nat.le_of_ble_eq_true rfl) rfl ?_
  exact c_get (kI hk (hC.2.1 p hp).1.symm)
theorem c_needOf {p : Nat} (hC : RC h S) (hp : p < S 0 0) (hk : K (some (.int (nI (S 2 p)))) h) : qCall (d + 2) 19 [.ref 3, .int (nI p)] h K := by
  refine call_wp (n := 20) (cut := []) _ (by decide) (Nat.lt_succ_self _) rfl rfl (Nat.le_of_ble_eq_true rfl) rfl ?_
  exact c_get (kI hk (hC.2.1 p hp).2.1.symm)
theorem c_amountOf {p : Nat} (hC : RC h S) (hp : p < 4) (hk : K (some (.int (nI (S 3 p)))) h) : qCall (d + 2) 20 [.ref 3, .int (nI p)] h K := by
  refine call_wp (n := 20) (cut := []) _ (by decide) (Nat.lt_succ_self _) rfl rfl (Nat.le_of_ble_eq_true rfl) rfl ?_
  exact c_get (kI hk (hC.2.2.1 p hp).symm)
theorem c_together {s : Nat} (hC : RC h S) (hs : s < 16) (hk : K (some (.int (nI (gtog S s)))) h) : qCall (d + 1) 23 [.ref 3, .int (nI s)] h K := by
  refine call_wp (n := 30) (cut := []) _ (by decide) (Nat.lt_succ_self _) rfl rfl (Nat.le_of_ble_eq_true rfl) rfl ?_
  refine And.intro (fun c1 => ?_) (fun c1 => ?_)
  · exact absurd c1 (nI_pos (by omega))
  · refine And.intro (fun c2 => ?_) (fun c2 => ?_)
    · have c2 : nI 16 ≤ nI s := c2
      rw [nI_leI (by omega) (by omega)] at c2
      omega
    · refine And.intro (vp_in_nI hs (by omega)) ?_
      refine kI hk ?_
      show _ = h.1 4 (nI s).toNatClampNeg
      rw [nI_clamp (by omega), hC.2.2.2 s hs]
theorem c_infers {p s : Nat} (hC : RC h S) (hB : GB S) (hp : p < S 0 0) (hs : s < 16) (ht : ginf S p s = true → K (some (.int 1)) h) (hf : ginf S p s = false → K (some (.int 0)) h) : qCall (d + 2) 24 [.ref 3, .int (nI p), .int (nI s)] h K := by
  refine call_wp (n := 30) (cut := []) _ (by decide) (Nat.lt_succ_self _) rfl rfl (Nat.le_of_ble_eq_true rfl) rfl ?_
  refine c_together hC hs ?_
  refine c_get ?_
  have l1 := gtog_lt hB s
  have l2 := gen_lt hB hp
  have e := (hC.2.1 p hp).2.2
  refine And.intro (fun c1 => ?_) (fun c1 => ?_)
  · have c1 : nI (gtog S s) < fget (h.1 3 4) (nI p) := c1
    rw [e, nI_ltI (by omega) (by omega)] at c1
    exact ⟨Or.inl rfl, hf (decide_eq_false (by omega))⟩
  · have c1 : ¬ nI (gtog S s) < fget (h.1 3 4) (nI p) := c1
    rw [e, nI_ltI (by omega) (by omega)] at c1
    exact ⟨Or.inr rfl, ht (decide_eq_true (by omega))⟩
end QC
