theorem b15 {i : Nat} (h : 4 ≤ i) : (Int32.toBitVec 15).getLsbD i = false := by
  show (BitVec.ofNat 32 15).getLsbD i = false
  rw [BitVec.getLsbD_ofNat, Nat.testBit_lt_two_pow (Nat.lt_of_lt_of_le (by decide : 15 < 2 ^ 4) (Nat.pow_le_pow_right (by decide) h)), Bool.and_false]
theorem fgp_gen (a v X Y : Int32) (x y : Nat) (hx : x < 4) (hy : y < 4) (hX : (X.toBitVec.smod 32).toNat = 4 * x) (hY : (Y.toBitVec.smod 32).toNat = 4 * y) (hm : ∀ i, i < 32 → ((15 : Int32) <<< X ^^^ (-1)).toBitVec.getLsbD i = !(decide (4 * x ≤ i) && decide (i < 4 * x + 4))) :
    ((a &&& (15 <<< X ^^^ (-1))) ||| ((v &&& 15) <<< X)) >>> Y &&& 15 = if y = x then v &&& 15 else a >>> Y &&& 15 := by
  have e15 : ∀ i, i < 4 → (Int32.toBitVec 15).getLsbD i = true := by decide +kernel
  generalize ((15 : Int32) <<< X ^^^ (-1)) = M at hm ⊢
  have key : ∀ i, i < 4 → (((a &&& M) ||| ((v &&& 15) <<< X)) >>> Y &&& 15).toBitVec.getLsbD i = if y = x then v.toBitVec.getLsbD i else a.toBitVec.getLsbD (4 * y + i) := by
    intro i h4
    have hsi : 4 * y + i < 32 := by omega
    have hi : ¬ 32 ≤ i := by omega
    simp only [Int32.toBitVec_and, Int32.toBitVec_or, Int32.toBitVec_shiftLeft, Int32.toBitVec_shiftRight, BitVec.sshiftRight_eq', BitVec.shiftLeft_eq', BitVec.getLsbD_and, BitVec.getLsbD_or, BitVec.getLsbD_sshiftRight, BitVec.getLsbD_shiftLeft, hX, hY, hm _ hsi, e15 i h4, hsi, if_true, Bool.and_true, hi, decide_false, Bool.not_false, Bool.true_and]
    by_cases hpq : y = x
    · subst hpq
      rw [if_pos rfl, Nat.add_sub_cancel_left]
      have z1 : ¬ (4 * y + i < 4 * y) := by omega
      have z4 : 4 * y ≤ 4 * y + i := by omega
      have z5 : 4 * y + i < 4 * y + 4 := by omega
      rw [decide_eq_true z4, decide_eq_true z5, e15 i h4]
      simp [z1]
    · rw [if_neg hpq]
      rcases Nat.lt_or_ge (4 * y + i) (4 * x) with z | z
      · have z2 : ¬ 4 * x ≤ 4 * y + i := by omega
        simp [z, z2]
      · have z2 : ¬ (4 * y + i < 4 * x + 4) := by omega
        have z3 : 4 ≤ 4 * y + i - 4 * x := by omega
        rw [b15 z3]
        simp [z2]
  apply Int32.toBitVec_inj.mp
  apply BitVec.eq_of_getLsbD_eq
  intro i hi
  rcases Nat.lt_or_ge i 4 with h4 | h4
  · rw [key i h4]
    have hsi : 4 * y + i < 32 := by omega
    have hi2 : ¬ 32 ≤ i := by omega
    by_cases hpq : y = x
    · rw [if_pos hpq, if_pos hpq, Int32.toBitVec_and, BitVec.getLsbD_and, e15 i h4, Bool.and_true]
    · rw [if_neg hpq, if_neg hpq]
      simp only [Int32.toBitVec_and, Int32.toBitVec_shiftRight, BitVec.sshiftRight_eq', BitVec.getLsbD_and, BitVec.getLsbD_sshiftRight, hY, e15 i h4, hsi, if_true, Bool.and_true, hi2, decide_false, Bool.not_false, Bool.true_and]
  · by_cases hpq : y = x
    · rw [if_pos hpq]
      simp only [Int32.toBitVec_and, BitVec.getLsbD_and, b15 h4, Bool.and_false]
    · rw [if_neg hpq]
      simp only [Int32.toBitVec_and, BitVec.getLsbD_and, b15 h4, Bool.and_false]
theorem fgp (a v : Int32) {p q : Nat} (hp : p < 4) (hq : q < 4) : fget (fput a (nI p) v) (nI q) = if q = p then v &&& 15 else fget a (nI q) := by
  have e4 : ∀ p, p < 4 → (((4 : Int32) * nI p &&& 31).toBitVec.smod 32).toNat = 4 * p := by decide +kernel
  have em : ∀ p, p < 4 → ∀ i, i < 32 → ((15 : Int32) <<< (4 * nI p &&& 31) ^^^ (-1)).toBitVec.getLsbD i = !(decide (4 * p ≤ i) && decide (i < 4 * p + 4)) := by decide +kernel
  exact fgp_gen a v _ _ p q hp hq (e4 p hp) (e4 q hq) (em p hp)
/-! ## the scenes -/
theorem bit_and : ∀ s, s < 16 → ∀ k, k < 4 → (nI s &&& ((1 : Int32) <<< (nI k &&& 31)) = 0 ↔ s.testBit k = false) := by decide +kernel
theorem bit_or : ∀ s, s < 16 → ∀ k, k < 4 → nI s ||| ((1 : Int32) <<< (nI k &&& 31)) = nI (s ||| 1 <<< k) := by decide +kernel
theorem bit_or_lt : ∀ s, s < 16 → ∀ k, k < 4 → s ||| 1 <<< k < 16 := by decide +kernel
theorem n15 : ∀ s, s < 16 → nI s &&& 15 = nI s := by decide +kernel
/-- the scene at r -/
def RS (r : Nat) (h : qH) (S : gS) : Prop := (∀ p, p < S 0 0 → fget (h.1 r 0) (nI p) = nI (S 4 p)) ∧ h.1 r 1 = nI (S 5 0) ∧ h.1 r 2 = nI (S 5 1) ∧ h.1 r 3 = nI (S 5 2) ∧ h.1 r 4 = nI (S 5 3) ∧ h.1 r 7 = nI (S 5 4) ∧ (∀ p, p < S 0 0 → h.1 (r + 1) p = nI (S 6 p)) ∧ ∀ i, i < S 5 4 → h.1 (r + 2) i = nI (16 * S 7 i + S 8 i + 64 * S 9 i)
section QS
variable {d : Nat} {h : qH} {K : qK} {S : gS} {r : Nat}
theorem c_isPair {a b : Int32} (hC : RC h S) (hB : GB S) (ht : ∀ p q, p < S 0 0 → q < S 0 0 → p ≠ q → a = nI p → b = nI q → K (some (.int 1)) h) (hf : (∀ p q, p < S 0 0 → q < S 0 0 → p ≠ q → a = nI p → b = nI q → False) → K (some (.int 0)) h) : qCall (d + 2) 16 [.ref 3, .int a, .int b] h K := by
  refine call_wp (n := 30) (cut := []) _ (by decide) (Nat.lt_succ_self _) rfl rfl (Nat.le_of_ble_eq_true rfl) rfl ?_
  have hn := hB.1
  refine c_isPerson hC hB (fun p hp ep => ?_) (fun hp => ?_)
  · refine And.intro (fun c => absurd c (by decide)) (fun _ => ?_)
    refine c_isPerson hC hB (fun q hq eq => ?_) (fun hq => ?_)
    · refine And.intro (fun c => absurd c (by decide)) (fun _ => ?_)
      refine And.intro (fun c1 => ?_) (fun c1 => ?_)
      · refine ⟨Or.inl rfl, hf (fun p' q' hp' hq' hne e1 e2 => ?_)⟩
        rw [e1, e2, nI_eq (by omega) (by omega)] at c1
        exact hne c1
      · refine ⟨Or.inr rfl, ht p q hp hq (fun z => c1 ?_) ep eq⟩
        rw [ep, eq, z]
    · refine And.intro (fun _ => ?_) (fun c => absurd rfl c)
      exact ⟨Or.inl rfl, hf (fun p' q' hp' hq' hne e1 e2 => hq q' hq' e2)⟩
  · refine And.intro (fun _ => ?_) (fun c => absurd rfl c)
    exact ⟨Or.inl rfl, hf (fun p' q' hp' hq' hne e1 e2 => hp p' hp' e1)⟩
theorem c_isA {p k : Nat} (hC : RC h S) (hB : GB S) (hp : p < S 0 0) (hk : k < 5) (ht : gisA S p k = true → K (some (.int 1)) h) (hf : gisA S p k = false → K (some (.int 0)) h) : qCall (d + 3) 22 [.ref 3, .int (nI p), .int (nI k)] h K := by
  refine call_wp (n := 40) (cut := []) _ (by decide) (Nat.lt_succ_self _) rfl rfl (Nat.le_of_ble_eq_true rfl) rfl ?_
  have hb := (hB.2.1 p hp).1
  refine c_kindOf hC hp ?_
  have e0 : ∀ n, n < 5 → (nI n = (0 : Int32) ↔ n = 0) := by decide +kernel
  have e1 : ∀ n, n < 5 → (nI n = (1 : Int32) ↔ n = 1) := by decide +kernel
  have e4 : ∀ n, n < 5 → (nI n = (4 : Int32) ↔ n = 4) := by decide +kernel
  refine And.intro (fun c1 => ?_) (fun c1 => ?_)
  · have c1 := (e0 k hk).mp c1
    exact ⟨Or.inr rfl, ht (by simp [gisA, c1])⟩
  · have c1 : ¬ k = 0 := fun z => c1 ((e0 k hk).mpr z)
    refine And.intro (fun c2 => ?_) (fun c2 => ?_)
    · have c2 := (nI_eq (by omega) (by omega)).mp c2
      exact ⟨Or.inr rfl, ht (by simp [gisA, c2])⟩
    · have c2 : ¬ k = S 1 p := fun z => c2 ((nI_eq (by omega) (by omega)).mpr z)
      refine And.intro (fun c3 => ?_) (fun c3 => ?_)
      · have c3 := (e1 k hk).mp c3
        refine And.intro (fun c4 => ?_) (fun c4 => ?_)
        · have c4 := (e4 _ hb).mp c4
          exact ⟨Or.inr rfl, ht (by simp [gisA, c3, c4])⟩
        · have c4 : ¬ S 1 p = 4 := fun z => c4 ((e4 _ hb).mpr z)
          exact ⟨Or.inl rfl, hf (by simp [gisA, c1, c2, c4])⟩
      · have c3 : ¬ k = 1 := fun z => c3 ((e1 k hk).mpr z)
        exact ⟨Or.inl rfl, hf (by simp [gisA, c1, c2, c3])⟩
theorem c_knownTo {p : Nat} (hr : r = 5 ∨ r = 11) (hR : RS r h S) (hp : p < S 0 0) (hk : K (some (.int (nI (S 4 p)))) h) : qCall (d + 2) 28 [.ref r, .int (nI p)] h K := by
  rcases hr with rfl | rfl
  all_goals
    refine call_wp (n := 20) (cut := []) _ (by decide) (Nat.lt_succ_self _) rfl rfl (Nat.le_of_ble_eq_true rfl) rfl ?_
    exact c_get (kI hk (hR.1 p hp).symm)
theorem c_knows {p s : Nat} (hr : r = 5 ∨ r = 11) (hR : RS r h S) (hB : GB S) (hp : p < S 0 0) (hs : s < 4) (ht : (S 4 p).testBit s = true → K (some (.int 1)) h) (hf : (S 4 p).testBit s = false → K (some (.int 0)) h) : qCall (d + 3) 29 [.ref r, .int (nI p), .int (nI s)] h K := by
  have hw : wp (d + 2, 29, some .boolean, q0, K) qC29 [] 30 0 [some (.ref r), some (.int (nI p)), some (.int (nI s))] [] h := by
    have hr0 := hr
    rcases hr with rfl | rfl
    all_goals
      refine c_knownTo hr0 hR hp ?_
      refine And.intro (fun c1 => ?_) (fun c1 => ?_)
      · exact ⟨Or.inl rfl, hf ((bit_and _ (hB.2.1 p hp).2.2 s hs).mp c1)⟩
      · refine ⟨Or.inr rfl, ht ?_⟩
        cases hb : (S 4 p).testBit s with
        | true => rfl
        | false => exact absurd ((bit_and _ (hB.2.1 p hp).2.2 s hs).mpr hb) c1
  exact call_wp (d + 2) (by decide) (Nat.lt_succ_self _) rfl rfl (Nat.le_of_ble_eq_true rfl) rfl hw

theorem c_isHanged {p : Nat} (hr : r = 5 ∨ r = 11) (hR : RS r h S) (hB : GB S) (hp : p < 4) (ht : (S 5 0).testBit p = true → K (some (.int 1)) h) (hf : (S 5 0).testBit p = false → K (some (.int 0)) h) : qCall (d + 1) 30 [.ref r, .int (nI p)] h K := by
  rcases hr with rfl | rfl
  all_goals
    refine call_wp (n := 20) (cut := []) _ (by decide) (Nat.lt_succ_self _) rfl rfl (Nat.le_of_ble_eq_true rfl) rfl ?_
    have e := hR.2.1
    refine And.intro (fun c1 => ?_) (fun c1 => ?_)
    · have c1 : h.1 _ 1 &&& (1 <<< (nI p &&& 31)) = 0 := c1
      rw [e] at c1
      exact ⟨Or.inl rfl, hf ((bit_and _ hB.2.2.2.1 p hp).mp c1)⟩
    · have c1 : ¬ h.1 _ 1 &&& (1 <<< (nI p &&& 31)) = 0 := c1
      rw [e] at c1
      refine ⟨Or.inr rfl, ht ?_⟩
      cases hb : (S 5 0).testBit p with
      | true => rfl
      | false => exact absurd ((bit_and _ hB.2.2.2.1 p hp).mpr hb) c1
theorem c_hasSaid {p : Nat} (hr : r = 5 ∨ r = 11) (hR : RS r h S) (hB : GB S) (hp : p < 4) (ht : (S 5 1).testBit p = true → K (some (.int 1)) h) (hf : (S 5 1).testBit p = false → K (some (.int 0)) h) : qCall (d + 1) 31 [.ref r, .int (nI p)] h K := by
  rcases hr with rfl | rfl
  all_goals
    refine call_wp (n := 20) (cut := []) _ (by decide) (Nat.lt_succ_self _) rfl rfl (Nat.le_of_ble_eq_true rfl) rfl ?_
    have e := hR.2.2.1
    refine And.intro (fun c1 => ?_) (fun c1 => ?_)
    · have c1 : h.1 _ 2 &&& (1 <<< (nI p &&& 31)) = 0 := c1
      rw [e] at c1
      exact ⟨Or.inl rfl, hf ((bit_and _ hB.2.2.2.2.1 p hp).mp c1)⟩
    · have c1 : ¬ h.1 _ 2 &&& (1 <<< (nI p &&& 31)) = 0 := c1
      rw [e] at c1
      refine ⟨Or.inr rfl, ht ?_⟩
      cases hb : (S 5 1).testBit p with
      | true => rfl
      | false => exact absurd ((bit_and _ hB.2.2.2.2.1 p hp).mpr hb) c1
theorem c_isForbidden {p : Nat} (hr : r = 5 ∨ r = 11) (hR : RS r h S) (hB : GB S) (hp : p < 4) (ht : (S 5 2).testBit p = true → K (some (.int 1)) h) (hf : (S 5 2).testBit p = false → K (some (.int 0)) h) : qCall (d + 1) 32 [.ref r, .int (nI p)] h K := by
  rcases hr with rfl | rfl
  all_goals
    refine call_wp (n := 20) (cut := []) _ (by decide) (Nat.lt_succ_self _) rfl rfl (Nat.le_of_ble_eq_true rfl) rfl ?_
    have e := hR.2.2.2.1
    refine And.intro (fun c1 => ?_) (fun c1 => ?_)
    · have c1 : h.1 _ 3 &&& (1 <<< (nI p &&& 31)) = 0 := c1
      rw [e] at c1
      exact ⟨Or.inl rfl, hf ((bit_and _ hB.2.2.2.2.2 p hp).mp c1)⟩
    · have c1 : ¬ h.1 _ 3 &&& (1 <<< (nI p &&& 31)) = 0 := c1
      rw [e] at c1
      refine ⟨Or.inr rfl, ht ?_⟩
      cases hb : (S 5 2).testBit p with
      | true => rfl
      | false => exact absurd ((bit_and _ hB.2.2.2.2.2 p hp).mpr hb) c1
theorem c_canTell {f t s : Nat} (hr : r = 5 ∨ r = 11) (hR : RS r h S) (hB : GB S) (hf : f < S 0 0) (ht : t < S 0 0) (hs : s < 4) (k1 : gcan S f t s = true → K (some (.int 1)) h) (k0 : gcan S f t s = false → K (some (.int 0)) h) : qCall (d + 4) 37 [.ref r, .int (nI f), .int (nI t), .int (nI s)] h K := by
  have hn := hB.1
  have hr0 := hr
  rcases hr with rfl | rfl
  all_goals
    refine call_wp (n := 60) (cut := []) _ (by decide) (Nat.lt_succ_self _) rfl rfl (Nat.le_of_ble_eq_true rfl) rfl ?_
    refine And.intro (fun c1 => ?_) (fun c1 => ?_)
    · have c1 := (nI_eq (by omega) (by omega)).mp c1
      exact ⟨Or.inl rfl, k0 (by simp [gcan, c1])⟩
    · have c1 : ¬ f = t := fun z => c1 (by rw [z])
      refine c_knows hr0 hR hB hf hs (fun b1 => ?_) (fun b1 => ?_)
      · refine And.intro (fun c => absurd c (by decide)) (fun _ => ?_)
        refine c_knows hr0 hR hB ht hs (fun b2 => ?_) (fun b2 => ?_)
        · refine And.intro (fun c => absurd c (by decide)) (fun _ => ?_)
          exact ⟨Or.inl rfl, k0 (by simp [gcan, b2])⟩
        · refine And.intro (fun _ => ?_) (fun c => absurd rfl c)
          refine c_isHanged hr0 hR hB (by omega) (fun b3 => ?_) (fun b3 => ?_)
          · refine And.intro (fun c => absurd c (by decide)) (fun _ => ?_)
            exact ⟨Or.inl rfl, k0 (by simp [gcan, b3])⟩
          · refine And.intro (fun _ => ?_) (fun c => absurd rfl c)
            refine c_isHanged hr0 hR hB (by omega) (fun b4 => ?_) (fun b4 => ?_)
            · refine And.intro (fun c => absurd c (by decide)) (fun _ => ?_)
              exact ⟨Or.inl rfl, k0 (by simp [gcan, b4])⟩
            · refine And.intro (fun _ => ?_) (fun c => absurd rfl c)
              exact ⟨Or.inr rfl, k1 (by simp [gcan, c1, b1, b2, b3, b4])⟩
      · refine And.intro (fun _ => ?_) (fun c => absurd rfl c)
        exact ⟨Or.inl rfl, k0 (by simp [gcan, b1])⟩
theorem c_makesInfer {t s : Nat} (hr : r = 5 ∨ r = 11) (hC : RC h S) (hR : RS r h S) (hB : GB S) (ht : t < S 0 0) (hs : s < 4) (k1 : gnew S t s = true → K (some (.int 1)) h) (k0 : gnew S t s = false → K (some (.int 0)) h) : qCall (d + 3) 38 [.ref r, .ref 3, .int (nI t), .int (nI s)] h K := by
  have hk := (hB.2.1 t ht).2.2
  have hr0 := hr
  rcases hr with rfl | rfl
  all_goals
    refine call_wp (n := 60) (cut := []) _ (by decide) (Nat.lt_succ_self _) rfl rfl (Nat.le_of_ble_eq_true rfl) rfl ?_
    refine c_knownTo hr0 hR ht ?_
    refine c_infers hC hB ht hk (fun b1 => ?_) (fun b1 => ?_)
    · refine And.intro (fun c => absurd c (by decide)) (fun _ => ?_)
      exact ⟨Or.inl rfl, k0 (by simp [gnew, b1])⟩
    · refine And.intro (fun _ => ?_) (fun c => absurd rfl c)
      have e := bit_or _ hk s hs
      show qCall _ 24 [.ref 3, .int (nI t), .int (nI (S 4 t) ||| (1 <<< (nI s &&& 31)))] h _
      rw [e]
      refine c_infers hC hB ht (bit_or_lt _ hk s hs) (fun b2 => ?_) (fun b2 => ?_)
      · refine And.intro (fun c => absurd c (by decide)) (fun _ => ?_)
        exact ⟨Or.inr rfl, k1 (by simp [gnew, b1, b2])⟩
      · refine And.intro (fun _ => ?_) (fun c => absurd rfl c)
        exact ⟨Or.inl rfl, k0 (by simp [gnew, b2])⟩
theorem gisA_2 (S : gS) (p : Nat) : gisA S p 2 = (S 1 p == 2) := by
  unfold gisA
  cases h : (S 1 p == 2) with
  | true => simp [eq_of_beq h]
  | false =>
    have : ¬ (2 = S 1 p) := fun z => by rw [← z] at h; cases h
    simp [this]
theorem gisA_3 (S : gS) (p : Nat) : gisA S p 3 = (S 1 p == 3) := by
  unfold gisA
  cases h : (S 1 p == 3) with
  | true => simp [eq_of_beq h]
  | false =>
    have : ¬ (3 = S 1 p) := fun z => by rw [← z] at h; cases h
    simp [this]
theorem gisA_1 (S : gS) (p : Nat) : gisA S p 1 = gking S p := by
  unfold gisA gking
  cases h : (S 1 p == 1) with
  | true => simp [eq_of_beq h]
  | false =>
    have : ¬ (1 = S 1 p) := fun z => by rw [← z] at h; cases h
    simp [this]
theorem c_hangsTeller {f t s : Nat} (hr : r = 5 ∨ r = 11) (hC : RC h S) (hR : RS r h S) (hB : GB S) (hf : f < S 0 0) (ht : t < S 0 0) (hs : s < 4) (k1 : ghang S f t s = true → K (some (.int 1)) h) (k0 : ghang S f t s = false → K (some (.int 0)) h) : qCall (d + 4) 39 [.ref r, .ref 3, .int (nI f), .int (nI t), .int (nI s)] h K := by
  have hn := hB.1
  have hr0 := hr
  rcases hr with rfl | rfl
  all_goals
    refine call_wp (n := 60) (cut := []) _ (by decide) (Nat.lt_succ_self _) rfl rfl (Nat.le_of_ble_eq_true rfl) rfl ?_
    refine c_isA (k := 2) hC hB hf (by decide) (fun b1 => ?_) (fun b1 => ?_)
    · refine And.intro (fun c => absurd c (by decide)) (fun _ => ?_)
      rw [gisA_2] at b1
      exact ⟨Or.inl rfl, k0 (by simp [ghang, bne, b1])⟩
    · refine And.intro (fun _ => ?_) (fun c => absurd rfl c)
      rw [gisA_2] at b1
      refine c_isForbidden hr0 hR hB hs (fun b2 => ?_) (fun b2 => ?_)
      · refine And.intro (fun c => absurd c (by decide)) (fun _ => ?_)
        refine c_isA (k := 3) hC hB hf (by decide) (fun b3 => ?_) (fun b3 => ?_)
        · refine And.intro (fun c => absurd c (by decide)) (fun _ => ?_)
          rw [gisA_3] at b3
          refine c_isA (k := 1) hC hB ht (by decide) (fun b4 => ?_) (fun b4 => ?_)
          · refine And.intro (fun c => absurd c (by decide)) (fun _ => ?_)
            rw [gisA_1] at b4
            exact ⟨Or.inl rfl, k0 (by simp [ghang, bne, b3, b4])⟩
          · refine And.intro (fun _ => ?_) (fun c => absurd rfl c)
            rw [gisA_1] at b4
            refine c_makesInfer hr0 hC hR hB ht hs (fun b5 => ?_) (fun b5 => ?_)
            · refine And.intro (fun c => absurd c (by decide)) (fun _ => ?_)
              exact ⟨Or.inr rfl, k1 (by simp [ghang, bne, b1, b3, b4, b5])⟩
            · refine And.intro (fun _ => ?_) (fun c => absurd rfl c)
              exact ⟨Or.inl rfl, k0 (by simp [ghang, bne, b1, b3, b4, b5])⟩
        · refine And.intro (fun _ => ?_) (fun c => absurd rfl c)
          rw [gisA_3] at b3
          exact ⟨Or.inr rfl, k1 (by simp [ghang, bne, b1, b2, b3])⟩
      · refine And.intro (fun _ => ?_) (fun c => absurd rfl c)
        refine c_isA (k := 1) hC hB ht (by decide) (fun b4 => ?_) (fun b4 => ?_)
        · refine And.intro (fun c => absurd c (by decide)) (fun _ => ?_)
          rw [gisA_1] at b4
          exact ⟨Or.inl rfl, k0 (by simp [ghang, bne, b2, b4])⟩
        · refine And.intro (fun _ => ?_) (fun c => absurd rfl c)
          rw [gisA_1] at b4
          refine c_makesInfer hr0 hC hR hB ht hs (fun b5 => ?_) (fun b5 => ?_)
          · refine And.intro (fun c => absurd c (by decide)) (fun _ => ?_)
            exact ⟨Or.inr rfl, k1 (by simp [ghang, bne, b1, b2, b4, b5])⟩
          · refine And.intro (fun _ => ?_) (fun c => absurd rfl c)
            exact ⟨Or.inl rfl, k0 (by simp [ghang, bne, b1, b2, b4, b5])⟩
end QS
