/-! ## what is asked, what may be told, how many infer -/
def sS (S : gS) (a b v : Nat) : gS := fun x y => if x = a ∧ y = b then v else S x y
theorem sS_ne {S : gS} {a b v x : Nat} (h : x ≠ a) : sS S a b v x = S x := by
  funext y
  unfold sS
  rw [if_neg (fun z => h z.1)]
theorem sS_eq {S : gS} {a b v : Nat} : sS S a b v a b = v := by
  unfold sS
  rw [if_pos ⟨rfl, rfl⟩]
theorem sS_nb {S : gS} {a b v x y : Nat} (h : y ≠ b) : sS S a b v x y = S x y := by
  unfold sS
  rw [if_neg (fun z => h z.2)]
def gclr (x s : Nat) : Nat := if x.testBit s then x - 1 <<< s else x
def gfb (S : gS) (s : Nat) (is : Bool) : Nat := if is then S 5 2 ||| 1 <<< s else gclr (S 5 2) s
theorem bit_clr : ∀ x, x < 16 → ∀ s, s < 4 → nI x &&& ((1 : Int32) <<< (nI s &&& 31) ^^^ (-1)) = nI (gclr x s) := by decide +kernel
theorem gclr_lt : ∀ x, x < 16 → ∀ s, s < 4 → gclr x s < 16 := by decide +kernel
theorem gfb_lt {S : gS} (hB : GB S) {s : Nat} (hs : s < 4) (is : Bool) : gfb S s is < 16 := by
  unfold gfb
  split
  · exact bit_or_lt _ hB.2.2.2.2.2 s hs
  · exact gclr_lt _ hB.2.2.2.2.2 s hs
def GA (S : gS) : Prop := S 5 4 ≤ 6 ∧ ∀ i, i < S 5 4 → S 7 i < S 0 0 ∧ S 8 i < 16 ∧ S 9 i < 2
def ginfN (S : gS) : Nat → Nat
  | 0 => 0
  | n + 1 => if ginf S n (S 4 n) then ginfN S n + 1 else ginfN S n
/-- which amounts of a sign would make it so, T known by the others, E wanted -/
def gamtF (E T : Nat) (b : Bool) : Nat → Nat
  | 0 => 0
  | v + 1 => gamtF E T b v + (if E ≤ T + (if b then v + 1 else 0) then 2 ^ v else 0)
theorem amt_t : ∀ E, E < 12 → ∀ T, T < 40 → (511 : Int32) &&& ((-1) <<< ((if 0 < (if nI E - nI T - 1 < 9 then nI E - nI T - 1 else 9) then (if nI E - nI T - 1 < 9 then nI E - nI T - 1 else 9) else 0) &&& 31)) = nI (gamtF E T true 9) := by decide +kernel
theorem amt_f : ∀ E, E < 12 → ∀ T, T < 40 → (if nI E - nI T ≤ (0 : Int32) then (511 : Int32) else 0) = nI (gamtF E T false 9) := by decide +kernel
theorem gamtF_lt (E T : Nat) (b : Bool) : ∀ v, gamtF E T b v < 2 ^ v
  | 0 => by unfold gamtF; decide
  | v + 1 => by
    have := gamtF_lt E T b v
    unfold gamtF
    have h2 : 2 ^ (v + 1) = 2 ^ v + 2 ^ v := by rw [Nat.pow_succ]; omega
    have h3 : (if E ≤ T + (if b then v + 1 else 0) then 2 ^ v else 0) ≤ 2 ^ v := by
      by_cases hc : E ≤ T + (if b then v + 1 else 0)
      · rw [if_pos hc]
        exact Nat.le_refl _
      · rw [if_neg hc]
        exact Nat.zero_le _
    omega
def gamt (S : gS) (p sg s : Nat) : Nat := gamtF (gen (S 1 p) (S 2 p)) (gtog S (gclr sg s)) (sg.testBit s) 9
theorem not_and {P a : Nat} (hP : P < 512) (ha : a < 512) : nI P &&& (nI a ^^^ (-1)) = nI (P &&& (511 ^^^ a)) := by
  apply Int32.toBitVec_inj.mp
  apply BitVec.eq_of_getLsbD_eq
  intro i hi
  have e : ∀ n : Nat, (nI n).toBitVec = BitVec.ofNat 32 n := fun n => rfl
  rw [Int32.toBitVec_and, Int32.toBitVec_xor, e, e, e, show (-1 : Int32).toBitVec = BitVec.allOnes 32 by decide, BitVec.getLsbD_and, BitVec.getLsbD_xor, BitVec.getLsbD_ofNat, BitVec.getLsbD_ofNat, BitVec.getLsbD_ofNat, BitVec.getLsbD_allOnes, Nat.testBit_and, Nat.testBit_xor]
  simp only [hi, decide_true, Bool.true_and]
  rcases Nat.lt_or_ge i 9 with h9 | h9
  · have : (511 : Nat).testBit i = true := (by decide : ∀ i, i < 9 → (511 : Nat).testBit i = true) i h9
    rw [this, Bool.xor_comm]
  · have : P.testBit i = false := Nat.testBit_lt_two_pow (Nat.lt_of_lt_of_le hP (Nat.pow_le_pow_right (by decide : 2 > 0) h9))
    rw [this, Bool.false_and, Bool.false_and]
theorem and_and {P a : Nat} (hP : P < 512) (ha : a < 512) : nI P &&& nI a = nI (P &&& a) := by
  apply Int32.toBitVec_inj.mp
  apply BitVec.eq_of_getLsbD_eq
  intro i hi
  have e : ∀ n : Nat, (nI n).toBitVec = BitVec.ofNat 32 n := fun n => rfl
  rw [Int32.toBitVec_and, e, e, e, BitVec.getLsbD_and, BitVec.getLsbD_ofNat, BitVec.getLsbD_ofNat, BitVec.getLsbD_ofNat, Nat.testBit_and]
  simp only [hi, decide_true, Bool.true_and]
/-- what all that is asked leaves of a sign's amounts -/
def gposN (S : gS) (s : Nat) : Nat → Nat
  | 0 => 511
  | i + 1 => gposN S s i &&& (if S 9 i = 0 then 511 ^^^ gamt S (S 7 i) (S 8 i) s else gamt S (S 7 i) (S 8 i) s)
theorem gposN_lt (S : gS) (s : Nat) : ∀ i, gposN S s i < 512
  | 0 => by unfold gposN; decide
  | i + 1 => by
    unfold gposN
    exact Nat.lt_of_le_of_lt Nat.and_le_left (gposN_lt S s i)
theorem q_who : ∀ p, p < 4 → ∀ g, g < 16 → ∀ b, b < 2 → nI (16 * p + g + 64 * b) >>> ((4 : Int32) &&& 31) &&& 3 = nI p := by decide +kernel
theorem q_sig : ∀ p, p < 4 → ∀ g, g < 16 → ∀ b, b < 2 → nI (16 * p + g + 64 * b) &&& 15 = nI g := by decide +kernel
theorem q_so : ∀ p, p < 4 → ∀ g, g < 16 → ∀ b, b < 2 → (nI (16 * p + g + 64 * b) &&& 64 = 0 ↔ b = 0) := by decide +kernel
theorem gclr_iff : ∀ x, x < 16 → ∀ s, s < 4 → (gclr x s = x ↔ x.testBit s = false) := by decide +kernel
section QA
variable {d : Nat} {h : qH} {K : qK} {S : gS} {r : Nat}
theorem c_setForbidden {s : Nat} {is : Bool} (hR : RS 5 h S) (hB : GB S) (hs : s < 4) (hk : K none (qI h 5 3 (nI (gfb S s is)))) : qCall (d + 1) 33 [.ref 5, .int (nI s), .int (b2 is)] h K := by
  have e := hR.2.2.2.1
  cases is
  · refine call_wp (n := 30) (cut := []) _ (by decide) (Nat.lt_succ_self _) rfl rfl (Nat.le_of_ble_eq_true rfl) rfl ?_
    refine And.intro (fun _ => ?_) (fun c => absurd rfl c)
    have e2 : nI (gfb S s false) = h.1 5 3 &&& ((1 : Int32) <<< (nI s &&& 31) ^^^ (-1)) := by rw [e, bit_clr _ hB.2.2.2.2.2 s hs]; rfl
    rw [e2] at hk
    exact hk
  · refine call_wp (n := 30) (cut := []) _ (by decide) (Nat.lt_succ_self _) rfl rfl (Nat.le_of_ble_eq_true rfl) rfl ?_
    refine And.intro (fun c => absurd c (by decide)) (fun _ => ?_)
    have e2 : nI (gfb S s true) = h.1 5 3 ||| ((1 : Int32) <<< (nI s &&& 31)) := by rw [e, bit_or _ hB.2.2.2.2.2 s hs]; rfl
    rw [e2] at hk
    exact hk
theorem c_wordsOf {p : Nat} (hr : r = 5 ∨ r = 8) (hp : p < 4) (hk : K (some (.int (h.1 (r + 1) p))) h) : qCall (d + 1) 34 [.ref r, .int (nI p)] h K := by
  rcases hr with rfl | rfl
  all_goals
    refine call_wp (n := 30) (cut := []) _ (by decide) (Nat.lt_succ_self _) rfl rfl (Nat.le_of_ble_eq_true rfl) rfl ?_
    refine And.intro (fun c => absurd c (nI_pos (by omega))) (fun _ => ?_)
    refine And.intro (fun c => absurd c (nI_ge (a := p) (b := 4) (by omega) (by decide))) (fun _ => ?_)
    refine And.intro (vp_in_nI (by omega) (by decide)) ?_
    refine kI hk ?_
    show _ = h.1 _ (nI p).toNatClampNeg
    rw [nI_clamp (by omega)]
    rfl
theorem c_askedAt {p : Nat} (hr : r = 5 ∨ r = 8) (hp : p < 6) (hk : K (some (.int (h.1 (r + 2) p))) h) : qCall (d + 1) 43 [.ref r, .int (nI p)] h K := by
  rcases hr with rfl | rfl
  all_goals
    refine call_wp (n := 30) (cut := []) _ (by decide) (Nat.lt_succ_self _) rfl rfl (Nat.le_of_ble_eq_true rfl) rfl ?_
    refine And.intro (fun c => absurd c (nI_pos (by omega))) (fun _ => ?_)
    refine And.intro (fun c => absurd c (nI_ge (a := p) (b := 6) (by omega) (by decide))) (fun _ => ?_)
    refine And.intro (vp_in_nI (by omega) (by decide)) ?_
    refine kI hk ?_
    show _ = h.1 _ (nI p).toNatClampNeg
    rw [nI_clamp (by omega)]
    rfl
theorem l_hmi (hr : r = 5 ∨ r = 11) (hC : RC h S) (hR : RS r h S) (hB : GB S) (hk : K (some (.int (nI (ginfN S (S 0 0))))) h) : ∀ m n, n + m = S 0 0 → qAt (d + 3, 35, some .int, q0, K) 4 [some (.ref r), some (.ref 3), some (.int (nI (ginfN S n))), some (.int (nI n))] [] h := by
  have hn0 := hB.1
  have e := hC.1
  have hr0 := hr
  rcases hr with rfl | rfl
  all_goals
    intro m
    induction m with
    | zero =>
      intro n hn
      have hn : n = S 0 0 := by omega
      refine at_wp [] 12 (Nat.le_of_ble_eq_true rfl) rfl ?_
      refine And.intro (fun _ => ?_) (fun c => absurd (by show h.1 3 0 ≤ nI n; rw [e, hn]; exact nI_le (Nat.le_refl _) (by omega)) c)
      rw [← hn] at hk
      exact hk
    | succ m ih =>
      intro n hn
      refine at_wp [4] 60 (Nat.le_of_ble_eq_true rfl) rfl ?_
      refine And.intro (fun c => absurd c (by show ¬ h.1 3 0 ≤ nI n; rw [e]; exact nI_ge (by omega) (by omega))) (fun _ => ?_)
      refine c_knownTo hr0 hR (by omega) ?_
      refine c_infers hC hB (by omega) (hB.2.1 n (by omega)).2.2 (fun b1 => ?_) (fun b1 => ?_)
      · refine And.intro (fun c => absurd c (by decide)) (fun _ => ?_)
        have := ih (n + 1) (by omega)
        rw [ginfN, if_pos b1, ← nI_1, ← nI_1] at this
        exact this
      · refine And.intro (fun _ => ?_) (fun c => absurd rfl c)
        have := ih (n + 1) (by omega)
        rw [ginfN, b1, ← nI_1] at this
        exact this
theorem c_howManyInfer (hr : r = 5 ∨ r = 11) (hC : RC h S) (hR : RS r h S) (hB : GB S) (hk : K (some (.int (nI (ginfN S (S 0 0))))) h) : qCall (d + 4) 35 [.ref r, .ref 3] h K := by
  refine call_wp (n := 4) (cut := []) _ (by decide) (Nat.lt_succ_self _) rfl rfl (Nat.le_of_ble_eq_true rfl) rfl ?_
  exact l_hmi hr hC hR hB hk (S 0 0) 0 (by omega)
theorem c_inferringAmounts {p sg s : Nat} (hC : RC h S) (hB : GB S) (hp : p < S 0 0) (hsg : sg < 16) (hs : s < 4) (hk : K (some (.int (nI (gamt S p sg s)))) h) : qCall (d + 2) 25 [.ref 3, .int (nI p), .int (nI sg), .int (nI s)] h K := by
  have e1 := (hC.2.1 p hp).2.2
  have l1 := gtog_lt hB (gclr sg s)
  have l2 := gen_lt hB hp
  have e2 := bit_clr sg hsg s hs
  have hcl := gclr_lt sg hsg s hs
  refine call_wp (n := 80) (cut := []) _ (by decide) (Nat.lt_succ_self _) rfl rfl (Nat.le_of_ble_eq_true rfl) rfl ?_
  refine c_get ?_
  show qCall _ 23 [.ref 3, .int (nI sg &&& ((1 : Int32) <<< (nI s &&& 31) ^^^ (-1)))] h _
  rw [e2]
  refine c_together hC hcl ?_
  have hgi := gclr_iff sg hsg s hs
  refine And.intro (fun c1 => ?_) (fun c1 => ?_)
  · have c1 : nI sg &&& ((1 : Int32) <<< (nI s &&& 31) ^^^ (-1)) = nI sg := c1
    rw [e2] at c1
    have c1 := hgi.mp ((nI_eq (by omega) (by omega)).mp c1)
    have ef := amt_f _ l2 _ l1
    unfold gamt at hk
    rw [c1, ← ef] at hk
    refine And.intro (fun c2 => ?_) (fun c2 => ?_)
    · have c2 : (0 : Int32) < fget (h.1 3 4) (nI p) - nI (gtog S (gclr sg s)) := c2
      rw [e1] at c2
      rw [if_neg (Int32.not_le.mpr c2)] at hk
      exact hk
    · have c2 : ¬ (0 : Int32) < fget (h.1 3 4) (nI p) - nI (gtog S (gclr sg s)) := c2
      rw [e1] at c2
      rw [if_pos (Int32.not_lt.mp c2)] at hk
      exact hk
  · have c1 : ¬ nI sg &&& ((1 : Int32) <<< (nI s &&& 31) ^^^ (-1)) = nI sg := c1
    rw [e2] at c1
    have c1 : sg.testBit s = true := by
      cases hb : sg.testBit s with
      | true => rfl
      | false => exact absurd (by rw [hgi.mpr hb]) c1
    have ef := amt_t _ l2 _ l1
    unfold gamt at hk
    rw [c1, ← ef, ← e1] at hk
    exact hk
theorem l_pos {s : Nat} (hC : RC h S) (hR : RS 5 h S) (hB : GB S) (hA : GA S) (hs : s < 4) (hk : K (some (.int (nI (gposN S s (S 5 4))))) h) : ∀ m n, n + m = S 5 4 → ∀ u v, qAt (d + 3, 44, some .int, q0, K) 4 [some (.ref 5), some (.ref 3), some (.int (nI s)), some (.int (nI (gposN S s n))), some (.int (nI n)), u, v] [] h := by
  have hn0 := hB.1
  have ha0 := hA.1
  have e := hR.2.2.2.2.2.1
  intro m
  induction m with
  | zero =>
    intro n hn u v
    have hn : n = S 5 4 := by omega
    refine at_wp [] 12 (Nat.le_of_ble_eq_true rfl) rfl ?_
    refine And.intro (fun _ => ?_) (fun c => absurd (by show h.1 5 7 ≤ nI n; rw [e, hn]; exact nI_le (Nat.le_refl _) (by omega)) c)
    rw [← hn] at hk
    exact hk
  | succ m ih =>
    intro n hn u v
    obtain ⟨a1, a2, a3⟩ := hA.2 n (by omega)
    have eq := hR.2.2.2.2.2.2.2 n (by omega)
    have ha : gamt S (S 7 n) (S 8 n) s < 512 := gamtF_lt (gen (S 1 (S 7 n)) (S 2 (S 7 n))) (gtog S (gclr (S 8 n) s)) ((S 8 n).testBit s) 9
    have hp := gposN_lt S s n
    refine at_wp [4] 90 (Nat.le_of_ble_eq_true rfl) rfl ?_
    refine And.intro (fun c => absurd c (by show ¬ h.1 5 7 ≤ nI n; rw [e]; exact nI_ge (by omega) (by omega))) (fun _ => ?_)
    refine c_askedAt (r := 5) (Or.inl rfl) (by omega) ?_
    rw [eq]
    show qCall _ 25 [.ref 3, .int (nI (16 * S 7 n + S 8 n + 64 * S 9 n) >>> ((4 : Int32) &&& 31) &&& 3), .int (nI (16 * S 7 n + S 8 n + 64 * S 9 n) &&& 15), .int (nI s)] h _
    rw [q_who _ (by omega) _ a2 _ a3, q_sig _ (by omega) _ a2 _ a3]
    refine c_inferringAmounts hC hB a1 a2 hs ?_
    refine And.intro (fun c1 => ?_) (fun c1 => ?_)
    · have c1 := (q_so _ (by omega) _ a2 _ a3).mp c1
      show qAt _ 4 [some (.ref 5), some (.ref 3), some (.int (nI s)), some (.int (nI (gposN S s n) &&& (nI (gamt S (S 7 n) (S 8 n) s) ^^^ (-1)))), some (.int (nI n + 1)), _, _] [] h
      rw [nI_1, not_and hp ha]
      have := ih (n + 1) (by omega)
      rw [gposN, if_pos c1] at this
      exact this _ _
    · have c1 : ¬ S 9 n = 0 := fun z => c1 ((q_so _ (by omega) _ a2 _ a3).mpr z)
      show qAt _ 4 [some (.ref 5), some (.ref 3), some (.int (nI s)), some (.int (nI (gposN S s n) &&& nI (gamt S (S 7 n) (S 8 n) s))), some (.int (nI n + 1)), _, _] [] h
      rw [nI_1, and_and hp ha]
      have := ih (n + 1) (by omega)
      rw [gposN, if_neg c1] at this
      exact this _ _
theorem c_possibleAmounts {s : Nat} (hC : RC h S) (hR : RS 5 h S) (hB : GB S) (hA : GA S) (hs : s < 4) (hk : K (some (.int (nI (gposN S s (S 5 4))))) h) : qCall (d + 4) 44 [.ref 5, .ref 3, .int (nI s)] h K := by
  refine call_wp (n := 4) (cut := []) _ (by decide) (Nat.lt_succ_self _) rfl rfl (Nat.le_of_ble_eq_true rfl) rfl ?_
  exact l_pos hC hR hB hA hs hk (S 5 4) 0 (by omega) _ _
end QA
