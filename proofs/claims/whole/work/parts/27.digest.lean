/-! ## the digest -/
def gmix (a : Int64) (v : Int32) : Int64 := Int64.ofInt 31 * a + v.toInt64
def gunp (S : gS) (p q : Nat) : Int32 := if (S 5 0).testBit p || (S 5 0).testBit q then 0 else nI (gsafeN S p q 4)
def gd1 (S : gS) (p : Nat) (a : Int64) : Nat → Int64
  | 0 => a
  | k + 1 => gmix (gd1 S p a k) (aOne S p k)
def gd2 (S : gS) (p : Nat) (a : Int64) : Nat → Int64
  | 0 => a
  | q + 1 => if q = p then gd2 S p a q else gmix (gd2 S p a q) (gunp S p q)
def gdP (S : gS) : Nat → Int64
  | 0 => Int64.ofInt 991
  | p + 1 => gd2 S p (gd1 S p (gdP S p) 8) (S 0 0)
def gdS1 (S : gS) (a : Int64) (k : Nat) : Int64 := gmix (gmix (gmix (gmix a (nI (S 3 k))) (if (S 5 2).testBit k then 1 else 0)) (nI (gposN S k (S 5 4)))) (if gposN S k (S 5 4) = 0 then -1 else ib (gbq S k (gposN S k (S 5 4)) (16 * S 0 0)).1)
def gdS (S : gS) (a : Int64) : Nat → Int64
  | 0 => a
  | k + 1 => gdS1 S (gdS S a k) k
def gdG (S : gS) (a : Int64) : Nat → Int64
  | 0 => a
  | i + 1 => gmix (gdG S a i) (nI (S 11 i))
def gdC (S : gS) (a : Int64) : Nat → Int64
  | 0 => a
  | w + 1 => gmix (gdC S a w) (aCount S (nI w))
def aDigest (S : gS) : Int64 := gdC S (gdG S (if 0 < S 0 0 then gdS S (gdP S (S 0 0)) 4 else gdP S (S 0 0)) (S 10 0)) 10
theorem gsafeN_hung {S : gS} {f t : Nat} (e : ((S 5 0).testBit f || (S 5 0).testBit t) = true) : ∀ n, gsafeN S f t n = 0
  | 0 => rfl
  | n + 1 => by
    have g : gcan S f t n = false := by
      unfold gcan
      cases a : (S 5 0).testBit f <;> cases b : (S 5 0).testBit t <;> simp_all
    rw [gsafeN, g]
    exact gsafeN_hung e n
theorem gunp_eq (S : gS) (p q : Nat) : gunp S p q = nI (gsafeN S p q 4) := by
  unfold gunp
  split
  · rename_i e
    rw [gsafeN_hung e]
    rfl
  · rfl
theorem ix_nI8 : ∀ k, k < 8 → ix (nI k) 8 = some k := fun k hk => ix_some hk (by decide)
section QD
variable {d : Nat} {h : qH} {K : qK} {S : gS}
theorem c_at {i : Nat} (hX : RX h S) (hG : RG S) (hi : i < S 10 0) (hk : K (some (.int (nI (S 11 i)))) h) : qCall (d + 1) 3 [.ref 1, .int (nI i)] h K := by
  have h10 := hG.2.2.2.2.2.1
  have e := hX.2.2.2.2.2.2.1
  have ei := hX.2.2.2.2.2.2.2 i hi
  have ec : (nI i).toNatClampNeg = i := nI_clamp (by omega)
  refine call_wp (n := 30) (cut := []) _ (by decide) (Nat.lt_succ_self _) rfl rfl (Nat.le_of_ble_eq_true rfl) rfl ?_
  refine And.intro (fun c => absurd c (Int32.not_lt.mpr (nI_le (a := 0) (Nat.zero_le _) (by omega)))) (fun _ => ?_)
  refine And.intro (fun c => absurd c (by show ¬ h.1 1 1 ≤ nI i; rw [e]; exact nI_ge (by omega) (by omega))) (fun _ => ?_)
  refine And.intro (fun c => absurd c (nI_ge (a := i) (b := 22) (by omega) (by decide))) (fun _ => ?_)
  refine And.intro (vp_in_nI (by omega) (by decide)) ?_
  show K (some (.int (h.1 2 (nI i).toNatClampNeg))) h
  rw [ec]
  exact kI hk ei.symm
theorem l_dp2 {p : Nat} {a0 a : Int64} (hX : RX h S) (hG : RG S) (hp : p < S 0 0) (hk : K (some (.long (gd2 S p a (S 0 0)))) h) : ∀ m n, n + m = S 0 0 → qAt (d + 5, 65, some .long, q0, K) 21 [some (.ref 0), some (.long a0), none, some (.int (nI p)), some (.long (gd2 S p a n)), none, some (.int (nI n))] [] h := by
  have hB := hG.1
  have hn0 := hB.1
  have e := hX.1.1
  intro m
  induction m with
  | zero =>
    intro n hn
    have hn : n = S 0 0 := by omega
    refine at_wp [] 12 (Nat.le_of_ble_eq_true rfl) rfl ?_
    refine And.intro (fun _ => ?_) (fun c => absurd (by show h.1 3 0 ≤ nI n; rw [e, hn]; exact nI_le (Nat.le_refl _) (by omega)) c)
    rw [← hn] at hk
    exact hk
  | succ m ih =>
    intro n hn
    refine at_wp [21] 60 (Nat.le_of_ble_eq_true rfl) rfl ?_
    refine And.intro (fun c => absurd c (by show ¬ h.1 3 0 ≤ nI n; rw [e]; exact nI_ge (by omega) (by omega))) (fun _ => ?_)
    have ih := ih (n + 1) (by omega)
    rw [gd2, ← nI_1] at ih
    refine And.intro (fun c => ?_) (fun c => ?_)
    · rw [nI_eq (by omega) (by omega)] at c
      rw [if_pos c] at ih
      exact ih
    · rw [nI_eq (by omega) (by omega)] at c
      rw [if_neg c, gunp_eq] at ih
      exact c_unpunished hX.1 hX.2.1 hB hp (by omega) ih
theorem l_dp1 {p : Nat} {a : Int64} (hX : RX h S) (hG : RG S) (hp : p < S 0 0) (hk : K (some (.long (gd2 S p (gd1 S p a 8) (S 0 0)))) h) : ∀ m n, n + m = 8 → qAt (d + 5, 65, some .long, q0, K) 4 [some (.ref 0), some (.long a), none, some (.int (nI p)), some (.long (gd1 S p a n)), none, some (.int (nI n))] [] h := by
  have hB := hG.1
  have hn0 := hB.1
  intro m
  induction m with
  | zero =>
    intro n hn
    have hn : n = 8 := by omega
    subst hn
    refine at_wp [21] 12 (Nat.le_of_ble_eq_true rfl) rfl ?_
    refine And.intro (fun _ => ?_) (fun c => absurd (by decide) c)
    exact l_dp2 hX hG hp hk (S 0 0) 0 (by omega)
  | succ m ih =>
    intro n hn
    refine at_wp [4] 60 (Nat.le_of_ble_eq_true rfl) rfl ?_
    refine And.intro (fun c => absurd c (nI_ge (a := n) (b := 8) (by omega) (by decide))) (fun _ => ?_)
    have ih := ih (n + 1) (by omega)
    rw [gd1, ← nI_1] at ih
    refine x_about hX hG ?_
    rw [aAbout_one hB hp (by omega) (ix_nI8 n (by omega))]
    exact ih
theorem c_digestPerson {p : Nat} {a : Int64} (hX : RX h S) (hG : RG S) (hp : p < S 0 0) (hk : K (some (.long (gd2 S p (gd1 S p a 8) (S 0 0)))) h) : qCall (d + 6) 65 [.ref 0, .long a, .int (nI p)] h K := by
  refine call_wp (n := 20) (cut := [4]) _ (by decide) (Nat.lt_succ_self _) rfl rfl (Nat.le_of_ble_eq_true rfl) rfl ?_
  exact l_dp1 hX hG hp hk 8 0 rfl
theorem c_digestSign {k : Nat} {a : Int64} (hX : RX h S) (hG : RG S) (h0 : 0 < S 0 0) (hp : k < 4) (hk : K (some (.long (gdS1 S a k))) h) : qCall (d + 6) 66 [.ref 0, .long a, .int (nI k)] h K := by
  have hB := hG.1
  unfold gdS1 at hk
  refine call_wp (n := 60) (cut := []) _ (by decide) (Nat.lt_succ_self _) rfl rfl (Nat.le_of_ble_eq_true rfl) rfl ?_
  refine x_sign hX hG ?_
  rw [show aSign S (nI k) = nI (S 3 k) by unfold aSign; rw [isg_some h0 hp]]
  refine c_isForbidden (Or.inl rfl) hX.2.1 hB hp (fun b1 => ?_) (fun b1 => ?_)
  · refine And.intro (fun c => absurd c (by decide)) (fun _ => ?_)
    refine x_tells hX hG ?_
    rw [show aTells S (nI k) = nI (gposN S k (S 5 4)) by unfold aTells; rw [isg_some h0 hp]]
    refine x_next hX hG ?_
    rw [show aNext S (nI k) = (if gposN S k (S 5 4) = 0 then -1 else ib (gbq S k (gposN S k (S 5 4)) (16 * S 0 0)).1) by unfold aNext; rw [isg_some h0 hp]]
    rw [if_pos b1] at hk
    exact hk
  · refine And.intro (fun _ => ?_) (fun c => absurd rfl c)
    refine x_tells hX hG ?_
    rw [show aTells S (nI k) = nI (gposN S k (S 5 4)) by unfold aTells; rw [isg_some h0 hp]]
    refine x_next hX hG ?_
    rw [show aNext S (nI k) = (if gposN S k (S 5 4) = 0 then -1 else ib (gbq S k (gposN S k (S 5 4)) (16 * S 0 0)).1) by unfold aNext; rw [isg_some h0 hp]]
    rw [b1] at hk
    exact hk
theorem l_dC {a : Int64} (hX : RX h S) (hG : RG S) (hk : K (some (.long (gdC S a 10))) h) : ∀ m n, n + m = 10 → qAt (d + 6, 64, some .long, q0, K) 53 [some (.ref 0), some (.long (gdC S a n)), none, some (.int (nI n))] [] h := by
  intro m
  induction m with
  | zero =>
    intro n hn
    have hn : n = 10 := by omega
    subst hn
    refine at_wp [] 12 (Nat.le_of_ble_eq_true rfl) rfl ?_
    refine And.intro (fun _ => ?_) (fun c => absurd (by decide) c)
    exact hk
  | succ m ih =>
    intro n hn
    refine at_wp [53] 60 (Nat.le_of_ble_eq_true rfl) rfl ?_
    refine And.intro (fun c => absurd c (nI_ge (a := n) (b := 10) (by omega) (by decide))) (fun _ => ?_)
    have ih := ih (n + 1) (by omega)
    rw [gdC, ← nI_1] at ih
    refine x_count hX hG ?_
    exact ih
theorem l_dG {a : Int64} (hX : RX h S) (hG : RG S) (hk : K (some (.long (gdC S (gdG S a (S 10 0)) 10))) h) : ∀ m n, n + m = S 10 0 → qAt (d + 6, 64, some .long, q0, K) 34 [some (.ref 0), some (.long (gdG S a n)), none, some (.int (nI n))] [] h := by
  have h10 := hG.2.2.2.2.2.1
  have e := hX.2.2.2.2.2.2.1
  intro m
  induction m with
  | zero =>
    intro n hn
    have hn : n = S 10 0 := by omega
    refine at_wp [53] 12 (Nat.le_of_ble_eq_true rfl) rfl ?_
    refine And.intro (fun _ => ?_) (fun c => absurd (by show h.1 1 1 ≤ nI n; rw [e, hn]; exact nI_le (Nat.le_refl _) (by omega)) c)
    rw [← hn] at hk
    exact l_dC hX hG hk 10 0 rfl
  | succ m ih =>
    intro n hn
    refine at_wp [34] 60 (Nat.le_of_ble_eq_true rfl) rfl ?_
    refine And.intro (fun c => absurd c (by show ¬ h.1 1 1 ≤ nI n; rw [e]; exact nI_ge (by omega) (by omega))) (fun _ => ?_)
    have ih := ih (n + 1) (by omega)
    rw [gdG, ← nI_1] at ih
    refine c_at hX hG (by omega) ?_
    exact ih
theorem l_dS {a : Int64} (hX : RX h S) (hG : RG S) (h0 : 0 < S 0 0) (hk : K (some (.long (gdC S (gdG S (gdS S a 4) (S 10 0)) 10))) h) : ∀ m n, n + m = 4 → qAt (d + 6, 64, some .long, q0, K) 22 [some (.ref 0), some (.long (gdS S a n)), none, some (.int (nI n))] [] h := by
  intro m
  induction m with
  | zero =>
    intro n hn
    have hn : n = 4 := by omega
    subst hn
    refine at_wp [34] 12 (Nat.le_of_ble_eq_true rfl) rfl ?_
    refine And.intro (fun _ => ?_) (fun c => absurd (by decide) c)
    exact l_dG hX hG hk (S 10 0) 0 (by omega)
  | succ m ih =>
    intro n hn
    refine at_wp [22] 60 (Nat.le_of_ble_eq_true rfl) rfl ?_
    refine And.intro (fun c => absurd c (nI_ge (a := n) (b := 4) (by omega) (by decide))) (fun _ => ?_)
    have ih := ih (n + 1) (by omega)
    rw [gdS, ← nI_1] at ih
    refine c_digestSign hX hG h0 (by omega) ?_
    exact ih
theorem l_dP (hX : RX h S) (hG : RG S) (hk : K (some (.long (aDigest S))) h) : ∀ m n, n + m = S 0 0 → qAt (d + 6, 64, some .long, q0, K) 4 [some (.ref 0), some (.long (gdP S n)), none, some (.int (nI n))] [] h := by
  have hB := hG.1
  have hn0 := hB.1
  have e := hX.1.1
  unfold aDigest at hk
  intro m
  induction m with
  | zero =>
    intro n hn
    have hn : n = S 0 0 := by omega
    refine at_wp [22, 34] 20 (Nat.le_of_ble_eq_true rfl) rfl ?_
    refine And.intro (fun _ => ?_) (fun c => absurd (by show h.1 3 0 ≤ nI n; rw [e, hn]; exact nI_le (Nat.le_refl _) (by omega)) c)
    rw [← hn] at hk
    refine And.intro (fun c => ?_) (fun c => ?_)
    · have c : h.1 3 0 ≤ 0 := c
      rw [e] at c
      have z : ¬ 0 < n := fun z => absurd c (nI_ge (a := 0) (b := S 0 0) (by omega) (by omega))
      rw [if_neg z] at hk
      exact l_dG hX hG hk (S 10 0) 0 (by omega)
    · have c : ¬ h.1 3 0 ≤ 0 := c
      rw [e] at c
      have z : 0 < n := by
        rcases Nat.eq_zero_or_pos n with w | w
        · exact absurd (by rw [← hn, w]; exact nI_le (b := 0) (Nat.le_refl _) (by decide)) c
        · exact w
      rw [if_pos z] at hk
      exact l_dS hX hG (by omega) hk 4 0 rfl
  | succ m ih =>
    intro n hn
    refine at_wp [4] 60 (Nat.le_of_ble_eq_true rfl) rfl ?_
    refine And.intro (fun c => absurd c (by show ¬ h.1 3 0 ≤ nI n; rw [e]; exact nI_ge (by omega) (by omega))) (fun _ => ?_)
    have ih := ih (n + 1) (by omega)
    rw [gdP, ← nI_1] at ih
    refine c_digestPerson hX hG (by omega) ?_
    exact ih
theorem x_digest (hX : RX h S) (hG : RG S) (hk : K (some (.long (aDigest S))) h) : qCall (d + 7) 64 [.ref 0] h K := by
  refine call_wp (n := 20) (cut := [4]) _ (by decide) (Nat.lt_succ_self _) rfl rfl (Nat.le_of_ble_eq_true rfl) rfl ?_
  exact l_dP hX hG hk (S 0 0) 0 (by omega)
end QD
