/-! ## the reference's digest -/
theorem qJ_qJ {h : qH} {a k : Nat} {v w : Int64} : qJ (qJ h a k v) a k w = qJ h a k w := by
  unfold qJ
  refine Prod.ext rfl ?_
  funext x y
  by_cases e : x = a ∧ y = k
  · simp only [if_pos e]
  · simp only [if_neg e]
theorem qJ_self {h : qH} {a k : Nat} {v : Int64} : (qJ h a k v).2 a k = v := by
  unfold qJ
  exact if_pos ⟨rfl, rfl⟩
theorem bit_v : ∀ x, x < 16 → ∀ k, k < 4 → nI x >>> (nI k &&& 31) &&& 1 = (if x.testBit k then (1 : Int32) else 0) := by decide +kernel
section QD2
variable {d : Nat} {h : qH} {K : qK} {S : gS}
theorem m_mix {a v : Int64} (hk : K none (qJ h 15 34 (Int64.ofInt 31 * a + v))) : qCall (d + 1) 125 [.ref 15, .long v] (qJ h 15 34 a) K := by
  refine call_wp (n := 30) (cut := []) _ (by decide) (Nat.lt_succ_self _) rfl rfl (Nat.le_of_ble_eq_true rfl) rfl ?_
  show K none (qJ (qJ h 15 34 a) 15 34 (Int64.ofInt 31 * (qJ h 15 34 a).2 15 34 + v))
  rw [qJ_qJ, qJ_self]
  exact hk
theorem m_dC {a : Int64} {u : Option Value} (hM : RM h S) (hG : RG S) (hk : K (some (.long (gdC S a 10))) (qJ h 15 34 (gdC S a 10))) : ∀ m n, n + m = 10 → qAt (d + 6, 126, some .long, q0, K) 105 [some (.ref 15), some (.int (nI n)), u] [] (qJ h 15 34 (gdC S a n)) := by
  intro m
  induction m with
  | zero =>
    intro n hn
    have hn : n = 10 := by omega
    subst hn
    refine at_wp [] 12 (Nat.le_of_ble_eq_true rfl) rfl ?_
    refine And.intro (fun _ => ?_) (fun c => absurd (by decide) c)
    show K (some (.long ((qJ h 15 34 (gdC S a 10)).2 15 34))) _
    rw [qJ_self]
    exact hk
  | succ m ih =>
    intro n hn
    refine at_wp [105] 60 (Nat.le_of_ble_eq_true rfl) rfl ?_
    refine And.intro (fun c => absurd c (nI_ge (a := n) (b := 10) (by omega) (by decide))) (fun _ => ?_)
    have ih := ih (n + 1) (by omega)
    rw [gdC, ← nI_1] at ih
    refine m_howMany (h := qJ h 15 34 (gdC S a n)) (S := S) hM hG ?_
    exact m_mix ih
theorem m_dG {a : Int64} {u : Option Value} (hM : RM h S) (hG : RG S) (hk : K (some (.long (gdC S (gdG S a (S 10 0)) 10))) (qJ h 15 34 (gdC S (gdG S a (S 10 0)) 10))) : ∀ m n, n + m = S 10 0 → qAt (d + 6, 126, some .long, q0, K) 90 [some (.ref 15), some (.int (nI n)), u] [] (qJ h 15 34 (gdG S a n)) := by
  have h10 := hG.2.2.2.2.2.1
  have e := hM.2.2.1
  intro m
  induction m with
  | zero =>
    intro n hn
    have hn : n = S 10 0 := by omega
    refine at_wp [105] 12 (Nat.le_of_ble_eq_true rfl) rfl ?_
    refine And.intro (fun _ => ?_) (fun c => absurd (by show h.1 15 16 ≤ nI n; rw [e, hn]; exact nI_le (Nat.le_refl _) (by omega)) c)
    rw [← hn] at hk
    exact m_dC hM hG hk 10 0 rfl
  | succ m ih =>
    intro n hn
    have ec : (nI n).toNatClampNeg = n := nI_clamp (by omega)
    refine at_wp [90] 60 (Nat.le_of_ble_eq_true rfl) rfl ?_
    refine And.intro (fun c => absurd c (by show ¬ h.1 15 16 ≤ nI n; rw [e]; exact nI_ge (by omega) (by omega))) (fun _ => ?_)
    refine And.intro (vp_in_nI (by omega) (by decide)) ?_
    have ih := ih (n + 1) (by omega)
    rw [gdG, ← nI_1] at ih
    show qCall _ 125 [.ref 15, .long (h.1 24 (nI n).toNatClampNeg).toInt64] _ _
    rw [ec, hM.2.2.2.1 n (by omega)]
    exact m_mix ih
theorem m_dS {a : Int64} {u : Option Value} (hM : RM h S) (hG : RG S) (h0 : 0 < S 0 0) (hk : K (some (.long (gdC S (gdG S (gdS S a 4) (S 10 0)) 10))) (qJ h 15 34 (gdC S (gdG S (gdS S a 4) (S 10 0)) 10))) : ∀ m n, n + m = 4 → qAt (d + 6, 126, some .long, q0, K) 52 [some (.ref 15), some (.int (nI n)), u] [] (qJ h 15 34 (gdS S a n)) := by
  have hB := hG.1
  have hn0 := hB.1
  have e := hM.1.1
  intro m
  induction m with
  | zero =>
    intro n hn
    have hn : n = 4 := by omega
    subst hn
    refine at_wp [90] 12 (Nat.le_of_ble_eq_true rfl) rfl ?_
    refine And.intro (fun _ => ?_) (fun c => absurd (by decide) c)
    exact m_dG hM hG hk (S 10 0) 0 (by omega)
  | succ m ih =>
    intro n hn
    have ec : (nI n).toNatClampNeg = n := nI_clamp (by omega)
    refine at_wp [52] 60 (Nat.le_of_ble_eq_true rfl) rfl ?_
    refine And.intro (fun c => absurd c (nI_ge (a := n) (b := 4) (by omega) (by decide))) (fun _ => ?_)
    refine And.intro (fun c => absurd c (by show ¬ h.1 15 1 ≤ 0; rw [e]; exact nI_ge (a := 0) (by omega) (by omega))) (fun _ => ?_)
    refine And.intro (vp_in_nI (by omega) (by decide)) ?_
    have ih := ih (n + 1) (by omega)
    rw [gdS, ← nI_1] at ih
    unfold gdS1 at ih
    show qCall _ 125 [.ref 15, .long (h.1 20 (nI n).toNatClampNeg).toInt64] _ _
    rw [ec, hM.1.2.2.1 n (by omega)]
    refine m_mix ?_
    show qCall _ 125 [.ref 15, .long (h.1 15 7 >>> (nI n &&& 31) &&& 1).toInt64] _ _
    rw [hM.1.2.2.2.1, bit_v _ hB.2.2.2.2.2 n (by omega)]
    refine m_mix ?_
    refine m_tellsNow (h := qJ h 15 34 _) (S := S) hM.1 hB hG.2.1 (by omega) ?_
    refine m_mix ?_
    refine m_nextNow (h := qJ h 15 34 _) (S := S) hM.1 hB hG.2.1 (by omega) ?_
    exact m_mix ih
theorem m_dP2 {p : Nat} {a : Int64} (hM : RM h S) (hG : RG S) (hp : p < S 0 0) (hk : qAt (d + 6, 126, some .long, q0, K) 5 [some (.ref 15), some (.int (nI (p + 1))), some (.int (nI (S 0 0)))] [] (qJ h 15 34 (gd2 S p a (S 0 0)))) : ∀ m n, n + m = S 0 0 → qAt (d + 6, 126, some .long, q0, K) 25 [some (.ref 15), some (.int (nI p)), some (.int (nI n))] [] (qJ h 15 34 (gd2 S p a n)) := by
  have hB := hG.1
  have hn0 := hB.1
  have e := hM.1.1
  intro m
  induction m with
  | zero =>
    intro n hn
    have hn : n = S 0 0 := by omega
    refine at_wp [5] 12 (Nat.le_of_ble_eq_true rfl) rfl ?_
    refine And.intro (fun _ => ?_) (fun c => absurd (by show h.1 15 1 ≤ nI n; rw [e, hn]; exact nI_le (Nat.le_refl _) (by omega)) c)
    rw [← hn, ← nI_1] at hk
    exact hk
  | succ m ih =>
    intro n hn
    refine at_wp [25] 60 (Nat.le_of_ble_eq_true rfl) rfl ?_
    refine And.intro (fun c => absurd c (by show ¬ h.1 15 1 ≤ nI n; rw [e]; exact nI_ge (by omega) (by omega))) (fun _ => ?_)
    have ih := ih (n + 1) (by omega)
    rw [gd2, ← nI_1] at ih
    refine And.intro (fun c => ?_) (fun c => ?_)
    · rw [nI_eq (by omega) (by omega)] at c
      rw [if_pos c] at ih
      exact ih
    · rw [nI_eq (by omega) (by omega)] at c
      rw [if_neg c] at ih
      refine m_isAnyHanged (h := qJ h 15 34 _) (S := S) hM.1 hB hp (by omega) (fun b1 => ?_) (fun b1 => ?_)
      · refine And.intro (fun c => absurd c (by decide)) (fun _ => ?_)
        rw [show gunp S p n = 0 by unfold gunp; rw [if_pos b1]] at ih
        exact m_mix (v := (0 : Int32).toInt64) ih
      · refine And.intro (fun _ => ?_) (fun c => absurd rfl c)
        rw [gunp_eq] at ih
        refine m_safeNow (h := qJ h 15 34 _) (S := S) hM.1 hB hp (by omega) ?_
        exact m_mix ih
theorem m_dP1 {p : Nat} {a : Int64} (hM : RM h S) (hG : RG S) (hp : p < S 0 0) (hk : qAt (d + 6, 126, some .long, q0, K) 5 [some (.ref 15), some (.int (nI (p + 1))), some (.int (nI (S 0 0)))] [] (qJ h 15 34 (gd2 S p (gd1 S p a 8) (S 0 0)))) : ∀ m n, n + m = 8 → qAt (d + 6, 126, some .long, q0, K) 11 [some (.ref 15), some (.int (nI p)), some (.int (nI n))] [] (qJ h 15 34 (gd1 S p a n)) := by
  have hB := hG.1
  have hn0 := hB.1
  intro m
  induction m with
  | zero =>
    intro n hn
    have hn : n = 8 := by omega
    subst hn
    refine at_wp [25] 12 (Nat.le_of_ble_eq_true rfl) rfl ?_
    refine And.intro (fun _ => ?_) (fun c => absurd (by decide) c)
    exact m_dP2 hM hG hp hk (S 0 0) 0 (by omega)
  | succ m ih =>
    intro n hn
    refine at_wp [11] 60 (Nat.le_of_ble_eq_true rfl) rfl ?_
    refine And.intro (fun c => absurd c (nI_ge (a := n) (b := 8) (by omega) (by decide))) (fun _ => ?_)
    have ih := ih (n + 1) (by omega)
    rw [gd1, ← nI_1] at ih
    refine m_oneNow (h := qJ h 15 34 _) (S := S) hM.1 hB hp (by omega) ?_
    exact m_mix ih
theorem m_dP (hM : RM h S) (hG : RG S) (hk : K (some (.long (aDigest S))) (qJ h 15 34 (aDigest S))) : ∀ m n, n + m = S 0 0 → ∀ u, qAt (d + 6, 126, some .long, q0, K) 5 [some (.ref 15), some (.int (nI n)), u] [] (qJ h 15 34 (gdP S n)) := by
  have hB := hG.1
  have hn0 := hB.1
  have e := hM.1.1
  unfold aDigest at hk
  intro m
  induction m with
  | zero =>
    intro n hn u
    have hn : n = S 0 0 := by omega
    rcases Nat.eq_zero_or_pos n with w | w
    · refine at_wp [90] 40 (Nat.le_of_ble_eq_true rfl) rfl ?_
      refine And.intro (fun _ => ?_) (fun c => absurd (by show h.1 15 1 ≤ nI n; rw [e, hn]; exact nI_le (Nat.le_refl _) (by omega)) c)
      refine And.intro (fun c => absurd c (by decide)) (fun _ => ?_)
      refine And.intro (fun _ => ?_) (fun c => absurd (by show h.1 15 1 ≤ 0; rw [e, ← hn, w]; exact nI_le (b := 0) (Nat.le_refl _) (by decide)) c)
      rw [← hn, if_neg (by omega)] at hk
      exact m_dG hM hG hk (S 10 0) 0 (by omega)
    · refine at_wp [52] 40 (Nat.le_of_ble_eq_true rfl) rfl ?_
      refine And.intro (fun _ => ?_) (fun c => absurd (by show h.1 15 1 ≤ nI n; rw [e, hn]; exact nI_le (Nat.le_refl _) (by omega)) c)
      rw [← hn, if_pos w] at hk
      exact m_dS hM hG (by omega) hk 4 0 rfl
  | succ m ih =>
    intro n hn u
    refine at_wp [11] 60 (Nat.le_of_ble_eq_true rfl) rfl ?_
    refine And.intro (fun c => absurd c (by show ¬ h.1 15 1 ≤ nI n; rw [e]; exact nI_ge (by omega) (by omega))) (fun _ => ?_)
    have ih := ih (n + 1) (by omega)
    rw [gdP] at ih
    exact m_dP1 hM hG (by omega) (ih _) 8 0 rfl
theorem m_digest (hM : RM h S) (hG : RG S) (hk : ∀ h', h'.1 = h.1 → K (some (.long (aDigest S))) h') : qCall (d + 7) 126 [.ref 15] h K := by
  refine call_wp (n := 20) (cut := [5]) _ (by decide) (Nat.lt_succ_self _) rfl rfl (Nat.le_of_ble_eq_true rfl) rfl ?_
  exact m_dP (h := h) hM hG (hk _ rfl) (S 0 0) 0 (by omega) _
end QD2
