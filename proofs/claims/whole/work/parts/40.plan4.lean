/-! ## plans: the reference's test of a code -/
theorem cd_sh {c : Nat} (hc : c < 262144) : ∀ r, r < 3 → nI c >>> ((Int32.ofInt 6 * nI r) &&& 31) &&& Int32.ofInt 63 = nI (c / 64 ^ r % 64) := by
  intro r hr
  have h2 : c / 64 ^ r < 2 ^ 32 := Nat.lt_of_le_of_lt (Nat.div_le_self _ _) (by omega)
  rcases (show r = 0 ∨ r = 1 ∨ r = 2 by omega) with rfl | rfl | rfl
  · rw [pk_shrN (by omega) _ 0 (by decide), pk_andN (by omega) 6 (by decide)]
  · rw [pk_shrN (by omega) _ 6 (by decide), pk_andN (by omega) 6 (by decide)]
  · rw [pk_shrN (by omega) _ 12 (by decide), pk_andN (by omega) 6 (by decide)]
theorem cd_w2 (c r : Nat) : c % 64 ^ (r + 1) / 64 ^ r = c / 64 ^ r % 64 := by
  rw [Nat.pow_succ, Nat.mod_mul_right_div_self]
theorem cd_m2 (c r : Nat) : c % 64 ^ (r + 1) % 64 ^ r = c % 64 ^ r := Nat.mod_mod_of_dvd _ ⟨64, by rw [Nat.pow_succ]⟩
theorem dec1 (x : Int32) : x - 1 = x + Int32.ofInt (-1) := by
  rw [Int32.sub_eq_add_neg]
  rfl
section QIP
variable {d : Nat} {h : qH} {K : qK} {S : gS}
theorem l_ipF {k r c : Nat} {x : Int32} {g : qH} (hF : Fr [18] h g) (k0 : ∀ h3, Fr [18] h h3 → (∀ p, p < 4 → h3.1 18 p = h.1 25 p) → K (some (.int 0)) h3) : qAt (d + 5, 103, some .boolean, q0, K) 22 [some (.ref 15), some (.int (nI k)), some (.int (nI r)), some (.int (nI c)), some (.int 0), some (.int x)] [] g := by
  refine at_wp [] 40 (Nat.le_of_ble_eq_true rfl) rfl ?_
  refine And.intro (fun _ => ?_) (fun c => absurd rfl c)
  refine m_load (fun h3 f3 s3 => ?_)
  exact ⟨Or.inl rfl, k0 h3 (hF.tr f3) (fun p hp => by rw [s3 p hp, hF.1 25 (by decide)])⟩
theorem l_isPlan {k m c : Nat} (hm : m ≤ 3) (hc : c < 262144) : ∀ r, r ≤ m → ∀ T g, Fr [18] h g → RMc g T → GB T → k < T 0 0 → (gP k r T (c % 64 ^ r) = true → ∀ h3, Fr [18] h h3 → (∀ p, p < 4 → h3.1 18 p = h.1 25 p) → K (some (.int 1)) h3) → (gP k r T (c % 64 ^ r) = false → ∀ h3, Fr [18] h h3 → (∀ p, p < 4 → h3.1 18 p = h.1 25 p) → K (some (.int 0)) h3) → qAt (d + 5, 103, some .boolean, q0, K) 6 [some (.ref 15), some (.int (nI k)), some (.int (nI m)), some (.int (nI c)), some (.int 1), some (.int (nI r - 1))] [] g := by
  intro r
  induction r with
  | zero =>
    intro _ T g hF hM hB hk k1 k0
    refine at_wp [] 60 (Nat.le_of_ble_eq_true rfl) rfl ?_
    refine And.intro (fun _ => ?_) (fun c => absurd (by decide) c)
    refine And.intro (fun c => absurd c (by decide)) (fun _ => ?_)
    refine m_infers hM hB hk (fun b => ?_) (fun b => ?_)
    · refine And.intro (fun c => absurd c (by decide)) (fun _ => ?_)
      refine m_load (fun h3 f3 s3 => ?_)
      exact ⟨Or.inr rfl, k1 b h3 (hF.tr f3) (fun p hp => by rw [s3 p hp, hF.1 25 (by decide)])⟩
    · refine And.intro (fun _ => ?_) (fun c => absurd rfl c)
      refine m_load (fun h3 f3 s3 => ?_)
      exact ⟨Or.inl rfl, k0 b h3 (hF.tr f3) (fun p hp => by rw [s3 p hp, hF.1 25 (by decide)])⟩
  | succ r ih =>
    intro hr T g hF hM hB hk k1 k0
    rw [gP, cd_w2, cd_m2] at k1 k0
    have lw : c / 64 ^ r % 64 < 64 := Nat.mod_lt _ (by decide)
    rw [nI_pred]
    refine at_wp [6, 22] 60 (Nat.le_of_ble_eq_true rfl) rfl ?_
    refine And.intro (fun c => absurd c (nI_pos (by omega))) (fun _ => ?_)
    refine And.intro (fun c => absurd c (by decide)) (fun _ => ?_)
    show qCall _ 102 [.ref 15, .int (nI c >>> ((Int32.ofInt 6 * nI r) &&& 31) &&& Int32.ofInt 63)] g _
    rw [cd_sh hc r (by omega)]
    refine m_mayWord lw hM hB (fun b => ?_) (fun b => ?_)
    · rw [b, Bool.true_and] at k1 k0
      have ok := b
      unfold gok at ok
      simp only [Bool.and_eq_true, decide_eq_true_eq] at ok
      have ht : c / 64 ^ r % 64 / 4 % 4 < T 0 0 := ok.1.1.2
      have ls : c / 64 ^ r % 64 % 4 < 4 := Nat.mod_lt _ (by decide)
      have go := ih (by omega) (glrn T (c / 64 ^ r % 64)) _ (hF.I (by decide)) (hM.kn hB ht ls) (hB.kn ht ls) (by rw [glrn_o (by decide)]; exact hk) k1 k0
      rw [dec1] at go
      exact go
    · rw [b, Bool.false_and] at k0
      show qAt (d + 5, 103, some .boolean, q0, K) 6 [some (.ref 15), some (.int (nI k)), some (.int (nI m)), some (.int (nI c)), some (.int 0), some (.int (nI r + Int32.ofInt (-1)))] [] g
      refine at_wp [22] 20 (Nat.le_of_ble_eq_true rfl) rfl ?_
      refine And.intro (fun _ => l_ipF hF (k0 rfl)) (fun _ => ?_)
      refine And.intro (fun _ => ?_) (fun c => absurd rfl c)
      exact l_ipF hF (k0 rfl)
theorem m_isPlan {k m c : Nat} (hm : m ≤ 3) (hc : c < 64 ^ m) (hM : RMc h S) (hB : GB S) (hk : k < S 0 0) (k1 : gP k m S c = true → ∀ h3, Fr [18] h h3 → (∀ p, p < 4 → h3.1 18 p = h.1 25 p) → K (some (.int 1)) h3) (k0 : gP k m S c = false → ∀ h3, Fr [18] h h3 → (∀ p, p < 4 → h3.1 18 p = h.1 25 p) → K (some (.int 0)) h3) : qCall (d + 6) 103 [.ref 15, .int (nI k), .int (nI m), .int (nI c)] h K := by
  have hc2 : c < 262144 := Nat.lt_of_lt_of_le hc (Nat.pow_le_pow_right (n := 64) (by decide) hm)
  refine call_wp (n := 20) (cut := [6]) _ (by decide) (Nat.lt_succ_self _) rfl rfl (Nat.le_of_ble_eq_true rfl) rfl ?_
  exact l_isPlan hm hc2 m (Nat.le_refl _) S h Fr.rf hM hB hk (by rw [Nat.mod_eq_of_lt hc]; exact k1) (by rw [Nat.mod_eq_of_lt hc]; exact k0)
end QIP
