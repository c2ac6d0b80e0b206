/-! ## audiences: the draws, the class -/
def gns (s : Nat) : Nat := (1103515245 * s + 12345) % 2147483648
def gdr (s m : Nat) : Nat := s / 65536 % m
theorem gns_lt (s : Nat) : gns s < 2147483648 := Nat.mod_lt _ (Nat.le_of_ble_eq_true rfl)
theorem lN_c (n : Nat) : Int64.ofInt (n : Int) = lN n := Int64.ofInt_eq_ofNat
theorem lN_and {x : Nat} (hx : x < 9223372036854775808) : lN x &&& Int64.ofInt 2147483647 = lN (x % 2147483648) := by
  refine Int64.toBitVec.inj ?_
  refine BitVec.eq_of_toNat_eq ?_
  rw [Int64.toBitVec_and, BitVec.toNat_and]
  show (BitVec.ofNat 64 x).toNat &&& 2147483647 = (BitVec.ofNat 64 (x % 2147483648)).toNat
  rw [BitVec.toNat_ofNat, BitVec.toNat_ofNat, Nat.mod_eq_of_lt (by omega), Nat.mod_eq_of_lt (by omega)]
  exact Nat.and_two_pow_sub_one_eq_mod x 31
theorem seed_x {s : Nat} (hs : s < 2147483648) : Int64.ofInt 1103515245 * (nI s).toInt64 + Int64.ofInt 12345 = lN (1103515245 * s + 12345) := by
  rw [nI_l (by omega), show Int64.ofInt 1103515245 = lN 1103515245 from lN_c 1103515245, show Int64.ofInt 12345 = lN 12345 from lN_c 12345, lN_mul, lN_add]
def gst (P : Nat) (T : gS) (s : Nat) : gS × Nat := (if gcan T (gdr (gns s) P) (gdr (gns (gns s)) P) (gdr (gns (gns (gns s))) 4) then gpass T (gdr (gns s) P) (gdr (gns (gns s)) P) (gdr (gns (gns (gns s))) 4) else T, gns (gns (gns s)))
def gau (S : gS) (s : Nat) : Nat → gS × Nat
  | 0 => (S, s)
  | k + 1 => gst (S 0 0) (gau S s k).1 (gau S s k).2
theorem gpass_52 (S : gS) (f t s : Nat) : gpass S f t s 5 2 = S 5 2 := by
  unfold gpass
  rw [if_neg (by omega), if_neg (by omega), if_neg (by omega), if_neg (by omega), if_neg (by omega)]
theorem gau_ok {S : gS} {s : Nat} (hB : GB S) (h0 : 0 < S 0 0) (hs : s < 2147483648) : ∀ n, GB (gau S s n).1 ∧ (∀ a, a < 4 → (gau S s n).1 a = S a) ∧ (gau S s n).1 5 2 = S 5 2 ∧ (gau S s n).2 < 2147483648
  | 0 => ⟨hB, fun _ _ => rfl, rfl, hs⟩
  | n + 1 => by
    obtain ⟨b1, b2, b3, b4⟩ := gau_ok hB h0 hs n
    rw [gau]
    unfold gst
    refine ⟨?_, ?_, ?_, gns_lt _⟩
    · dsimp only
      split
      · exact gpass_B b1 (by rw [b2 0 (by decide)]; exact Nat.mod_lt _ h0) (by rw [b2 0 (by decide)]; exact Nat.mod_lt _ h0) (Nat.mod_lt _ (by decide))
      · exact b1
    · intro a ha
      dsimp only
      split
      · rw [gpass_S _ _ _ _ a ha]
        exact b2 a ha
      · exact b2 a ha
    · dsimp only
      split
      · rw [gpass_52]
        exact b3
      · exact b3
def aAud (S : gS) (t s w : Int32) : Int32 := if 1 ≤ t ∧ t ≤ 60 ∧ 0 ≤ s ∧ 0 ≤ w ∧ w ≤ 2 then (if S 0 0 = 0 then -103 else if w = 0 then nI (gpop ((gau S s.toNatClampNeg t.toNatClampNeg).1 5 0)) else if w = 1 then nI (ginfN (gau S s.toNatClampNeg t.toNatClampNeg).1 (S 0 0)) else nI (gau S s.toNatClampNeg t.toNatClampNeg).2) else -102
section QAU
variable {d : Nat} {h : qH} {K : qK} {S : gS}
theorem c_nextSeed {s : Nat} (hs : s < 2147483648) (hk : K (some (.int (nI (gns s)))) h) : qCall (d + 1) 71 [.int (nI s)] h K := by
  refine call_wp (n := 30) (cut := []) _ (by decide) (Nat.lt_succ_self _) rfl rfl (Nat.le_of_ble_eq_true rfl) rfl ?_
  refine And.intro (by decide) ?_
  refine kI hk ?_
  rw [seed_x hs, show Int64.ofInt 2147483648 = lN 2147483648 from lN_c 2147483648, pk_lRem (by omega) (by decide) (by decide), lN_i]
  rfl
theorem c_drawn {s m : Nat} (hs : s < 2147483648) (h0 : 0 < m) (hm : m < 10) (hk : K (some (.int (nI (gdr s m)))) h) : qCall (d + 1) 72 [.int (nI s), .int (nI m)] h K := by
  refine call_wp (n := 30) (cut := []) _ (by decide) (Nat.lt_succ_self _) rfl rfl (Nat.le_of_ble_eq_true rfl) rfl ?_
  refine And.intro (fun c => absurd c (nI_nle h0 (by omega))) (fun _ => ?_)
  refine And.intro (by decide) ?_
  refine And.intro (nI_ne0 h0 (by omega)) ?_
  refine kI hk ?_
  unfold gdr
  rw [show Int32.ofInt 65536 = nI 65536 by decide +kernel, pk_div (by omega) (by decide) (by decide), pk_rem (by omega) h0 (by omega)]
def auI (h : qH) (S : gS) (s n : Nat) (h1 : qH) : Prop := Fr [11, 12, 13] h h1 ∧ RS 11 h1 (gau S s n).1
theorem l_ha {s N : Nat} (hC : RC h S) (hB : GB S) (h0 : 0 < S 0 0) (hs : s < 2147483648) (hN : N < 100) (hk : ∀ h1, auI h S s N h1 → K (some (.int (nI (gau S s N).2))) h1) : ∀ m n, n + m = N → ∀ h1 x y z, auI h S s n h1 → qAt (d + 6, 70, some .int, q0, K) 4 [some (.ref 0), some (.int (nI N)), some (.int (nI s)), some (.int (nI (gau S s n).2)), some (.int (nI n)), x, y, z] [] h1 := by
  have hn0 := hB.1
  intro m
  induction m with
  | zero =>
    intro n hn h1 x y z hc
    have hn : n = N := by omega
    subst hn
    refine at_wp [] 12 (Nat.le_of_ble_eq_true rfl) rfl ?_
    refine And.intro (fun _ => ?_) (fun c => absurd (nI_le (Nat.le_refl _) (by omega)) c)
    exact hk h1 hc
  | succ m ih =>
    intro n hn h1 x y z hc
    obtain ⟨b1, b2, b3, b4⟩ := gau_ok hB h0 hs n
    obtain ⟨c1, c2⟩ := hc
    have e : h1.1 3 0 = nI (S 0 0) := by rw [c1.1 3 (by decide)]; exact hC.1
    have hC1 : RC h1 (gau S s n).1 := (hC.fr c1 (by decide) (by decide)).S (fun a ha => b2 a (by omega))
    have e0 : (gau S s n).1 0 0 = S 0 0 := by rw [b2 0 (by decide)]
    refine at_wp [4] 90 (Nat.le_of_ble_eq_true rfl) rfl ?_
    refine And.intro (fun c => absurd c (nI_ge (by omega) (by omega))) (fun _ => ?_)
    refine c_nextSeed b4 ?_
    show qCall _ 72 [.int (nI _), .int (h1.1 3 0)] h1 _
    rw [e]
    refine c_drawn (gns_lt _) h0 (by omega) ?_
    refine c_nextSeed (gns_lt _) ?_
    show qCall _ 72 [.int (nI _), .int (h1.1 3 0)] h1 _
    rw [e]
    refine c_drawn (gns_lt _) h0 (by omega) ?_
    refine c_nextSeed (gns_lt _) ?_
    refine c_drawn (m := 4) (gns_lt _) (by decide) (by decide) ?_
    refine c_canTell (S := (gau S s n).1) (Or.inr rfl) c2 b1 (by rw [e0]; exact Nat.mod_lt _ h0) (by rw [e0]; exact Nat.mod_lt _ h0) (Nat.mod_lt _ (by decide)) (fun g => ?_) (fun g => ?_)
    · refine And.intro (fun c => absurd c (by decide)) (fun _ => ?_)
      refine c_pass (S := (gau S s n).1) (Or.inr rfl) hC1 c2 b1 (by rw [e0]; exact Nat.mod_lt _ h0) (by rw [e0]; exact Nat.mod_lt _ h0) (Nat.mod_lt _ (by decide)) (fun h2 hf hR => ?_)
      have := ih (n + 1) (by omega) h2 (some (.int (nI (gdr (gns (gau S s n).2) (S 0 0))))) (some (.int (nI (gdr (gns (gns (gau S s n).2)) (S 0 0))))) (some (.int (nI (gdr (gns (gns (gns (gau S s n).2))) 4)))) ⟨c1.tr (hf.mono (by decide)), by rw [gau]; unfold gst; rw [if_pos g]; exact hR⟩
      rw [← nI_1] at this
      exact this
    · refine And.intro (fun _ => ?_) (fun c => absurd rfl c)
      have := ih (n + 1) (by omega) h1 (some (.int (nI (gdr (gns (gau S s n).2) (S 0 0))))) (some (.int (nI (gdr (gns (gns (gau S s n).2)) (S 0 0))))) (some (.int (nI (gdr (gns (gns (gns (gau S s n).2))) 4)))) ⟨c1, by rw [gau]; unfold gst; rw [if_neg (by rw [g]; decide)]; exact c2⟩
      rw [← nI_1] at this
      exact this
theorem c_holdAudiences {s N : Nat} (hC : RC h S) (hR : RS 11 h S) (hB : GB S) (h0 : 0 < S 0 0) (hs : s < 2147483648) (hN : N < 100) (hk : ∀ h1, auI h S s N h1 → K (some (.int (nI (gau S s N).2))) h1) : qCall (d + 7) 70 [.ref 0, .int (nI N), .int (nI s)] h K := by
  refine call_wp (n := 20) (cut := [4]) _ (by decide) (Nat.lt_succ_self _) rfl rfl (Nat.le_of_ble_eq_true rfl) rfl ?_
  exact l_ha hC hB h0 hs hN hk N 0 (by omega) h _ _ _ ⟨Fr.rf, hR⟩
end QAU
