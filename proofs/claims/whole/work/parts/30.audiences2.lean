/-! ## audiences: the class's answer, the reference's draws -/
theorem RX.fr {h h' : qH} {S : gS} (hX : RX h S) (f : Fr [11, 12, 13] h h') : RX h' S := by
  obtain ⟨x1, x2, x3, x4, x5, x6, x7, x8⟩ := hX
  unfold RX
  rw [f.1 0 (by decide), f.1 1 (by decide), f.1 2 (by decide)]
  exact ⟨x1.fr f (by decide) (by decide), x2.fr f (by decide) (by decide) (by decide), fun z => (x3 z).fr f (by decide) (by decide) (by decide), x4, x5, x6, x7, x8⟩
theorem t_60 {t : Int32} (h1 : 1 ≤ t) (h2 : t ≤ 60) : ∃ n, t = nI n ∧ 1 ≤ n ∧ n ≤ 60 := by
  rcases pk_ix t (n := 61) (by decide) with c | c | ⟨n, hn, e⟩
  · exact absurd (Int32.lt_of_lt_of_le c (show (0 : Int32) ≤ 1 by decide)) (Int32.not_lt.mpr h1)
  · exact absurd (Int32.le_trans c h2) (by decide)
  · refine ⟨n, e, ?_, by omega⟩
    rcases Nat.eq_zero_or_pos n with z | z
    · rw [e, z] at h1
      exact absurd h1 (by decide)
    · exact z
theorem t_nn {s : Int32} (h : 0 ≤ s) : ∃ n, s = nI n ∧ n < 2147483648 := ⟨s.toNatClampNeg, (Int32.ofNat_toNatClampNeg s h).symm, Int32.toNatClampNeg_lt s⟩
theorem aAud_ok {S : gS} {n s : Nat} {w : Int32} (h1 : 1 ≤ n) (h2 : n ≤ 60) (hs : s < 2147483648) (w0 : 0 ≤ w) (w2 : w ≤ 2) : aAud S (nI n) (nI s) w = (if S 0 0 = 0 then -103 else if w = 0 then nI (gpop ((gau S s n).1 5 0)) else if w = 1 then nI (ginfN (gau S s n).1 (S 0 0)) else nI (gau S s n).2) := by
  unfold aAud
  rw [nI_clamp (show n < 2 ^ 31 by omega), nI_clamp (show s < 2 ^ 31 by omega)]
  exact if_pos ⟨nI_le (a := 1) h1 (by omega), nI_le (b := 60) h2 (by omega), nI_pos' (by omega), w0, w2⟩
section QAU2
variable {d : Nat} {h : qH} {K : qK} {S : gS}
theorem x_audiences {t s w : Int32} (hX : RX h S) (hG : RG S) (hk : ∀ h', Fr lX h h' → RX h' S → K (some (.int (aAud S t s w))) h') : qCall (d + 8) 60 [.ref 0, .int t, .int s, .int w] h K := by
  have hB := hG.1
  have hn0 := hB.1
  have e := hX.1.1
  have bad : ¬ (1 ≤ t ∧ t ≤ 60 ∧ 0 ≤ s ∧ 0 ≤ w ∧ w ≤ 2) → K (some (.int (-102))) h := fun z => by
    have := hk h Fr.rf hX
    unfold aAud at this
    rw [if_neg z] at this
    exact this
  refine call_wp (n := 60) (cut := []) _ (by decide) (Nat.lt_succ_self _) rfl rfl (Nat.le_of_ble_eq_true rfl) rfl ?_
  refine And.intro (fun c1 => bad (fun z => absurd z.1 (Int32.not_le.mpr c1))) (fun c1 => ?_)
  refine And.intro (fun c2 => bad (fun z => absurd z.2.1 (Int32.not_le.mpr c2))) (fun c2 => ?_)
  refine And.intro (fun c3 => bad (fun z => absurd z.2.2.1 (Int32.not_le.mpr c3))) (fun c3 => ?_)
  refine And.intro (fun c4 => bad (fun z => absurd z.2.2.2.1 (Int32.not_le.mpr c4))) (fun c4 => ?_)
  refine And.intro (fun c5 => ?_) (fun c5 => bad (fun z => c5 z.2.2.2.2))
  obtain ⟨n, rfl, n1, n2⟩ := t_60 (Int32.not_lt.mp c1) (Int32.not_lt.mp c2)
  obtain ⟨s, rfl, s1⟩ := t_nn (Int32.not_lt.mp c3)
  rw [aAud_ok n1 n2 s1 (Int32.not_lt.mp c4) c5] at hk
  refine And.intro (fun c6 => ?_) (fun c6 => ?_)
  · have c6 : h.1 3 0 = nI 0 := c6
    rw [e, nI_eq (by omega) (by omega)] at c6
    simp only [if_pos c6] at hk
    exact hk h Fr.rf hX
  · have c6 : ¬ h.1 3 0 = nI 0 := c6
    rw [e, nI_eq (by omega) (by omega)] at c6
    simp only [if_neg c6] at hk
    refine c_copy_11 (fun h1 hc => ?_)
    obtain ⟨z1, z2, z3, z4, z5⟩ := hc
    have r11 : RS 11 h1 S := RS.copy hB hG.2.1 hX.2.1 z2 z3 z4 z5
    have hC1 : RC h1 S := hX.1.fr z1 (by decide) (by decide)
    refine c_holdAudiences hC1 r11 hB (by omega) s1 (by omega) (fun h2 hc2 => ?_)
    obtain ⟨y1, y2⟩ := hc2
    have f2 : Fr [11, 12, 13] h h2 := (z1.mono (by decide)).tr y1
    have hX2 := hX.fr f2
    have hk := hk h2 (f2.mono (by decide)) hX2
    obtain ⟨b1, b2, b3, b4⟩ := gau_ok hB (show 0 < S 0 0 by omega) s1 n
    refine And.intro (fun c7 => ?_) (fun c7 => ?_)
    · have c7 : w = 0 := c7
      rw [if_pos c7] at hk
      show qCall _ 135 [.int (h2.1 11 1)] h2 _
      rw [y2.2.1]
      exact c_bitCount (by have := b1.2.2.2.1; omega) hk
    · have c7 : ¬ w = 0 := c7
      rw [if_neg c7] at hk
      refine And.intro (fun c8 => ?_) (fun c8 => ?_)
      · have c8 : w = 1 := c8
        rw [if_pos c8, ← b2 0 (by decide)] at hk
        exact c_howManyInfer (S := (gau S s n).1) (Or.inr rfl) (hX2.1.S (fun a ha => b2 a (by omega))) y2 b1 hk
      · have c8 : ¬ w = 1 := c8
        rw [if_neg c8] at hk
        exact hk
theorem m_draw {s m : Nat} (hs : s < 2147483648) (h0 : 0 < m) (hm : m < 10) (hk : K (some (.int (nI (gdr (gns s) m)))) (qJ h 15 21 (lN (gns s)))) : qCall (d + 1) 117 [.ref 15, .int (nI m)] (qJ h 15 21 (lN s)) K := by
  have g := gns_lt s
  have e1 : Int64.ofInt 1103515245 * lN s + Int64.ofInt 12345 &&& Int64.ofInt 2147483647 = lN (gns s) := by
    rw [show Int64.ofInt 1103515245 = lN 1103515245 from lN_c 1103515245, show Int64.ofInt 12345 = lN 12345 from lN_c 12345, lN_mul, lN_add, lN_and (by omega)]
    rfl
  refine call_wp (n := 40) (cut := []) _ (by decide) (Nat.lt_succ_self _) rfl rfl (Nat.le_of_ble_eq_true rfl) rfl ?_
  show (¬ Int64.ofInt 65536 = 0) ∧ (¬ (nI m).toInt64 = 0) ∧ K (some (.int (((qJ (qJ h 15 21 (lN s)) 15 21 (Int64.ofInt 1103515245 * (qJ h 15 21 (lN s)).2 15 21 + Int64.ofInt 12345 &&& Int64.ofInt 2147483647)).2 15 21 / Int64.ofInt 65536 - (qJ (qJ h 15 21 (lN s)) 15 21 (Int64.ofInt 1103515245 * (qJ h 15 21 (lN s)).2 15 21 + Int64.ofInt 12345 &&& Int64.ofInt 2147483647)).2 15 21 / Int64.ofInt 65536 / (nI m).toInt64 * (nI m).toInt64).toInt32))) (qJ (qJ h 15 21 (lN s)) 15 21 (Int64.ofInt 1103515245 * (qJ h 15 21 (lN s)).2 15 21 + Int64.ofInt 12345 &&& Int64.ofInt 2147483647))
  rw [qJ_self, qJ_self, e1, qJ_qJ, nI_l (by omega), show Int64.ofInt 65536 = lN 65536 from lN_c 65536, pk_lDiv (by omega) (by decide) (by decide), pk_lRem (by omega) h0 (by omega), lN_i]
  refine ⟨by decide, fun z => ?_, hk⟩
  have := (pk_lEQ (a := m) (b := 0) (by omega) (by omega)).mp z
  omega
end QAU2
