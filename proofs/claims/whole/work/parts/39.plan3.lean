/-! ## plans: the reference's words -/
theorem w_d16 : ∀ w, w < 64 → nI w / Int32.ofInt 16 = nI (w / 16) := by decide +kernel
theorem w_d4 : ∀ w, w < 64 → nI w / Int32.ofInt 4 - nI w / Int32.ofInt 4 / Int32.ofInt 4 * Int32.ofInt 4 = nI (w / 4 % 4) := by decide +kernel
theorem w_m4 : ∀ w, w < 64 → nI w - nI w / Int32.ofInt 4 * Int32.ofInt 4 = nI (w % 4) := by decide +kernel
section QMW
variable {d : Nat} {h : qH} {K : qK} {S : gS}
theorem m_mayWord {w : Nat} (hw : w < 64) (hM : RMc h S) (hB : GB S) (k1 : gok S w = true → K (some (.int 1)) (qI h 18 (w / 4 % 4) (h.1 18 (w / 4 % 4) ||| (1 <<< (nI (w % 4) &&& 31))))) (k0 : gok S w = false → K (some (.int 0)) h) : qCall (d + 5) 102 [.ref 15, .int (nI w)] h K := by
  have hn0 := hB.1
  have ls : w % 4 < 4 := Nat.mod_lt _ (by decide)
  have lt : w / 4 % 4 < 4 := Nat.mod_lt _ (by decide)
  have ect : (nI (w / 4 % 4)).toNatClampNeg = w / 4 % 4 := nI_clamp (by omega)
  refine call_wp (n := 90) (cut := []) _ (by decide) (Nat.lt_succ_self _) rfl rfl (Nat.le_of_ble_eq_true rfl) rfl ?_
  refine And.intro (by decide) (And.intro (by decide) (And.intro (by decide) (And.intro (by decide) ?_)))
  rw [w_d16 w hw, w_d4 w hw, w_m4 w hw]
  refine m_isOne hM hB (fun a ha ea => ?_) (fun hne => ?_)
  · rw [nI_eq (by omega) (by omega)] at ea
    refine And.intro (fun c => absurd c (by decide)) (fun _ => ?_)
    refine m_isOne hM hB (fun b hb eb => ?_) (fun hne => ?_)
    · rw [nI_eq (by omega) (by omega)] at eb
      refine And.intro (fun c => absurd c (by decide)) (fun _ => ?_)
      refine m_canTell hM hB (by omega) (by omega) ls (fun b1 => ?_) (fun b1 => ?_)
      · refine And.intro (fun c => absurd c (by decide)) (fun _ => ?_)
        refine m_isHanging hM hB (by omega) (by omega) ls (fun bh => ?_) (fun bh => ?_)
        · refine And.intro (fun c => absurd c (by decide)) (fun _ => ?_)
          exact ⟨Or.inl rfl, k0 (by unfold gok; rw [bh]; simp)⟩
        · refine And.intro (fun _ => ?_) (fun c => absurd rfl c)
          refine And.intro (vp_in_nI (by omega) (by decide)) ?_
          refine And.intro (vp_in_nI (by omega) (by decide)) ?_
          refine ⟨Or.inr rfl, ?_⟩
          show K (some (.int 1)) (qI h 18 (nI (w / 4 % 4)).toNatClampNeg (h.1 18 (nI (w / 4 % 4)).toNatClampNeg ||| (1 <<< (nI (w % 4) &&& 31))))
          rw [ect]
          exact k1 (by
            unfold gok
            rw [b1, bh, decide_eq_true (show w / 16 < S 0 0 by omega), decide_eq_true (show w / 4 % 4 < S 0 0 by omega)]
            rfl)
      · refine And.intro (fun _ => ?_) (fun c => absurd rfl c)
        exact ⟨Or.inl rfl, k0 (by unfold gok; rw [b1]; simp)⟩
    · refine And.intro (fun _ => ?_) (fun c => absurd rfl c)
      exact ⟨Or.inl rfl, k0 (by unfold gok; rw [show decide (w / 4 % 4 < S 0 0) = false from decide_eq_false (fun z => hne _ z rfl)]; simp)⟩
  · refine And.intro (fun _ => ?_) (fun c => absurd rfl c)
    exact ⟨Or.inl rfl, k0 (by unfold gok; rw [show decide (w / 16 < S 0 0) = false from decide_eq_false (fun z => hne _ z rfl)]; simp)⟩
end QMW
