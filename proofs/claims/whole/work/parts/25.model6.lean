/-! ## the reference: letters, what is forbidden, questions -/
theorem byte_ok : ∀ j, j < 127 → vp_nar .byte ((nI j).toInt8.toInt32) = nI j := by decide +kernel
section QM6
variable {d : Nat} {h : qH} {K : qK} {S : gS}
theorem m_letter {c : Int32} (hM : RM h S) (hG : RG S) (hk : ∀ h', Fr lM h h' → RM h' (uLetter S c) → K (some (.int (aLetter S c))) h') : qCall (d + 2) 76 [.ref 15, .int c] h K := by
  have e := hM.2.2.1
  have hl := hG.2.2.2.2.2.1
  unfold aLetter uLetter at hk
  refine call_wp (n := 60) (cut := []) _ (by decide) (Nat.lt_succ_self _) rfl rfl (Nat.le_of_ble_eq_true rfl) rfl ?_
  refine m_within (lo := 32) (hi := 126) (by decide) (by decide) (fun j h1 h2 ej => ?_) (fun hj => ?_)
  · subst ej
    have hc : ¬ (nI j < 32 ∨ 126 < nI j) := fun z => z.elim (fun w => nI_nlt (b := 32) h1 (by omega) w) (fun w => nI_nlt (a := 126) h2 (by decide) w)
    simp only [if_neg hc] at hk
    refine And.intro (fun c => absurd c (by decide)) (fun _ => ?_)
    refine And.intro (fun c3 => ?_) (fun c3 => ?_)
    · have c3 : h.1 15 16 = nI 22 := c3
      rw [e, nI_eq (by omega) (by omega)] at c3
      have hc2 : 22 ≤ S 10 0 := by omega
      simp only [if_pos hc2] at hk
      exact hk h Fr.rf hM
    · have c3 : ¬ h.1 15 16 = nI 22 := c3
      rw [e, nI_eq (by omega) (by omega)] at c3
      have hc2 : ¬ 22 ≤ S 10 0 := by omega
      simp only [if_neg hc2] at hk
      have e1 : (nI (S 10 0)).toNatClampNeg = S 10 0 := nI_clamp (by omega)
      refine And.intro (by show vp_in (h.1 15 16) 22; rw [e]; exact vp_in_nI (by omega) (by decide)) ?_
      show K (some (.int ((qI (qI h 24 (h.1 15 16).toNatClampNeg (vp_nar .byte ((nI j).toInt8.toInt32))) 15 16 ((qI h 24 (h.1 15 16).toNatClampNeg (vp_nar .byte ((nI j).toInt8.toInt32))).1 15 16 + 1)).1 15 16))) (qI (qI h 24 (h.1 15 16).toNatClampNeg (vp_nar .byte ((nI j).toInt8.toInt32))) 15 16 ((qI h 24 (h.1 15 16).toNatClampNeg (vp_nar .byte ((nI j).toInt8.toInt32))).1 15 16 + 1))
      have e2 : (qI h 24 (h.1 15 16).toNatClampNeg (vp_nar .byte ((nI j).toInt8.toInt32))).1 15 16 = nI (S 10 0) := by rw [qI_get, if_neg (by omega)]; exact e
      rw [e2, byte_ok j (by omega), e, e1, nI_1, qI_get, if_pos ⟨rfl, rfl⟩]
      have hf : Fr [15, 24] h (qI (qI h 24 (S 10 0) (nI j)) 15 16 (nI (S 10 0 + 1))) := (Fr.rf.I (by decide)).I (by decide)
      refine hk _ (hf.mono (by decide)) ?_
      obtain ⟨x1, x2, x3, x4, x5, ⟨kf, kc, k1, k2, k3, k4, k5⟩, x7⟩ := hM
      have so : ∀ a, a ≠ 10 → a ≠ 11 → sS (sS S 11 (S 10 0) (nI j).toNatClampNeg) 10 0 (S 10 0 + 1) a = S a := fun a h1 h2 => by rw [sS_ne h1, sS_ne h2]
      have h15 : ∀ k, k ≠ 16 → (qI (qI h 24 (S 10 0) (nI j)) 15 16 (nI (S 10 0 + 1))).1 15 k = h.1 15 k := fun k hk => by rw [qI_get, if_neg (fun z => hk z.2), qI_get, if_neg (fun z => by omega)]
      have hs : ∀ a, a ≠ 15 → a ≠ 24 → (qI (qI h 24 (S 10 0) (nI j)) 15 16 (nI (S 10 0 + 1))).1 a = h.1 a := fun a h1 h2 => hf.1 a (by simp [h1, h2])
      unfold RM RMk
      rw [so 0 (by decide) (by decide), so 12 (by decide) (by decide), so 13 (by decide) (by decide), so 14 (by decide) (by decide), so 15 (by decide) (by decide), so 16 (by decide) (by decide), so 17 (by decide) (by decide), so 18 (by decide) (by decide), so 19 (by decide) (by decide), h15 15 (by decide), h15 0 (by decide), h15 22 (by decide), h15 23 (by decide), h15 24 (by decide), h15 25 (by decide), h15 26 (by decide), h15 27 (by decide), h15 28 (by decide), hs 26 (by decide) (by decide), hs 27 (by decide) (by decide), hs 28 (by decide) (by decide), hs 29 (by decide) (by decide), hs 30 (by decide) (by decide)]
      refine ⟨(x1.h (fun k hk => h15 k (by omega)) (fun a h1 h2 => hs a (by omega) (by omega))).S (fun a ha => so a (by omega) (by omega)), x2, ?_, fun i hi => ?_, x5, ⟨kf, kc, k1, k2, k3, k4, k5⟩, x7⟩
      · rw [sS_eq]
        rfl
      · rw [sS_eq] at hi
        rw [show sS (sS S 11 (S 10 0) (nI j).toNatClampNeg) 10 0 (S 10 0 + 1) 11 = sS S 11 (S 10 0) (nI j).toNatClampNeg 11 from sS_ne (by decide)]
        show (if 24 = 15 ∧ i = 16 then nI (S 10 0 + 1) else if 24 = 24 ∧ i = S 10 0 then nI j else h.1 24 i) = nI (if 11 = 11 ∧ i = S 10 0 then (nI j).toNatClampNeg else S 11 i)
        rw [if_neg (by omega)]
        by_cases ei : i = S 10 0
        · rw [if_pos ⟨rfl, ei⟩, if_pos ⟨rfl, ei⟩, nI_clamp (by omega)]
        · rw [if_neg (fun z => ei z.2), if_neg (fun z => ei z.2)]
          exact x4 i (by omega)
  · have hc : c < 32 ∨ 126 < c := by
      rcases Int32.lt_or_le c 32 with z | z
      · exact Or.inl z
      · rcases Int32.lt_or_le 126 c with w | w
        · exact Or.inr w
        · exfalso
          have h0 : ¬ c < 0 := Int32.not_lt.mpr (Int32.le_trans (by decide) z)
          obtain ⟨j, hj31, rfl⟩ := nI_of h0
          have z' : nI 32 ≤ nI j := z
          have w' : nI j ≤ nI 126 := w
          rw [nI_leI (by omega) (by omega)] at z' w'
          exact hj j z' w' rfl
    simp only [if_pos hc] at hk
    refine And.intro (fun _ => ?_) (fun c => absurd rfl c)
    exact hk h Fr.rf hM
theorem m_blank (hM : RM h S) (hk : ∀ h', Fr lM h h' → RM h' (sS S 10 0 0) → K (some (.int (nI (S 10 0)))) h') : qCall (d + 1) 77 [.ref 15] h K := by
  refine call_wp (n := 40) (cut := []) _ (by decide) (Nat.lt_succ_self _) rfl rfl (Nat.le_of_ble_eq_true rfl) rfl ?_
  have hf : Fr [15] h (qI h 15 16 0) := Fr.rf.I (by decide)
  have hk2 := hk (qI h 15 16 0) (hf.mono (by decide)) ?_
  · rw [← hM.2.2.1] at hk2
    exact hk2
  · obtain ⟨x1, x2, x3, x4, x5, ⟨kf, kc, k1, k2, k3, k4, k5⟩, x7⟩ := hM
    have so : ∀ a, a ≠ 10 → sS S 10 0 0 a = S a := fun a h1 => sS_ne h1
    have h15 : ∀ k, k ≠ 16 → (qI h 15 16 0).1 15 k = h.1 15 k := fun k hk => by rw [qI_get, if_neg (fun z => hk z.2)]
    have hs : ∀ a, a ≠ 15 → (qI h 15 16 0).1 a = h.1 a := fun a h1 => hf.1 a (by simp [h1])
    unfold RM RMk
    rw [so 0 (by decide), so 11 (by decide), so 12 (by decide), so 13 (by decide), so 14 (by decide), so 15 (by decide), so 16 (by decide), so 17 (by decide), so 18 (by decide), so 19 (by decide), h15 15 (by decide), h15 0 (by decide), h15 22 (by decide), h15 23 (by decide), h15 24 (by decide), h15 25 (by decide), h15 26 (by decide), h15 27 (by decide), h15 28 (by decide), hs 24 (by decide), hs 26 (by decide), hs 27 (by decide), hs 28 (by decide), hs 29 (by decide), hs 30 (by decide), sS_eq]
    exact ⟨(x1.h (fun k hk => h15 k (by omega)) (fun a h1 h2 => hs a (by omega))).S (fun a ha => so a (by omega)), x2, rfl, fun i hi => by omega, x5, ⟨kf, kc, k1, k2, k3, k4, k5⟩, x7⟩
theorem RMc.f5 {v j b : Nat} (hM : RMc h S) (hj : (j = 7 ∧ b = 2) ∨ (j = 11 ∧ b = 4 ∧ v = 0)) : RMc (qI h 15 j (nI v)) (sS S 5 b v) := by
  obtain ⟨m1, m2, m3, m4, m5, m6, m7, m8, m9⟩ := hM
  have so : ∀ a, a ≠ 5 → sS S 5 b v a = S a := fun a h1 => sS_ne h1
  have hs : ∀ a, a ≠ 15 → (qI h 15 j (nI v)).1 a = h.1 a := fun a h1 => qI_ne h1
  have h15 : ∀ k, k ≠ j → (qI h 15 j (nI v)).1 15 k = h.1 15 k := fun k hk => by rw [qI_get, if_neg (fun z => hk z.2)]
  have s5 : ∀ y, y ≠ b → sS S 5 b v 5 y = S 5 y := fun y hy => sS_nb hy
  have ej : (qI h 15 j (nI v)).1 15 j = nI v := by rw [qI_get, if_pos ⟨rfl, rfl⟩]
  have es : sS S 5 b v 5 b = v := sS_eq
  unfold RMc
  rw [so 0 (by decide), so 1 (by decide), so 2 (by decide), so 3 (by decide), so 4 (by decide), so 6 (by decide), so 7 (by decide), so 8 (by decide), so 9 (by decide), hs 16 (by decide), hs 17 (by decide), hs 18 (by decide), hs 19 (by decide), hs 20 (by decide), hs 21 (by decide), hs 22 (by decide), hs 23 (by decide)]
  rcases hj with ⟨rfl, rfl⟩ | ⟨rfl, rfl, rfl⟩
  · rw [h15 1 (by decide), h15 8 (by decide), h15 9 (by decide), h15 10 (by decide), h15 11 (by decide), s5 0 (by decide), s5 1 (by decide), s5 3 (by decide), s5 4 (by decide), ej, es]
    exact ⟨m1, m2, m3, rfl, m5, m6, m7, m8, m9⟩
  · rw [h15 1 (by decide), h15 7 (by decide), h15 8 (by decide), h15 9 (by decide), h15 10 (by decide), s5 0 (by decide), s5 1 (by decide), s5 2 (by decide), s5 3 (by decide), ej, es]
    exact ⟨m1, m2, m3, m4, m5, m6, m7, rfl, fun i hi => by omega⟩
theorem m_forbid {k : Int32} {is : Bool} (hM : RM h S) (hG : RG S) (hk : ∀ h', Fr lM h h' → RM h' (uForbid S k is) → K (some (.int (aForbid S k))) h') : qCall (d + 3) 95 [.ref 15, .int k, .int (b2 is)] h K := by
  have hB := hG.1
  have h52 := hB.2.2.2.2.2
  have e7 := hM.1.2.2.2.1
  unfold aForbid uForbid at hk
  refine call_wp (n := 60) (cut := []) _ (by decide) (Nat.lt_succ_self _) rfl rfl (Nat.le_of_ble_eq_true rfl) rfl ?_
  refine m_isSign hM.1 hB (fun n hn h0 ep => ?_) (fun hp => ?_)
  · subst ep
    rw [isg_some h0 hn] at hk
    dsimp only at hk
    refine And.intro (fun c => absurd c (by decide)) (fun _ => ?_)
    have hf : Fr [15] h (qI h 15 7 (nI (gfb S n is))) := Fr.rf.I (by decide)
    have hk2 := hk (qI h 15 7 (nI (gfb S n is))) (hf.mono (by decide)) (hM.scene (fun k h1 h2 => by rw [qI_get, if_neg (by omega)]) (fun a ha => hf.1 a (by simp; omega)) (hM.1.f5 (Or.inl ⟨rfl, rfl⟩)) (fun a ha => sS_ne (by omega)))
    rw [← bit_val _ h52 n hn, ← e7] at hk2
    cases is
    · refine And.intro (fun _ => ?_) (fun c => absurd rfl c)
      have e2 : nI (gfb S n false) = h.1 15 7 &&& ((1 : Int32) <<< (nI n &&& 31) ^^^ (-1)) := by rw [e7, bit_clr _ h52 n hn]; rfl
      rw [e2] at hk2
      exact hk2
    · refine And.intro (fun c => absurd c (by decide)) (fun _ => ?_)
      have e2 : nI (gfb S n true) = h.1 15 7 ||| ((1 : Int32) <<< (nI n &&& 31)) := by rw [e7, bit_or _ h52 n hn]; rfl
      rw [e2] at hk2
      exact hk2
  · rw [isg_none hp] at hk
    refine And.intro (fun _ => ?_) (fun c => absurd rfl c)
    exact hk h Fr.rf hM
theorem m_forget (hM : RM h S) (hk : ∀ h', Fr lM h h' → RM h' (sS S 5 4 0) → K (some (.int (nI (S 5 4)))) h') : qCall (d + 1) 110 [.ref 15] h K := by
  refine call_wp (n := 40) (cut := []) _ (by decide) (Nat.lt_succ_self _) rfl rfl (Nat.le_of_ble_eq_true rfl) rfl ?_
  have hf : Fr [15] h (qI h 15 11 (nI 0)) := Fr.rf.I (by decide)
  have hk2 := hk (qI h 15 11 (nI 0)) (hf.mono (by decide)) (hM.scene (fun k h1 h2 => by rw [qI_get, if_neg (by omega)]) (fun a ha => hf.1 a (by simp; omega)) (hM.1.f5 (Or.inr ⟨rfl, rfl, rfl⟩)) (fun a ha => sS_ne (by omega)))
  rw [← hM.1.2.2.2.2.2.2.2.1] at hk2
  exact hk2
def maH (h : qH) (n p g b : Nat) : qH := qI (qI (qI (qI h 21 n (nI p)) 22 n (nI g)) 23 n (nI b)) 15 11 (nI (n + 1))
theorem maH_rel {p g b : Nat} (hM : RMc h S) : RMc (maH h (S 5 4) p g b) (gask S p g b) := by
  obtain ⟨m1, m2, m3, m4, m5, m6, m7, m8, m9⟩ := hM
  have hs : ∀ a, a ≠ 15 → a ≠ 21 → a ≠ 22 → a ≠ 23 → (maH h (S 5 4) p g b).1 a = h.1 a := fun a h1 h2 h3 h4 => by
    unfold maH
    rw [qI_ne h1, qI_ne h4, qI_ne h3, qI_ne h2]
  have h15 : ∀ k, k ≠ 11 → (maH h (S 5 4) p g b).1 15 k = h.1 15 k := fun k hk => by simp [maH, qI_get, hk]
  have z11 : (maH h (S 5 4) p g b).1 15 11 = nI (S 5 4 + 1) := by simp [maH, qI_get]
  have z21 : ∀ i, (maH h (S 5 4) p g b).1 21 i = if i = S 5 4 then nI p else h.1 21 i := fun i => by simp [maH, qI_get]
  have z22 : ∀ i, (maH h (S 5 4) p g b).1 22 i = if i = S 5 4 then nI g else h.1 22 i := fun i => by simp [maH, qI_get]
  have z23 : ∀ i, (maH h (S 5 4) p g b).1 23 i = if i = S 5 4 then nI b else h.1 23 i := fun i => by simp [maH, qI_get]
  have g0 : ∀ a, a < 5 ∨ a = 6 → gask S p g b a = S a := fun a ha => by unfold gask; rw [sS_ne (by omega), sS_ne (by omega), sS_ne (by omega), sS_ne (by omega)]
  have g5 : ∀ y, y ≠ 4 → gask S p g b 5 y = S 5 y := fun y hy => by unfold gask; rw [sS_nb hy, sS_ne (by omega), sS_ne (by omega), sS_ne (by omega)]
  have g54 : gask S p g b 5 4 = S 5 4 + 1 := sS_eq
  have g7 : ∀ i, gask S p g b 7 i = if i = S 5 4 then p else S 7 i := fun i => by
    unfold gask
    rw [sS_ne (by omega), sS_ne (by omega), sS_ne (by omega)]
    by_cases z : i = S 5 4
    · rw [if_pos z, z, sS_eq]
    · rw [if_neg z, sS_nb z]
  have g8 : ∀ i, gask S p g b 8 i = if i = S 5 4 then g else S 8 i := fun i => by
    unfold gask
    rw [sS_ne (by omega), sS_ne (by omega)]
    by_cases z : i = S 5 4
    · rw [if_pos z, z, sS_eq]
    · rw [if_neg z, sS_nb z, sS_ne (by omega)]
  have g9 : ∀ i, gask S p g b 9 i = if i = S 5 4 then b else S 9 i := fun i => by
    unfold gask
    rw [sS_ne (by omega)]
    by_cases z : i = S 5 4
    · rw [if_pos z, z, sS_eq]
    · rw [if_neg z, sS_nb z, sS_ne (by omega), sS_ne (by omega)]
  unfold RMc
  rw [g0 0 (by omega), g0 1 (by omega), g0 2 (by omega), g0 3 (by omega), g0 4 (by omega), g0 6 (by omega), g5 0 (by decide), g5 1 (by decide), g5 2 (by decide), g5 3 (by decide), g54, h15 1 (by decide), h15 7 (by decide), h15 8 (by decide), h15 9 (by decide), h15 10 (by decide), z11, hs 16 (by decide) (by decide) (by decide) (by decide), hs 17 (by decide) (by decide) (by decide) (by decide), hs 18 (by decide) (by decide) (by decide) (by decide), hs 19 (by decide) (by decide) (by decide) (by decide), hs 20 (by decide) (by decide) (by decide) (by decide)]
  refine ⟨m1, m2, m3, m4, m5, m6, m7, rfl, fun i hi => ?_⟩
  rw [z21, z22, z23, g7, g8, g9]
  by_cases z : i = S 5 4
  · rw [if_pos z, if_pos z, if_pos z, if_pos z, if_pos z, if_pos z]
    exact ⟨rfl, rfl, rfl⟩
  · rw [if_neg z, if_neg z, if_neg z, if_neg z, if_neg z, if_neg z]
    exact m9 i (by omega)
theorem m_ask {p s : Int32} {so : Bool} (hM : RM h S) (hG : RG S) (hk : ∀ h', Fr lM h h' → RM h' (uAsk S p s so) → K (some (.int (aAsk S p s))) h') : qCall (d + 3) 109 [.ref 15, .int p, .int s, .int (b2 so)] h K := by
  have hB := hG.1
  have hn0 := hB.1
  have ha0 := hG.2.1.1
  have e := hM.1.2.2.2.2.2.2.2.1
  unfold aAsk uAsk at hk
  refine call_wp (n := 80) (cut := []) _ (by decide) (Nat.lt_succ_self _) rfl rfl (Nat.le_of_ble_eq_true rfl) rfl ?_
  refine m_isOne hM.1 hB (fun n hn ep => ?_) (fun hp => ?_)
  · subst ep
    rw [ip_some hB hn] at hk
    dsimp only at hk
    refine And.intro (fun c => absurd c (by decide)) (fun _ => ?_)
    refine m_within (lo := 0) (hi := 15) (by decide) (by decide) (fun q h1 h2 eq => ?_) (fun hj => ?_)
    · subst eq
      rw [ix_some (n := q) (by omega) (by decide)] at hk
      dsimp only at hk
      refine And.intro (fun c => absurd c (by decide)) (fun _ => ?_)
      refine And.intro (fun c3 => ?_) (fun c3 => ?_)
      · have c3 : h.1 15 11 = nI 6 := c3
        rw [e, nI_eq (by omega) (by omega)] at c3
        have hc2 : 6 ≤ S 5 4 := by omega
        simp only [if_pos hc2] at hk
        exact hk h Fr.rf hM
      · have c3 : ¬ h.1 15 11 = nI 6 := c3
        rw [e, nI_eq (by omega) (by omega)] at c3
        have hc2 : ¬ 6 ≤ S 5 4 := by omega
        simp only [if_neg hc2] at hk
        have ec : (nI (S 5 4)).toNatClampNeg = S 5 4 := nI_clamp (by omega)
        have hr : ∀ b : Nat, RM (maH h (S 5 4) n q b) (gask S n q b) := fun b => hM.scene (fun k h1 h2 => by
            have : k ≠ 11 := by omega
            simp [maH, qI_get, this]) (fun a ha => by unfold maH; rw [qI_ne (by omega), qI_ne (by omega), qI_ne (by omega), qI_ne (by omega)]) (maH_rel hM.1) (fun a ha => gask_o ha)
        have hfr : ∀ b : Nat, Fr lM h (maH h (S 5 4) n q b) := fun b => (((Fr.rf.I (by decide)).I (by decide)).I (by decide)).I (by decide)
        refine And.intro (by show vp_in (h.1 15 11) 6; rw [e]; exact vp_in_nI (by omega) (by decide)) ?_
        refine And.intro (by show vp_in ((qI h 21 (h.1 15 11).toNatClampNeg (nI n)).1 15 11) 6; rw [qI_get, if_neg (by omega), e]; exact vp_in_nI (by omega) (by decide)) ?_
        have e1 : (qI h 21 (S 5 4) (nI n)).1 15 11 = nI (S 5 4) := by rw [qI_get, if_neg (by omega)]; exact e
        have e2 : (qI (qI h 21 (S 5 4) (nI n)) 22 (S 5 4) (nI q)).1 15 11 = nI (S 5 4) := by rw [qI_get, if_neg (by omega)]; exact e1
        cases so
        · refine And.intro (fun _ => ?_) (fun c => absurd rfl c)
          refine And.intro (by show vp_in ((qI (qI h 21 (h.1 15 11).toNatClampNeg (nI n)) 22 ((qI h 21 (h.1 15 11).toNatClampNeg (nI n)).1 15 11).toNatClampNeg (nI q)).1 15 11) 6; rw [qI_get, if_neg (by omega), qI_get, if_neg (by omega), e]; exact vp_in_nI (by omega) (by decide)) ?_
          have hk2 := hk _ (hfr 0) (hr 0)
          have ex : maH h (S 5 4) n q 0 = qI (qI (qI (qI h 21 (h.1 15 11).toNatClampNeg (nI n)) 22 ((qI h 21 (h.1 15 11).toNatClampNeg (nI n)).1 15 11).toNatClampNeg (nI q)) 23 ((qI (qI h 21 (h.1 15 11).toNatClampNeg (nI n)) 22 ((qI h 21 (h.1 15 11).toNatClampNeg (nI n)).1 15 11).toNatClampNeg (nI q)).1 15 11).toNatClampNeg (nI 0)) 15 11 ((qI (qI (qI h 21 (h.1 15 11).toNatClampNeg (nI n)) 22 ((qI h 21 (h.1 15 11).toNatClampNeg (nI n)).1 15 11).toNatClampNeg (nI q)) 23 ((qI (qI h 21 (h.1 15 11).toNatClampNeg (nI n)) 22 ((qI h 21 (h.1 15 11).toNatClampNeg (nI n)).1 15 11).toNatClampNeg (nI q)).1 15 11).toNatClampNeg (nI 0)).1 15 11 + 1) := by
            rw [e, ec, e1, ec, e2, ec]
            rw [show (qI (qI (qI h 21 (S 5 4) (nI n)) 22 (S 5 4) (nI q)) 23 (S 5 4) (nI 0)).1 15 11 = nI (S 5 4) by rw [qI_get, if_neg (by omega)]; exact e2, nI_1]
            rfl
          have ea : nI (S 5 4 + 1) = (maH h (S 5 4) n q 0).1 15 11 := by simp [maH, qI_get]
          rw [ea, ex] at hk2
          exact hk2
        · refine And.intro (fun c => absurd c (by decide)) (fun _ => ?_)
          refine And.intro (by show vp_in ((qI (qI h 21 (h.1 15 11).toNatClampNeg (nI n)) 22 ((qI h 21 (h.1 15 11).toNatClampNeg (nI n)).1 15 11).toNatClampNeg (nI q)).1 15 11) 6; rw [qI_get, if_neg (by omega), qI_get, if_neg (by omega), e]; exact vp_in_nI (by omega) (by decide)) ?_
          have hk2 := hk _ (hfr 1) (hr 1)
          have ex : maH h (S 5 4) n q 1 = qI (qI (qI (qI h 21 (h.1 15 11).toNatClampNeg (nI n)) 22 ((qI h 21 (h.1 15 11).toNatClampNeg (nI n)).1 15 11).toNatClampNeg (nI q)) 23 ((qI (qI h 21 (h.1 15 11).toNatClampNeg (nI n)) 22 ((qI h 21 (h.1 15 11).toNatClampNeg (nI n)).1 15 11).toNatClampNeg (nI q)).1 15 11).toNatClampNeg (nI 1)) 15 11 ((qI (qI (qI h 21 (h.1 15 11).toNatClampNeg (nI n)) 22 ((qI h 21 (h.1 15 11).toNatClampNeg (nI n)).1 15 11).toNatClampNeg (nI q)) 23 ((qI (qI h 21 (h.1 15 11).toNatClampNeg (nI n)) 22 ((qI h 21 (h.1 15 11).toNatClampNeg (nI n)).1 15 11).toNatClampNeg (nI q)).1 15 11).toNatClampNeg (nI 1)).1 15 11 + 1) := by
            rw [e, ec, e1, ec, e2, ec]
            rw [show (qI (qI (qI h 21 (S 5 4) (nI n)) 22 (S 5 4) (nI q)) 23 (S 5 4) (nI 1)).1 15 11 = nI (S 5 4) by rw [qI_get, if_neg (by omega)]; exact e2, nI_1]
            rfl
          have ea : nI (S 5 4 + 1) = (maH h (S 5 4) n q 1).1 15 11 := by simp [maH, qI_get]
          rw [ea, ex] at hk2
          exact hk2
    · rw [show ix s 16 = none from ix_none (by decide) (fun j hj' => hj j (by omega) (by omega))] at hk
      refine And.intro (fun _ => ?_) (fun c => absurd rfl c)
      exact hk h Fr.rf hM
  · rw [ip_none hB hp] at hk
    refine And.intro (fun _ => ?_) (fun c => absurd rfl c)
    exact hk h Fr.rf hM
end QM6
