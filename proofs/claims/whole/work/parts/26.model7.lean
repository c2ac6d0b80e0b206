/-! ## the reference: its image -/
section QM7
variable {d : Nat} {h : qH} {K : qK} {S : gS}
def mI_img (h h1 : qH) (n i : Nat) : Prop := Fr [26, 27, 28, 29, 30] h h1 ∧ (∀ p, p < n → h1.1 26 p = h.1 18 p ∧ h1.1 27 p = h.1 19 p) ∧ ∀ p, p < i → h1.1 28 p = h.1 21 p ∧ h1.1 29 p = h.1 22 p ∧ h1.1 30 p = h.1 23 p
theorem l_imgB (hk : ∀ h', mI_img h h' 4 6 → K (some (.int (h'.1 15 10))) h') : ∀ m n, n + m = 6 → ∀ h1, mI_img h h1 4 n → qAt (d, 121, some .int, q0, K) 57 [some (.ref 15), some (.int (nI n))] [] h1 := by
  intro m
  induction m with
  | zero =>
    intro n hn h1 hc
    have hn : n = 6 := by omega
    subst hn
    refine at_wp [] 12 (Nat.le_of_ble_eq_true rfl) rfl ?_
    refine And.intro (fun _ => ?_) (fun c => absurd (by decide) c)
    exact hk h1 hc
  | succ m ih =>
    intro n hn h1 hc
    have ec : (nI n).toNatClampNeg = n := nI_clamp (by omega)
    refine at_wp [57] 60 (Nat.le_of_ble_eq_true rfl) rfl ?_
    refine And.intro (fun c => absurd c (nI_ge (a := n) (b := 6) (by omega) (by decide))) (fun _ => ?_)
    refine And.intro (vp_in_nI (by omega) (by decide)) ?_
    refine And.intro (vp_in_nI (by omega) (by decide)) ?_
    refine And.intro (vp_in_nI (by omega) (by decide)) ?_
    refine And.intro (vp_in_nI (by omega) (by decide)) ?_
    refine And.intro (vp_in_nI (by omega) (by decide)) ?_
    refine And.intro (vp_in_nI (by omega) (by decide)) ?_
    obtain ⟨z1, z2, z3⟩ := hc
    have hc2 : mI_img h (qI (qI (qI h1 28 n (h1.1 21 n)) 29 n ((qI h1 28 n (h1.1 21 n)).1 22 n)) 30 n ((qI (qI h1 28 n (h1.1 21 n)) 29 n ((qI h1 28 n (h1.1 21 n)).1 22 n)).1 23 n)) 4 (n + 1) := by
      refine ⟨(((z1).I (by decide)).I (by decide)).I (by decide), fun p hp => ?_, fun p hp => ?_⟩
      · simp only [qI_get]
        have := z2 p hp
        simp [this]
      · have es : h1.1 21 = h.1 21 ∧ h1.1 22 = h.1 22 ∧ h1.1 23 = h.1 23 := ⟨z1.1 21 (by decide), z1.1 22 (by decide), z1.1 23 (by decide)⟩
        by_cases e : p = n
        · subst e
          simp [qI_get, es]
        · have := z3 p (by omega)
          simp [qI_get, e, this]
    have := ih (n + 1) (by omega) _ hc2
    rw [← nI_1] at this
    show qAt _ 57 [some (.ref 15), some (.int (nI n + 1))] [] (qI (qI (qI h1 28 (nI n).toNatClampNeg (h1.1 21 (nI n).toNatClampNeg)) 29 (nI n).toNatClampNeg ((qI h1 28 (nI n).toNatClampNeg (h1.1 21 (nI n).toNatClampNeg)).1 22 (nI n).toNatClampNeg)) 30 (nI n).toNatClampNeg ((qI (qI h1 28 (nI n).toNatClampNeg (h1.1 21 (nI n).toNatClampNeg)) 29 (nI n).toNatClampNeg ((qI h1 28 (nI n).toNatClampNeg (h1.1 21 (nI n).toNatClampNeg)).1 22 (nI n).toNatClampNeg)).1 23 (nI n).toNatClampNeg))
    rw [ec]
    exact this
theorem l_imgA (hk : ∀ h', mI_img h h' 4 6 → K (some (.int (h'.1 15 10))) h') : ∀ m n, n + m = 4 → ∀ h1, mI_img h h1 n 0 → qAt (d, 121, some .int, q0, K) 34 [some (.ref 15), some (.int (nI n))] [] h1 := by
  intro m
  induction m with
  | zero =>
    intro n hn h1 hc
    have hn : n = 4 := by omega
    subst hn
    refine at_wp [57] 12 (Nat.le_of_ble_eq_true rfl) rfl ?_
    refine And.intro (fun _ => ?_) (fun c => absurd (by decide) c)
    exact l_imgB hk 6 0 rfl h1 hc
  | succ m ih =>
    intro n hn h1 hc
    have ec : (nI n).toNatClampNeg = n := nI_clamp (by omega)
    refine at_wp [34] 60 (Nat.le_of_ble_eq_true rfl) rfl ?_
    refine And.intro (fun c => absurd c (nI_ge (a := n) (b := 4) (by omega) (by decide))) (fun _ => ?_)
    refine And.intro (vp_in_nI (by omega) (by decide)) ?_
    refine And.intro (vp_in_nI (by omega) (by decide)) ?_
    refine And.intro (vp_in_nI (by omega) (by decide)) ?_
    refine And.intro (vp_in_nI (by omega) (by decide)) ?_
    obtain ⟨z1, z2, z3⟩ := hc
    have hc2 : mI_img h (qI (qI h1 26 n (h1.1 18 n)) 27 n ((qI h1 26 n (h1.1 18 n)).1 19 n)) (n + 1) 0 := by
      refine ⟨((z1).I (by decide)).I (by decide), fun p hp => ?_, fun p hp => ?_⟩
      · have es : h1.1 18 = h.1 18 ∧ h1.1 19 = h.1 19 := ⟨z1.1 18 (by decide), z1.1 19 (by decide)⟩
        by_cases e : p = n
        · subst e
          simp [qI_get, es]
        · have := z2 p (by omega)
          simp [qI_get, e, this]
      · simp only [qI_get]
        omega
    have := ih (n + 1) (by omega) _ hc2
    rw [← nI_1] at this
    show qAt _ 34 [some (.ref 15), some (.int (nI n + 1))] [] (qI (qI h1 26 (nI n).toNatClampNeg (h1.1 18 (nI n).toNatClampNeg)) 27 (nI n).toNatClampNeg ((qI h1 26 (nI n).toNatClampNeg (h1.1 18 (nI n).toNatClampNeg)).1 19 (nI n).toNatClampNeg))
    rw [ec]
    exact this
def mI_res (h h1 : qH) (n i : Nat) : Prop := Fr [18, 19, 21, 22, 23] h h1 ∧ (∀ p, p < n → h1.1 18 p = h.1 26 p ∧ h1.1 19 p = h.1 27 p) ∧ ∀ p, p < i → h1.1 21 p = h.1 28 p ∧ h1.1 22 p = h.1 29 p ∧ h1.1 23 p = h.1 30 p
theorem l_resB (hk : ∀ h', mI_res h h' 4 6 → K (some (.int (h'.1 15 10))) h') : ∀ m n, n + m = 6 → ∀ h1, mI_res h h1 4 n → qAt (d, 122, some .int, q0, K) 55 [some (.ref 15), some (.int (nI n))] [] h1 := by
  intro m
  induction m with
  | zero =>
    intro n hn h1 hc
    have hn : n = 6 := by omega
    subst hn
    refine at_wp [] 12 (Nat.le_of_ble_eq_true rfl) rfl ?_
    refine And.intro (fun _ => ?_) (fun c => absurd (by decide) c)
    exact hk h1 hc
  | succ m ih =>
    intro n hn h1 hc
    have ec : (nI n).toNatClampNeg = n := nI_clamp (by omega)
    refine at_wp [55] 60 (Nat.le_of_ble_eq_true rfl) rfl ?_
    refine And.intro (fun c => absurd c (nI_ge (a := n) (b := 6) (by omega) (by decide))) (fun _ => ?_)
    refine And.intro (vp_in_nI (by omega) (by decide)) ?_
    refine And.intro (vp_in_nI (by omega) (by decide)) ?_
    refine And.intro (vp_in_nI (by omega) (by decide)) ?_
    refine And.intro (vp_in_nI (by omega) (by decide)) ?_
    refine And.intro (vp_in_nI (by omega) (by decide)) ?_
    refine And.intro (vp_in_nI (by omega) (by decide)) ?_
    obtain ⟨z1, z2, z3⟩ := hc
    have hc2 : mI_res h (qI (qI (qI h1 21 n (h1.1 28 n)) 22 n ((qI h1 21 n (h1.1 28 n)).1 29 n)) 23 n ((qI (qI h1 21 n (h1.1 28 n)) 22 n ((qI h1 21 n (h1.1 28 n)).1 29 n)).1 30 n)) 4 (n + 1) := by
      refine ⟨(((z1).I (by decide)).I (by decide)).I (by decide), fun p hp => ?_, fun p hp => ?_⟩
      · simp only [qI_get]
        have := z2 p hp
        simp [this]
      · have es : h1.1 28 = h.1 28 ∧ h1.1 29 = h.1 29 ∧ h1.1 30 = h.1 30 := ⟨z1.1 28 (by decide), z1.1 29 (by decide), z1.1 30 (by decide)⟩
        by_cases e : p = n
        · subst e
          simp [qI_get, es]
        · have := z3 p (by omega)
          simp [qI_get, e, this]
    have := ih (n + 1) (by omega) _ hc2
    rw [← nI_1] at this
    show qAt _ 55 [some (.ref 15), some (.int (nI n + 1))] [] (qI (qI (qI h1 21 (nI n).toNatClampNeg (h1.1 28 (nI n).toNatClampNeg)) 22 (nI n).toNatClampNeg ((qI h1 21 (nI n).toNatClampNeg (h1.1 28 (nI n).toNatClampNeg)).1 29 (nI n).toNatClampNeg)) 23 (nI n).toNatClampNeg ((qI (qI h1 21 (nI n).toNatClampNeg (h1.1 28 (nI n).toNatClampNeg)) 22 (nI n).toNatClampNeg ((qI h1 21 (nI n).toNatClampNeg (h1.1 28 (nI n).toNatClampNeg)).1 29 (nI n).toNatClampNeg)).1 30 (nI n).toNatClampNeg))
    rw [ec]
    exact this
theorem l_resA (hk : ∀ h', mI_res h h' 4 6 → K (some (.int (h'.1 15 10))) h') : ∀ m n, n + m = 4 → ∀ h1, mI_res h h1 n 0 → qAt (d, 122, some .int, q0, K) 32 [some (.ref 15), some (.int (nI n))] [] h1 := by
  intro m
  induction m with
  | zero =>
    intro n hn h1 hc
    have hn : n = 4 := by omega
    subst hn
    refine at_wp [55] 12 (Nat.le_of_ble_eq_true rfl) rfl ?_
    refine And.intro (fun _ => ?_) (fun c => absurd (by decide) c)
    exact l_resB hk 6 0 rfl h1 hc
  | succ m ih =>
    intro n hn h1 hc
    have ec : (nI n).toNatClampNeg = n := nI_clamp (by omega)
    refine at_wp [32] 60 (Nat.le_of_ble_eq_true rfl) rfl ?_
    refine And.intro (fun c => absurd c (nI_ge (a := n) (b := 4) (by omega) (by decide))) (fun _ => ?_)
    refine And.intro (vp_in_nI (by omega) (by decide)) ?_
    refine And.intro (vp_in_nI (by omega) (by decide)) ?_
    refine And.intro (vp_in_nI (by omega) (by decide)) ?_
    refine And.intro (vp_in_nI (by omega) (by decide)) ?_
    obtain ⟨z1, z2, z3⟩ := hc
    have hc2 : mI_res h (qI (qI h1 18 n (h1.1 26 n)) 19 n ((qI h1 18 n (h1.1 26 n)).1 27 n)) (n + 1) 0 := by
      refine ⟨((z1).I (by decide)).I (by decide), fun p hp => ?_, fun p hp => ?_⟩
      · have es : h1.1 26 = h.1 26 ∧ h1.1 27 = h.1 27 := ⟨z1.1 26 (by decide), z1.1 27 (by decide)⟩
        by_cases e : p = n
        · subst e
          simp [qI_get, es]
        · have := z2 p (by omega)
          simp [qI_get, e, this]
      · simp only [qI_get]
        omega
    have := ih (n + 1) (by omega) _ hc2
    rw [← nI_1] at this
    show qAt _ 32 [some (.ref 15), some (.int (nI n + 1))] [] (qI (qI h1 18 (nI n).toNatClampNeg (h1.1 26 (nI n).toNatClampNeg)) 19 (nI n).toNatClampNeg ((qI h1 18 (nI n).toNatClampNeg (h1.1 26 (nI n).toNatClampNeg)).1 27 (nI n).toNatClampNeg))
    rw [ec]
    exact this
theorem m_image (hM : RM h S) (hG : RG S) (hk : ∀ h', Fr lM h h' → RM h' (uImage S) → K (some (.int (aImage S))) h') : qCall (d + 1) 121 [.ref 15] h K := by
  have hB := hG.1
  have hn0 := hB.1
  have ha0 := hG.2.1.1
  unfold aImage uImage at hk
  refine call_wp (n := 40) (cut := [34]) _ (by decide) (Nat.lt_succ_self _) rfl rfl (Nat.le_of_ble_eq_true rfl) rfl ?_
  refine And.intro (fun c1 => ?_) (fun c1 => ?_)
  · have c1 : h.1 15 1 = nI 0 := c1
    rw [hM.1.1, nI_eq (by omega) (by omega)] at c1
    simp only [if_pos c1] at hk
    exact hk h Fr.rf hM
  · have c1 : ¬ h.1 15 1 = nI 0 := c1
    rw [hM.1.1, nI_eq (by omega) (by omega)] at c1
    simp only [if_neg c1] at hk
    refine And.intro (Or.inr rfl) ?_
    obtain ⟨hb, ehb⟩ : ∃ hb, hb = qI (qI (qI (qI (qI (qI (qI h 15 22 1) 15 23 (h.1 15 0)) 15 24 (h.1 15 7)) 15 25 (h.1 15 8)) 15 26 (h.1 15 9)) 15 27 (h.1 15 10)) 15 28 (h.1 15 11) := ⟨_, rfl⟩
    have b15 : ∀ k, k < 22 → hb.1 15 k = h.1 15 k := fun k hk => by
      rw [ehb]
      simp only [qI_get]
      rw [if_neg (by omega), if_neg (by omega), if_neg (by omega), if_neg (by omega), if_neg (by omega), if_neg (by omega), if_neg (by omega)]
    have bo : ∀ a, a ≠ 15 → hb.1 a = h.1 a := fun a ha => by
      rw [ehb, qI_ne ha, qI_ne ha, qI_ne ha, qI_ne ha, qI_ne ha, qI_ne ha, qI_ne ha]
    have bf : Fr [15] h hb := by
      rw [ehb]
      exact ((((((Fr.rf.I (by decide)).I (by decide)).I (by decide)).I (by decide)).I (by decide)).I (by decide)).I (by decide)
    have b22 : hb.1 15 22 = nI 1 ∧ hb.1 15 23 = h.1 15 0 ∧ hb.1 15 24 = h.1 15 7 ∧ hb.1 15 25 = h.1 15 8 ∧ hb.1 15 26 = h.1 15 9 ∧ hb.1 15 27 = h.1 15 10 ∧ hb.1 15 28 = h.1 15 11 := by
      rw [ehb]
      simp only [qI_get]
      exact ⟨rfl, rfl, rfl, rfl, rfl, rfl, rfl⟩
    have go : qAt (d, 121, some .int, q0, K) 34 [some (.ref 15), some (.int (nI 0))] [] hb := by
      refine l_imgA (fun h' hc => ?_) 4 0 rfl hb ⟨Fr.rf, fun p hp => by omega, fun p hp => by omega⟩
      obtain ⟨z1, z2, z3⟩ := hc
      have h15 : h'.1 15 = hb.1 15 := z1.1 15 (by decide)
      have hf : Fr lM h h' := (bf.mono (by decide)).tr (z1.mono (by decide))
      rw [h15, b15 10 (by decide), hM.1.2.2.2.2.2.2.1]
      refine hk h' hf ?_
      obtain ⟨x1, x2, x3, x4, x5, ⟨kf, kc, k1, k2, k3, k4, k5⟩, x7⟩ := hM
      obtain ⟨m1, m2, m3, m4, m5, m6, m7, m8, m9⟩ := id x1
      have ho : ∀ a, a ≠ 15 → a < 26 → h'.1 a = h.1 a := fun a h1 h2 => (z1.1 a (by simp; omega)).trans (bo a h1)
      have gl : ∀ a, a < 13 → gimg S a = S a := fun a ha => gimg_o (Or.inl ha)
      obtain ⟨q1, q2, q3, q4, q5, q6, q7⟩ := b22
      unfold RM RMk
      rw [gl 0 (by decide), gl 10 (by decide), gl 11 (by decide), gl 12 (by decide), ho 24 (by decide) (by decide), h15, b15 15 (by decide), b15 16 (by decide), b15 0 (by decide), q1, q2, q3, q4, q5, q6, q7]
      refine ⟨(x1.h (fun k hk => by rw [h15]; exact b15 k (by omega)) (fun a h1 h2 => ho a (by omega) (by omega))).S (fun a ha => gl a (by omega)), x2, x3, x4, x5, ⟨1, S 12 1, rfl, by decide, x5, Nat.le_refl _, ⟨fun _ => ⟨rfl, rfl⟩, fun _ => rfl⟩⟩, fun _ => ⟨m4, m5, m6, m7, m8, fun p hp => ?_, fun i hi => ?_⟩⟩
      · obtain ⟨w1, w2⟩ := z2 p (by omega)
        rw [w1, w2, bo 18 (by decide), bo 19 (by decide)]
        exact ⟨(m2 p hp).2.2.1, (m2 p hp).2.2.2⟩
      · have hi : i < S 5 4 := hi
        obtain ⟨w1, w2, w3⟩ := z3 i (by omega)
        rw [w1, w2, w3, bo 21 (by decide), bo 22 (by decide), bo 23 (by decide)]
        exact m9 i hi
    rw [ehb] at go
    exact go
theorem m_restore (hM : RM h S) (hG : RG S) (hc31 : S 12 1 < 1000000) (hk : ∀ h', Fr lM h h' → RM h' (uRestore S) → K (some (.int (aRestore S))) h') : qCall (d + 1) 122 [.ref 15] h K := by
  have hB := hG.1
  have hn0 := hB.1
  have h13 := hG.2.2.2.1
  obtain ⟨x1, x2, x3, x4, x5, ⟨kf, kc, k1, k2, k3, k4, k5⟩, x7⟩ := id hM
  unfold aRestore uRestore at hk
  refine call_wp (n := 40) (cut := [32]) _ (by decide) (Nat.lt_succ_self _) rfl rfl (Nat.le_of_ble_eq_true rfl) rfl ?_
  refine And.intro (fun c1 => ?_) (fun c1 => ?_)
  · have c1 : h.1 15 22 = nI 0 := c1
    rw [k1, nI_eq (by omega) (by omega)] at c1
    have z : S 13 0 = 0 := by
      rcases Nat.lt_or_ge (S 13 0) 1 with w | w
      · omega
      · have := (k5.mp (by omega)).1
        omega
    simp only [if_pos z] at hk
    exact hk h Fr.rf hM
  · have c1 : ¬ h.1 15 22 = nI 0 := c1
    rw [k1, nI_eq (by omega) (by omega)] at c1
    refine And.intro (fun c2 => ?_) (fun c2 => ?_)
    · have c2 : h.1 15 23 = h.1 15 0 := c2
      rw [k3, x5, nI_eq (by omega) (by omega)] at c2
      have z1 : S 13 0 = 1 := k5.mpr ⟨by omega, c2⟩
      have z : ¬ S 13 0 = 0 := by omega
      simp only [if_neg z] at hk
      have kA := (hG.2.2.1 z1).2
      have ka0 : S 15 4 ≤ 6 := kA.1
      obtain ⟨n1, n2, n3, n4, n5, n6, n7⟩ := x7 z1
      obtain ⟨hb, ehb⟩ : ∃ hb, hb = qI (qI (qI (qI (qI h 15 7 (h.1 15 24)) 15 8 (h.1 15 25)) 15 9 (h.1 15 26)) 15 10 (h.1 15 27)) 15 11 (h.1 15 28) := ⟨_, rfl⟩
      have b15 : ∀ k, k < 7 ∨ 11 < k → hb.1 15 k = h.1 15 k := fun k hk => by
        rw [ehb]
        simp only [qI_get]
        rw [if_neg (by omega), if_neg (by omega), if_neg (by omega), if_neg (by omega), if_neg (by omega)]
      have bo : ∀ a, a ≠ 15 → hb.1 a = h.1 a := fun a ha => by
        rw [ehb, qI_ne ha, qI_ne ha, qI_ne ha, qI_ne ha, qI_ne ha]
      have bf : Fr [15] h hb := by
        rw [ehb]
        exact ((((Fr.rf.I (by decide)).I (by decide)).I (by decide)).I (by decide)).I (by decide)
      have b7 : hb.1 15 7 = h.1 15 24 ∧ hb.1 15 8 = h.1 15 25 ∧ hb.1 15 9 = h.1 15 26 ∧ hb.1 15 10 = h.1 15 27 ∧ hb.1 15 11 = h.1 15 28 := by
        rw [ehb]
        simp only [qI_get]
        exact ⟨rfl, rfl, rfl, rfl, rfl⟩
      have go : qAt (d, 122, some .int, q0, K) 32 [some (.ref 15), some (.int (nI 0))] [] hb := by
        refine l_resA (fun h' hc => ?_) 4 0 rfl hb ⟨Fr.rf, fun p hp => by omega, fun p hp => by omega⟩
        obtain ⟨z1', z2, z3⟩ := hc
        have h15 : h'.1 15 = hb.1 15 := z1'.1 15 (by decide)
        have hf : Fr lM h h' := (bf.mono (by decide)).tr (z1'.mono (by decide))
        obtain ⟨q1, q2, q3, q4, q5⟩ := b7
        rw [h15, q4, n4]
        refine hk h' hf ?_
        obtain ⟨m1, m2, m3, m4, m5, m6, m7, m8, m9⟩ := id x1
        have ho : ∀ a, a ≠ 15 → a = 16 ∨ a = 17 ∨ a = 20 ∨ 24 ≤ a → h'.1 a = h.1 a := fun a h1 h2 => (z1'.1 a (by simp; omega)).trans (bo a h1)
        refine hM.scene (fun k h1 h2 => by rw [h15]; exact b15 k (by omega)) (fun a ha => ho a (by omega) (by omega)) ?_ (fun a ha => gkept_o ha)
        unfold RMc
        rw [h15, b15 1 (by omega), q1, q2, q3, q4, q5, ho 16 (by decide) (by omega), ho 17 (by decide) (by omega), ho 20 (by decide) (by omega)]
        refine ⟨m1, fun p hp => ?_, m3, n1, n2, n3, n4, n5, fun i hi => ?_⟩
        · have hp : p < S 0 0 := hp
          obtain ⟨w1, w2⟩ := z2 p (by omega)
          rw [w1, w2, bo 26 (by decide), bo 27 (by decide)]
          exact ⟨(m2 p hp).1, (m2 p hp).2.1, (n6 p hp).1, (n6 p hp).2⟩
        · have hi : i < S 15 4 := hi
          obtain ⟨w1, w2, w3⟩ := z3 i (by omega)
          rw [w1, w2, w3, bo 28 (by decide), bo 29 (by decide), bo 30 (by decide)]
          exact n7 i hi
      rw [ehb] at go
      exact go
    · have c2 : ¬ h.1 15 23 = h.1 15 0 := c2
      rw [k3, x5, nI_eq (by omega) (by omega)] at c2
      have z : S 13 0 = 0 := by
        rcases Nat.lt_or_ge (S 13 0) 1 with w | w
        · omega
        · exact absurd (k5.mp (by omega)).2 c2
      simp only [if_pos z] at hk
      exact hk h Fr.rf hM
end QM7
