/-! ## copies of scenes, the image -/
/-- behind the six numbers: the scene at r is that at r2, so far as n words and i questions go -/
def cpI (r r2 : Nat) (h h1 : qH) (n i : Nat) : Prop := Fr [r, r + 1, r + 2] h h1 ∧ (∀ k, k < 5 → h1.1 r k = h.1 r2 k) ∧ h1.1 r 7 = h.1 r2 7 ∧ (∀ p, p < n → h1.1 (r + 1) p = h.1 (r2 + 1) p) ∧ ∀ j, j < i → h1.1 (r + 2) j = h.1 (r2 + 2) j
section QCP
variable {d : Nat} {h : qH} {K : qK} {S : gS}
theorem l_cpB_8 (hk : ∀ h', cpI 8 5 h h' 4 6 → K none h') : ∀ m i, i + m = 6 → ∀ h1, cpI 8 5 h h1 4 i → qAt (d + 1, 27, none, q0, K) 42 [some (.ref 8), some (.ref 5), some (.int (nI i))] [] h1 := by
  intro m
  induction m with
  | zero =>
    intro i hi h1 hc
    have hi : i = 6 := by omega
    subst hi
    refine at_wp [] 12 (Nat.le_of_ble_eq_true rfl) rfl ?_
    refine And.intro (fun _ => ?_) (fun c => absurd (by decide) c)
    exact hk h1 hc
  | succ m ih =>
    intro i hi h1 hc
    have hi31 : i < 2 ^ 31 := by omega
    refine at_wp [42] 40 (Nat.le_of_ble_eq_true rfl) rfl ?_
    refine And.intro (fun c => absurd c (nI_ge (a := i) (b := 6) (by omega) (by decide))) (fun _ => ?_)
    refine c_askedAt (r := 5) (Or.inl rfl) (by omega) ?_
    refine And.intro (vp_in_nI (by omega) (by decide)) ?_
    have hc2 : cpI 8 5 h (qI h1 (8 + 2) i (h1.1 (5 + 2) i)) 4 (i + 1) := by
      obtain ⟨z1, z2, z3, z4, z5⟩ := hc
      refine ⟨z1.I (by decide), fun k hk => ?_, ?_, fun p hp => ?_, fun j hj => ?_⟩
      · rw [qI_get, if_neg (by omega)]
        exact z2 k hk
      · rw [qI_get, if_neg (by omega)]
        exact z3
      · rw [qI_get, if_neg (by omega)]
        exact z4 p hp
      · rw [qI_get, z1.1 (5 + 2) (by decide)]
        by_cases e : j = i
        · rw [if_pos ⟨rfl, e⟩, e]
        · rw [if_neg (fun z => e z.2)]
          exact z5 j (by omega)
    have := ih (i + 1) (by omega) _ hc2
    rw [← nI_1] at this
    have e : (nI i).toNatClampNeg = i := nI_clamp hi31
    show qAt _ 42 [some (.ref 8), some (.ref 5), some (.int (nI i + 1))] [] (qI h1 (8 + 2) (nI i).toNatClampNeg (h1.1 (5 + 2) i))
    rw [e]
    exact this
theorem l_cpA_8 (hk : ∀ h', cpI 8 5 h h' 4 6 → K none h') : ∀ m n, n + m = 4 → ∀ h1, cpI 8 5 h h1 n 0 → qAt (d + 1, 27, none, q0, K) 26 [some (.ref 8), some (.ref 5), some (.int (nI n))] [] h1 := by
  intro m
  induction m with
  | zero =>
    intro i hi h1 hc
    have hi : i = 4 := by omega
    subst hi
    refine at_wp [42] 12 (Nat.le_of_ble_eq_true rfl) rfl ?_
    refine And.intro (fun _ => ?_) (fun c => absurd (by decide) c)
    exact l_cpB_8 hk 6 0 rfl h1 hc
  | succ m ih =>
    intro i hi h1 hc
    have hi31 : i < 2 ^ 31 := by omega
    refine at_wp [26] 40 (Nat.le_of_ble_eq_true rfl) rfl ?_
    refine And.intro (fun c => absurd c (nI_ge (a := i) (b := 4) (by omega) (by decide))) (fun _ => ?_)
    refine c_wordsOf (r := 5) (Or.inl rfl) (by omega) ?_
    refine And.intro (vp_in_nI (by omega) (by decide)) ?_
    have hc2 : cpI 8 5 h (qI h1 (8 + 1) i (h1.1 (5 + 1) i)) (i + 1) 0 := by
      obtain ⟨z1, z2, z3, z4, z5⟩ := hc
      refine ⟨z1.I (by decide), fun k hk => ?_, ?_, fun j hj => ?_, fun j hj => by omega⟩
      · rw [qI_get, if_neg (by omega)]
        exact z2 k hk
      · rw [qI_get, if_neg (by omega)]
        exact z3
      · rw [qI_get, z1.1 (5 + 1) (by decide)]
        by_cases e : j = i
        · rw [if_pos ⟨rfl, e⟩, e]
        · rw [if_neg (fun z => e z.2)]
          exact z4 j (by omega)
    have := ih (i + 1) (by omega) _ hc2
    rw [← nI_1] at this
    have e : (nI i).toNatClampNeg = i := nI_clamp hi31
    show qAt _ 26 [some (.ref 8), some (.ref 5), some (.int (nI i + 1))] [] (qI h1 (8 + 1) (nI i).toNatClampNeg (h1.1 (5 + 1) i))
    rw [e]
    exact this
theorem c_copy_8 (hk : ∀ h', cpI 8 5 h h' 4 6 → K none h') : qCall (d + 2) 27 [.ref 8, .ref 5] h K := by
  refine call_wp (n := 26) (cut := []) _ (by decide) (Nat.lt_succ_self _) rfl rfl (Nat.le_of_ble_eq_true rfl) rfl ?_
  have hc : cpI 8 5 h (qI (qI (qI (qI (qI (qI h 8 0 (h.1 5 0)) 8 1 (h.1 5 1)) 8 2 (h.1 5 2)) 8 3 (h.1 5 3)) 8 4 (h.1 5 4)) 8 7 (h.1 5 7)) 0 0 := by
    refine ⟨((((((Fr.rf.I (by decide)).I (by decide)).I (by decide)).I (by decide)).I (by decide)).I (by decide)), fun k hk => ?_, ?_, fun j hj => by omega, fun j hj => by omega⟩
    · rcases (show k = 0 ∨ k = 1 ∨ k = 2 ∨ k = 3 ∨ k = 4 by omega) with rfl | rfl | rfl | rfl | rfl <;> simp [qI_get]
    · simp [qI_get]
  exact l_cpA_8 hk 4 0 rfl _ hc
theorem l_cpB_5 (hk : ∀ h', cpI 5 8 h h' 4 6 → K none h') : ∀ m i, i + m = 6 → ∀ h1, cpI 5 8 h h1 4 i → qAt (d + 1, 27, none, q0, K) 42 [some (.ref 5), some (.ref 8), some (.int (nI i))] [] h1 := by
  intro m
  induction m with
  | zero =>
    intro i hi h1 hc
    have hi : i = 6 := by omega
    subst hi
    refine at_wp [] 12 (Nat.le_of_ble_eq_true rfl) rfl ?_
    refine And.intro (fun _ => ?_) (fun c => absurd (by decide) c)
    exact hk h1 hc
  | succ m ih =>
    intro i hi h1 hc
    have hi31 : i < 2 ^ 31 := by omega
    refine at_wp [42] 40 (Nat.le_of_ble_eq_true rfl) rfl ?_
    refine And.intro (fun c => absurd c (nI_ge (a := i) (b := 6) (by omega) (by decide))) (fun _ => ?_)
    refine c_askedAt (r := 8) (Or.inr rfl) (by omega) ?_
    refine And.intro (vp_in_nI (by omega) (by decide)) ?_
    have hc2 : cpI 5 8 h (qI h1 (5 + 2) i (h1.1 (8 + 2) i)) 4 (i + 1) := by
      obtain ⟨z1, z2, z3, z4, z5⟩ := hc
      refine ⟨z1.I (by decide), fun k hk => ?_, ?_, fun p hp => ?_, fun j hj => ?_⟩
      · rw [qI_get, if_neg (by omega)]
        exact z2 k hk
      · rw [qI_get, if_neg (by omega)]
        exact z3
      · rw [qI_get, if_neg (by omega)]
        exact z4 p hp
      · rw [qI_get, z1.1 (8 + 2) (by decide)]
        by_cases e : j = i
        · rw [if_pos ⟨rfl, e⟩, e]
        · rw [if_neg (fun z => e z.2)]
          exact z5 j (by omega)
    have := ih (i + 1) (by omega) _ hc2
    rw [← nI_1] at this
    have e : (nI i).toNatClampNeg = i := nI_clamp hi31
    show qAt _ 42 [some (.ref 5), some (.ref 8), some (.int (nI i + 1))] [] (qI h1 (5 + 2) (nI i).toNatClampNeg (h1.1 (8 + 2) i))
    rw [e]
    exact this
theorem l_cpA_5 (hk : ∀ h', cpI 5 8 h h' 4 6 → K none h') : ∀ m n, n + m = 4 → ∀ h1, cpI 5 8 h h1 n 0 → qAt (d + 1, 27, none, q0, K) 26 [some (.ref 5), some (.ref 8), some (.int (nI n))] [] h1 := by
  intro m
  induction m with
  | zero =>
    intro i hi h1 hc
    have hi : i = 4 := by omega
    subst hi
    refine at_wp [42] 12 (Nat.le_of_ble_eq_true rfl) rfl ?_
    refine And.intro (fun _ => ?_) (fun c => absurd (by decide) c)
    exact l_cpB_5 hk 6 0 rfl h1 hc
  | succ m ih =>
    intro i hi h1 hc
    have hi31 : i < 2 ^ 31 := by omega
    refine at_wp [26] 40 (Nat.le_of_ble_eq_true rfl) rfl ?_
    refine And.intro (fun c => absurd c (nI_ge (a := i) (b := 4) (by omega) (by decide))) (fun _ => ?_)
    refine c_wordsOf (r := 8) (Or.inr rfl) (by omega) ?_
    refine And.intro (vp_in_nI (by omega) (by decide)) ?_
    have hc2 : cpI 5 8 h (qI h1 (5 + 1) i (h1.1 (8 + 1) i)) (i + 1) 0 := by
      obtain ⟨z1, z2, z3, z4, z5⟩ := hc
      refine ⟨z1.I (by decide), fun k hk => ?_, ?_, fun j hj => ?_, fun j hj => by omega⟩
      · rw [qI_get, if_neg (by omega)]
        exact z2 k hk
      · rw [qI_get, if_neg (by omega)]
        exact z3
      · rw [qI_get, z1.1 (8 + 1) (by decide)]
        by_cases e : j = i
        · rw [if_pos ⟨rfl, e⟩, e]
        · rw [if_neg (fun z => e z.2)]
          exact z4 j (by omega)
    have := ih (i + 1) (by omega) _ hc2
    rw [← nI_1] at this
    have e : (nI i).toNatClampNeg = i := nI_clamp hi31
    show qAt _ 26 [some (.ref 5), some (.ref 8), some (.int (nI i + 1))] [] (qI h1 (5 + 1) (nI i).toNatClampNeg (h1.1 (8 + 1) i))
    rw [e]
    exact this
theorem c_copy_5 (hk : ∀ h', cpI 5 8 h h' 4 6 → K none h') : qCall (d + 2) 27 [.ref 5, .ref 8] h K := by
  refine call_wp (n := 26) (cut := []) _ (by decide) (Nat.lt_succ_self _) rfl rfl (Nat.le_of_ble_eq_true rfl) rfl ?_
  have hc : cpI 5 8 h (qI (qI (qI (qI (qI (qI h 5 0 (h.1 8 0)) 5 1 (h.1 8 1)) 5 2 (h.1 8 2)) 5 3 (h.1 8 3)) 5 4 (h.1 8 4)) 5 7 (h.1 8 7)) 0 0 := by
    refine ⟨((((((Fr.rf.I (by decide)).I (by decide)).I (by decide)).I (by decide)).I (by decide)).I (by decide)), fun k hk => ?_, ?_, fun j hj => by omega, fun j hj => by omega⟩
    · rcases (show k = 0 ∨ k = 1 ∨ k = 2 ∨ k = 3 ∨ k = 4 by omega) with rfl | rfl | rfl | rfl | rfl <;> simp [qI_get]
    · simp [qI_get]
  exact l_cpA_5 hk 4 0 rfl _ hc
theorem l_cpB_11 (hk : ∀ h', cpI 11 5 h h' 4 6 → K none h') : ∀ m i, i + m = 6 → ∀ h1, cpI 11 5 h h1 4 i → qAt (d + 1, 27, none, q0, K) 42 [some (.ref 11), some (.ref 5), some (.int (nI i))] [] h1 := by
  intro m
  induction m with
  | zero =>
    intro i hi h1 hc
    have hi : i = 6 := by omega
    subst hi
    refine at_wp [] 12 (Nat.le_of_ble_eq_true rfl) rfl ?_
    refine And.intro (fun _ => ?_) (fun c => absurd (by decide) c)
    exact hk h1 hc
  | succ m ih =>
    intro i hi h1 hc
    have hi31 : i < 2 ^ 31 := by omega
    refine at_wp [42] 40 (Nat.le_of_ble_eq_true rfl) rfl ?_
    refine And.intro (fun c => absurd c (nI_ge (a := i) (b := 6) (by omega) (by decide))) (fun _ => ?_)
    refine c_askedAt (r := 5) (Or.inl rfl) (by omega) ?_
    refine And.intro (vp_in_nI (by omega) (by decide)) ?_
    have hc2 : cpI 11 5 h (qI h1 (11 + 2) i (h1.1 (5 + 2) i)) 4 (i + 1) := by
      obtain ⟨z1, z2, z3, z4, z5⟩ := hc
      refine ⟨z1.I (by decide), fun k hk => ?_, ?_, fun p hp => ?_, fun j hj => ?_⟩
      · rw [qI_get, if_neg (by omega)]
        exact z2 k hk
      · rw [qI_get, if_neg (by omega)]
        exact z3
      · rw [qI_get, if_neg (by omega)]
        exact z4 p hp
      · rw [qI_get, z1.1 (5 + 2) (by decide)]
        by_cases e : j = i
        · rw [if_pos ⟨rfl, e⟩, e]
        · rw [if_neg (fun z => e z.2)]
          exact z5 j (by omega)
    have := ih (i + 1) (by omega) _ hc2
    rw [← nI_1] at this
    have e : (nI i).toNatClampNeg = i := nI_clamp hi31
    show qAt _ 42 [some (.ref 11), some (.ref 5), some (.int (nI i + 1))] [] (qI h1 (11 + 2) (nI i).toNatClampNeg (h1.1 (5 + 2) i))
    rw [e]
    exact this
theorem l_cpA_11 (hk : ∀ h', cpI 11 5 h h' 4 6 → K none h') : ∀ m n, n + m = 4 → ∀ h1, cpI 11 5 h h1 n 0 → qAt (d + 1, 27, none, q0, K) 26 [some (.ref 11), some (.ref 5), some (.int (nI n))] [] h1 := by
  intro m
  induction m with
  | zero =>
    intro i hi h1 hc
    have hi : i = 4 := by omega
    subst hi
    refine at_wp [42] 12 (Nat.le_of_ble_eq_true rfl) rfl ?_
    refine And.intro (fun _ => ?_) (fun c => absurd (by decide) c)
    exact l_cpB_11 hk 6 0 rfl h1 hc
  | succ m ih =>
    intro i hi h1 hc
    have hi31 : i < 2 ^ 31 := by omega
    refine at_wp [26] 40 (Nat.le_of_ble_eq_true rfl) rfl ?_
    refine And.intro (fun c => absurd c (nI_ge (a := i) (b := 4) (by omega) (by decide))) (fun _ => ?_)
    refine c_wordsOf (r := 5) (Or.inl rfl) (by omega) ?_
    refine And.intro (vp_in_nI (by omega) (by decide)) ?_
    have hc2 : cpI 11 5 h (qI h1 (11 + 1) i (h1.1 (5 + 1) i)) (i + 1) 0 := by
      obtain ⟨z1, z2, z3, z4, z5⟩ := hc
      refine ⟨z1.I (by decide), fun k hk => ?_, ?_, fun j hj => ?_, fun j hj => by omega⟩
      · rw [qI_get, if_neg (by omega)]
        exact z2 k hk
      · rw [qI_get, if_neg (by omega)]
        exact z3
      · rw [qI_get, z1.1 (5 + 1) (by decide)]
        by_cases e : j = i
        · rw [if_pos ⟨rfl, e⟩, e]
        · rw [if_neg (fun z => e z.2)]
          exact z4 j (by omega)
    have := ih (i + 1) (by omega) _ hc2
    rw [← nI_1] at this
    have e : (nI i).toNatClampNeg = i := nI_clamp hi31
    show qAt _ 26 [some (.ref 11), some (.ref 5), some (.int (nI i + 1))] [] (qI h1 (11 + 1) (nI i).toNatClampNeg (h1.1 (5 + 1) i))
    rw [e]
    exact this
theorem c_copy_11 (hk : ∀ h', cpI 11 5 h h' 4 6 → K none h') : qCall (d + 2) 27 [.ref 11, .ref 5] h K := by
  refine call_wp (n := 26) (cut := []) _ (by decide) (Nat.lt_succ_self _) rfl rfl (Nat.le_of_ble_eq_true rfl) rfl ?_
  have hc : cpI 11 5 h (qI (qI (qI (qI (qI (qI h 11 0 (h.1 5 0)) 11 1 (h.1 5 1)) 11 2 (h.1 5 2)) 11 3 (h.1 5 3)) 11 4 (h.1 5 4)) 11 7 (h.1 5 7)) 0 0 := by
    refine ⟨((((((Fr.rf.I (by decide)).I (by decide)).I (by decide)).I (by decide)).I (by decide)).I (by decide)), fun k hk => ?_, ?_, fun j hj => by omega, fun j hj => by omega⟩
    · rcases (show k = 0 ∨ k = 1 ∨ k = 2 ∨ k = 3 ∨ k = 4 by omega) with rfl | rfl | rfl | rfl | rfl <;> simp [qI_get]
    · simp [qI_get]
  exact l_cpA_11 hk 4 0 rfl _ hc
theorem x_image (hX : RX h S) (hG : RG S) (hk : ∀ h', Fr lX h h' → RX h' (uImage S) → K (some (.int (aImage S))) h') : qCall (d + 3) 61 [.ref 0] h K := by
  have hB := hG.1
  have hn0 := hB.1
  have e := hX.1.1
  unfold aImage uImage at hk
  refine call_wp (n := 40) (cut := []) _ (by decide) (Nat.lt_succ_self _) rfl rfl (Nat.le_of_ble_eq_true rfl) rfl ?_
  refine And.intro (fun c1 => ?_) (fun c1 => ?_)
  · have c1 : h.1 3 0 = nI 0 := c1
    rw [e, nI_eq (by omega) (by omega)] at c1
    simp only [if_pos c1] at hk
    exact hk h Fr.rf hX
  · have c1 : ¬ h.1 3 0 = nI 0 := c1
    rw [e, nI_eq (by omega) (by omega)] at c1
    simp only [if_neg c1] at hk
    refine c_copy_8 (fun h' hc => ?_)
    obtain ⟨z1, z2, z3, z4, z5⟩ := hc
    refine And.intro (Or.inr rfl) ?_
    have hf : Fr [0, 8, 9, 10] h (qI h' 0 6 1) := (z1.mono (by decide)).I (by decide)
    obtain ⟨x1, x2, x3, x4, x5, x6, x7, x8⟩ := hX
    have hk2 := hk (qI h' 0 6 1) (hf.mono (by decide)) ?_
    · have e2 : (qI h' 0 6 1).1 5 4 = nI (S 5 3) := by
        rw [qI_get, if_neg (by omega), z1.1 5 (by decide)]
        exact x2.2.2.2.2.1
      rw [← e2] at hk2
      exact hk2
    · have so : ∀ a, a < 10 → gimg S a = S a := fun a ha => gimg_o (by omega)
      have r8 : RS 8 h' S := RS.copy hB hG.2.1 x2 z2 z3 z4 z5
      have f2 : Fr [0] h' (qI h' 0 6 1) := Fr.rf.I (by decide)
      refine ⟨(x1.fr hf (by decide) (by decide)).S (fun a ha => so a (by omega)), (x2.fr hf (by decide) (by decide) (by decide)).S so, fun _ => (r8.fr f2 (by decide) (by decide) (by decide)).S (gkept_i S), rfl, ?_, ?_, ?_, ?_⟩
      · rw [gimg_o (by omega), qI_get, if_neg (by omega), z1.1 0 (by decide)]
        exact x5
      · rw [gimg_o (by omega), qI_get, if_neg (by omega), z1.1 0 (by decide)]
        exact x6
      · rw [gimg_o (by omega), hf.1 1 (by decide)]
        exact x7
      · rw [gimg_o (by omega), gimg_o (by omega), hf.1 2 (by decide)]
        exact x8
theorem x_restore (hX : RX h S) (hG : RG S) (hk : ∀ h', Fr lX h h' → RX h' (uRestore S) → K (some (.int (aRestore S))) h') : qCall (d + 3) 62 [.ref 0] h K := by
  have hB := hG.1
  have h13 := hG.2.2.2.1
  have e := hX.2.2.2.1
  unfold aRestore uRestore at hk
  refine call_wp (n := 40) (cut := []) _ (by decide) (Nat.lt_succ_self _) rfl rfl (Nat.le_of_ble_eq_true rfl) rfl ?_
  refine And.intro (fun c1 => ?_) (fun c1 => ?_)
  · have c1 : h.1 0 6 = nI 0 := c1
    rw [e, nI_eq (by omega) (by omega)] at c1
    simp only [if_pos c1] at hk
    exact hk h Fr.rf hX
  · have c1 : ¬ h.1 0 6 = nI 0 := c1
    rw [e, nI_eq (by omega) (by omega)] at c1
    simp only [if_neg c1] at hk
    have h1 : S 13 0 = 1 := by omega
    obtain ⟨kB, kA⟩ := hG.2.2.1 h1
    refine c_copy_5 (fun h' hc => ?_)
    obtain ⟨z1, z2, z3, z4, z5⟩ := hc
    have hk2 := hk h' (z1.mono (by decide)) ?_
    · have e2 : h'.1 5 4 = nI (S 15 3) := by
        rw [z2 4 (by decide)]
        exact (hX.2.2.1 h1).2.2.2.2.1
      rw [← e2] at hk2
      exact hk2
    · have r5 : RS 5 h' (gkept S) := RS.copy kB kA (hX.2.2.1 h1) z2 z3 z4 z5
      exact hX.scene z1 r5 (fun a ha => gkept_o ha)
end QCP
