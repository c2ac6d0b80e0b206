/-! ## audiences: the reference -/
def gmk (S T : gS) : gS := fun x y => if x = 4 then T 4 y else if x = 5 ∧ y = 0 then T 5 0 else S x y
theorem gmk_o {S T : gS} {a : Nat} (h4 : a ≠ 4) (h5 : a ≠ 5) : gmk S T a = S a := by
  funext y
  unfold gmk
  rw [if_neg h4, if_neg (fun z => h5 z.1)]
theorem gmk_4 {S T : gS} : gmk S T 4 = T 4 := by
  funext y
  unfold gmk
  rw [if_pos rfl]
theorem gmk_50 {S T : gS} : gmk S T 5 0 = T 5 0 := by
  unfold gmk
  rw [if_neg (by omega), if_pos ⟨rfl, rfl⟩]
theorem gmk_5 {S T : gS} {y : Nat} (h : y ≠ 0) : gmk S T 5 y = S 5 y := by
  unfold gmk
  rw [if_neg (by omega), if_neg (fun z => h z.2)]
theorem gmk_B {S T : gS} (hB : GB S) (hT : GB T) (e : ∀ a, a < 4 → T a = S a) : GB (gmk S T) := by
  unfold GB
  rw [gmk_o (a := 0) (by decide) (by decide), gmk_o (a := 1) (by decide) (by decide), gmk_o (a := 2) (by decide) (by decide), gmk_o (a := 3) (by decide) (by decide), gmk_4, gmk_50, gmk_5 (by decide), gmk_5 (by decide)]
  refine ⟨hB.1, fun p hp => ⟨(hB.2.1 p hp).1, (hB.2.1 p hp).2.1, (hT.2.1 p (by rw [e 0 (by decide)]; exact hp)).2.2⟩, hB.2.2.1, hT.2.2.2.1, hB.2.2.2.2.1, hB.2.2.2.2.2⟩
theorem ginf_c {A B : gS} (e1 : A 1 = B 1) (e2 : A 2 = B 2) (e3 : A 3 = B 3) (p s : Nat) : ginf A p s = ginf B p s := by
  unfold ginf gtog
  rw [e1, e2, e3]
theorem gcan_c {A B : gS} (e4 : A 4 = B 4) (e5 : A 5 0 = B 5 0) (f t s : Nat) : gcan A f t s = gcan B f t s := by
  unfold gcan
  rw [e4, e5]
theorem ghang_c {A B : gS} (e1 : A 1 = B 1) (e2 : A 2 = B 2) (e3 : A 3 = B 3) (e4 : A 4 = B 4) (e5 : A 5 2 = B 5 2) (f t s : Nat) : ghang A f t s = ghang B f t s := by
  unfold ghang gnew gking
  rw [ginf_c e1 e2 e3, ginf_c e1 e2 e3, e1, e4, e5]
theorem ginfN_c {A B : gS} (e1 : A 1 = B 1) (e2 : A 2 = B 2) (e3 : A 3 = B 3) (e4 : A 4 = B 4) : ∀ n, ginfN A n = ginfN B n
  | 0 => rfl
  | n + 1 => by rw [ginfN, ginfN, ginf_c e1 e2 e3, e4, ginfN_c e1 e2 e3 e4 n]
section QAU3
variable {d : Nat} {h : qH} {K : qK} {S : gS}
theorem RMc.h8 {v : Nat} (hM : RMc h S) : RMc (qI h 15 8 (nI v)) (sS S 5 0 v) := by
  obtain ⟨m1, m2, m3, m4, m5, m6, m7, m8, m9⟩ := hM
  have so : ∀ a, a ≠ 5 → sS S 5 0 v a = S a := fun a h1 => sS_ne h1
  have hs : ∀ a, a ≠ 15 → (qI h 15 8 (nI v)).1 a = h.1 a := fun a h1 => qI_ne h1
  have h15 : ∀ k, k ≠ 8 → (qI h 15 8 (nI v)).1 15 k = h.1 15 k := fun k hk => by rw [qI_get, if_neg (fun z => hk z.2)]
  have s5 : ∀ y, y ≠ 0 → sS S 5 0 v 5 y = S 5 y := fun y hy => sS_nb hy
  have ej : (qI h 15 8 (nI v)).1 15 8 = nI v := by rw [qI_get, if_pos ⟨rfl, rfl⟩]
  have es : sS S 5 0 v 5 0 = v := sS_eq
  unfold RMc
  rw [so 0 (by decide), so 1 (by decide), so 2 (by decide), so 3 (by decide), so 4 (by decide), so 6 (by decide), so 7 (by decide), so 8 (by decide), so 9 (by decide), hs 16 (by decide), hs 17 (by decide), hs 18 (by decide), hs 19 (by decide), hs 20 (by decide), hs 21 (by decide), hs 22 (by decide), hs 23 (by decide)]
  rw [h15 1 (by decide), h15 7 (by decide), h15 9 (by decide), h15 10 (by decide), h15 11 (by decide), s5 1 (by decide), s5 2 (by decide), s5 3 (by decide), s5 4 (by decide), ej, es]
  exact ⟨m1, m2, m3, m4, rfl, m6, m7, m8, m9⟩
theorem l_save (hk : ∀ h1, Fr [25] h h1 → (∀ p, p < 4 → h1.1 25 p = h.1 18 p) → K none h1) : ∀ m n, n + m = 4 → ∀ h1, Fr [25] h h1 → (∀ p, p < n → h1.1 25 p = h.1 18 p) → qAt (d, 100, none, q0, K) 2 [some (.ref 15), some (.int (nI n))] [] h1 := by
  intro m
  induction m with
  | zero =>
    intro n hn h1 z1 z2
    have hn : n = 4 := by omega
    subst hn
    refine at_wp [] 12 (Nat.le_of_ble_eq_true rfl) rfl ?_
    refine And.intro (fun _ => ?_) (fun c => absurd (by decide) c)
    exact hk h1 z1 z2
  | succ m ih =>
    intro n hn h1 z1 z2
    have ec : (nI n).toNatClampNeg = n := nI_clamp (by omega)
    refine at_wp [2] 40 (Nat.le_of_ble_eq_true rfl) rfl ?_
    refine And.intro (fun c => absurd c (nI_ge (a := n) (b := 4) (by omega) (by decide))) (fun _ => ?_)
    refine And.intro (vp_in_nI (by omega) (by decide)) ?_
    refine And.intro (vp_in_nI (by omega) (by decide)) ?_
    have ih := ih (n + 1) (by omega) (qI h1 25 n (h1.1 18 n)) (z1.I (by decide)) (fun p hp => by
      rw [qI_get, z1.1 18 (by decide)]
      by_cases e : p = n
      · rw [if_pos ⟨rfl, e⟩, e]
      · rw [if_neg (fun w => e w.2)]
        exact z2 p (by omega))
    rw [← nI_1] at ih
    show qAt _ 2 [some (.ref 15), some (.int (nI n + 1))] [] (qI h1 25 (nI n).toNatClampNeg (h1.1 18 (nI n).toNatClampNeg))
    rw [ec]
    exact ih
theorem m_save (hk : ∀ h1, Fr [25] h h1 → (∀ p, p < 4 → h1.1 25 p = h.1 18 p) → K none h1) : qCall (d + 1) 100 [.ref 15] h K := by
  refine call_wp (n := 20) (cut := [2]) _ (by decide) (Nat.lt_succ_self _) rfl rfl (Nat.le_of_ble_eq_true rfl) rfl ?_
  exact l_save hk 4 0 rfl h Fr.rf (fun p hp => by omega)
theorem l_load (hk : ∀ h1, Fr [18] h h1 → (∀ p, p < 4 → h1.1 18 p = h.1 25 p) → K none h1) : ∀ m n, n + m = 4 → ∀ h1, Fr [18] h h1 → (∀ p, p < n → h1.1 18 p = h.1 25 p) → qAt (d, 101, none, q0, K) 2 [some (.ref 15), some (.int (nI n))] [] h1 := by
  intro m
  induction m with
  | zero =>
    intro n hn h1 z1 z2
    have hn : n = 4 := by omega
    subst hn
    refine at_wp [] 12 (Nat.le_of_ble_eq_true rfl) rfl ?_
    refine And.intro (fun _ => ?_) (fun c => absurd (by decide) c)
    exact hk h1 z1 z2
  | succ m ih =>
    intro n hn h1 z1 z2
    have ec : (nI n).toNatClampNeg = n := nI_clamp (by omega)
    refine at_wp [2] 40 (Nat.le_of_ble_eq_true rfl) rfl ?_
    refine And.intro (fun c => absurd c (nI_ge (a := n) (b := 4) (by omega) (by decide))) (fun _ => ?_)
    refine And.intro (vp_in_nI (by omega) (by decide)) ?_
    refine And.intro (vp_in_nI (by omega) (by decide)) ?_
    have ih := ih (n + 1) (by omega) (qI h1 18 n (h1.1 25 n)) (z1.I (by decide)) (fun p hp => by
      rw [qI_get, z1.1 25 (by decide)]
      by_cases e : p = n
      · rw [if_pos ⟨rfl, e⟩, e]
      · rw [if_neg (fun w => e w.2)]
        exact z2 p (by omega))
    rw [← nI_1] at ih
    show qAt _ 2 [some (.ref 15), some (.int (nI n + 1))] [] (qI h1 18 (nI n).toNatClampNeg (h1.1 25 (nI n).toNatClampNeg))
    rw [ec]
    exact ih
theorem m_load (hk : ∀ h1, Fr [18] h h1 → (∀ p, p < 4 → h1.1 18 p = h.1 25 p) → K none h1) : qCall (d + 1) 101 [.ref 15] h K := by
  refine call_wp (n := 20) (cut := [2]) _ (by decide) (Nat.lt_succ_self _) rfl rfl (Nat.le_of_ble_eq_true rfl) rfl ?_
  exact l_load hk 4 0 rfl h Fr.rf (fun p hp => by omega)
end QAU3
