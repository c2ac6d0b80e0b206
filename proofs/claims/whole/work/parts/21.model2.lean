/-! ## the reference: reads -/
def RMk (h : qH) (S : gS) : Prop := h.1 15 24 = nI (S 15 2) ∧ h.1 15 25 = nI (S 15 0) ∧ h.1 15 26 = nI (S 15 1) ∧ h.1 15 27 = nI (S 15 3) ∧ h.1 15 28 = nI (S 15 4) ∧ (∀ p, p < S 0 0 → h.1 26 p = nI (S 14 p) ∧ h.1 27 p = nI (S 16 p)) ∧ ∀ i, i < S 15 4 → h.1 28 i = nI (S 17 i) ∧ h.1 29 i = nI (S 18 i) ∧ h.1 30 i = nI (S 19 i)
def RM (h : qH) (S : gS) : Prop := RMc h S ∧ h.1 15 15 = nI (S 12 0) ∧ h.1 15 16 = nI (S 10 0) ∧ (∀ i, i < S 10 0 → h.1 24 i = nI (S 11 i)) ∧ h.1 15 0 = nI (S 12 1) ∧ (∃ kf kc, h.1 15 22 = nI kf ∧ kf < 2 ∧ h.1 15 23 = nI kc ∧ kc ≤ S 12 1 ∧ (S 13 0 = 1 ↔ kf = 1 ∧ kc = S 12 1)) ∧ (S 13 0 = 1 → RMk h S)
def lM : List Nat := [15, 16, 17, 18, 19, 20, 21, 22, 23, 24, 25, 26, 27, 28, 29, 30]
theorem k_eq : ∀ n, n < 5 → ((nI n = (2 : Int32) ↔ n = 2) ∧ (nI n = (3 : Int32) ↔ n = 3)) := by decide +kernel
section QM2
variable {d : Nat} {h : qH} {K : qK} {S : gS}
theorem l_h3 {f t s : Nat} {bl nw : Bool} {u : Option Value} (hM : RMc h S) (hB : GB S) (hf : f < S 0 0) (ht : t < S 0 0) (k1 : (bl || (nw && !gking S t && S 1 f != 2)) = true → K (some (.int 1)) h) (k0 : (bl || (nw && !gking S t && S 1 f != 2)) = false → K (some (.int 0)) h) : qAt (d + 1, 97, some .boolean, q0, K) 43 [some (.ref 15), some (.int (nI f)), some (.int (nI t)), u, some (.int (b2 bl)), some (.int (b2 nw))] [] h := by
  have hn := hB.1
  have ecf : (nI f).toNatClampNeg = f := nI_clamp (by omega)
  have hk5 := (hB.2.1 f hf).1
  cases bl
  · cases nw
    · refine at_wp [] 40 (Nat.le_of_ble_eq_true rfl) rfl ?_
      refine And.intro (fun _ => ?_) (fun c => absurd rfl c)
      refine And.intro (fun _ => ?_) (fun c => absurd rfl c)
      exact ⟨Or.inl rfl, k0 rfl⟩
    · refine at_wp [] 40 (Nat.le_of_ble_eq_true rfl) rfl ?_
      refine And.intro (fun _ => ?_) (fun c => absurd rfl c)
      refine And.intro (fun c => absurd c (by decide)) (fun _ => ?_)
      refine m_isKing hM hB ht (fun b1 => ?_) (fun b1 => ?_)
      · refine And.intro (fun c => absurd c (by decide)) (fun _ => ?_)
        exact ⟨Or.inl rfl, k0 (by simp [b1])⟩
      · refine And.intro (fun _ => ?_) (fun c => absurd rfl c)
        refine And.intro (vp_in_nI (by omega) (by decide)) ?_
        refine And.intro (fun c1 => ?_) (fun c1 => ?_)
        · have c1 : h.1 16 (nI f).toNatClampNeg = 2 := c1
          rw [ecf, (hM.2.1 f hf).1, (k_eq _ hk5).1] at c1
          exact ⟨Or.inl rfl, k0 (by simp [c1])⟩
        · have c1 : ¬ h.1 16 (nI f).toNatClampNeg = 2 := c1
          rw [ecf, (hM.2.1 f hf).1, (k_eq _ hk5).1] at c1
          exact ⟨Or.inr rfl, k1 (by simp [b1, c1])⟩
  · refine at_wp [] 40 (Nat.le_of_ble_eq_true rfl) rfl ?_
    refine And.intro (fun c => absurd c (by decide)) (fun _ => ?_)
    exact ⟨Or.inr rfl, k1 rfl⟩
theorem l_h2 {f t s : Nat} {bl : Bool} {u : Option Value} (hM : RMc h S) (hB : GB S) (hf : f < S 0 0) (ht : t < S 0 0) (hs : s < 4) (k1 : (bl || (gnew S t s && !gking S t && S 1 f != 2)) = true → K (some (.int 1)) h) (k0 : (bl || (gnew S t s && !gking S t && S 1 f != 2)) = false → K (some (.int 0)) h) : qAt (d + 3, 97, some .boolean, q0, K) 21 [some (.ref 15), some (.int (nI f)), some (.int (nI t)), some (.int (nI s)), some (.int (b2 bl)), u] [] h := by
  have hn := hB.1
  have hkt := (hB.2.1 t ht).2.2
  have ect : (nI t).toNatClampNeg = t := nI_clamp (by omega)
  refine at_wp [43] 60 (Nat.le_of_ble_eq_true rfl) rfl ?_
  refine m_infers hM hB ht (fun b1 => ?_) (fun b1 => ?_)
  · refine And.intro (fun c => absurd c (by decide)) (fun _ => ?_)
    have e : gnew S t s = false := by simp [gnew, b1]
    exact l_h3 (nw := false) (s := s) hM hB hf ht (fun z => k1 (by rw [e]; exact z)) (fun z => k0 (by rw [e]; exact z))
  · refine And.intro (fun _ => ?_) (fun c => absurd rfl c)
    refine And.intro (vp_in_nI (by omega) (by decide)) ?_
    show qCall _ 88 [.ref 15, .int (h.1 18 (nI t).toNatClampNeg ||| (1 <<< (nI s &&& 31)))] h _
    rw [ect, (hM.2.1 t ht).2.2.1, bit_or _ hkt s hs]
    refine m_tellAll hM.2.2.1 (bit_or_lt _ hkt s hs) ?_
    refine m_enough hM hB ht (fun b2 => ?_) (fun b2 => ?_)
    · refine And.intro (fun c => absurd c (by decide)) (fun _ => ?_)
      have e : gnew S t s = true := by simp [gnew, b1, b2]
      exact l_h3 (nw := true) (s := s) hM hB hf ht (fun z => k1 (by rw [e]; exact z)) (fun z => k0 (by rw [e]; exact z))
    · refine And.intro (fun _ => ?_) (fun c => absurd rfl c)
      have e : gnew S t s = false := by simp [gnew, b2]
      exact l_h3 (nw := false) (s := s) hM hB hf ht (fun z => k1 (by rw [e]; exact z)) (fun z => k0 (by rw [e]; exact z))
theorem ghang_eq (S : gS) (f t s : Nat) : ghang S f t s = (((S 5 2).testBit s && S 1 f != 2 && S 1 f != 3) || (gnew S t s && !gking S t && S 1 f != 2)) := by
  unfold ghang
  cases (S 5 2).testBit s <;> cases (S 1 f != 2) <;> cases (S 1 f != 3) <;> cases gnew S t s <;> cases gking S t <;> rfl
theorem m_isHanging {f t s : Nat} (hM : RMc h S) (hB : GB S) (hf : f < S 0 0) (ht : t < S 0 0) (hs : s < 4) (k1 : ghang S f t s = true → K (some (.int 1)) h) (k0 : ghang S f t s = false → K (some (.int 0)) h) : qCall (d + 4) 97 [.ref 15, .int (nI f), .int (nI t), .int (nI s)] h K := by
  have hn := hB.1
  have ecf : (nI f).toNatClampNeg = f := nI_clamp (by omega)
  have hk5 := (hB.2.1 f hf).1
  have h52 := hB.2.2.2.2.2
  rw [ghang_eq] at k1 k0
  refine call_wp (n := 40) (cut := [21]) _ (by decide) (Nat.lt_succ_self _) rfl rfl (Nat.le_of_ble_eq_true rfl) rfl ?_
  show qCall _ 74 [.int (h.1 15 7), .int (nI s)] h _
  rw [hM.2.2.2.1]
  refine m_isIn (by omega) (by omega) (fun b1 => ?_) (fun b1 => ?_)
  · refine And.intro (fun c => absurd c (by decide)) (fun _ => ?_)
    refine And.intro (vp_in_nI (by omega) (by decide)) ?_
    refine And.intro (fun c1 => ?_) (fun c1 => ?_)
    · have c1 : h.1 16 (nI f).toNatClampNeg = 2 := c1
      rw [ecf, (hM.2.1 f hf).1, (k_eq _ hk5).1] at c1
      rw [b1, c1] at k1 k0
      exact l_h2 (bl := false) hM hB hf ht hs (fun z => k1 (by rw [c1] at z; exact z)) (fun z => k0 (by rw [c1] at z; exact z))
    · have c1 : ¬ h.1 16 (nI f).toNatClampNeg = 2 := c1
      rw [ecf, (hM.2.1 f hf).1, (k_eq _ hk5).1] at c1
      refine And.intro (vp_in_nI (by omega) (by decide)) ?_
      refine And.intro (fun c2 => ?_) (fun c2 => ?_)
      · have c2 : h.1 16 (nI f).toNatClampNeg = 3 := c2
        rw [ecf, (hM.2.1 f hf).1, (k_eq _ hk5).2] at c2
        rw [b1, c2] at k1 k0
        exact l_h2 (bl := false) hM hB hf ht hs (fun z => k1 (by rw [c2] at z; exact z)) (fun z => k0 (by rw [c2] at z; exact z))
      · have c2 : ¬ h.1 16 (nI f).toNatClampNeg = 3 := c2
        rw [ecf, (hM.2.1 f hf).1, (k_eq _ hk5).2] at c2
        have e : ((S 5 2).testBit s && S 1 f != 2 && S 1 f != 3) = true := by simp [b1, c1, c2]
        rw [e] at k1 k0
        exact l_h2 (bl := true) hM hB hf ht hs (fun z => k1 z) (fun z => k0 z)
  · refine And.intro (fun _ => ?_) (fun c => absurd rfl c)
    rw [b1] at k1 k0
    exact l_h2 (bl := false) hM hB hf ht hs (fun z => k1 z) (fun z => k0 z)
theorem m_as {p k : Int32} (hM : RM h S) (hG : RG S) (hk : K (some (.int (aAs S p k))) h) : qCall (d + 3) 93 [.ref 15, .int p, .int k] h K := by
  have hB := hG.1
  have hn := hB.1
  have e0 : ∀ n, n < 5 → (nI n = (0 : Int32) ↔ n = 0) := by decide +kernel
  have e1 : ∀ n, n < 5 → (nI n = (1 : Int32) ↔ n = 1) := by decide +kernel
  have e4 : ∀ n, n < 5 → (nI n = (4 : Int32) ↔ n = 4) := by decide +kernel
  unfold aAs at hk
  refine call_wp (n := 60) (cut := []) _ (by decide) (Nat.lt_succ_self _) rfl rfl (Nat.le_of_ble_eq_true rfl) rfl ?_
  refine m_isOne hM.1 hB (fun n hn ep => ?_) (fun hp => ?_)
  · subst ep
    rw [ip_some hB hn] at hk
    have hk5 := (hB.2.1 n hn).1
    have ec : (nI n).toNatClampNeg = n := nI_clamp (by omega)
    have em := (hM.1.2.1 n hn).1
    refine And.intro (fun c => absurd c (by decide)) (fun _ => ?_)
    refine m_within (lo := 0) (hi := 4) (by decide) (by decide) (fun q h1 h2 e => ?_) (fun hj => ?_)
    · subst e
      rw [ix_some (n := q) (by omega) (by decide)] at hk
      dsimp only at hk
      refine And.intro (fun c => absurd c (by decide)) (fun _ => ?_)
      refine And.intro (vp_in_nI (by omega) (by decide)) ?_
      refine And.intro (fun c1 => ?_) (fun c1 => ?_)
      · have c1 := (e0 q (by omega)).mp c1
        rw [if_pos (by simp [gisA, c1])] at hk
        exact hk
      · have c1 : ¬ q = 0 := fun z => c1 ((e0 q (by omega)).mpr z)
        refine And.intro (fun c2 => ?_) (fun c2 => ?_)
        · have c2 : h.1 16 (nI n).toNatClampNeg = nI q := c2
          rw [ec, em, nI_eq (by omega) (by omega)] at c2
          rw [if_pos (by simp [gisA, c2])] at hk
          exact hk
        · have c2 : ¬ h.1 16 (nI n).toNatClampNeg = nI q := c2
          rw [ec, em, nI_eq (by omega) (by omega)] at c2
          refine And.intro (fun c3 => ?_) (fun c3 => ?_)
          · have c3 := (e1 q (by omega)).mp c3
            refine And.intro (fun c5 => ?_) (fun c5 => ?_)
            · have c5 : h.1 16 (nI n).toNatClampNeg = 4 := c5
              rw [ec, em, e4 _ hk5] at c5
              rw [if_pos (by simp [gisA, c3, c5])] at hk
              exact hk
            · have c5 : ¬ h.1 16 (nI n).toNatClampNeg = 4 := c5
              rw [ec, em, e4 _ hk5] at c5
              have c2' : ¬ q = S 1 n := fun z => c2 z.symm
              rw [if_neg (by simp [gisA, c1, c2', c5])] at hk
              exact hk
          · have c3 : ¬ q = 1 := fun z => c3 ((e1 q (by omega)).mpr z)
            have c2' : ¬ q = S 1 n := fun z => c2 z.symm
            rw [if_neg (by simp [gisA, c1, c2', c3])] at hk
            exact hk
    · rw [show ix k 5 = none from ix_none (by decide) (fun j hj' => hj j (by omega) (by omega))] at hk
      refine And.intro (fun _ => ?_) (fun c => absurd rfl c)
      exact hk
  · rw [ip_none hB hp] at hk
    refine And.intro (fun _ => ?_) (fun c => absurd rfl c)
    exact hk
theorem m_sign {k : Int32} (hM : RM h S) (hG : RG S) (hk : K (some (.int (aSign S k))) h) : qCall (d + 3) 94 [.ref 15, .int k] h K := by
  have hB := hG.1
  unfold aSign at hk
  refine call_wp (n := 40) (cut := []) _ (by decide) (Nat.lt_succ_self _) rfl rfl (Nat.le_of_ble_eq_true rfl) rfl ?_
  refine m_isSign hM.1 hB (fun n hn h0 ep => ?_) (fun hp => ?_)
  · subst ep
    rw [isg_some h0 hn] at hk
    have ec : (nI n).toNatClampNeg = n := nI_clamp (by omega)
    refine And.intro (fun c => absurd c (by decide)) (fun _ => ?_)
    refine And.intro (vp_in_nI (by omega) (by decide)) ?_
    refine kI hk ?_
    show _ = h.1 20 (nI n).toNatClampNeg
    rw [ec, hM.1.2.2.1 n hn]
  · rw [isg_none hp] at hk
    refine And.intro (fun _ => ?_) (fun c => absurd rfl c)
    exact hk
theorem l_safe {f t : Nat} (hM : RMc h S) (hB : GB S) (hf : f < S 0 0) (ht : t < S 0 0) (hk : K (some (.int (nI (gsafeN S f t 4)))) h) : ∀ m n, n + m = 4 → qAt (d + 4, 106, some .int, q0, K) 4 [some (.ref 15), some (.int (nI f)), some (.int (nI t)), some (.int (nI (gsafeN S f t n))), some (.int (nI n))] [] h := by
  intro m
  induction m with
  | zero =>
    intro n hn
    have hn : n = 4 := by omega
    subst hn
    refine at_wp [] 10 (Nat.le_of_ble_eq_true rfl) rfl ?_
    refine And.intro (fun _ => ?_) (fun c => absurd (by decide) c)
    exact hk
  | succ m ih =>
    intro n hn
    have hlt := gsafeN_lt S f t n (by omega)
    have ihn := ih (n + 1) (by omega)
    rw [← nI_1] at ihn
    have z0 : nI (gsafeN S f t n) ||| nI 0 = nI (gsafeN S f t n) := (by decide +kernel : ∀ x, x < 16 → nI x ||| nI 0 = nI x) _ hlt
    refine at_wp [4] 60 (Nat.le_of_ble_eq_true rfl) rfl ?_
    refine And.intro (fun c => absurd c (nI_ge (a := n) (b := 4) (by omega) (by decide))) (fun _ => ?_)
    refine m_canTell hM hB hf ht (by omega) (fun b1 => ?_) (fun b1 => ?_)
    · refine And.intro (fun c => absurd c (by decide)) (fun _ => ?_)
      refine m_isHanging hM hB hf ht (by omega) (fun b2 => ?_) (fun b2 => ?_)
      · refine And.intro (fun c => absurd c (by decide)) (fun _ => ?_)
        show qAt _ 4 [some (.ref 15), some (.int (nI f)), some (.int (nI t)), some (.int (nI (gsafeN S f t n) ||| nI 0)), some (.int (nI n + 1))] [] h
        rw [z0]
        rw [gsafeN, b1, b2] at ihn
        exact ihn
      · refine And.intro (fun _ => ?_) (fun c => absurd rfl c)
        show qAt _ 4 [some (.ref 15), some (.int (nI f)), some (.int (nI t)), some (.int (nI (gsafeN S f t n) ||| (1 <<< (nI n &&& 31)))), some (.int (nI n + 1))] [] h
        rw [bit_or _ hlt n (by omega)]
        rw [gsafeN, b1, b2] at ihn
        exact ihn
    · refine And.intro (fun _ => ?_) (fun c => absurd rfl c)
      show qAt _ 4 [some (.ref 15), some (.int (nI f)), some (.int (nI t)), some (.int (nI (gsafeN S f t n) ||| nI 0)), some (.int (nI n + 1))] [] h
      rw [z0]
      rw [gsafeN, b1] at ihn
      exact ihn
theorem m_safeNow {f t : Nat} (hM : RMc h S) (hB : GB S) (hf : f < S 0 0) (ht : t < S 0 0) (hk : K (some (.int (nI (gsafeN S f t 4)))) h) : qCall (d + 5) 106 [.ref 15, .int (nI f), .int (nI t)] h K := by
  refine call_wp (n := 4) (cut := []) _ (by decide) (Nat.lt_succ_self _) rfl rfl (Nat.le_of_ble_eq_true rfl) rfl ?_
  exact l_safe hM hB hf ht hk 4 0 rfl
theorem m_isAnyHanged {f t : Nat} (hM : RMc h S) (hB : GB S) (hf : f < S 0 0) (ht : t < S 0 0) (k1 : ((S 5 0).testBit f || (S 5 0).testBit t) = true → K (some (.int 1)) h) (k0 : ((S 5 0).testBit f || (S 5 0).testBit t) = false → K (some (.int 0)) h) : qCall (d + 2) 107 [.ref 15, .int (nI f), .int (nI t)] h K := by
  have hn := hB.1
  have hh := hB.2.2.2.1
  refine call_wp (n := 30) (cut := []) _ (by decide) (Nat.lt_succ_self _) rfl rfl (Nat.le_of_ble_eq_true rfl) rfl ?_
  show qCall _ 74 [.int (h.1 15 8), .int (nI f)] h _
  rw [hM.2.2.2.2.1]
  refine m_isIn (by omega) (by omega) (fun b1 => ?_) (fun b1 => ?_)
  · refine And.intro (fun c => absurd c (by decide)) (fun _ => ?_)
    exact ⟨Or.inr rfl, k1 (by simp [b1])⟩
  · refine And.intro (fun _ => ?_) (fun c => absurd rfl c)
    show qCall _ 74 [.int (h.1 15 8), .int (nI t)] h _
    rw [hM.2.2.2.2.1]
    refine m_isIn (by omega) (by omega) (fun b2 => ?_) (fun b2 => ?_)
    · refine And.intro (fun c => absurd c (by decide)) (fun _ => ?_)
      exact ⟨Or.inr rfl, k1 (by simp [b2])⟩
    · refine And.intro (fun _ => ?_) (fun c => absurd rfl c)
      exact ⟨Or.inl rfl, k0 (by simp [b1, b2])⟩
theorem m_safe {f t : Int32} (hM : RM h S) (hG : RG S) (hk : K (some (.int (aSafe S f t))) h) : qCall (d + 6) 108 [.ref 15, .int f, .int t] h K := by
  have hB := hG.1
  have hn0 := hB.1
  unfold aSafe at hk
  refine call_wp (n := 40) (cut := []) _ (by decide) (Nat.lt_succ_self _) rfl rfl (Nat.le_of_ble_eq_true rfl) rfl ?_
  refine m_isOne hM.1 hB (fun p hp ep => ?_) (fun hp => ?_)
  · subst ep
    refine And.intro (fun c => absurd c (by decide)) (fun _ => ?_)
    refine m_isOne hM.1 hB (fun q hq eq => ?_) (fun hq => ?_)
    · subst eq
      refine And.intro (fun c => absurd c (by decide)) (fun _ => ?_)
      refine And.intro (fun c1 => ?_) (fun c1 => ?_)
      · have c1 := (nI_eq (by omega) (by omega)).mp c1
        rw [iPair_none hB (fun p' q' hp' hq' hne e1 e2 => by
          rw [nI_eq (by omega) (by omega)] at e1 e2
          omega)] at hk
        exact hk
      · have c1 : ¬ p = q := fun z => c1 (by rw [z])
        rw [iPair_some hB hp hq c1] at hk
        dsimp only at hk
        refine m_isAnyHanged hM.1 hB hp hq (fun b1 => ?_) (fun b1 => ?_)
        · refine And.intro (fun c => absurd c (by decide)) (fun _ => ?_)
          rw [if_pos b1] at hk
          exact hk
        · refine And.intro (fun _ => ?_) (fun c => absurd rfl c)
          rw [if_neg (by rw [b1]; decide)] at hk
          exact m_safeNow hM.1 hB hp hq hk
    · refine And.intro (fun _ => ?_) (fun c => absurd rfl c)
      rw [iPair_none hB (fun p' q' hp' hq' hne e1 e2 => hq q' hq' e2)] at hk
      exact hk
  · refine And.intro (fun _ => ?_) (fun c => absurd rfl c)
    rw [iPair_none hB (fun p' q' hp' hq' hne e1 e2 => hp p' hp' e1)] at hk
    exact hk
end QM2
