/-! ## the reference: its court and scene -/
def RMc (h : qH) (S : gS) : Prop := h.1 15 1 = nI (S 0 0) ∧ (∀ p, p < S 0 0 → h.1 16 p = nI (S 1 p) ∧ h.1 17 p = nI (S 2 p) ∧ h.1 18 p = nI (S 4 p) ∧ h.1 19 p = nI (S 6 p)) ∧ (∀ k, k < 4 → h.1 20 k = nI (S 3 k)) ∧ h.1 15 7 = nI (S 5 2) ∧ h.1 15 8 = nI (S 5 0) ∧ h.1 15 9 = nI (S 5 1) ∧ h.1 15 10 = nI (S 5 3) ∧ h.1 15 11 = nI (S 5 4) ∧ ∀ i, i < S 5 4 → h.1 21 i = nI (S 7 i) ∧ h.1 22 i = nI (S 8 i) ∧ h.1 23 i = nI (S 9 i)
def gtogN (S : gS) (s : Nat) : Nat → Nat
  | 0 => 0
  | k + 1 => gtogN S s k + (if s.testBit k then S 3 k else 0)
theorem gtogN_4 (S : gS) (s : Nat) : gtogN S s 4 = gtog S s := by
  unfold gtog
  simp only [gtogN]
  omega
theorem bit_in : ∀ s, s < 512 → ∀ k, k < 9 → (nI s >>> (nI k &&& 31) &&& 1 = 1 ↔ s.testBit k = true) := by decide +kernel
theorem bit_val : ∀ s, s < 16 → ∀ k, k < 4 → nI s >>> (nI k &&& 31) &&& 1 = b2 (s.testBit k) := by decide +kernel
theorem pop4 : ∀ s, s < 16 → gpopN s 4 = gpop s := by decide +kernel
section QM
variable {d : Nat} {h : qH} {K : qK} {S : gS}
theorem m_within {v : Int32} {lo hi : Nat} (hlo : lo < 2 ^ 31) (hhi : hi < 2 ^ 31) (ht : ∀ n, lo ≤ n → n ≤ hi → v = nI n → K (some (.int 1)) h) (hf : (∀ n, lo ≤ n → n ≤ hi → v ≠ nI n) → K (some (.int 0)) h) : qCall (d + 1) 73 [.int v, .int (nI lo), .int (nI hi)] h K := by
  refine call_wp (n := 20) (cut := []) _ (by decide) (Nat.lt_succ_self _) rfl rfl (Nat.le_of_ble_eq_true rfl) rfl ?_
  refine And.intro (fun c1 => ?_) (fun c1 => ?_)
  · refine ⟨Or.inl rfl, hf (fun n h1 h2 z => ?_)⟩
    rw [z] at c1
    exact nI_nlt h1 (by omega) c1
  · have hv : ¬ v < 0 := fun z => c1 (Int32.lt_of_lt_of_le z (nI_pos' hlo))
    obtain ⟨j, hj, rfl⟩ := nI_of hv
    rw [nI_ltI hj hlo] at c1
    refine And.intro (fun c2 => ?_) (fun c2 => ?_)
    · rw [nI_ltI hhi hj] at c2
      refine ⟨Or.inl rfl, hf (fun n h1 h2 z => ?_)⟩
      rw [nI_eq hj (by omega)] at z
      omega
    · rw [nI_ltI hhi hj] at c2
      exact ⟨Or.inr rfl, ht j (by omega) (by omega) rfl⟩
theorem m_isIn {s k : Nat} (hs : s < 512) (hk : k < 9) (ht : s.testBit k = true → K (some (.int 1)) h) (hf : s.testBit k = false → K (some (.int 0)) h) : qCall (d + 1) 74 [.int (nI s), .int (nI k)] h K := by
  refine call_wp (n := 20) (cut := []) _ (by decide) (Nat.lt_succ_self _) rfl rfl (Nat.le_of_ble_eq_true rfl) rfl ?_
  refine And.intro (fun c1 => ?_) (fun c1 => ?_)
  · exact ⟨Or.inr rfl, ht ((bit_in s hs k hk).mp c1)⟩
  · refine ⟨Or.inl rfl, hf ?_⟩
    cases hb : s.testBit k with
    | false => rfl
    | true => exact absurd ((bit_in s hs k hk).mpr hb) c1
theorem l_size {s : Nat} (hs : s < 16) (hk : K (some (.int (nI (gpop s)))) h) : ∀ m n, n + m = 4 → qAt (d, 75, some .int, q0, K) 4 [some (.int (nI s)), some (.int (nI (gpopN s n))), some (.int (nI n))] [] h := by
  intro m
  induction m with
  | zero =>
    intro n hn
    have hn : n = 4 := by omega
    subst hn
    refine at_wp [] 12 (Nat.le_of_ble_eq_true rfl) rfl ?_
    refine And.intro (fun _ => ?_) (fun c => absurd (by decide) c)
    rw [← pop4 s hs] at hk
    exact hk
  | succ m ih =>
    intro n hn
    have ihn := ih (n + 1) (by omega)
    rw [gpopN, ← nI_1] at ihn
    refine at_wp [4] 40 (Nat.le_of_ble_eq_true rfl) rfl ?_
    refine And.intro (fun c => absurd c (nI_ge (a := n) (b := 4) (by omega) (by decide))) (fun _ => ?_)
    show qAt _ 4 [some (.int (nI s)), some (.int (nI (gpopN s n) + (nI s >>> (nI n &&& 31) &&& 1))), some (.int (nI n + 1))] [] h
    rw [bit_val s hs n (by omega)]
    cases hb : s.testBit n
    · rw [hb] at ihn
      show qAt _ 4 [some (.int (nI s)), some (.int (nI (gpopN s n) + nI 0)), some (.int (nI n + 1))] [] h
      rw [nI_add]
      exact ihn
    · rw [hb] at ihn
      show qAt _ 4 [some (.int (nI s)), some (.int (nI (gpopN s n) + nI 1)), some (.int (nI n + 1))] [] h
      rw [nI_add]
      exact ihn
theorem m_size {s : Nat} (hs : s < 16) (hk : K (some (.int (nI (gpop s)))) h) : qCall (d + 1) 75 [.int (nI s)] h K := by
  refine call_wp (n := 4) (cut := []) _ (by decide) (Nat.lt_succ_self _) rfl rfl (Nat.le_of_ble_eq_true rfl) rfl ?_
  exact l_size hs hk 4 0 rfl
theorem m_isOne {p : Int32} (hM : RMc h S) (hB : GB S) (ht : ∀ n, n < S 0 0 → p = nI n → K (some (.int 1)) h) (hf : (∀ n, n < S 0 0 → p ≠ nI n) → K (some (.int 0)) h) : qCall (d + 2) 85 [.ref 15, .int p] h K := by
  have hn := hB.1
  refine call_wp (n := 20) (cut := []) _ (by decide) (Nat.lt_succ_self _) rfl rfl (Nat.le_of_ble_eq_true rfl) rfl ?_
  show qCall _ 73 [.int p, .int (nI 0), .int (h.1 15 1 - 1)] h _
  rw [hM.1]
  by_cases h0 : S 0 0 = 0
  · rw [h0]
    have hz : K (some (.int 0)) h := hf (fun n hn' => by omega)
    clear ht hf
    show qCall _ 73 [.int p, .int (nI 0), .int (nI 0 - 1)] h _
    refine call_wp (n := 20) (cut := []) _ (by decide) (Nat.lt_succ_self _) rfl rfl (Nat.le_of_ble_eq_true rfl) rfl ?_
    refine And.intro (fun c1 => ?_) (fun c1 => ?_)
    · exact ⟨Or.inl rfl, Or.inl rfl, hz⟩
    · refine And.intro (fun c2 => ?_) (fun c2 => ?_)
      · exact ⟨Or.inl rfl, Or.inl rfl, hz⟩
      · exfalso
        have c1 : ¬ p < 0 := c1
        obtain ⟨j, hj, rfl⟩ := nI_of c1
        have c2 : ¬ nI 0 - 1 < nI j := c2
        refine c2 ?_
        rw [Int32.lt_iff_toInt_lt, nI_toInt hj, show (nI 0 - 1).toInt = -1 by decide]
        omega
  · obtain ⟨n, hn1⟩ : ∃ n, S 0 0 = n + 1 := ⟨S 0 0 - 1, by omega⟩
    rw [hn1, nI_pred]
    refine m_within (by decide) (by omega) (fun j h1 h2 e => ?_) (fun hj => ?_)
    · exact ⟨Or.inr rfl, ht j (by omega) e⟩
    · exact ⟨Or.inl rfl, hf (fun j hj' => hj j (by omega) (by omega))⟩
theorem m_isSign {p : Int32} (hM : RMc h S) (hB : GB S) (ht : ∀ n, n < 4 → 0 < S 0 0 → p = nI n → K (some (.int 1)) h) (hf : (0 < S 0 0 → ∀ n, n < 4 → p ≠ nI n) → K (some (.int 0)) h) : qCall (d + 2) 86 [.ref 15, .int p] h K := by
  have hn := hB.1
  have e := hM.1
  refine call_wp (n := 30) (cut := []) _ (by decide) (Nat.lt_succ_self _) rfl rfl (Nat.le_of_ble_eq_true rfl) rfl ?_
  refine And.intro (fun c1 => ?_) (fun c1 => ?_)
  · refine ⟨Or.inl rfl, hf (fun h0 => ?_)⟩
    have c1 : h.1 15 1 ≤ nI 0 := c1
    rw [e, nI_leI (by omega) (by omega)] at c1
    omega
  · have c1 : ¬ h.1 15 1 ≤ nI 0 := c1
    rw [e, nI_leI (by omega) (by omega)] at c1
    refine m_within (lo := 0) (hi := 3) (by decide) (by decide) (fun j h1 h2 e => ?_) (fun hj => ?_)
    · refine And.intro (fun c => absurd c (by decide)) (fun _ => ?_)
      exact ⟨Or.inr rfl, ht j (by omega) (by omega) e⟩
    · refine And.intro (fun _ => ?_) (fun c => absurd rfl c)
      exact ⟨Or.inl rfl, hf (fun _ j hj' => hj j (by omega) (by omega))⟩
theorem m_arr {r N : Nat} {p : Nat} (h1 : p < N) (h2 : N < 2 ^ 31) : (nI p).toNatClampNeg = p := nI_clamp (by omega)
theorem m_isKing {p : Nat} (hM : RMc h S) (hB : GB S) (hp : p < S 0 0) (ht : gking S p = true → K (some (.int 1)) h) (hf : gking S p = false → K (some (.int 0)) h) : qCall (d + 1) 87 [.ref 15, .int (nI p)] h K := by
  have hn := hB.1
  have hb := (hB.2.1 p hp).1
  have ek := (hM.2.1 p hp).1
  have ec : (nI p).toNatClampNeg = p := nI_clamp (by omega)
  have e1 : ∀ n, n < 5 → (nI n = (1 : Int32) ↔ n = 1) := by decide +kernel
  have e4 : ∀ n, n < 5 → (nI n = (4 : Int32) ↔ n = 4) := by decide +kernel
  refine call_wp (n := 30) (cut := []) _ (by decide) (Nat.lt_succ_self _) rfl rfl (Nat.le_of_ble_eq_true rfl) rfl ?_
  refine And.intro (vp_in_nI (by omega) (by decide)) ?_
  refine And.intro (fun c1 => ?_) (fun c1 => ?_)
  · have c1 : h.1 16 (nI p).toNatClampNeg = 1 := c1
    rw [ec, ek] at c1
    exact ⟨Or.inr rfl, ht (by simp [gking, (e1 _ hb).mp c1])⟩
  · have c1 : ¬ h.1 16 (nI p).toNatClampNeg = 1 := c1
    rw [ec, ek] at c1
    have c1 : ¬ S 1 p = 1 := fun z => c1 ((e1 _ hb).mpr z)
    refine And.intro (vp_in_nI (by omega) (by decide)) ?_
    refine And.intro (fun c2 => ?_) (fun c2 => ?_)
    · have c2 : h.1 16 (nI p).toNatClampNeg = 4 := c2
      rw [ec, ek] at c2
      exact ⟨Or.inr rfl, ht (by simp [gking, (e4 _ hb).mp c2])⟩
    · have c2 : ¬ h.1 16 (nI p).toNatClampNeg = 4 := c2
      rw [ec, ek] at c2
      have c2 : ¬ S 1 p = 4 := fun z => c2 ((e4 _ hb).mpr z)
      exact ⟨Or.inl rfl, hf (by simp [gking, c1, c2])⟩
theorem l_tellAll {s : Nat} (hT : ∀ k, k < 4 → h.1 20 k = nI (S 3 k)) (hs : s < 16) (hk : K (some (.int (nI (gtog S s)))) h) : ∀ m n, n + m = 4 → qAt (d + 1, 88, some .int, q0, K) 4 [some (.ref 15), some (.int (nI s)), some (.int (nI (gtogN S s n))), some (.int (nI n))] [] h := by
  intro m
  induction m with
  | zero =>
    intro n hn
    have hn : n = 4 := by omega
    subst hn
    refine at_wp [] 12 (Nat.le_of_ble_eq_true rfl) rfl ?_
    refine And.intro (fun _ => ?_) (fun c => absurd (by decide) c)
    rw [← gtogN_4] at hk
    exact hk
  | succ m ih =>
    intro n hn
    have ihn := ih (n + 1) (by omega)
    rw [gtogN, ← nI_1] at ihn
    refine at_wp [4] 40 (Nat.le_of_ble_eq_true rfl) rfl ?_
    refine And.intro (fun c => absurd c (nI_ge (a := n) (b := 4) (by omega) (by decide))) (fun _ => ?_)
    refine m_isIn (by omega) (by omega) (fun b1 => ?_) (fun b1 => ?_)
    · refine And.intro (fun c => absurd c (by decide)) (fun _ => ?_)
      refine And.intro (vp_in_nI (by omega) (by decide)) ?_
      rw [if_pos b1, ← nI_add, ← hT n (by omega)] at ihn
      have ec : (nI n).toNatClampNeg = n := nI_clamp (by omega)
      show qAt _ 4 [some (.ref 15), some (.int (nI s)), some (.int (nI (gtogN S s n) + h.1 20 (nI n).toNatClampNeg)), some (.int (nI n + 1))] [] h
      rw [ec]
      exact ihn
    · refine And.intro (fun _ => ?_) (fun c => absurd rfl c)
      rw [b1] at ihn
      show qAt _ 4 [some (.ref 15), some (.int (nI s)), some (.int (nI (gtogN S s n) + nI 0)), some (.int (nI n + 1))] [] h
      rw [nI_add]
      exact ihn
theorem m_tellAll {s : Nat} (hT : ∀ k, k < 4 → h.1 20 k = nI (S 3 k)) (hs : s < 16) (hk : K (some (.int (nI (gtog S s)))) h) : qCall (d + 2) 88 [.ref 15, .int (nI s)] h K := by
  refine call_wp (n := 4) (cut := []) _ (by decide) (Nat.lt_succ_self _) rfl rfl (Nat.le_of_ble_eq_true rfl) rfl ?_
  exact l_tellAll hT hs hk 4 0 rfl
theorem m_isEnough {p m : Nat} (hK : h.1 16 p = nI (S 1 p)) (hN : h.1 17 p = nI (S 2 p)) (hp4 : p < 4) (hk5 : S 1 p < 5) (hn10 : S 2 p < 10) (hm : m < 40) (ht : gen (S 1 p) (S 2 p) ≤ m → K (some (.int 1)) h) (hf : ¬ gen (S 1 p) (S 2 p) ≤ m → K (some (.int 0)) h) : qCall (d + 1) 89 [.ref 15, .int (nI p), .int (nI m)] h K := by
  have ec : (nI p).toNatClampNeg = p := nI_clamp (by omega)
  have e2 : ∀ n, n < 5 → (nI n = (2 : Int32) ↔ n = 2) := by decide +kernel
  have e4 : ∀ n, n < 5 → (nI n = (4 : Int32) ↔ n = 4) := by decide +kernel
  have eh : ∀ n, n < 10 → (nI n + 1) / 2 = nI ((n + 1) / 2) := by decide +kernel
  refine call_wp (n := 50) (cut := []) _ (by decide) (Nat.lt_succ_self _) rfl rfl (Nat.le_of_ble_eq_true rfl) rfl ?_
  refine And.intro (vp_in_nI (by omega) (by decide)) ?_
  refine And.intro (vp_in_nI (by omega) (by decide)) ?_
  refine And.intro (fun c1 => ?_) (fun c1 => ?_)
  · have c1 : h.1 16 (nI p).toNatClampNeg = 2 := c1
    rw [ec, hK, e2 _ hk5] at c1
    refine And.intro (by decide) ?_
    have eg : (h.1 17 (nI p).toNatClampNeg + 1) / 2 = nI (gen (S 1 p) (S 2 p)) := by rw [ec, hN, eh _ hn10, c1]; rfl
    have lg : gen (S 1 p) (S 2 p) < 12 := by rw [c1]; show (S 2 p + 1) / 2 < 12; omega
    refine And.intro (fun c2 => ?_) (fun c2 => ?_)
    · have c2 : nI m < (h.1 17 (nI p).toNatClampNeg + 1) / 2 := c2
      rw [eg, nI_ltI (by omega) (by omega)] at c2
      exact ⟨Or.inl rfl, hf (by omega)⟩
    · have c2 : ¬ nI m < (h.1 17 (nI p).toNatClampNeg + 1) / 2 := c2
      rw [eg, nI_ltI (by omega) (by omega)] at c2
      exact ⟨Or.inr rfl, ht (by omega)⟩
  · have c1 : ¬ h.1 16 (nI p).toNatClampNeg = 2 := c1
    rw [ec, hK, e2 _ hk5] at c1
    refine And.intro (vp_in_nI (by omega) (by decide)) ?_
    refine And.intro (fun c3 => ?_) (fun c3 => ?_)
    · have c3 : h.1 16 (nI p).toNatClampNeg = 4 := c3
      rw [ec, hK, e4 _ hk5] at c3
      have eg : h.1 17 (nI p).toNatClampNeg + nI 2 = nI (gen (S 1 p) (S 2 p)) := by rw [ec, hN, nI_add, c3]; rfl
      have lg : gen (S 1 p) (S 2 p) < 12 := by rw [c3]; show S 2 p + 2 < 12; omega
      refine And.intro (fun c2 => ?_) (fun c2 => ?_)
      · have c2 : nI m < h.1 17 (nI p).toNatClampNeg + nI 2 := c2
        rw [eg, nI_ltI (by omega) (by omega)] at c2
        exact ⟨Or.inl rfl, hf (by omega)⟩
      · have c2 : ¬ nI m < h.1 17 (nI p).toNatClampNeg + nI 2 := c2
        rw [eg, nI_ltI (by omega) (by omega)] at c2
        exact ⟨Or.inr rfl, ht (by omega)⟩
    · have c3 : ¬ h.1 16 (nI p).toNatClampNeg = 4 := c3
      rw [ec, hK, e4 _ hk5] at c3
      have e0 : gen (S 1 p) (S 2 p) = S 2 p := by
        unfold gen
        split
        · omega
        · omega
        · rfl
      have eg : h.1 17 (nI p).toNatClampNeg = nI (gen (S 1 p) (S 2 p)) := by rw [ec, hN, e0]
      have lg : gen (S 1 p) (S 2 p) < 12 := by omega
      refine And.intro (fun c2 => ?_) (fun c2 => ?_)
      · have c2 : nI m < h.1 17 (nI p).toNatClampNeg := c2
        rw [eg, nI_ltI (by omega) (by omega)] at c2
        exact ⟨Or.inl rfl, hf (by omega)⟩
      · have c2 : ¬ nI m < h.1 17 (nI p).toNatClampNeg := c2
        rw [eg, nI_ltI (by omega) (by omega)] at c2
        exact ⟨Or.inr rfl, ht (by omega)⟩
theorem m_enough {p s : Nat} (hM : RMc h S) (hB : GB S) (hp : p < S 0 0) (ht : ginf S p s = true → K (some (.int 1)) h) (hf : ginf S p s = false → K (some (.int 0)) h) : qCall (d + 1) 89 [.ref 15, .int (nI p), .int (nI (gtog S s))] h K := by
  have hn := hB.1
  exact m_isEnough (hM.2.1 p hp).1 (hM.2.1 p hp).2.1 (by omega) (hB.2.1 p hp).1 (hB.2.1 p hp).2.1 (gtog_lt hB s) (fun z => ht (decide_eq_true z)) (fun z => hf (decide_eq_false z))
theorem m_infers {p : Nat} (hM : RMc h S) (hB : GB S) (hp : p < S 0 0) (ht : ginf S p (S 4 p) = true → K (some (.int 1)) h) (hf : ginf S p (S 4 p) = false → K (some (.int 0)) h) : qCall (d + 3) 90 [.ref 15, .int (nI p)] h K := by
  have hn := hB.1
  have ec : (nI p).toNatClampNeg = p := nI_clamp (by omega)
  refine call_wp (n := 30) (cut := []) _ (by decide) (Nat.lt_succ_self _) rfl rfl (Nat.le_of_ble_eq_true rfl) rfl ?_
  refine And.intro (vp_in_nI (by omega) (by decide)) ?_
  show qCall _ 88 [.ref 15, .int (h.1 18 (nI p).toNatClampNeg)] h _
  rw [ec, (hM.2.1 p hp).2.2.1]
  refine m_tellAll hM.2.2.1 (hB.2.1 p hp).2.2 ?_
  exact m_enough hM hB hp (fun b => ⟨Or.inr rfl, ht b⟩) (fun b => ⟨Or.inl rfl, hf b⟩)
theorem m_canTell {f t s : Nat} (hM : RMc h S) (hB : GB S) (hf : f < S 0 0) (ht : t < S 0 0) (hs : s < 4) (k1 : gcan S f t s = true → K (some (.int 1)) h) (k0 : gcan S f t s = false → K (some (.int 0)) h) : qCall (d + 2) 96 [.ref 15, .int (nI f), .int (nI t), .int (nI s)] h K := by
  have hn := hB.1
  have hh := hB.2.2.2.1
  have hkf := (hB.2.1 f hf).2.2
  have hkt := (hB.2.1 t ht).2.2
  have ecf : (nI f).toNatClampNeg = f := nI_clamp (by omega)
  have ect : (nI t).toNatClampNeg = t := nI_clamp (by omega)
  refine call_wp (n := 60) (cut := []) _ (by decide) (Nat.lt_succ_self _) rfl rfl (Nat.le_of_ble_eq_true rfl) rfl ?_
  refine And.intro (fun c1 => ?_) (fun c1 => ?_)
  · have c1 := (nI_eq (by omega) (by omega)).mp c1
    exact ⟨Or.inl rfl, k0 (by simp [gcan, c1])⟩
  · have c1 : ¬ f = t := fun z => c1 (by rw [z])
    show qCall _ 74 [.int (h.1 15 8), .int (nI f)] h _
    rw [hM.2.2.2.2.1]
    refine m_isIn (by omega) (by omega) (fun b3 => ?_) (fun b3 => ?_)
    · refine And.intro (fun c => absurd c (by decide)) (fun _ => ?_)
      exact ⟨Or.inl rfl, k0 (by simp [gcan, b3])⟩
    · refine And.intro (fun _ => ?_) (fun c => absurd rfl c)
      show qCall _ 74 [.int (h.1 15 8), .int (nI t)] h _
      rw [hM.2.2.2.2.1]
      refine m_isIn (by omega) (by omega) (fun b4 => ?_) (fun b4 => ?_)
      · refine And.intro (fun c => absurd c (by decide)) (fun _ => ?_)
        exact ⟨Or.inl rfl, k0 (by simp [gcan, b4])⟩
      · refine And.intro (fun _ => ?_) (fun c => absurd rfl c)
        refine And.intro (vp_in_nI (by omega) (by decide)) ?_
        show qCall _ 74 [.int (h.1 18 (nI f).toNatClampNeg), .int (nI s)] h _
        rw [ecf, (hM.2.1 f hf).2.2.1]
        refine m_isIn (by omega) (by omega) (fun b1 => ?_) (fun b1 => ?_)
        · refine And.intro (fun c => absurd c (by decide)) (fun _ => ?_)
          refine And.intro (vp_in_nI (by omega) (by decide)) ?_
          show qCall _ 74 [.int (h.1 18 (nI t).toNatClampNeg), .int (nI s)] h _
          rw [ect, (hM.2.1 t ht).2.2.1]
          refine m_isIn (by omega) (by omega) (fun b2 => ?_) (fun b2 => ?_)
          · refine And.intro (fun c => absurd c (by decide)) (fun _ => ?_)
            exact ⟨Or.inl rfl, k0 (by simp [gcan, b2])⟩
          · refine And.intro (fun _ => ?_) (fun c => absurd rfl c)
            exact ⟨Or.inr rfl, k1 (by simp [gcan, c1, b1, b2, b3, b4])⟩
        · refine And.intro (fun _ => ?_) (fun c => absurd rfl c)
          exact ⟨Or.inl rfl, k0 (by simp [gcan, b1])⟩
end QM
