/-! ## the class's page -/
def pgX (h : qH) (S : gS) : Prop := h.1 1 1 = nI (S 10 0) ∧ ∀ i, i < S 10 0 → h.1 2 i = nI (S 11 i)
def pgB (S : gS) : Prop := S 10 0 ≤ 22 ∧ ∀ i, i < S 10 0 → 32 ≤ S 11 i ∧ S 11 i ≤ 126
theorem RX.pg {h : qH} {S : gS} (hX : RX h S) : pgX h S := ⟨hX.2.2.2.2.2.2.1, hX.2.2.2.2.2.2.2⟩
theorem RG.pg {S : gS} (hG : RG S) : pgB S := ⟨hG.2.2.2.2.2.1, hG.2.2.2.2.2.2⟩
def oI (o : Option Nat) : Int32 := match o with
  | none => -1
  | some e => nI e
theorem io_hit : ∀ c, c < 127 → ∀ i, i < 5 → qstr.getD i 0 = nI c → kdI c = nI i := by decide +kernel
theorem io_no : ∀ c, c < 127 → (∀ i, i < 5 → qstr.getD i 0 ≠ nI c) → kdI c = -1 := by decide +kernel
theorem b8 : ∀ c, c < 127 → (nI c).toInt8.toInt32 = nI c := by decide +kernel
theorem u16 : ∀ c, c < 127 → ((nI c).toUInt32 % 65536).toInt32 = nI c := by decide +kernel
theorem dgx : ∀ x, x < 127 → ∀ n, n < 10 → ((nI x - 48 < nI n ↔ x < 48 + n) ∧ (nI n < nI x - 48 ↔ 48 + n < x)) := by decide +kernel
theorem im4 : ∀ i, i < 32 → nI i - nI i / nI 4 * nI 4 = nI (i % 4) := by decide +kernel
theorem kdI_m : ∀ x, x < 127 → (kdI x = -1 ↔ kdN x = 5) := by decide +kernel
theorem nI_m1 : ∀ e, e < 32 → ¬ nI e = -1 := by decide +kernel
section QPG
variable {d : Nat} {h : qH} {K : qK} {S : gS}
theorem c_atP {i : Nat} (hp : pgX h S) (hg : pgB S) (hi : i < S 10 0) (hk : K (some (.int (nI (S 11 i)))) h) : qCall (d + 1) 3 [.ref 1, .int (nI i)] h K := by
  have h10 := hg.1
  have e := hp.1
  have ei := hp.2 i hi
  have ec : (nI i).toNatClampNeg = i := nI_clamp (by omega)
  refine call_wp (n := 30) (cut := []) _ (by decide) (Nat.lt_succ_self _) rfl rfl (Nat.le_of_ble_eq_true rfl) rfl ?_
  refine And.intro (fun c => absurd c (Int32.not_lt.mpr (nI_le (a := 0) (Nat.zero_le _) (by omega)))) (fun _ => ?_)
  refine And.intro (fun c => absurd c (by show ¬ h.1 1 1 ≤ nI i; rw [e]; exact nI_ge (by omega) (by omega))) (fun _ => ?_)
  refine And.intro (fun c => absurd c (nI_ge (a := i) (b := 22) (by omega) (by decide))) (fun _ => ?_)
  refine And.intro (vp_in_nI (by omega) (by decide)) ?_
  show K (some (.int (h.1 2 (nI i).toNatClampNeg))) h
  rw [ec]
  exact kI hk ei.symm
theorem c_atNeg {p : Int32} (hp : p < 0) (hk : K (some (.int 0)) h) : qCall (d + 1) 3 [.ref 1, .int p] h K := by
  refine call_wp (n := 30) (cut := []) _ (by decide) (Nat.lt_succ_self _) rfl rfl (Nat.le_of_ble_eq_true rfl) rfl ?_
  refine And.intro (fun _ => ?_) (fun c => absurd hp c)
  exact hk
theorem c_digitAt {i : Nat} (hp : pgX h S) (hg : pgB S) (hi : i < S 10 0) (hk : K (some (.int (nI (S 11 i) - 48))) h) : qCall (d + 2) 4 [.ref 1, .int (nI i)] h K := by
  refine call_wp (n := 20) (cut := []) _ (by decide) (Nat.lt_succ_self _) rfl rfl (Nat.le_of_ble_eq_true rfl) rfl ?_
  exact c_atP hp hg hi hk
/-! the text's indexOf -/
theorem l_ioc {c : Nat} (hc : c < 127) (hk : K (some (.int (kdI c))) h) : ∀ m i, i + m = 5 → (∀ j, j < i → qstr.getD j 0 ≠ nI c) → qAt (d, 131, some .int, q0, K) 5 [some (.ref 98), some (.int (nI c)), some (.int 0), some (.int (nI 5)), some (.int (nI c)), some (.int (nI i))] [] h := by
  intro m
  induction m with
  | zero =>
    intro i hi hn
    have hi : i = 5 := by omega
    subst hi
    refine at_wp [] 12 (Nat.le_of_ble_eq_true rfl) rfl ?_
    refine And.intro (fun _ => ?_) (fun c => absurd (by decide) c)
    rw [io_no c hc hn] at hk
    exact hk
  | succ m ih =>
    intro i hi hn
    have ec : (nI i).toNatClampNeg = i := nI_clamp (by omega)
    refine at_wp [5] 30 (Nat.le_of_ble_eq_true rfl) rfl ?_
    refine And.intro (fun z => absurd z (nI_ge (a := i) (b := 5) (by omega) (by decide))) (fun _ => ?_)
    refine And.intro (vp_in_nI (by omega) (by decide)) ?_
    refine And.intro (fun z => ?_) (fun z => ?_)
    · have z : qstr.getD (nI i).toNatClampNeg 0 = nI c := z
      rw [ec] at z
      rw [io_hit c hc i (by omega) z] at hk
      exact hk
    · have z : ¬ qstr.getD (nI i).toNatClampNeg 0 = nI c := z
      rw [ec] at z
      have := ih (i + 1) (by omega) (fun j hj => by
        rcases Nat.lt_or_ge j i with q | q
        · exact hn j q
        · rw [show j = i by omega]; exact z)
      rw [← nI_1 i] at this
      exact this
theorem c_ioc {c : Nat} {a b : Int32} (hc : c < 127) (ea : a = 0) (eb : b = nI 5) (hk : K (some (.int (kdI c))) h) : qCall (d + 1) 131 [.ref 98, .int (nI c), .int a, .int b] h K := by
  subst ea
  subst eb
  refine call_wp (n := 10) (cut := [5]) _ (by decide) (Nat.lt_succ_self _) rfl rfl (Nat.le_of_ble_eq_true rfl) rfl ?_
  show qAt _ 5 [some (.ref 98), some (.int (nI c)), some (.int 0), some (.int (nI 5)), some (.int (nI c).toInt8.toInt32), some (.int (nI 0))] [] h
  rw [b8 c hc]
  exact l_ioc hc hk 5 0 rfl (fun j hj => by omega)
theorem c_canEncode {c : Nat} (hc : c < 127) (hk : K (some (.int 1)) h) : qCall (d + 1) 130 [.int (nI c)] h K := by
  refine call_wp (n := 20) (cut := []) _ (by decide) (Nat.lt_succ_self _) rfl rfl (Nat.le_of_ble_eq_true rfl) rfl ?_
  refine And.intro (fun z => absurd z (nI_pos (by omega))) (fun _ => ?_)
  refine And.intro (fun z => absurd z (nI_nlt (a := 255) (b := c) (by omega) (by decide))) (fun _ => ?_)
  exact ⟨Or.inr rfl, hk⟩
theorem c_ioB {c : Nat} {a b : Int32} (hc : c < 127) (ea : a = 0) (eb : b = nI 5) (hk : K (some (.int (kdI c))) h) : qCall (d + 2) 132 [.ref 98, .int (nI c), .int a, .int b] h K := by
  subst ea
  subst eb
  refine call_wp (n := 40) (cut := []) _ (by decide) (Nat.lt_succ_self _) rfl rfl (Nat.le_of_ble_eq_true rfl) rfl ?_
  refine c_canEncode hc ?_
  refine And.intro (fun c => absurd c (by decide)) (fun _ => ?_)
  refine And.intro (fun _ => ?_) (fun c => absurd (by decide) c)
  exact c_ioc hc (by decide) (by decide) hk
theorem c_isLatin1 (hk : K (some (.int 1)) h) : qCall (d + 1) 127 [.ref 97] h K := by
  refine call_wp (n := 20) (cut := []) _ (by decide) (Nat.lt_succ_self _) rfl rfl (Nat.le_of_ble_eq_true rfl) rfl ?_
  refine And.intro (fun c => absurd c (by decide)) (fun _ => ?_)
  refine And.intro (fun _ => ?_) (fun c => absurd rfl c)
  exact ⟨Or.inr rfl, hk⟩
theorem c_coder (hk : K (some (.int 0)) h) : qCall (d + 1) 128 [.ref 97] h K := by
  refine call_wp (n := 20) (cut := []) _ (by decide) (Nat.lt_succ_self _) rfl rfl (Nat.le_of_ble_eq_true rfl) rfl ?_
  refine And.intro (fun c => absurd c (by decide)) (fun _ => ?_)
  exact ⟨rfl, hk⟩
theorem c_length (hk : K (some (.int (nI 5))) h) : qCall (d + 2) 129 [.ref 97] h K := by
  refine call_wp (n := 20) (cut := []) _ (by decide) (Nat.lt_succ_self _) rfl rfl (Nat.le_of_ble_eq_true rfl) rfl ?_
  exact c_coder (kI hk (by decide))
theorem c_io3 {c : Nat} {a : Int32} (hc : c < 127) (ea : a = 0) (hk : K (some (.int (kdI c))) h) : qCall (d + 3) 133 [.ref 97, .int (nI c), .int a] h K := by
  refine call_wp (n := 40) (cut := []) _ (by decide) (Nat.lt_succ_self _) rfl rfl (Nat.le_of_ble_eq_true rfl) rfl ?_
  refine c_isLatin1 ?_
  refine And.intro (fun c => absurd c (by decide)) (fun _ => ?_)
  refine c_length ?_
  exact c_ioB hc ea rfl hk
theorem c_io {c : Nat} (hc : c < 127) (hk : K (some (.int (kdI c))) h) : qCall (d + 4) 134 [.ref 97, .int (nI c)] h K := by
  refine call_wp (n := 20) (cut := []) _ (by decide) (Nat.lt_succ_self _) rfl rfl (Nat.le_of_ble_eq_true rfl) rfl ?_
  exact c_io3 hc rfl hk
theorem c_kindAt {i : Nat} (hp : pgX h S) (hg : pgB S) (hi : i < S 10 0) (hk : K (some (.int (kdI (S 11 i)))) h) : qCall (d + 5) 5 [.ref 1, .int (nI i)] h K := by
  have hb := hg.2 i hi
  refine call_wp (n := 20) (cut := []) _ (by decide) (Nat.lt_succ_self _) rfl rfl (Nat.le_of_ble_eq_true rfl) rfl ?_
  refine c_atP hp hg hi ?_
  show qCall _ 134 [.ref 97, .int ((nI (S 11 i)).toUInt32 % 65536).toInt32] h _
  rw [u16 _ (by omega)]
  exact c_io (by omega) hk
theorem c_isDigit {i lo hi : Nat} (hp : pgX h S) (hg : pgB S) (hl : lo < 10) (hh : hi < 10) (hi' : i < S 10 0) (k1 : dg (S 11 i) lo hi = true → K (some (.int 1)) h) (k0 : dg (S 11 i) lo hi = false → K (some (.int 0)) h) : qCall (d + 3) 10 [.ref 1, .int (nI i), .int (nI lo), .int (nI hi)] h K := by
  have hb := hg.2 i hi'
  refine call_wp (n := 30) (cut := []) _ (by decide) (Nat.lt_succ_self _) rfl rfl (Nat.le_of_ble_eq_true rfl) rfl ?_
  refine c_digitAt hp hg hi' ?_
  refine And.intro (fun z => ?_) (fun z => ?_)
  · have z : nI (S 11 i) - 48 < nI lo := z
    rw [(dgx _ (by omega) lo hl).1] at z
    exact ⟨Or.inl rfl, k0 (by unfold dg; rw [decide_eq_false (by omega)]; rfl)⟩
  · have z : ¬ nI (S 11 i) - 48 < nI lo := z
    rw [(dgx _ (by omega) lo hl).1] at z
    refine c_digitAt hp hg hi' ?_
    refine And.intro (fun y => ?_) (fun y => ?_)
    · have y : nI hi < nI (S 11 i) - 48 := y
      rw [(dgx _ (by omega) hi hh).2] at y
      exact ⟨Or.inl rfl, k0 (by unfold dg; rw [show decide (S 11 i ≤ 48 + hi) = false from decide_eq_false (by omega), Bool.and_false])⟩
    · have y : ¬ nI hi < nI (S 11 i) - 48 := y
      rw [(dgx _ (by omega) hi hh).2] at y
      exact ⟨Or.inr rfl, k1 (by unfold dg; rw [decide_eq_true (by omega), decide_eq_true (by omega)]; rfl)⟩
theorem c_fitsAmounts {i e : Nat} (hp : pgX h S) (hg : pgB S) (hi : i < S 10 0) (he : e < i) (k1 : (decide (i < e + 5) && dg (S 11 i) 1 9) = true → K (some (.int 1)) h) (k0 : (decide (i < e + 5) && dg (S 11 i) 1 9) = false → K (some (.int 0)) h) : qCall (d + 4) 9 [.ref 1, .int (nI i), .int (nI e)] h K := by
  have h10 := hg.1
  refine call_wp (n := 30) (cut := []) _ (by decide) (Nat.lt_succ_self _) rfl rfl (Nat.le_of_ble_eq_true rfl) rfl ?_
  refine And.intro (fun z => ?_) (fun z => ?_)
  · have z : nI 5 ≤ nI i - nI e := z
    rw [pk_sub (by omega), nI_leI (by omega) (by omega)] at z
    exact ⟨Or.inl rfl, k0 (by rw [decide_eq_false (by omega)]; rfl)⟩
  · have z : ¬ nI 5 ≤ nI i - nI e := z
    rw [pk_sub (by omega), nI_leI (by omega) (by omega)] at z
    rw [decide_eq_true (show i < e + 5 by omega), Bool.true_and] at k1 k0
    refine c_isDigit (lo := 1) (hi := 9) hp hg (by decide) (by decide) hi (fun b => ?_) (fun b => ?_)
    · refine And.intro (fun c => absurd c (by decide)) (fun _ => ?_)
      exact ⟨Or.inr rfl, k1 b⟩
    · refine And.intro (fun _ => ?_) (fun c => absurd rfl c)
      exact ⟨Or.inl rfl, k0 b⟩
theorem c_fitsPeople {i : Nat} (hp : pgX h S) (hg : pgB S) (hi : i < S 10 0) (k1 : fitP (S 11) i = true → K (some (.int 1)) h) (k0 : fitP (S 11) i = false → K (some (.int 0)) h) : qCall (d + 6) 8 [.ref 1, .int (nI i)] h K := by
  have h10 := hg.1
  have hb := hg.2 i hi
  have em := im4 i (by omega)
  refine call_wp (n := 60) (cut := [25]) _ (by decide) (Nat.lt_succ_self _) rfl rfl (Nat.le_of_ble_eq_true rfl) rfl ?_
  refine And.intro (by decide) ?_
  refine And.intro (fun c0 => ?_) (fun c0 => ?_)
  · have c0 : nI i - nI i / nI 4 * nI 4 = nI 0 := c0
    rw [em, nI_eq (by omega) (by omega)] at c0
    rw [fitP_0 c0] at k1 k0
    refine c_kindAt hp hg hi ?_
    refine And.intro (fun z => ?_) (fun z => ?_)
    · have z : kdI (S 11 i) = -1 := z
      rw [kdI_m _ (by omega)] at z
      exact ⟨Or.inl rfl, k0 (by rw [z]; rfl)⟩
    · have z : ¬ kdI (S 11 i) = -1 := z
      rw [kdI_m _ (by omega)] at z
      exact ⟨Or.inr rfl, k1 (by simpa using z)⟩
  · have c0 : ¬ nI i - nI i / nI 4 * nI 4 = nI 0 := c0
    rw [em, nI_eq (by omega) (by omega)] at c0
    refine And.intro (fun c1 => ?_) (fun c1 => ?_)
    · have c1 : nI i - nI i / nI 4 * nI 4 = nI 1 := c1
      rw [em, nI_eq (by omega) (by omega)] at c1
      rw [fitP_1 c1] at k1 k0
      refine c_isDigit (lo := 1) (hi := 9) hp hg (by decide) (by decide) hi (fun b => ?_) (fun b => ?_)
      · exact ⟨Or.inr rfl, k1 b⟩
      · exact ⟨Or.inl rfl, k0 b⟩
    · have c1 : ¬ nI i - nI i / nI 4 * nI 4 = nI 1 := c1
      rw [em, nI_eq (by omega) (by omega)] at c1
      refine And.intro (fun c2 => ?_) (fun c2 => ?_)
      · have c2 : nI i - nI i / nI 4 * nI 4 = nI 2 := c2
        rw [em, nI_eq (by omega) (by omega)] at c2
        rw [fitP_2 c2] at k1 k0
        refine c_isDigit (lo := 0) (hi := 4) hp hg (by decide) (by decide) hi (fun b => ?_) (fun b => ?_)
        · exact ⟨Or.inr rfl, k1 b⟩
        · exact ⟨Or.inl rfl, k0 b⟩
      · have c2 : ¬ nI i - nI i / nI 4 * nI 4 = nI 2 := c2
        rw [em, nI_eq (by omega) (by omega)] at c2
        have c3 : i % 4 = 3 := by omega
        rw [fitP_3 c3] at k1 k0
        have l2 : ∀ K2 : qK, (S 11 i = 59 → 7 ≤ i → K2 (some (.int 1)) h) → (¬ (S 11 i = 59 ∧ 7 ≤ i) → K2 (some (.int 0)) h) → qAt (d + 5, 8, some .boolean, q0, K2) 33 [some (.ref 1), some (.int (nI i))] [] h := by
          intro K2 a b
          refine at_wp [] 30 (Nat.le_of_ble_eq_true rfl) rfl ?_
          refine c_atP hp hg hi ?_
          refine And.intro (fun z => ?_) (fun z => ?_)
          · have z : nI (S 11 i) = nI 59 := z
            rw [nI_eq (by omega) (by omega)] at z
            refine And.intro (fun y => ?_) (fun y => ?_)
            · have y : nI i < nI 7 := y
              rw [nI_ltI (by omega) (by omega)] at y
              exact ⟨Or.inl rfl, b (by omega)⟩
            · have y : ¬ nI i < nI 7 := y
              rw [nI_ltI (by omega) (by omega)] at y
              exact ⟨Or.inr rfl, a z (by omega)⟩
          · have z : ¬ nI (S 11 i) = nI 59 := z
            rw [nI_eq (by omega) (by omega)] at z
            exact ⟨Or.inl rfl, b (fun q => z q.1)⟩
        show qAt (d + 5, 8, some .boolean, q0, K) 25 [some (.ref 1), some (.int (nI i))] [] h
        refine at_wp [33] 30 (Nat.le_of_ble_eq_true rfl) rfl ?_
        refine c_atP hp hg hi ?_
        refine And.intro (fun z => ?_) (fun z => ?_)
        · have z : nI (S 11 i) = nI 44 := z
          rw [nI_eq (by omega) (by omega)] at z
          refine And.intro (fun y => ?_) (fun y => ?_)
          · have y : nI i < nI 15 := y
            rw [nI_ltI (by omega) (by omega)] at y
            exact ⟨Or.inr rfl, k1 (by rw [z, decide_eq_true y]; rfl)⟩
          · have y : ¬ nI i < nI 15 := y
            rw [nI_ltI (by omega) (by omega)] at y
            rw [z, decide_eq_false y] at k0
            exact l2 _ (fun q => by omega) (fun _ => k0 rfl)
        · have z : ¬ nI (S 11 i) = nI 44 := z
          rw [nI_eq (by omega) (by omega)] at z
          rw [show (S 11 i == 44) = false from beq_eq_false_iff_ne.mpr z, Bool.false_and, Bool.false_or] at k1 k0
          exact l2 _ (fun q y => k1 (by rw [q, decide_eq_true y]; rfl)) (fun q => k0 (by
            by_cases e : S 11 i = 59
            · rw [show decide (7 ≤ i) = false from decide_eq_false (fun y => q ⟨e, y⟩), Bool.and_false]
            · rw [show (S 11 i == 59) = false from beq_eq_false_iff_ne.mpr e, Bool.false_and]))
theorem l_ff19 {i : Nat} (hp : pgX h S) (hg : pgB S) (hi : i < S 10 0) (kf : fit (S 11) i = false → K (some (.int (nI i))) h) (kt : fit (S 11) i = true → ∀ u, qAt (d + 6, 6, some .int, q0, K) 4 [some (.ref 1), some (.int (oI (stE (S 11) (i + 1)))), some (.int (nI (i + 1))), u] [] h) : ∀ b, fit (S 11) i = b → ∀ u, qAt (d + 6, 6, some .int, q0, K) 19 [some (.ref 1), some (.int (oI (stE (S 11) i))), some (.int (nI i)), u] [.int (b2 b)] h := by
  intro b eb u
  have hb := hg.2 i hi
  have h10 := hg.1
  cases b with
  | false =>
    refine at_wp [] 12 (Nat.le_of_ble_eq_true rfl) rfl ?_
    refine And.intro (fun _ => ?_) (fun c => absurd rfl c)
    exact kf eb
  | true =>
    have kt := kt eb
    refine at_wp [4] 30 (Nat.le_of_ble_eq_true rfl) rfl ?_
    refine And.intro (fun c => absurd c (by decide)) (fun _ => ?_)
    refine c_atP hp hg hi ?_
    refine And.intro (fun z => ?_) (fun z => ?_)
    · have z : nI (S 11 i) = nI 59 := z
      rw [nI_eq (by omega) (by omega)] at z
      have n0 : stE (S 11) i = none := by
        cases q : stE (S 11) i with
        | none => rfl
        | some e =>
          rw [fit_s q, z, dg_59 (by decide), Bool.and_false] at eb
          cases eb
      rw [stE_hit n0 z, ← nI_1] at kt
      exact kt _
    · have z : ¬ nI (S 11 i) = nI 59 := z
      rw [nI_eq (by omega) (by omega)] at z
      have e1 : stE (S 11) (i + 1) = stE (S 11) i := by
        rw [stE]
        cases q : stE (S 11) i with
        | none => exact if_neg z
        | some e => rfl
      rw [e1, ← nI_1] at kt
      exact kt _
theorem l_ff (hp : pgX h S) (hg : pgB S) (hk : K (some (.int (nI (gfa (S 11) 0 (S 10 0))))) h) : ∀ m i, i + m = S 10 0 → (∀ j, j < i → fit (S 11) j = true) → ∀ u, qAt (d + 6, 6, some .int, q0, K) 4 [some (.ref 1), some (.int (oI (stE (S 11) i))), some (.int (nI i)), u] [] h := by
  have h10 := hg.1
  have e := hp.1
  intro m
  induction m with
  | zero =>
    intro i hi hall u
    have hi : i = S 10 0 := by omega
    subst hi
    refine at_wp [] 12 (Nat.le_of_ble_eq_true rfl) rfl ?_
    refine And.intro (fun _ => ?_) (fun c => absurd (by show h.1 1 1 ≤ nI (S 10 0); rw [e]; exact nI_le (Nat.le_refl _) (by omega)) c)
    rw [gfa_L hall] at hk
    exact kI hk e.symm
  | succ m ih =>
    intro i hi hall u
    have go := l_ff19 (d := d) (K := K) (h := h) (S := S) (i := i) hp hg (by omega) (fun z => by rw [gfa_k (by omega) hall z] at hk; exact hk) (fun z u => ih (i + 1) (by omega) (fun j hj => by
      rcases Nat.lt_or_ge j i with q | q
      · exact hall j q
      · rw [show j = i by omega]; exact z) u)
    cases st : stE (S 11) i with
    | none =>
      rw [st] at go
      refine at_wp [19] 30 (Nat.le_of_ble_eq_true rfl) rfl ?_
      refine And.intro (fun c => absurd c (by show ¬ h.1 1 1 ≤ nI i; rw [e]; exact nI_ge (by omega) (by omega))) (fun _ => ?_)
      refine And.intro (fun _ => ?_) (fun c => absurd rfl c)
      refine c_fitsPeople hp hg (by omega) (fun b => ?_) (fun b => ?_)
      · exact go true (by rw [fit_n st]; exact b) u
      · exact go false (by rw [fit_n st]; exact b) u
    | some x =>
      have hx := (stE_lt i x st).1
      rw [st] at go
      refine at_wp [19] 30 (Nat.le_of_ble_eq_true rfl) rfl ?_
      refine And.intro (fun c => absurd c (by show ¬ h.1 1 1 ≤ nI i; rw [e]; exact nI_ge (by omega) (by omega))) (fun _ => ?_)
      refine And.intro (fun c => absurd (show nI x = -1 from c) (nI_m1 x (by omega))) (fun _ => ?_)
      refine c_fitsAmounts (d := d + 2) (e := x) hp hg (by omega) hx (fun b => ?_) (fun b => ?_)
      · exact go true (by rw [fit_s st]; exact b) u
      · exact go false (by rw [fit_s st]; exact b) u
theorem c_firstFault (hp : pgX h S) (hg : pgB S) (hk : K (some (.int (nI (gfa (S 11) 0 (S 10 0))))) h) : qCall (d + 7) 6 [.ref 1] h K := by
  refine call_wp (n := 10) (cut := [4]) _ (by decide) (Nat.lt_succ_self _) rfl rfl (Nat.le_of_ble_eq_true rfl) rfl ?_
  exact l_ff hp hg hk (S 10 0) 0 (by omega) (fun j hj => by omega) none
theorem c_isCourt (hp : pgX h S) (hg : pgB S) (k1 : gwh (S 11) (S 10 0) = true → K (some (.int 1)) h) (k0 : gwh (S 11) (S 10 0) = false → K (some (.int 0)) h) : qCall (d + 8) 7 [.ref 1] h K := by
  have h10 := hg.1
  have e := hp.1
  have gl := gfa_le (c := S 11) (S 10 0) 0
  refine call_wp (n := 40) (cut := []) _ (by decide) (Nat.lt_succ_self _) rfl rfl (Nat.le_of_ble_eq_true rfl) rfl ?_
  show qCall _ 3 [.ref 1, .int (h.1 1 1 - nI 5)] h _
  rw [e]
  by_cases h5 : 5 ≤ S 10 0
  · rw [pk_sub h5]
    have hb := hg.2 (S 10 0 - 5) (by omega)
    refine c_atP hp hg (by omega) ?_
    refine And.intro (fun z => ?_) (fun z => ?_)
    · have z : nI (S 11 (S 10 0 - 5)) = nI 59 := z
      rw [nI_eq (by omega) (by omega)] at z
      refine c_firstFault hp hg ?_
      refine And.intro (fun y => ?_) (fun y => ?_)
      · have y : nI (gfa (S 11) 0 (S 10 0)) = h.1 1 1 := y
        rw [e, nI_eq (by omega) (by omega)] at y
        exact ⟨Or.inr rfl, k1 (by unfold gwh; rw [decide_eq_true y, decide_eq_true h5, z]; rfl)⟩
      · have y : ¬ nI (gfa (S 11) 0 (S 10 0)) = h.1 1 1 := y
        rw [e, nI_eq (by omega) (by omega)] at y
        exact ⟨Or.inl rfl, k0 (gwh_f y)⟩
    · have z : ¬ nI (S 11 (S 10 0 - 5)) = nI 59 := z
      rw [nI_eq (by omega) (by omega)] at z
      exact ⟨Or.inl rfl, k0 (by unfold gwh; rw [show (S 11 (S 10 0 - 5) == 59) = false from beq_eq_false_iff_ne.mpr z, Bool.and_false])⟩
  · refine c_atNeg (pk_sneg (by omega) (by omega)) ?_
    refine And.intro (fun c => absurd c (by decide)) (fun _ => ?_)
    exact ⟨Or.inl rfl, k0 (by unfold gwh; rw [decide_eq_false h5]; simp)⟩
theorem x_fault (hX : RX h S) (hG : RG S) (hk : K (some (.int (aFault S))) h) : qCall (d + 8) 47 [.ref 0] h K := by
  refine call_wp (n := 12) (cut := []) _ (by decide) (Nat.lt_succ_self _) rfl rfl (Nat.le_of_ble_eq_true rfl) rfl ?_
  exact c_firstFault hX.pg hG.pg hk
end QPG
