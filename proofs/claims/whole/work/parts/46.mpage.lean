/-! ## the reference's page -/
def pgM (h : qH) (S : gS) : Prop := h.1 15 16 = nI (S 10 0) ∧ ∀ i, i < S 10 0 → h.1 24 i = nI (S 11 i)
theorem RM.pg {h : qH} {S : gS} (hM : RM h S) : pgM h S := ⟨hM.2.2.1, hM.2.2.2.1⟩
theorem dge : ∀ x, x < 127 → ∀ n, n < 10 → (nI x - 48 = nI n ↔ x = 48 + n) := by decide +kernel
theorem fit_ext {c : Nat → Nat} {k : Nat} (h : ∀ j, j < k → fit c j = true) (hk : fit c k = true) : ∀ j, j < k + 1 → fit c j = true := by
  intro j hj
  rcases Nat.lt_or_ge j k with q | q
  · exact h j q
  · rw [show j = k by omega]
    exact hk
theorem stop_n {c : Nat → Nat} {k L : Nat} (h : ∀ j, j < k → fit c j = true) (hs : stE c k = none) (hk : k ≤ L) (hf : k < L → fit c k = false) : gfa c 0 L = k ∧ gwh c L = false := by
  rcases Nat.lt_or_ge k L with q | q
  · have := gfa_k q h (hf q)
    exact ⟨this, gwh_f (by omega)⟩
  · have e : k = L := by omega
    subst e
    exact ⟨gfa_L h, gwh_n hs⟩
theorem stop_s {c : Nat → Nat} {k L e : Nat} (h : ∀ j, j < k → fit c j = true) (hs : stE c k = some e) (hk : k ≤ L) (hf : k < L → fit c k = false) (hn : k ≠ e + 5) : gfa c 0 L = k ∧ gwh c L = false := by
  rcases Nat.lt_or_ge k L with q | q
  · have := gfa_k q h (hf q)
    exact ⟨this, gwh_f (by omega)⟩
  · have e1 : k = L := by omega
    subst e1
    exact ⟨gfa_L h, gwh_s hs hn⟩
section QMPG
variable {d : Nat} {h : qH} {K : qK} {S : gS}
theorem m_kindBy {c : Nat} (hc : c < 127) (hk : K (some (.int (kdI c))) h) : qCall (d + 1) 78 [.int (nI c)] h K := by
  refine call_wp (n := 20) (cut := []) _ (by decide) (Nat.lt_succ_self _) rfl rfl (Nat.le_of_ble_eq_true rfl) rfl ?_
  refine And.intro (fun z => ?_) (fun n99 => ?_)
  · have z : nI c = nI 99 := z
    rw [nI_eq (by omega) (by omega)] at z
    subst z
    exact kI hk (by decide)
  refine And.intro (fun z => ?_) (fun n100 => ?_)
  · have z : nI c = nI 100 := z
    rw [nI_eq (by omega) (by omega)] at z
    subst z
    exact kI hk (by decide)
  refine And.intro (fun z => ?_) (fun n101 => ?_)
  · have z : nI c = nI 101 := z
    rw [nI_eq (by omega) (by omega)] at z
    subst z
    exact kI hk (by decide)
  refine And.intro (fun z => ?_) (fun n102 => ?_)
  · have z : nI c = nI 102 := z
    rw [nI_eq (by omega) (by omega)] at z
    subst z
    exact kI hk (by decide)
  refine And.intro (fun z => ?_) (fun n103 => ?_)
  · have z : nI c = nI 103 := z
    rw [nI_eq (by omega) (by omega)] at z
    subst z
    exact kI hk (by decide)
  refine And.intro (fun z => ?_) (fun n104 => ?_)
  · have z : nI c = nI 104 := z
    rw [nI_eq (by omega) (by omega)] at z
    subst z
    exact kI hk (by decide)
  refine And.intro (fun z => ?_) (fun n105 => ?_)
  · have z : nI c = nI 105 := z
    rw [nI_eq (by omega) (by omega)] at z
    subst z
    exact kI hk (by decide)
  refine And.intro (fun z => ?_) (fun n106 => ?_)
  · have z : nI c = nI 106 := z
    rw [nI_eq (by omega) (by omega)] at z
    subst z
    exact kI hk (by decide)
  refine And.intro (fun z => ?_) (fun n107 => ?_)
  · have z : nI c = nI 107 := z
    rw [nI_eq (by omega) (by omega)] at z
    subst z
    exact kI hk (by decide)
  refine And.intro (fun z => ?_) (fun n108 => ?_)
  · have z : nI c = nI 108 := z
    rw [nI_eq (by omega) (by omega)] at z
    subst z
    exact kI hk (by decide)
  refine And.intro (fun z => ?_) (fun n109 => ?_)
  · have z : nI c = nI 109 := z
    rw [nI_eq (by omega) (by omega)] at z
    subst z
    exact kI hk (by decide)
  refine And.intro (fun z => ?_) (fun n110 => ?_)
  · have z : nI c = nI 110 := z
    rw [nI_eq (by omega) (by omega)] at z
    subst z
    exact kI hk (by decide)
  refine And.intro (fun z => ?_) (fun n111 => ?_)
  · have z : nI c = nI 111 := z
    rw [nI_eq (by omega) (by omega)] at z
    subst z
    exact kI hk (by decide)
  refine And.intro (fun z => ?_) (fun n112 => ?_)
  · have z : nI c = nI 112 := z
    rw [nI_eq (by omega) (by omega)] at z
    subst z
    exact kI hk (by decide)
  refine And.intro (fun z => ?_) (fun n113 => ?_)
  · have z : nI c = nI 113 := z
    rw [nI_eq (by omega) (by omega)] at z
    subst z
    exact kI hk (by decide)
  have m109 : ¬ c = 109 := fun z => n109 (by rw [z]; rfl)
  have m107 : ¬ c = 107 := fun z => n107 (by rw [z]; rfl)
  have m99 : ¬ c = 99 := fun z => n99 (by rw [z]; rfl)
  have m110 : ¬ c = 110 := fun z => n110 (by rw [z]; rfl)
  have m113 : ¬ c = 113 := fun z => n113 (by rw [z]; rfl)
  refine kI hk ?_
  unfold kdI kdN
  rw [if_neg m109, if_neg m107, if_neg m99, if_neg m110, if_neg m113]
  rfl
theorem m_isFigure {k lo hi : Nat} (hp : pgM h S) (hg : pgB S) (hk : k < 100) (hl : lo < 10) (hh : hi < 10) (k1 : k < S 10 0 → dg (S 11 k) lo hi = true → K (some (.int 1)) h) (k0 : (k < S 10 0 → dg (S 11 k) lo hi = false) → K (some (.int 0)) h) : qCall (d + 2) 79 [.ref 15, .int (nI k), .int (nI lo), .int (nI hi)] h K := by
  have h10 := hg.1
  have ec : (nI k).toNatClampNeg = k := nI_clamp (by omega)
  refine call_wp (n := 30) (cut := []) _ (by decide) (Nat.lt_succ_self _) rfl rfl (Nat.le_of_ble_eq_true rfl) rfl ?_
  refine And.intro (fun z => ?_) (fun z => ?_)
  · have z : h.1 15 16 ≤ nI k := z
    rw [hp.1, nI_leI (by omega) (by omega)] at z
    exact ⟨Or.inl rfl, k0 (fun q => by omega)⟩
  · have z : ¬ h.1 15 16 ≤ nI k := z
    rw [hp.1, nI_leI (by omega) (by omega)] at z
    have kl : k < S 10 0 := by omega
    have hb := hg.2 k kl
    refine And.intro (vp_in_nI (by omega) (by decide)) ?_
    show qCall _ 73 [.int (h.1 24 (nI k).toNatClampNeg - 48), .int (nI lo), .int (nI hi)] h _
    rw [ec, hp.2 k kl]
    refine m_within (by omega) (by omega) (fun n h1 h2 e => ?_) (fun hne => ?_)
    · rw [dge _ (by omega) n (by omega)] at e
      refine And.intro (fun c => absurd c (by decide)) (fun _ => ?_)
      exact ⟨Or.inr rfl, k1 kl (by unfold dg; rw [decide_eq_true (by omega), decide_eq_true (by omega)]; rfl)⟩
    · refine And.intro (fun _ => ?_) (fun c => absurd rfl c)
      refine ⟨Or.inl rfl, k0 (fun _ => ?_)⟩
      cases b : dg (S 11 k) lo hi with
      | false => rfl
      | true =>
        have := dg_i b
        exact absurd ((dge _ (by omega) (S 11 k - 48) (by omega)).mpr (by omega)) (hne _ (by omega) (by omega))
theorem m_readOne {k : Nat} (hp : pgM h S) (hg : pgB S) (h4 : k % 4 = 0) (hk : k ≤ S 10 0) (hall : ∀ j, j < k → fit (S 11) j = true) (hs : stE (S 11) k = none) (ka : ∀ e, e < k + 3 → gfa (S 11) 0 (S 10 0) = e → gwh (S 11) (S 10 0) = false → K (some (.int (nI e))) h) (kb : k + 3 ≤ S 10 0 → (∀ j, j < k + 3 → fit (S 11) j = true) → stE (S 11) (k + 3) = none → K (some (.int (nI (k + 3)))) h) : qCall (d + 3) 80 [.ref 15, .int (nI k)] h K := by
  have h10 := hg.1
  have ec : (nI k).toNatClampNeg = k := nI_clamp (by omega)
  refine call_wp (n := 60) (cut := []) _ (by decide) (Nat.lt_succ_self _) rfl rfl (Nat.le_of_ble_eq_true rfl) rfl ?_
  refine And.intro (fun z => ?_) (fun z => ?_)
  · have z : nI k = h.1 15 16 := z
    rw [hp.1, nI_eq (by omega) (by omega)] at z
    have := stop_n hall hs hk (fun q => by omega)
    exact ka k (by omega) this.1 this.2
  · have z : ¬ nI k = h.1 15 16 := z
    rw [hp.1, nI_eq (by omega) (by omega)] at z
    have kl : k < S 10 0 := by omega
    have hb := hg.2 k kl
    refine And.intro (vp_in_nI (by omega) (by decide)) ?_
    show qCall _ 78 [.int (h.1 24 (nI k).toNatClampNeg)] h _
    rw [ec, hp.2 k kl]
    refine m_kindBy (by omega) ?_
    refine And.intro (fun y => ?_) (fun y => ?_)
    · have y : kdI (S 11 k) = -1 := y
      rw [kdI_m _ (by omega)] at y
      have := stop_n hall hs hk (fun q => by rw [fit_n hs, fitP_0 h4, y]; rfl)
      exact ka k (by omega) this.1 this.2
    · have y : ¬ kdI (S 11 k) = -1 := y
      rw [kdI_m _ (by omega)] at y
      have f0 : fit (S 11) k = true := by rw [fit_n hs, fitP_0 h4]; simpa using y
      have a1 := fit_ext hall f0
      have s1 := stE_miss hs (fun z => y (by rw [z]; rfl))
      show qCall _ 79 [.ref 15, .int (nI k + nI 1), .int (nI 1), .int (nI 9)] h _
      rw [nI_add]
      refine m_isFigure hp hg (by omega) (by decide) (by decide) (fun l1 b1 => ?_) (fun b1 => ?_)
      · refine And.intro (fun c => absurd c (by decide)) (fun _ => ?_)
        have f1 : fit (S 11) (k + 1) = true := by rw [fit_n s1, fitP_1 (by omega)]; exact b1
        have a2 := fit_ext a1 f1
        have s2 := stE_miss s1 (fun z => by rw [z, dg_59 (by decide)] at b1; cases b1)
        show qCall _ 79 [.ref 15, .int (nI k + nI 2), .int (nI 0), .int (nI 4)] h _
        rw [nI_add]
        refine m_isFigure hp hg (by omega) (by decide) (by decide) (fun l2 b2 => ?_) (fun b2 => ?_)
        · refine And.intro (fun c => absurd c (by decide)) (fun _ => ?_)
          have f2 : fit (S 11) (k + 1 + 1) = true := by rw [fit_n s2, fitP_2 (by omega)]; exact b2
          have a3 := fit_ext a2 f2
          have s3 := stE_miss s2 (fun z => by rw [z, dg_59 (by decide)] at b2; cases b2)
          have := kb (by omega) a3 s3
          rw [← nI_add k 3] at this
          exact this
        · refine And.intro (fun _ => ?_) (fun c => absurd rfl c)
          have := stop_n (L := S 10 0) a2 s2 (by omega) (fun q => by rw [fit_n s2, fitP_2 (by omega)]; exact b2 q)
          have := ka (k + 2) (by omega) this.1 this.2
          rw [← nI_add k 2] at this
          exact this
      · refine And.intro (fun _ => ?_) (fun c => absurd rfl c)
        have := stop_n (L := S 10 0) a1 s1 (by omega) (fun q => by rw [fit_n s1, fitP_1 (by omega)]; exact b1 q)
        have := ka (k + 1) (by omega) this.1 this.2
        rw [← nI_add k 1] at this
        exact this
theorem l_rs15 {k e : Nat} (hp : pgM h S) (hg : pgB S) (hk : k ≤ S 10 0) (he : k ≤ e + 5) (hall : ∀ j, j < k → fit (S 11) j = true) (hs : stE (S 11) k = some e) (hd : k < e + 5 → k < S 10 0 → dg (S 11 k) 1 9 = false) (kk : K (some (.int (nI (gfa (S 11) 0 (S 10 0))))) (qI h 15 18 (b2 (gwh (S 11) (S 10 0))))) : qAt (d + 2, 81, some .int, q0, K) 15 [some (.ref 15), some (.int (nI (e + 1))), some (.int (nI k))] [] h := by
  have h10 := hg.1
  have he2 := stE_lt k e hs
  refine at_wp [] 30 (Nat.le_of_ble_eq_true rfl) rfl ?_
  refine And.intro (fun z => ?_) (fun z => ?_)
  · have z : nI k = nI (e + 1) + nI 4 := z
    rw [nI_add, nI_eq (by omega) (by omega)] at z
    refine And.intro (fun y => ?_) (fun y => ?_)
    · have y : nI k = h.1 15 16 := y
      rw [hp.1, nI_eq (by omega) (by omega)] at y
      subst y
      rw [gfa_L hall, gwh_t hall he2.2 z] at kk
      exact ⟨Or.inr rfl, kk⟩
    · have y : ¬ nI k = h.1 15 16 := y
      rw [hp.1, nI_eq (by omega) (by omega)] at y
      have g1 := gfa_k (L := S 10 0) (by omega) hall (by rw [fit_s hs, decide_eq_false (by omega)]; rfl)
      rw [gwh_f (by omega), g1] at kk
      exact ⟨Or.inl rfl, kk⟩
  · have z : ¬ nI k = nI (e + 1) + nI 4 := z
    rw [nI_add, nI_eq (by omega) (by omega)] at z
    have := stop_s hall hs hk (fun q => by rw [fit_s hs, hd (by omega) q, Bool.and_false]) (by omega)
    rw [this.1, this.2] at kk
    exact ⟨Or.inl rfl, kk⟩
theorem l_rs {e : Nat} (hp : pgM h S) (hg : pgB S) (kk : K (some (.int (nI (gfa (S 11) 0 (S 10 0))))) (qI h 15 18 (b2 (gwh (S 11) (S 10 0))))) : ∀ m k, k + m = e + 5 → k ≤ S 10 0 → (∀ j, j < k → fit (S 11) j = true) → stE (S 11) k = some e → qAt (d + 2, 81, some .int, q0, K) 2 [some (.ref 15), some (.int (nI (e + 1))), some (.int (nI k))] [] h := by
  have h10 := hg.1
  intro m
  induction m with
  | zero =>
    intro k hk hL hall hs
    have he2 := stE_lt k e hs
    refine at_wp [15] 12 (Nat.le_of_ble_eq_true rfl) rfl ?_
    refine And.intro (fun _ => ?_) (fun c => absurd (by show nI (e + 1) + nI 4 ≤ nI k; rw [nI_add]; exact nI_le (by omega) (by omega)) c)
    exact l_rs15 hp hg hL (by omega) hall hs (fun q => by omega) kk
  | succ m ih =>
    intro k hk hL hall hs
    have he2 := stE_lt k e hs
    refine at_wp [2,15] 40 (Nat.le_of_ble_eq_true rfl) rfl ?_
    refine And.intro (fun c => absurd c (by show ¬ nI (e + 1) + nI 4 ≤ nI k; rw [nI_add]; exact nI_ge (by omega) (by omega))) (fun _ => ?_)
    refine m_isFigure (lo := 1) (hi := 9) hp hg (by omega) (by decide) (by decide) (fun l1 b1 => ?_) (fun b1 => ?_)
    · refine And.intro (fun c => absurd c (by decide)) (fun _ => ?_)
      have := ih (k + 1) (by omega) (by omega) (fit_ext hall (by rw [fit_s hs, b1, decide_eq_true (by omega)]; rfl)) (stE_up hs 1)
      rw [← nI_1 k] at this
      exact this
    · refine And.intro (fun _ => ?_) (fun c => absurd rfl c)
      exact l_rs15 hp hg hL (by omega) hall hs (fun _ q => b1 q) kk
theorem m_readSigns {e : Nat} (hp : pgM h S) (hg : pgB S) (hL : e < S 10 0) (hall : ∀ j, j < e + 1 → fit (S 11) j = true) (hs : stE (S 11) (e + 1) = some e) (kk : K (some (.int (nI (gfa (S 11) 0 (S 10 0))))) (qI h 15 18 (b2 (gwh (S 11) (S 10 0))))) : qCall (d + 3) 81 [.ref 15, .int (nI (e + 1))] h K := by
  refine call_wp (n := 10) (cut := [2]) _ (by decide) (Nat.lt_succ_self _) rfl rfl (Nat.le_of_ble_eq_true rfl) rfl ?_
  exact l_rs hp hg kk 4 (e + 1) (by omega) (by omega) hall hs
def rdI (h g : qH) : Prop := Fr [15] h g ∧ ∀ k, k ≠ 18 → k ≠ 19 → g.1 15 k = h.1 15 k
theorem pgM.rd {g : qH} (hp : pgM h S) (f : rdI h g) : pgM g S := by
  unfold pgM
  rw [f.2 16 (by decide) (by decide), f.1.1 24 (by decide)]
  exact hp
theorem rdI.I {g : qH} {k : Nat} {v : Int32} (f : rdI h g) (hk : k = 18 ∨ k = 19) : rdI h (qI g 15 k v) := ⟨f.1.I (by decide), fun j h1 h2 => by rw [qI_get, if_neg (by omega)]; exact f.2 j h1 h2⟩
theorem l_rd51 {t : Nat} {u : Option Value} (hp : pgM h S) (hg : pgB S) (ht : t < 4) (h19 : h.1 15 19 = nI (t + 1)) (hk : 4 * t + 3 ≤ S 10 0) (hall : ∀ j, j < 4 * t + 3 → fit (S 11) j = true) (hs : stE (S 11) (4 * t + 3) = none) (hn : 4 * t + 3 < S 10 0 → S 11 (4 * t + 3) = 59 → t = 0) (ka : gfa (S 11) 0 (S 10 0) = 4 * t + 3 → gwh (S 11) (S 10 0) = false → K (some (.int (nI (4 * t + 3)))) h) (kb : t < 3 → 4 * (t + 1) ≤ S 10 0 → (∀ j, j < 4 * (t + 1) → fit (S 11) j = true) → stE (S 11) (4 * (t + 1)) = none → qAt (d + 3, 82, some .int, q0, K) 8 [some (.ref 15), some (.int (nI (4 * (t + 1)))), u] [] h) : qAt (d + 3, 82, some .int, q0, K) 51 [some (.ref 15), some (.int (nI (4 * t + 3))), u] [] h := by
  have h10 := hg.1
  have ec : (nI (4 * t + 3)).toNatClampNeg = 4 * t + 3 := nI_clamp (by omega)
  have stop : (4 * t + 3 < S 10 0 → fit (S 11) (4 * t + 3) = false) → K (some (.int (nI (4 * t + 3)))) h := fun q => by
    have := stop_n hall hs hk q
    exact ka this.1 this.2
  have ef : fit (S 11) (4 * t + 3) = ((S 11 (4 * t + 3) == 44 && decide (4 * t + 3 < 15)) || (S 11 (4 * t + 3) == 59 && decide (7 ≤ 4 * t + 3))) := by
    rw [fit_n hs, fitP_3 (by omega)]
  refine at_wp [8] 40 (Nat.le_of_ble_eq_true rfl) rfl ?_
  refine And.intro (fun z => ?_) (fun z => ?_)
  · have z : nI (4 * t + 3) = h.1 15 16 := z
    rw [hp.1, nI_eq (by omega) (by omega)] at z
    exact stop (fun q => by omega)
  · have z : ¬ nI (4 * t + 3) = h.1 15 16 := z
    rw [hp.1, nI_eq (by omega) (by omega)] at z
    have kl : 4 * t + 3 < S 10 0 := by omega
    have hb := hg.2 _ kl
    refine And.intro (fun y => ?_) (fun y => ?_)
    · have y : h.1 15 19 = nI 4 := y
      rw [h19, nI_eq (by omega) (by omega)] at y
      refine stop (fun q => ?_)
      rw [ef, decide_eq_false (show ¬ 4 * t + 3 < 15 by omega), Bool.and_false, show (S 11 (4 * t + 3) == 59) = false from beq_eq_false_iff_ne.mpr (fun z => by have := hn q z; omega)]
      rfl
    · have y : ¬ h.1 15 19 = nI 4 := y
      rw [h19, nI_eq (by omega) (by omega)] at y
      refine And.intro (vp_in_nI (by omega) (by decide)) ?_
      refine And.intro (fun w => ?_) (fun w => ?_)
      · have w : h.1 24 (nI (4 * t + 3)).toNatClampNeg = nI 44 := w
        rw [ec, hp.2 _ kl, nI_eq (by omega) (by omega)] at w
        have f3 : fit (S 11) (4 * t + 3) = true := by
          rw [ef, w, decide_eq_true (show 4 * t + 3 < 15 by omega)]
          rfl
        rw [show 4 * (t + 1) = 4 * t + 3 + 1 by omega] at kb
        have := kb (by omega) (by omega) (fit_ext hall f3) (stE_miss hs (by rw [w]; decide))
        rw [← nI_1 (4 * t + 3)] at this
        exact this
      · have w : ¬ h.1 24 (nI (4 * t + 3)).toNatClampNeg = nI 44 := w
        rw [ec, hp.2 _ kl, nI_eq (by omega) (by omega)] at w
        refine stop (fun q => ?_)
        rw [ef, show (S 11 (4 * t + 3) == 44) = false from beq_eq_false_iff_ne.mpr w, Bool.false_and, Bool.false_or]
        by_cases e : S 11 (4 * t + 3) = 59
        · rw [show decide (7 ≤ 4 * t + 3) = false from decide_eq_false (by have := hn q e; omega), Bool.and_false]
        · rw [show (S 11 (4 * t + 3) == 59) = false from beq_eq_false_iff_ne.mpr e, Bool.false_and]
theorem l_rd (hp : pgM h S) (hg : pgB S) (hk : ∀ g, rdI h g → g.1 15 18 = b2 (gwh (S 11) (S 10 0)) → (gwh (S 11) (S 10 0) = true → g.1 15 19 = nI (S 10 0 / 4 - 1)) → K (some (.int (nI (gfa (S 11) 0 (S 10 0))))) g) : ∀ m t, t + m = 3 → ∀ g, rdI h g → g.1 15 18 = 0 → g.1 15 19 = nI t → 4 * t ≤ S 10 0 → (∀ j, j < 4 * t → fit (S 11) j = true) → stE (S 11) (4 * t) = none → ∀ u, qAt (d + 3, 82, some .int, q0, K) 8 [some (.ref 15), some (.int (nI (4 * t))), u] [] g := by
  have h10 := hg.1
  have main : ∀ t, t < 4 → (t < 3 → ∀ g, rdI h g → g.1 15 18 = 0 → g.1 15 19 = nI (t + 1) → 4 * (t + 1) ≤ S 10 0 → (∀ j, j < 4 * (t + 1) → fit (S 11) j = true) → stE (S 11) (4 * (t + 1)) = none → ∀ u, qAt (d + 3, 82, some .int, q0, K) 8 [some (.ref 15), some (.int (nI (4 * (t + 1)))), u] [] g) → ∀ g, rdI h g → g.1 15 18 = 0 → g.1 15 19 = nI t → 4 * t ≤ S 10 0 → (∀ j, j < 4 * t → fit (S 11) j = true) → stE (S 11) (4 * t) = none → ∀ u, qAt (d + 3, 82, some .int, q0, K) 8 [some (.ref 15), some (.int (nI (4 * t))), u] [] g := by
    intro t ht next g f e18 e19 hL hall hs u
    have hpg := hp.rd f
    refine at_wp [8,31] 60 (Nat.le_of_ble_eq_true rfl) rfl ?_
    refine And.intro (fun c => absurd c (by show ¬ nI 4 ≤ g.1 15 19; rw [e19]; exact nI_ge (by omega) (by omega))) (fun _ => ?_)
    refine m_readOne hpg hg (by omega) hL hall hs (fun e he g1 w1 => ?_) (fun l3 a3 s3 => ?_)
    · refine And.intro (fun c => ?_) (fun _ => ?_)
      · have c : nI e = nI (4 * t) + nI 3 := c
        rw [nI_add, nI_eq (by omega) (by omega)] at c
        omega
      · have := hk g f (by rw [w1]; exact e18) (fun z => by rw [w1] at z; cases z)
        rw [g1] at this
        exact this
    · refine And.intro (fun _ => ?_) (fun c => absurd (by show nI (4 * t + 3) = nI (4 * t) + nI 3; rw [nI_add]) c)
      obtain ⟨g2, eg2⟩ : ∃ g2, g2 = qI g 15 19 (nI (t + 1)) := ⟨_, rfl⟩
      have hgg : qI g 15 19 (g.1 15 19 + 1) = g2 := by rw [e19, nI_1, eg2]
      have f2 : rdI h g2 := by rw [eg2]; exact f.I (Or.inr rfl)
      have p2 := hp.rd f2
      have e182 : g2.1 15 18 = 0 := by rw [eg2]; exact e18
      have e192 : g2.1 15 19 = nI (t + 1) := by rw [eg2]; rfl
      have go51 : (4 * t + 3 < S 10 0 → S 11 (4 * t + 3) = 59 → t = 0) → qAt (d + 3, 82, some .int, q0, K) 51 [some (.ref 15), some (.int (nI (4 * t + 3))), some (.int (nI (4 * t + 3)))] [] g2 := fun hn => by
        refine l_rd51 p2 hg ht e192 l3 a3 s3 hn (fun q1 q2 => ?_) (fun t3 q1 q2 q3 => next t3 g2 f2 e182 e192 q1 q2 q3 _)
        have := hk g2 f2 (by rw [q2]; exact e182) (fun z => by rw [q2] at z; cases z)
        rw [q1] at this
        exact this
      show qAt _ 31 [some (.ref 15), some (.int (nI (4 * t + 3))), some (.int (nI (4 * t + 3)))] [] (qI g 15 19 (g.1 15 19 + 1))
      rw [hgg]
      have ec : (nI (4 * t + 3)).toNatClampNeg = 4 * t + 3 := nI_clamp (by omega)
      refine at_wp [51] 40 (Nat.le_of_ble_eq_true rfl) rfl ?_
      refine And.intro (fun z => ?_) (fun z => ?_)
      · have z : g2.1 15 16 ≤ nI (4 * t + 3) := z
        rw [p2.1, nI_leI (by omega) (by omega)] at z
        exact go51 (fun q => by omega)
      · have z : ¬ g2.1 15 16 ≤ nI (4 * t + 3) := z
        rw [p2.1, nI_leI (by omega) (by omega)] at z
        have kl : 4 * t + 3 < S 10 0 := by omega
        have hb := hg.2 _ kl
        refine And.intro (vp_in_nI (by omega) (by decide)) ?_
        refine And.intro (fun y => ?_) (fun y => ?_)
        · have y : g2.1 24 (nI (4 * t + 3)).toNatClampNeg = nI 59 := y
          rw [ec, p2.2 _ kl, nI_eq (by omega) (by omega)] at y
          refine And.intro (fun x => ?_) (fun x => ?_)
          · have x : g2.1 15 19 ≤ nI 1 := x
            rw [e192, nI_leI (by omega) (by omega)] at x
            exact go51 (fun _ _ => by omega)
          · have x : ¬ g2.1 15 19 ≤ nI 1 := x
            rw [e192, nI_leI (by omega) (by omega)] at x
            show qCall _ 81 [.ref 15, .int (nI (4 * t + 3) + nI 1)] g2 _
            rw [nI_add]
            have f3 : fit (S 11) (4 * t + 3) = true := by
              rw [fit_n s3, fitP_3 (by omega), y, decide_eq_true (show 7 ≤ 4 * t + 3 by omega)]
              rfl
            have s4 := stE_hit s3 y
            refine m_readSigns p2 hg kl (fit_ext a3 f3) s4 ?_
            refine hk _ (f2.I (Or.inl rfl)) (by rw [qI_get, if_pos ⟨rfl, rfl⟩]) (fun w => ?_)
            rw [qI_get, if_neg (by omega), e192]
            have : S 10 0 = 4 * t + 3 + 5 := by
              by_cases e : S 10 0 = 4 * t + 3 + 5
              · exact e
              · rw [gwh_s (stE_ge s4 (by omega)) e] at w
                cases w
            rw [show S 10 0 / 4 - 1 = t + 1 by omega]
        · have y : ¬ g2.1 24 (nI (4 * t + 3)).toNatClampNeg = nI 59 := y
          rw [ec, p2.2 _ kl, nI_eq (by omega) (by omega)] at y
          exact go51 (fun _ q => absurd q y)
  intro m
  induction m with
  | zero => exact fun t ht => main t (by omega) (fun q => by omega)
  | succ m ih => exact fun t ht => main t (by omega) (fun _ => ih (t + 1) (by omega))
theorem m_read (hp : pgM h S) (hg : pgB S) (hk : ∀ g, rdI h g → g.1 15 18 = b2 (gwh (S 11) (S 10 0)) → (gwh (S 11) (S 10 0) = true → g.1 15 19 = nI (S 10 0 / 4 - 1)) → K (some (.int (nI (gfa (S 11) 0 (S 10 0))))) g) : qCall (d + 4) 82 [.ref 15] h K := by
  refine call_wp (n := 20) (cut := [8]) _ (by decide) (Nat.lt_succ_self _) rfl rfl (Nat.le_of_ble_eq_true rfl) rfl ?_
  refine And.intro (Or.inl rfl) ?_
  exact l_rd hp hg hk 3 0 rfl (qI (qI h 15 18 0) 15 19 0) ⟨(Fr.rf.I (by decide)).I (by decide), fun k h1 h2 => by rw [qI_get, if_neg (by omega), qI_get, if_neg (by omega)]⟩ rfl rfl (by omega) (fun j hj => by omega) rfl none
end QMPG
