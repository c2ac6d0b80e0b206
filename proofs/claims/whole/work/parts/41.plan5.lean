/-! ## plans: the reference's answer -/
def plM (h g : qH) : Prop := Fr [18, 25] h g ∧ (∀ p, p < 4 → g.1 18 p = h.1 18 p) ∧ ∀ p, p < 4 → g.1 25 p = h.1 18 p
theorem plM.M {h g : qH} {S : gS} (f : plM h g) (hM : RMc h S) (hB : GB S) : RMc g S := by
  obtain ⟨⟨f1, f2⟩, e18, e25⟩ := f
  obtain ⟨m1, mp, mt, m7, m8, m9, m10, m11, mq⟩ := hM
  have hn := hB.1
  unfold RMc
  rw [f1 15 (by decide), f1 16 (by decide), f1 17 (by decide), f1 19 (by decide), f1 20 (by decide), f1 21 (by decide), f1 22 (by decide), f1 23 (by decide)]
  exact ⟨m1, fun p hp => ⟨(mp p hp).1, (mp p hp).2.1, by rw [e18 p (by omega)]; exact (mp p hp).2.2.1, (mp p hp).2.2.2⟩, mt, m7, m8, m9, m10, m11, mq⟩
theorem plM.step {h g k : qH} (f : plM h g) (F : Fr [18] g k) (e : ∀ p, p < 4 → k.1 18 p = g.1 25 p) : plM h k := by
  obtain ⟨f1, e18, e25⟩ := f
  exact ⟨f1.tr (F.mono (by decide)), fun p hp => by rw [e p hp, e25 p hp], fun p hp => by rw [F.1 25 (by decide), e25 p hp]⟩
theorem sh6 : ∀ m, m < 4 → Int32.ofInt 1 <<< ((Int32.ofInt 6 * nI m) &&& 31) = nI (64 ^ m) := by decide +kernel
theorem sub3 : ∀ m, m < 4 → ∀ i, i < m → nI m - Int32.ofInt 1 - nI i = nI (m - 1 - i) := by decide +kernel
def plW (w : Int32) : Prop := w = 0 ∨ ∃ i, i < 3 ∧ wix w = some i ∧ w - 10 = nI i ∧ ¬ w = 0
section QMP
variable {d : Nat} {h : qH} {K : qK} {S : gS}
theorem l_pnT {k m c : Nat} {w : Int32} {g : qH} (hm : m ≤ 3) (hc : c < 262144) (hw : plW w) (e : gfew S k 4 = some (m, c)) (kk : K (some (.int (gpl S k w))) g) : qAt (d + 6, 104, some .int, q0, K) 22 [some (.ref 15), some (.int (nI k)), some (.int w), some (.int (nI m)), some (.int (nI c))] [] g := by
  unfold gpl at kk
  rw [e] at kk
  dsimp only at kk
  refine at_wp [] 60 (Nat.le_of_ble_eq_true rfl) rfl ?_
  refine And.intro (fun c2 => ?_) (fun c2 => ?_)
  · have c2 : w = 0 := c2
    rw [if_pos c2] at kk
    exact kk
  · have c2 : ¬ w = 0 := c2
    rw [if_neg c2] at kk
    obtain ⟨i, i3, wi, w10, _⟩ := hw.resolve_left c2
    rw [wi] at kk
    dsimp only at kk
    refine And.intro (fun c4 => ?_) (fun c4 => ?_)
    · have c4 : nI m ≤ w - 10 := c4
      rw [w10] at c4
      rw [if_neg (fun z => absurd c4 (nI_ge z (by omega)))] at kk
      exact kk
    · have c4 : ¬ nI m ≤ w - 10 := c4
      rw [w10] at c4
      have im : i < m := by
        rcases Nat.lt_or_ge i m with q | q
        · exact q
        · exact absurd (nI_le q (by omega)) c4
      rw [if_pos im, ← cd_sh hc (m - 1 - i) (by omega), ← sub3 m (by omega) i im, ← w10] at kk
      exact kk
theorem l_pnI {k m N : Nat} {w : Int32} (hm : m ≤ 3) (eN : 64 ^ m = N) (hN : N ≤ 262144) (hM : RMc h S) (hB : GB S) (hk : k < S 0 0) (hw : plW w) (en : gfew S k m = none) (kk : ∀ g, plM h g → K (some (.int (gpl S k w))) g) (kN : gfew S k (m + 1) = none → ∀ g u, plM h g → qAt (d + 6, 104, some .int, q0, K) 4 [some (.ref 15), some (.int (nI k)), some (.int w), some (.int (nI (m + 1))), u] [] g) : ∀ j c, c + j = N → (∀ x, x < c → gP k m S x = false) → ∀ g, plM h g → qAt (d + 6, 104, some .int, q0, K) 9 [some (.ref 15), some (.int (nI k)), some (.int w), some (.int (nI m)), some (.int (nI c))] [] g := by
  intro j
  have e6 := sh6 m (by omega)
  rw [eN] at e6
  induction j with
  | zero =>
    intro c hc hz g f
    have hc : c = N := by omega
    subst hc
    refine at_wp [4] 30 (Nat.le_of_ble_eq_true rfl) rfl ?_
    refine And.intro (fun c1 => ?_) (fun c1 => ?_)
    · have f2 : gff (gP k m S) (64 ^ m) = none := gff_none _ (fun x hx => hz x (by rw [eN] at hx; exact hx))
      have f3 : gfew S k (m + 1) = none := by rw [gfew, en, f2]
      have := kN f3 g (some (.int (nI c))) f
      rw [← nI_1] at this
      exact this
    · have c1 : ¬ Int32.ofInt 1 <<< ((Int32.ofInt 6 * nI m) &&& 31) ≤ nI c := c1
      rw [e6] at c1
      exact absurd (nI_le (Nat.le_refl c) (by omega)) c1
  | succ j ih =>
    intro c hc hz g f
    have cN : c < 64 ^ m := by rw [eN]; omega
    refine at_wp [9,22] 40 (Nat.le_of_ble_eq_true rfl) rfl ?_
    refine And.intro (fun c1 => ?_) (fun c1 => ?_)
    · have c1 : Int32.ofInt 1 <<< ((Int32.ofInt 6 * nI m) &&& 31) ≤ nI c := c1
      rw [e6] at c1
      exact absurd c1 (nI_ge (by omega) (by omega))
    · refine m_isPlan hm cN (f.M hM hB) hB hk (fun b h3 f3 s3 => ?_) (fun b h3 f3 s3 => ?_)
      · refine And.intro (fun c => absurd c (by decide)) (fun _ => ?_)
        have fs := f.step f3 s3
        have f1 : gff (gP k m S) (64 ^ m) = some c := gff_some b hz _ cN
        have f2 : gfew S k (m + 1) = some (m, c) := by rw [gfew, en, f1]
        have f4 := gfew_up f2 (3 - m)
        rw [show m + 1 + (3 - m) = 4 by omega] at f4
        exact l_pnT hm (by omega) hw f4 (kk h3 fs)
      · refine And.intro (fun _ => ?_) (fun c => absurd rfl c)
        have := ih (c + 1) (by omega) (fun x hx => by
          rcases Nat.lt_or_ge x c with q | q
          · exact hz x q
          · rw [show x = c by omega]; exact b) h3 (f.step f3 s3)
        rw [← nI_1] at this
        exact this
theorem l_pnO {k : Nat} {w : Int32} (hM : RMc h S) (hB : GB S) (hk : k < S 0 0) (hw : plW w) (kk : ∀ g, plM h g → K (some (.int (gpl S k w))) g) : ∀ j m, m + j = 4 → gfew S k m = none → ∀ g u, plM h g → qAt (d + 6, 104, some .int, q0, K) 4 [some (.ref 15), some (.int (nI k)), some (.int w), some (.int (nI m)), u] [] g := by
  intro j
  induction j with
  | zero =>
    intro m hm e g u f
    have hm : m = 4 := by omega
    subst hm
    refine at_wp [] 12 (Nat.le_of_ble_eq_true rfl) rfl ?_
    refine And.intro (fun _ => ?_) (fun c => absurd (by decide) c)
    have := kk g f
    unfold gpl at this
    rw [e] at this
    exact this
  | succ j ih =>
    intro m hm e g u f
    refine at_wp [9] 12 (Nat.le_of_ble_eq_true rfl) rfl ?_
    refine And.intro (fun c => absurd c (nI_nlt (a := 3) (b := m) (by omega) (by decide))) (fun _ => ?_)
    refine l_pnI (N := 64 ^ m) (by omega) rfl ?_ hM hB hk hw e kk (fun e2 g u f => ih (m + 1) (by omega) e2 g u f) (64 ^ m) 0 (by omega) (fun x hx => by omega) g f
    exact Nat.pow_le_pow_right (n := 64) (j := 3) (by decide) (by omega)
theorem m_planNow {k : Nat} {w : Int32} (hM : RMc h S) (hB : GB S) (hk : k < S 0 0) (hw : plW w) (kk : ∀ g, plM h g → K (some (.int (gpl S k w))) g) : qCall (d + 7) 104 [.ref 15, .int (nI k), .int w] h K := by
  refine call_wp (n := 10) (cut := [4]) _ (by decide) (Nat.lt_succ_self _) rfl rfl (Nat.le_of_ble_eq_true rfl) rfl ?_
  refine m_save (fun g f e => ?_)
  exact l_pnO hM hB hk hw kk 4 0 rfl rfl g none ⟨f.mono (by decide), fun p hp => by rw [f.1 18 (by decide)], e⟩
theorem RM.plan {h g : qH} {S : gS} (hM : RM h S) (hB : GB S) (f : plM (qI h 15 15 (nI (S 12 0 + 1))) g) : RM g (sS S 12 0 (S 12 0 + 1)) := by
  obtain ⟨x1, x2, x3, x4, x5, x6, x7⟩ := hM
  have g0 : ∀ a, a ≠ 12 → sS S 12 0 (S 12 0 + 1) a = S a := fun a ha => sS_ne ha
  have k15 : ∀ k, k ≠ 15 → (qI h 15 15 (nI (S 12 0 + 1))).1 15 k = h.1 15 k := fun k hk => by rw [qI_get, if_neg (fun z => hk z.2)]
  have hM2 : RMc (qI h 15 15 (nI (S 12 0 + 1))) S := x1.h (fun k hk => k15 k (by omega)) (fun a h1 h2 => qI_ne (by omega))
  have hM3 : RMc g (sS S 12 0 (S 12 0 + 1)) := (f.M hM2 hB).S (fun a ha => g0 a (by omega))
  obtain ⟨⟨f1, f2⟩, e18, e25⟩ := f
  have e15 := f1 15 (by decide)
  have ex : ∀ a, a ≠ 15 → a ≠ 18 → a ≠ 25 → g.1 a = h.1 a := fun a h1 h2 h3 => (f1 a (by simp [h2, h3])).trans (qI_ne h1)
  unfold RM
  rw [e15, k15 16 (by decide), k15 0 (by decide), k15 22 (by decide), k15 23 (by decide), ex 24 (by decide) (by decide) (by decide), g0 10 (by decide), g0 11 (by decide), g0 13 (by decide), sS_nb (show (1 : Nat) ≠ 0 by decide), sS_eq]
  refine ⟨hM3, ?_, x3, x4, x5, x6, fun z => ?_⟩
  · rw [qI_get, if_pos ⟨rfl, rfl⟩]
  · have q := x7 z
    unfold RMk at q ⊢
    rw [e15, k15 24 (by decide), k15 25 (by decide), k15 26 (by decide), k15 27 (by decide), k15 28 (by decide), ex 26 (by decide) (by decide) (by decide), ex 27 (by decide) (by decide) (by decide), ex 28 (by decide) (by decide) (by decide), ex 29 (by decide) (by decide) (by decide), ex 30 (by decide) (by decide) (by decide), g0 14 (by decide), g0 15 (by decide), g0 16 (by decide), g0 17 (by decide), g0 18 (by decide), g0 19 (by decide), g0 0 (by decide)]
    exact q
theorem l_mp15 {n : Nat} {w : Int32} (hM : RM h S) (hG : RG S) (hn : n < S 0 0) (hw : plW w) (hk : ∀ h', Fr lM h h' → RM h' (if okPlan S n = true then sS S 12 0 (S 12 0 + 1) else S) → K (some (.int (if okPlan S n = true then gpl S n w else -103))) h') : qAt (d + 7, 105, some .int, q0, K) 15 [some (.ref 15), some (.int (nI n)), some (.int w)] [] h := by
  have hB := hG.1
  have hn0 := hB.1
  have h12 := hG.2.2.2.2.1
  have e8 := hM.2.1
  have bad : okPlan S n = false → K (some (.int (-103))) h := fun z => by
    have := hk h Fr.rf
    rw [z] at this
    exact this hM
  refine at_wp [] 60 (Nat.le_of_ble_eq_true rfl) rfl ?_
  refine m_isKing hM.1 hB hn (fun b1 => ?_) (fun b1 => ?_)
  · refine And.intro (fun c => absurd c (by decide)) (fun _ => ?_)
    show qCall _ 74 [.int (h.1 15 8), .int (nI n)] h _
    rw [hM.1.2.2.2.2.1]
    refine m_isIn (by have := hB.2.2.2.1; omega) (by omega) (fun b2 => ?_) (fun b2 => ?_)
    · refine And.intro (fun c => absurd c (by decide)) (fun _ => ?_)
      exact bad (by unfold okPlan; rw [b2]; simp)
    · refine And.intro (fun _ => ?_) (fun c => absurd rfl c)
      refine And.intro (fun c1 => ?_) (fun c1 => ?_)
      · have c1 : h.1 15 15 = nI 12 := c1
        rw [e8, nI_eq (by omega) (by omega)] at c1
        refine bad ?_
        unfold okPlan
        rw [show decide (S 12 0 < 12) = false from decide_eq_false (by omega)]
        simp
      · have c1 : ¬ h.1 15 15 = nI 12 := c1
        rw [e8, nI_eq (by omega) (by omega)] at c1
        have ok : okPlan S n = true := by
          unfold okPlan
          rw [b1, b2, decide_eq_true (show S 12 0 < 12 by omega)]
          rfl
        simp only [if_pos ok] at hk
        show qCall _ 104 [.ref 15, .int (nI n), .int w] (qI h 15 15 (h.1 15 15 + 1)) _
        rw [e8, nI_1]
        have hM2 : RMc (qI h 15 15 (nI (S 12 0 + 1))) S := hM.1.h (fun k hk => by rw [qI_get, if_neg (fun z => by omega)]) (fun a h1 h2 => qI_ne (by omega))
        refine m_planNow hM2 hB hn hw (fun g f => ?_)
        exact hk g ((Fr.rf.I (by decide)).tr (f.1.mono (by decide))) (hM.plan hB f)
  · refine And.intro (fun _ => ?_) (fun c => absurd rfl c)
    exact bad (by unfold okPlan; rw [b1]; rfl)
theorem m_plan {p w : Int32} (hM : RM h S) (hG : RG S) (hk : ∀ h', Fr lM h h' → RM h' (uPlan S p w) → K (some (.int (aPlan S p w))) h') : qCall (d + 8) 105 [.ref 15, .int p, .int w] h K := by
  have hB := hG.1
  have hn0 := hB.1
  unfold aPlan uPlan at hk
  refine call_wp (n := 30) (cut := [15]) _ (by decide) (Nat.lt_succ_self _) rfl rfl (Nat.le_of_ble_eq_true rfl) rfl ?_
  refine m_isOne hM.1 hB (fun n hn ep => ?_) (fun hne => ?_)
  · subst ep
    rw [show ip S (nI n) = some n from ix_some hn (by omega)] at hk
    dsimp only at hk
    refine And.intro (fun c => absurd c (by decide)) (fun _ => ?_)
    refine And.intro (fun c1 => ?_) (fun c1 => ?_)
    · have c1 : w = 0 := c1
      simp only [if_pos (show w = 0 ∨ (wix w).isSome = true from Or.inl c1)] at hk
      exact l_mp15 hM hG hn (Or.inl c1) hk
    · have c1 : ¬ w = 0 := c1
      refine m_within (lo := 10) (hi := 12) (by decide) (by decide) (fun j h1 h2 e => ?_) (fun hj => ?_)
      · refine And.intro (fun c => absurd c (by decide)) (fun _ => ?_)
        subst e
        obtain ⟨i, i3, wi, w10, w0⟩ := wix_s (w := nI j) (nI_nlt (b := 10) h1 (by omega)) (nI_lt (b := 13) (by omega) (by decide))
        simp only [if_pos (show nI j = 0 ∨ (wix (nI j)).isSome = true from Or.inr (by rw [wi]; rfl))] at hk
        exact l_mp15 hM hG hn (Or.inr ⟨i, i3, wi, w10, w0⟩) hk
      · refine And.intro (fun _ => ?_) (fun c => absurd rfl c)
        have zz : ¬ (w = 0 ∨ (wix w).isSome = true) := by
          have : wix w = none := by
            unfold wix
            rw [if_neg (show ¬ w = 10 from hj 10 (by decide) (by decide)), if_neg (show ¬ w = 11 from hj 11 (by decide) (by decide)), if_neg (show ¬ w = 12 from hj 12 (by decide) (by decide))]
          rw [this]
          simp [c1]
        simp only [if_neg zz] at hk
        exact hk h Fr.rf hM
  · rw [show ip S p = none from ix_none (by omega) hne] at hk
    refine And.intro (fun _ => ?_) (fun c => absurd rfl c)
    exact hk h Fr.rf hM
end QMP
