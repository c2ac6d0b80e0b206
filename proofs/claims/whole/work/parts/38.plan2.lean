/-! ## plans: the class's answer -/
def wix (w : Int32) : Option Nat := if w = 10 then some 0 else if w = 11 then some 1 else if w = 12 then some 2 else none
def gpl (S : gS) (k : Nat) (w : Int32) : Int32 := match gfew S k 4 with
  | none => -1
  | some x => if w = 0 then nI x.1 else match wix w with
    | some i => if i < x.1 then nI (x.2 / 64 ^ (x.1 - 1 - i) % 64) else -1
    | none => -1
def okPlan (S : gS) (k : Nat) : Bool := gking S k && !(S 5 0).testBit k && decide (S 12 0 < 12)
def aPlan (S : gS) (p w : Int32) : Int32 := match ip S p with
  | none => -101
  | some k => if w = 0 ∨ (wix w).isSome = true then (if okPlan S k = true then gpl S k w else -103) else -102
def uPlan (S : gS) (p w : Int32) : gS := match ip S p with
  | none => S
  | some k => if w = 0 ∨ (wix w).isSome = true then (if okPlan S k = true then sS S 12 0 (S 12 0 + 1) else S) else S
theorem wix_s {w : Int32} (h1 : ¬ w < 10) (h2 : w < 13) : ∃ i, i < 3 ∧ wix w = some i ∧ w - 10 = nI i ∧ ¬ w = 0 := by
  rcases pk_ix w (n := 13) (by decide) with c | c | ⟨n, hn, e⟩
  · exact absurd (Int32.lt_trans c (show (0 : Int32) < 10 by decide)) h1
  · exact absurd h2 (Int32.not_lt.mpr c)
  · subst e
    have h1 : ¬ n < 10 := fun z => h1 (nI_lt (b := 10) z (by decide))
    rcases (show n = 10 ∨ n = 11 ∨ n = 12 by omega) with rfl | rfl | rfl
    · exact ⟨0, by decide, by decide, by decide, by decide⟩
    · exact ⟨1, by decide, by decide, by decide, by decide⟩
    · exact ⟨2, by decide, by decide, by decide, by decide⟩
theorem wix_n {w : Int32} (h : w < 10 ∨ ¬ w < 13) : wix w = none := by
  unfold wix
  by_cases e1 : w = 10
  · subst e1
    exact absurd h (by decide)
  · by_cases e2 : w = 11
    · subst e2
      exact absurd h (by decide)
    · by_cases e3 : w = 12
      · subst e3
        exact absurd h (by decide)
      · rw [if_neg e1, if_neg e2, if_neg e3]
theorem RX.fr4 {h h' : qH} {S : gS} (hX : RX h S) (f : Fr [11, 12, 13, 14] h h') : RX h' S := by
  obtain ⟨x1, x2, x3, x4, x5, x6, x7, x8⟩ := hX
  unfold RX
  rw [f.1 0 (by decide), f.1 1 (by decide), f.1 2 (by decide)]
  exact ⟨x1.fr f (by decide) (by decide), x2.fr f (by decide) (by decide) (by decide), fun z => (x3 z).fr f (by decide) (by decide) (by decide), x4, x5, x6, x7, x8⟩
theorem RX.p1 {h : qH} {S : gS} {v : Nat} (hX : RX h S) : RX (qI h 0 8 (nI v)) (sS S 12 0 v) := by
  obtain ⟨x1, x2, x3, x4, x5, x6, x7, x8⟩ := hX
  have f : Fr [0] h (qI h 0 8 (nI v)) := Fr.rf.I (by decide)
  have g : ∀ a, a ≠ 12 → sS S 12 0 v a = S a := fun a ha => sS_ne ha
  have hk : ∀ k, k ≠ 8 → (qI h 0 8 (nI v)).1 0 k = h.1 0 k := fun k hk => by rw [qI_get, if_neg (fun z => hk z.2)]
  unfold RX
  rw [g 13 (by decide), g 10 (by decide), g 11 (by decide), hk 6 (by decide), hk 7 (by decide), f.1 1 (by decide), f.1 2 (by decide), sS_nb (show (1 : Nat) ≠ 0 by decide), sS_eq]
  refine ⟨(x1.fr f (by decide) (by decide)).S (fun a ha => g a (by omega)), (x2.fr f (by decide) (by decide) (by decide)).S (fun a ha => g a (by omega)), fun z => ((x3 z).fr f (by decide) (by decide) (by decide)).S (fun a ha => ?_), x4, x5, ?_, x7, x8⟩
  · funext y
    unfold gkept
    rw [g 14 (by decide), g 15 (by decide), g 16 (by decide), g 17 (by decide), g 18 (by decide), g 19 (by decide), g a (by omega)]
  · rw [qI_get, if_pos ⟨rfl, rfl⟩]
section QPL
variable {d : Nat} {h : qH} {K : qK} {S : gS}
theorem l_p17 {n : Nat} {w : Int32} (hX : RX h S) (hG : RG S) (hn : n < S 0 0) (hw : w = 0 ∨ ∃ i, i < 3 ∧ wix w = some i ∧ w - 10 = nI i ∧ ¬ w = 0) (hk : ∀ h', Fr lX h h' → RX h' (if okPlan S n = true then sS S 12 0 (S 12 0 + 1) else S) → K (some (.int (if okPlan S n = true then gpl S n w else -103))) h') : qAt (d + 9, 54, some .int, q0, K) 17 [some (.ref 0), some (.int (nI n)), some (.int w), none, none] [] h := by
  have hB := hG.1
  have hn0 := hB.1
  have h12 := hG.2.2.2.2.1
  have e8 := hX.2.2.2.2.2.1
  have bad : okPlan S n = false → K (some (.int (-103))) h := fun z => by
    have := hk h Fr.rf
    rw [z] at this
    exact this hX
  refine at_wp [] 90 (Nat.le_of_ble_eq_true rfl) rfl ?_
  refine c_isA (k := 1) hX.1 hB hn (by decide) (fun b1 => ?_) (fun b1 => ?_)
  · rw [gisA_1] at b1
    refine And.intro (fun c => absurd c (by decide)) (fun _ => ?_)
    refine c_isHanged (Or.inl rfl) hX.2.1 hB (by omega) (fun b2 => ?_) (fun b2 => ?_)
    · refine And.intro (fun c => absurd c (by decide)) (fun _ => ?_)
      exact bad (by unfold okPlan; rw [b2]; simp)
    · refine And.intro (fun _ => ?_) (fun c => absurd rfl c)
      refine And.intro (fun c1 => ?_) (fun c1 => ?_)
      · have c1 : h.1 0 8 < 12 := c1
        have hlt : S 12 0 < 12 := by
          rcases Nat.lt_or_ge (S 12 0) 12 with q | q
          · exact q
          · rw [e8] at c1
            exact absurd c1 (nI_nlt (b := 12) q (by omega))
        have ok : okPlan S n = true := by
          unfold okPlan
          rw [b1, b2, decide_eq_true hlt]
          rfl
        simp only [if_pos ok] at hk
        obtain ⟨h2, eh2⟩ : ∃ h2, h2 = qI h 0 8 (nI (S 12 0 + 1)) := ⟨_, rfl⟩
        have hX2 : RX h2 (sS S 12 0 (S 12 0 + 1)) := by rw [eh2]; exact hX.p1
        have hf2 : Fr [0] h h2 := by rw [eh2]; exact Fr.rf.I (by decide)
        show qCall _ 67 [.ref 0, .int (nI n)] (qI h 0 8 (h.1 0 8 + 1)) _
        rw [e8, nI_1, ← eh2]
        unfold gpl at hk
        refine c_fewest (S := S) (hX.1.fr hf2 (by decide) (by decide)) (hX.2.1.fr hf2 (by decide) (by decide) (by decide)) hB hG.2.1 hn (fun h' m c hF e hm hwd => ?_) (fun h' hF e => ?_)
        · have hk := hk h' ((hf2.mono (by decide)).tr (hF.mono (by decide))) (hX2.fr4 hF)
          rw [e] at hk
          dsimp only at hk
          refine And.intro (fun c2 => ?_) (fun c2 => ?_)
          · have c2 : w = 0 := c2
            rw [if_pos c2] at hk
            exact hk
          · have c2 : ¬ w = 0 := c2
            rw [if_neg c2] at hk
            obtain ⟨i, i3, wi, w10, _⟩ := hw.resolve_left c2
            have eci : (nI i).toNatClampNeg = i := nI_clamp (by omega)
            rw [wi] at hk
            dsimp only at hk
            refine And.intro (fun c3 => absurd (show w - 10 < 0 from c3) (by rw [w10]; exact nI_pos (by omega))) (fun _ => ?_)
            refine And.intro (fun c4 => ?_) (fun c4 => ?_)
            · have c4 : nI m ≤ w - 10 := c4
              rw [w10] at c4
              rw [if_neg (fun z => absurd c4 (nI_ge z (by omega)))] at hk
              exact hk
            · have c4 : ¬ nI m ≤ w - 10 := c4
              rw [w10] at c4
              have im : i < m := by
                rcases Nat.lt_or_ge i m with q | q
                · exact q
                · exact absurd (nI_le q (by omega)) c4
              rw [if_pos im, ← hwd i im] at hk
              refine And.intro (fun c5 => absurd (show 3 ≤ w - 10 from c5) (by rw [w10]; exact nI_ge (b := 3) i3 (by decide))) (fun _ => ?_)
              refine And.intro (by show vp_in (w - 10) 3; rw [w10]; exact vp_in_nI i3 (by decide)) ?_
              show K (some (.int (h'.1 14 (w - 10).toNatClampNeg))) h'
              rw [w10, eci]
              exact hk
        · have hk := hk h' ((hf2.mono (by decide)).tr (hF.mono (by decide))) (hX2.fr4 hF)
          rw [e] at hk
          dsimp only at hk
          refine And.intro (fun c2 => hk) (fun c2 => ?_)
          have c2 : ¬ w = 0 := c2
          obtain ⟨i, i3, wi, w10, _⟩ := hw.resolve_left c2
          refine And.intro (fun c3 => absurd (show w - 10 < 0 from c3) (by rw [w10]; exact nI_pos (by omega))) (fun _ => ?_)
          refine And.intro (fun c4 => hk) (fun c4 => ?_)
          refine absurd (show (-1 : Int32) ≤ w - 10 from ?_) c4
          rw [w10]
          exact Int32.le_trans (show (-1 : Int32) ≤ 0 by decide) (nI_pos' (by omega))
      · have c1 : ¬ h.1 0 8 < 12 := c1
        refine bad ?_
        unfold okPlan
        rw [show decide (S 12 0 < 12) = false from decide_eq_false (fun z => c1 (by rw [e8]; exact nI_lt (b := 12) z (by decide)))]
        simp
  · rw [gisA_1] at b1
    refine And.intro (fun _ => ?_) (fun c => absurd rfl c)
    exact bad (by unfold okPlan; rw [b1]; rfl)
theorem x_plan {p w : Int32} (hX : RX h S) (hG : RG S) (hk : ∀ h', Fr lX h h' → RX h' (uPlan S p w) → K (some (.int (aPlan S p w))) h') : qCall (d + 10) 54 [.ref 0, .int p, .int w] h K := by
  have hB := hG.1
  have hn0 := hB.1
  unfold aPlan uPlan at hk
  refine call_wp (n := 30) (cut := [17]) _ (by decide) (Nat.lt_succ_self _) rfl rfl (Nat.le_of_ble_eq_true rfl) rfl ?_
  refine c_isPerson hX.1 hB (fun n hn ep => ?_) (fun hne => ?_)
  · subst ep
    rw [show ip S (nI n) = some n from ix_some hn (by omega)] at hk
    dsimp only at hk
    refine And.intro (fun c => absurd c (by decide)) (fun _ => ?_)
    refine And.intro (fun c1 => ?_) (fun c1 => ?_)
    · have c1 : w = 0 := c1
      simp only [if_pos (show w = 0 ∨ (wix w).isSome = true from Or.inl c1)] at hk
      exact l_p17 hX hG hn (Or.inl c1) hk
    · have c1 : ¬ w = 0 := c1
      have bad : w < 10 ∨ ¬ w < 13 → K (some (.int (-102))) h := fun z => by
        have zz : ¬ (w = 0 ∨ (wix w).isSome = true) := by
          rw [wix_n z]
          simp [c1]
        simp only [if_neg zz] at hk
        exact hk h Fr.rf hX
      refine And.intro (fun c2 => bad (Or.inl c2)) (fun c2 => ?_)
      refine And.intro (fun c3 => ?_) (fun c3 => bad (Or.inr c3))
      obtain ⟨i, i3, wi, w10, w0⟩ := wix_s c2 c3
      simp only [if_pos (show w = 0 ∨ (wix w).isSome = true from Or.inr (by rw [wi]; rfl))] at hk
      exact l_p17 hX hG hn (Or.inr ⟨i, i3, wi, w10, w0⟩) hk
  · rw [show ip S p = none from ix_none (by omega) hne] at hk
    refine And.intro (fun _ => ?_) (fun c => absurd rfl c)
    exact hk h Fr.rf hX
end QPL
