/-! ## what every call keeps -/
theorem RX.keep {h h' : qH} {S : gS} (hX : RX h S) (e : ∀ a, a ∈ lX → h'.1 a = h.1 a) : RX h' S := by
  unfold RX RC RS at hX ⊢
  rw [e 0 (by decide), e 1 (by decide), e 2 (by decide), e 3 (by decide), e 4 (by decide), e 5 (by decide), e (5 + 1) (by decide), e (5 + 2) (by decide), e 8 (by decide), e (8 + 1) (by decide), e (8 + 2) (by decide)]
  exact hX
theorem RM.keep {h h' : qH} {S : gS} (hM : RM h S) (e : ∀ a, a ∈ lM → h'.1 a = h.1 a) : RM h' S := by
  unfold RM RMc RMk at hM ⊢
  rw [e 15 (by decide), e 16 (by decide), e 17 (by decide), e 18 (by decide), e 19 (by decide), e 20 (by decide), e 21 (by decide), e 22 (by decide), e 23 (by decide), e 24 (by decide), e 26 (by decide), e 27 (by decide), e 28 (by decide), e 29 (by decide), e 30 (by decide)]
  exact hM
theorem RM.x {h h' : qH} {S : gS} (hM : RM h S) (f : Fr lX h h') : RM h' S := hM.keep (fun a ha => f.1 a (fun z => (show ∀ a ∈ lM, a ∉ lX by decide) a ha z))
theorem RX.m {h h' : qH} {S : gS} (hX : RX h S) (f : ∀ a, a ∉ lM → h'.1 a = h.1 a) : RX h' S := hX.keep (fun a ha => f a (fun z => (show ∀ a ∈ lX, a ∉ lM by decide) a ha z))
theorem isg_lt {S : gS} {k : Int32} {n : Nat} (h : isg S k = some n) : n < 4 := by
  unfold isg at h
  split at h
  · exact (ix_lt (by decide) h).1
  · cases h
theorem ip_lt {S : gS} (hB : GB S) {p : Int32} {n : Nat} (h : ip S p = some n) : n < S 0 0 := (ix_lt (by have := hB.1; omega) h).1
def Kp (S S' : gS) : Prop := RG S' ∧ S' 12 1 ≤ S 12 1 + 1
theorem Kp.rf {S : gS} (hG : RG S) : Kp S S := ⟨hG, by omega⟩
theorem k_forbid {S : gS} (hG : RG S) (k : Int32) (is : Bool) : Kp S (uForbid S k is) := by
  unfold uForbid
  cases e : isg S k with
  | none => exact Kp.rf hG
  | some n =>
    have hv := gfb_lt hG.1 (isg_lt e) is
    dsimp only
    refine ⟨hG.scene ?_ ?_ (fun a ha => sS_ne (by omega)), Nat.le_succ _⟩
    · obtain ⟨b1, b2, b3, b4, b5, b6⟩ := hG.1
      exact ⟨b1, b2, b3, b4, b5, hv⟩
    · exact hG.2.1
theorem k_forget {S : gS} (hG : RG S) : Kp S (sS S 5 4 0) := by
  refine ⟨hG.scene ?_ ?_ (fun a ha => sS_ne (by omega)), Nat.le_succ _⟩
  · exact hG.1
  · exact ⟨Nat.zero_le 6, fun i hi => absurd hi (Nat.not_lt_zero i)⟩
theorem k_tell {S : gS} (hG : RG S) (f t s : Int32) : Kp S (uTell S f t s) := by
  unfold uTell
  cases e : iTell S f t s with
  | none => exact Kp.rf hG
  | some q =>
    dsimp only
    by_cases g : gcan S q.1 q.2.1 q.2.2 = true
    · rw [if_pos g]
      unfold iTell at e
      cases e1 : ip S f with
      | none => rw [e1] at e; cases e
      | some f =>
        cases e2 : ip S t with
        | none => rw [e1, e2] at e; cases e
        | some t =>
          cases e3 : isg S s with
          | none => rw [e1, e2, e3] at e; cases e
          | some s =>
            rw [e1, e2, e3] at e
            dsimp only at e
            split at e
            · cases e
            · cases e
              dsimp only at g ⊢
              refine ⟨hG.scene (gpass_B hG.1 (ip_lt hG.1 e1) (ip_lt hG.1 e2) (isg_lt e3)) ?_ (fun a ha => ?_), ?_⟩
              · exact hG.2.1
              · funext y
                unfold gpass
                rw [if_neg (by omega), if_neg (by omega), if_neg (by omega), if_neg (by omega), if_neg (by omega)]
              · exact Nat.le_succ _
    · rw [if_neg g]
      exact Kp.rf hG
theorem k_plan {S : gS} (hG : RG S) (p w : Int32) : Kp S (uPlan S p w) := by
  unfold uPlan
  cases e : ip S p with
  | none => exact Kp.rf hG
  | some n =>
    dsimp only
    by_cases c1 : w = 0 ∨ (wix w).isSome = true
    · rw [if_pos c1]
      by_cases c2 : okPlan S n = true
      · rw [if_pos c2]
        have lt : S 12 0 < 12 := by
          unfold okPlan at c2
          simp only [Bool.and_eq_true, decide_eq_true_eq] at c2
          exact c2.2
        have g : ∀ a, a ≠ 12 → sS S 12 0 (S 12 0 + 1) a = S a := fun a ha => sS_ne ha
        have gk : ∀ a, a < 10 → gkept (sS S 12 0 (S 12 0 + 1)) a = gkept S a := fun a ha => by
          funext y
          unfold gkept
          rw [g 14 (by decide), g 15 (by decide), g 16 (by decide), g 17 (by decide), g 18 (by decide), g 19 (by decide), g a (by omega)]
        obtain ⟨g1, g2, g3, g4, g5, g6, g7⟩ := hG
        exact ⟨⟨g1, g2, fun z => ⟨(g3 z).1.S gk, (g3 z).2.S gk⟩, g4, lt, g6, g7⟩, Nat.le_succ _⟩
      · rw [if_neg c2]
        exact Kp.rf hG
    · rw [if_neg c1]
      exact Kp.rf hG
theorem k_ask {S : gS} (hG : RG S) (p s : Int32) (so : Bool) : Kp S (uAsk S p s so) := by
  unfold uAsk
  cases e : ip S p with
  | none => exact Kp.rf hG
  | some n =>
    dsimp only
    cases e2 : ix s 16 with
    | none => exact Kp.rf hG
    | some g =>
      dsimp only
      by_cases c : 6 ≤ S 5 4
      · rw [if_pos c]
        exact Kp.rf hG
      · rw [if_neg c]
        refine ⟨hG.scene hG.1 ?_ (fun a ha => gask_o ha), Nat.le_succ _⟩
        have hn := ip_lt hG.1 e
        have hg := (ix_lt (by decide) e2).1
        refine ⟨show S 5 4 + 1 ≤ 6 by omega, fun i hi => ?_⟩
        have hi : i < S 5 4 + 1 := hi
        show (if 7 = 7 ∧ i = S 5 4 then n else S 7 i) < S 0 0 ∧ (if 8 = 8 ∧ i = S 5 4 then g else S 8 i) < 16 ∧ (if 9 = 9 ∧ i = S 5 4 then (if so = true then 1 else 0) else S 9 i) < 2
        by_cases q : i = S 5 4
        · rw [if_pos ⟨rfl, q⟩, if_pos ⟨rfl, q⟩, if_pos ⟨rfl, q⟩]
          exact ⟨hn, hg, by split <;> decide⟩
        · rw [if_neg (fun z => q z.2), if_neg (fun z => q z.2), if_neg (fun z => q z.2)]
          exact hG.2.1.2 i (by omega)
theorem k_letter {S : gS} (hG : RG S) (c : Int32) : Kp S (uLetter S c) := by
  unfold uLetter
  by_cases c1 : c < 32 ∨ 126 < c
  · rw [if_pos c1]
    exact Kp.rf hG
  · rw [if_neg c1]
    by_cases c2 : 22 ≤ S 10 0
    · rw [if_pos c2]
      exact Kp.rf hG
    · rw [if_neg c2]
      have hc : ∃ j, 32 ≤ j ∧ j ≤ 126 ∧ c.toNatClampNeg = j := by
        have n1 : ¬ c < 0 := fun z => c1 (Or.inl (Int32.lt_trans z (show (0 : Int32) < 32 by decide)))
        obtain ⟨j, hj, rfl⟩ := nI_of n1
        refine ⟨j, ?_, ?_, nI_clamp hj⟩
        · rcases Nat.lt_or_ge j 32 with q | q
          · exact absurd (Or.inl (nI_lt (b := 32) q (by decide))) c1
          · exact q
        · rcases Nat.lt_or_ge 126 j with q | q
          · exact absurd (Or.inr (nI_lt (a := 126) q hj)) c1
          · exact q
      obtain ⟨j, j1, j2, ej⟩ := hc
      rw [ej]
      have g : ∀ a, a ≠ 10 → a ≠ 11 → sS (sS S 11 (S 10 0) j) 10 0 (S 10 0 + 1) a = S a := fun a h1 h2 => by rw [sS_ne h1, sS_ne h2]
      have gk : ∀ a, a < 10 → gkept (sS (sS S 11 (S 10 0) j) 10 0 (S 10 0 + 1)) a = gkept S a := fun a ha => by
        funext y
        unfold gkept
        rw [g 14 (by decide) (by decide), g 15 (by decide) (by decide), g 16 (by decide) (by decide), g 17 (by decide) (by decide), g 18 (by decide) (by decide), g 19 (by decide) (by decide), g a (by omega) (by omega)]
      obtain ⟨g1, g2, g3, g4, g5, g6, g7⟩ := hG
      refine ⟨⟨g1, g2, fun z => ⟨(g3 z).1.S gk, (g3 z).2.S gk⟩, g4, g5, show S 10 0 + 1 ≤ 22 by omega, fun i hi => ?_⟩, Nat.le_succ _⟩
      have hi : i < S 10 0 + 1 := hi
      show 32 ≤ (if 11 = 11 ∧ i = S 10 0 then j else S 11 i) ∧ (if 11 = 11 ∧ i = S 10 0 then j else S 11 i) ≤ 126
      by_cases q : i = S 10 0
      · rw [if_pos ⟨rfl, q⟩]
        exact ⟨j1, j2⟩
      · rw [if_neg (fun z => q z.2)]
        exact g7 i (by omega)
theorem k_blank {S : gS} (hG : RG S) : Kp S (sS S 10 0 0) := by
  have g : ∀ a, a ≠ 10 → sS S 10 0 0 a = S a := fun a h1 => sS_ne h1
  have gk : ∀ a, a < 10 → gkept (sS S 10 0 0) a = gkept S a := fun a ha => by
    funext y
    unfold gkept
    rw [g 14 (by decide), g 15 (by decide), g 16 (by decide), g 17 (by decide), g 18 (by decide), g 19 (by decide), g a (by omega)]
  obtain ⟨g1, g2, g3, g4, g5, g6, g7⟩ := hG
  exact ⟨⟨g1, g2, fun z => ⟨(g3 z).1.S gk, (g3 z).2.S gk⟩, g4, g5, Nat.zero_le 22, fun i hi => absurd hi (Nat.not_lt_zero i)⟩, Nat.le_succ _⟩
theorem k_image {S : gS} (hG : RG S) : Kp S (uImage S) := by
  unfold uImage
  by_cases c : S 0 0 = 0
  · rw [if_pos c]
    exact Kp.rf hG
  · rw [if_neg c]
    obtain ⟨g1, g2, g3, g4, g5, g6, g7⟩ := hG
    refine ⟨⟨g1.S (fun a ha => gimg_o (by omega)), g2.S (fun a ha => gimg_o (by omega)), fun z => ⟨g1.S (gkept_i S), g2.S (gkept_i S)⟩, by show (1 : Nat) < 2; decide, g5, g6, g7⟩, Nat.le_succ _⟩
theorem k_restore {S : gS} (hG : RG S) : Kp S (uRestore S) := by
  unfold uRestore
  by_cases c : S 13 0 = 0
  · rw [if_pos c]
    exact Kp.rf hG
  · rw [if_neg c]
    obtain ⟨g1, g2, g3, g4, g5, g6, g7⟩ := hG
    have q := g3 (by omega)
    refine ⟨⟨q.1, q.2, fun z => ?_, g4, g5, g6, g7⟩, Nat.le_succ _⟩
    rw [gkept_k]
    exact q
theorem k_court {S : gS} (hG : RG S) : Kp S (uCourt S) := by
  unfold uCourt
  by_cases c : gwh (S 11) (S 10 0) = true
  · rw [if_pos c]
    exact ⟨gct_G hG c, Nat.le_refl _⟩
  · rw [if_neg c]
    exact Kp.rf hG

