/-! ## letters, questions, the image, counts -/
def aLetter (S : gS) (c : Int32) : Int32 := if c < 32 ∨ 126 < c then -102 else if 22 ≤ S 10 0 then -104 else nI (S 10 0 + 1)
def uLetter (S : gS) (c : Int32) : gS := if c < 32 ∨ 126 < c then S else if 22 ≤ S 10 0 then S else sS (sS S 11 (S 10 0) c.toNatClampNeg) 10 0 (S 10 0 + 1)
def aAsk (S : gS) (p s : Int32) : Int32 := match ip S p with
  | none => -101
  | some _ => match ix s 16 with
    | none => -102
    | some _ => if 6 ≤ S 5 4 then -104 else nI (S 5 4 + 1)
def gask (S : gS) (n g b : Nat) : gS := sS (sS (sS (sS S 7 (S 5 4) n) 8 (S 5 4) g) 9 (S 5 4) b) 5 4 (S 5 4 + 1)
def uAsk (S : gS) (p s : Int32) (so : Bool) : gS := match ip S p with
  | none => S
  | some n => match ix s 16 with
    | none => S
    | some g => if 6 ≤ S 5 4 then S else gask S n g (if so then 1 else 0)
def aImage (S : gS) : Int32 := if S 0 0 = 0 then -103 else nI (S 5 3)
def gimg (S : gS) : gS := fun x y => if x = 13 ∧ y = 0 then 1 else if x = 14 then S 4 y else if x = 15 then S 5 y else if x = 16 then S 6 y else if x = 17 then S 7 y else if x = 18 then S 8 y else if x = 19 then S 9 y else S x y
def uImage (S : gS) : gS := if S 0 0 = 0 then S else gimg S
def aRestore (S : gS) : Int32 := if S 13 0 = 0 then -103 else nI (S 15 3)
def uRestore (S : gS) : gS := if S 13 0 = 0 then S else gkept S
def aCount (S : gS) (w : Int32) : Int32 := match ix w 10 with
  | some 0 => nI (S 0 0)
  | some 1 => nI (ginfN S (S 0 0))
  | some 2 => nI (gpop (S 5 0))
  | some 3 => nI (gpop (S 5 1))
  | some 4 => nI (gpop (S 5 2))
  | some 5 => nI (S 5 3)
  | some 6 => nI (S 5 4)
  | some 7 => nI (S 10 0)
  | some 8 => nI (S 12 1)
  | some _ => nI (S 12 0)
  | none => -102
theorem gimg_o {S : gS} {a : Nat} (h : a < 13 ∨ 20 ≤ a) : gimg S a = S a := by
  funext y
  unfold gimg
  rw [if_neg (by omega), if_neg (by omega), if_neg (by omega), if_neg (by omega), if_neg (by omega), if_neg (by omega), if_neg (by omega)]
theorem gkept_o {S : gS} {a : Nat} (h : a < 4 ∨ 10 ≤ a) : gkept S a = S a := by
  funext y
  unfold gkept
  rw [if_neg (by omega), if_neg (by omega), if_neg (by omega), if_neg (by omega), if_neg (by omega), if_neg (by omega)]
theorem gkept_k (S : gS) : gkept (gkept S) = gkept S := gkept_S (fun _ h => gkept_o h)
/-- the image of a state is the state, as far as a scene goes -/
theorem gkept_i (S : gS) : ∀ a, a < 10 → gkept (gimg S) a = S a := by
  intro a ha
  funext y
  unfold gkept
  match a, ha with
  | 0, _ => rfl
  | 1, _ => rfl
  | 2, _ => rfl
  | 3, _ => rfl
  | 4, _ => rfl
  | 5, _ => rfl
  | 6, _ => rfl
  | 7, _ => rfl
  | 8, _ => rfl
  | 9, _ => rfl
theorem RS.S {r : Nat} {h : qH} {S S' : gS} (hR : RS r h S) (e : ∀ a, a < 10 → S' a = S a) : RS r h S' := by
  unfold RS at hR ⊢
  rw [e 0 (by decide), e 4 (by decide), e 5 (by decide), e 6 (by decide), e 7 (by decide), e 8 (by decide), e 9 (by decide)]
  exact hR
theorem GB.S {S S' : gS} (hB : GB S) (e : ∀ a, a < 10 → S' a = S a) : GB S' := by
  unfold GB at hB ⊢
  rw [e 0 (by decide), e 1 (by decide), e 2 (by decide), e 3 (by decide), e 4 (by decide), e 5 (by decide)]
  exact hB
theorem GA.S {S S' : gS} (hA : GA S) (e : ∀ a, a < 10 → S' a = S a) : GA S' := by
  unfold GA at hA ⊢
  rw [e 0 (by decide), e 5 (by decide), e 7 (by decide), e 8 (by decide), e 9 (by decide)]
  exact hA
theorem RS.copy {r r' : Nat} {h h' : qH} {S : gS} (hB : GB S) (hA : GA S) (hR : RS r' h S) (e1 : ∀ k, k < 5 → h'.1 r k = h.1 r' k) (e2 : h'.1 r 7 = h.1 r' 7) (e3 : ∀ p, p < 4 → h'.1 (r + 1) p = h.1 (r' + 1) p) (e4 : ∀ i, i < 6 → h'.1 (r + 2) i = h.1 (r' + 2) i) : RS r h' S := by
  obtain ⟨r0, r1, r2, r3, r4, r7, r6, rq⟩ := hR
  have hn := hB.1
  have ha := hA.1
  unfold RS
  rw [e1 0 (by decide), e1 1 (by decide), e1 2 (by decide), e1 3 (by decide), e1 4 (by decide), e2]
  exact ⟨r0, r1, r2, r3, r4, r7, fun p hp => by rw [e3 p (by omega)]; exact r6 p hp, fun i hi => by rw [e4 i (by omega)]; exact rq i hi⟩
section QO2
variable {d : Nat} {h : qH} {K : qK} {S : gS}
theorem c_add {c : Int32} {n : Nat} (hn : n < 22) (e : h.1 1 1 = nI n) (hk : K none (qI (qI h 2 n c) 1 1 (nI (n + 1)))) : qCall (d + 1) 2 [.ref 1, .int c] h K := by
  refine call_wp (n := 60) (cut := []) _ (by decide) (Nat.lt_succ_self _) rfl rfl (Nat.le_of_ble_eq_true rfl) rfl ?_
  have hn31 : n < 2 ^ 31 := by omega
  refine And.intro (fun z => absurd z (by show ¬ h.1 1 1 < 0; rw [e]; exact nI_pos hn31)) (fun _ => ?_)
  refine And.intro (fun z => absurd z (by show ¬ nI 22 ≤ h.1 1 1; rw [e]; exact nI_ge hn (by omega))) (fun _ => ?_)
  refine And.intro (by show vp_in (h.1 1 1) 22; rw [e]; exact vp_in_nI hn (by decide)) ?_
  show K none (qI (qI h 2 (h.1 1 1).toNatClampNeg c) 1 1 ((qI h 2 (h.1 1 1).toNatClampNeg c).1 1 1 + 1))
  have e2 : (qI h 2 (h.1 1 1).toNatClampNeg c).1 1 1 = h.1 1 1 := by rw [qI_get, if_neg (by omega)]
  rw [e2, e, nI_clamp hn31, nI_1]
  exact hk
theorem x_letter {c : Int32} (hX : RX h S) (hG : RG S) (hk : ∀ h', Fr lX h h' → RX h' (uLetter S c) → K (some (.int (aLetter S c))) h') : qCall (d + 2) 45 [.ref 0, .int c] h K := by
  have e := hX.2.2.2.2.2.2.1
  have hl := hG.2.2.2.2.2.1
  unfold aLetter uLetter at hk
  refine call_wp (n := 60) (cut := []) _ (by decide) (Nat.lt_succ_self _) rfl rfl (Nat.le_of_ble_eq_true rfl) rfl ?_
  refine And.intro (fun c1 => ?_) (fun c1 => ?_)
  · have c1 : c < 32 := c1
    have hc : c < 32 ∨ 126 < c := Or.inl c1
    simp only [if_pos hc] at hk
    exact hk h Fr.rf hX
  · have c1 : ¬ c < 32 := c1
    refine And.intro (fun c2 => ?_) (fun c2 => ?_)
    · have c2 : c ≤ 126 := c2
      have hc : ¬ (c < 32 ∨ 126 < c) := fun z => z.elim c1 (Int32.not_lt.mpr c2)
      simp only [if_neg hc] at hk
      refine And.intro (fun c3 => ?_) (fun c3 => ?_)
      · have c3 : h.1 1 1 < nI 22 := c3
        rw [e, nI_ltI (by omega) (by omega)] at c3
        have hc2 : ¬ 22 ≤ S 10 0 := by omega
        simp only [if_neg hc2] at hk
        refine c_add c3 e ?_
        have hf : Fr [1, 2] h (qI (qI h 2 (S 10 0) c) 1 1 (nI (S 10 0 + 1))) := (Fr.rf.I (by decide)).I (by decide)
        have hc0 : ¬ c < 0 := fun z => c1 (Int32.lt_trans z (by decide))
        obtain ⟨j, hj, rfl⟩ := nI_of hc0
        refine hk _ (hf.mono (by decide)) ?_
        obtain ⟨x1, x2, x3, x4, x5, x6, x7, x8⟩ := hX
        have eg : gkept (sS (sS S 11 (S 10 0) (nI j).toNatClampNeg) 10 0 (S 10 0 + 1)) = sS (sS (gkept S) 11 (S 10 0) (nI j).toNatClampNeg) 10 0 (S 10 0 + 1) := by
          funext x y
          unfold gkept sS
          by_cases h4 : x = 4 ∨ x = 5 ∨ x = 6 ∨ x = 7 ∨ x = 8 ∨ x = 9
          · rcases h4 with rfl | rfl | rfl | rfl | rfl | rfl <;> rfl
          · simp only [not_or] at h4
            obtain ⟨z4, z5, z6, z7, z8, z9⟩ := h4
            simp only [if_neg z4, if_neg z5, if_neg z6, if_neg z7, if_neg z8, if_neg z9]
        have so : ∀ (T : gS) a, a < 10 → sS (sS T 11 (S 10 0) (nI j).toNatClampNeg) 10 0 (S 10 0 + 1) a = T a := fun T a ha => by rw [sS_ne (by omega), sS_ne (by omega)]
        have s13 : sS (sS S 11 (S 10 0) (nI j).toNatClampNeg) 10 0 (S 10 0 + 1) 13 = S 13 := by rw [sS_ne (by omega), sS_ne (by omega)]
        have s12 : sS (sS S 11 (S 10 0) (nI j).toNatClampNeg) 10 0 (S 10 0 + 1) 12 = S 12 := by rw [sS_ne (by omega), sS_ne (by omega)]
        have s10 : sS (sS S 11 (S 10 0) (nI j).toNatClampNeg) 10 0 (S 10 0 + 1) 10 0 = S 10 0 + 1 := sS_eq
        have s11 : sS (sS S 11 (S 10 0) (nI j).toNatClampNeg) 10 0 (S 10 0 + 1) 11 = sS S 11 (S 10 0) (nI j).toNatClampNeg 11 := sS_ne (by omega)
        refine ⟨(x1.fr hf (by decide) (by decide)).S (fun a ha => so S a (by omega)), (x2.fr hf (by decide) (by decide) (by decide)).S (so S), fun z => ?_, ?_, ?_, ?_, ?_, ?_⟩
        · rw [s13] at z
          rw [eg]
          exact ((x3 z).fr hf (by decide) (by decide) (by decide)).S (so _)
        · rw [s13, hf.1 0 (by decide)]
          exact x4
        · rw [s12, hf.1 0 (by decide)]
          exact x5
        · rw [s12, hf.1 0 (by decide)]
          exact x6
        · rw [s10]
          rfl
        · intro i hi
          rw [s10] at hi
          rw [s11]
          show (if 2 = 1 ∧ i = 1 then nI (S 10 0 + 1) else if 2 = 2 ∧ i = S 10 0 then nI j else h.1 2 i) = nI (if 11 = 11 ∧ i = S 10 0 then (nI j).toNatClampNeg else S 11 i)
          rw [if_neg (by omega)]
          by_cases ei : i = S 10 0
          · rw [if_pos ⟨rfl, ei⟩, if_pos ⟨rfl, ei⟩, nI_clamp hj]
          · rw [if_neg (fun z => ei z.2), if_neg (fun z => ei z.2)]
            exact x8 i (by omega)
      · have c3 : ¬ h.1 1 1 < nI 22 := c3
        rw [e, nI_ltI (by omega) (by omega)] at c3
        have hc2 : 22 ≤ S 10 0 := by omega
        simp only [if_pos hc2] at hk
        exact hk h Fr.rf hX
    · have c2 : ¬ c ≤ 126 := c2
      have hc : c < 32 ∨ 126 < c := Or.inr (Int32.not_le.mp c2)
      simp only [if_pos hc] at hk
      exact hk h Fr.rf hX
theorem x_blank (hX : RX h S) (hk : ∀ h', Fr lX h h' → RX h' (sS S 10 0 0) → K (some (.int (nI (S 10 0)))) h') : qCall (d + 1) 46 [.ref 0] h K := by
  refine call_wp (n := 40) (cut := []) _ (by decide) (Nat.lt_succ_self _) rfl rfl (Nat.le_of_ble_eq_true rfl) rfl ?_
  have hf : Fr [1] h (qI h 1 1 0) := Fr.rf.I (by decide)
  obtain ⟨x1, x2, x3, x4, x5, x6, x7, x8⟩ := hX
  have hk2 := hk (qI h 1 1 0) (hf.mono (by decide)) ?_
  · rw [← x7] at hk2
    exact hk2
  · have so : ∀ (T : gS) a, a ≠ 10 → sS T 10 0 0 a = T a := fun T a ha => sS_ne ha
    have eg : gkept (sS S 10 0 0) = sS (gkept S) 10 0 0 := by
      funext x y
      unfold gkept sS
      by_cases h4 : x = 4 ∨ x = 5 ∨ x = 6 ∨ x = 7 ∨ x = 8 ∨ x = 9
      · rcases h4 with rfl | rfl | rfl | rfl | rfl | rfl <;> rfl
      · simp only [not_or] at h4
        obtain ⟨z4, z5, z6, z7, z8, z9⟩ := h4
        simp only [if_neg z4, if_neg z5, if_neg z6, if_neg z7, if_neg z8, if_neg z9]
    refine ⟨(x1.fr hf (by decide) (by decide)).S (fun a ha => so S a (by omega)), (x2.fr hf (by decide) (by decide) (by decide)).S (fun a ha => so S a (by omega)), fun z => ?_, ?_, ?_, ?_, ?_, ?_⟩
    · rw [so S 13 (by decide)] at z
      rw [eg]
      exact ((x3 z).fr hf (by decide) (by decide) (by decide)).S (fun a ha => so _ a (by omega))
    · rw [so S 13 (by decide), hf.1 0 (by decide)]
      exact x4
    · rw [so S 12 (by decide), hf.1 0 (by decide)]
      exact x5
    · rw [so S 12 (by decide), hf.1 0 (by decide)]
      exact x6
    · rw [sS_eq]
      rfl
    · intro i hi
      rw [sS_eq] at hi
      omega
theorem c_addAsked {n p g : Nat} {so : Bool} (hn : n < 6) (hp : p < 4) (hg : g < 16) (e : h.1 5 7 = nI n) (hk : K none (qI (qI h 7 n (nI (16 * p + g + 64 * (if so then 1 else 0)))) 5 7 (nI (n + 1)))) : qCall (d + 1) 42 [.ref 5, .int (nI p), .int (nI g), .int (b2 so)] h K := by
  have hn31 : n < 2 ^ 31 := by omega
  have e2 : ∀ v, (qI h 7 (h.1 5 7).toNatClampNeg v).1 5 7 = h.1 5 7 := fun v => by rw [qI_get, if_neg (by omega)]
  cases so
  · refine call_wp (n := 60) (cut := []) _ (by decide) (Nat.lt_succ_self _) rfl rfl (Nat.le_of_ble_eq_true rfl) rfl ?_
    refine And.intro (fun z => absurd z (by show ¬ h.1 5 7 < 0; rw [e]; exact nI_pos hn31)) (fun _ => ?_)
    refine And.intro (fun z => absurd z (by show ¬ nI 6 ≤ h.1 5 7; rw [e]; exact nI_ge hn (by omega))) (fun _ => ?_)
    refine And.intro (fun _ => ?_) (fun c => absurd rfl c)
    refine And.intro (by show vp_in (h.1 5 7) 6; rw [e]; exact vp_in_nI hn (by decide)) ?_
    show K none (qI (qI h 7 (h.1 5 7).toNatClampNeg (nI 16 * nI p + nI g + nI 0)) 5 7 ((qI h 7 (h.1 5 7).toNatClampNeg (nI 16 * nI p + nI g + nI 0)).1 5 7 + 1))
    rw [e2, e, nI_clamp hn31, nI_1, pk_mul, nI_add, nI_add]
    exact hk
  · refine call_wp (n := 60) (cut := []) _ (by decide) (Nat.lt_succ_self _) rfl rfl (Nat.le_of_ble_eq_true rfl) rfl ?_
    refine And.intro (fun z => absurd z (by show ¬ h.1 5 7 < 0; rw [e]; exact nI_pos hn31)) (fun _ => ?_)
    refine And.intro (fun z => absurd z (by show ¬ nI 6 ≤ h.1 5 7; rw [e]; exact nI_ge hn (by omega))) (fun _ => ?_)
    refine And.intro (fun c => absurd c (by decide)) (fun _ => ?_)
    refine And.intro (by show vp_in (h.1 5 7) 6; rw [e]; exact vp_in_nI hn (by decide)) ?_
    show K none (qI (qI h 7 (h.1 5 7).toNatClampNeg (nI 16 * nI p + nI g + nI 64)) 5 7 ((qI h 7 (h.1 5 7).toNatClampNeg (nI 16 * nI p + nI g + nI 64)).1 5 7 + 1))
    rw [e2, e, nI_clamp hn31, nI_1, pk_mul, nI_add, nI_add]
    exact hk
theorem gask_o {S : gS} {n g b a : Nat} (h : a < 4 ∨ 10 ≤ a) : gask S n g b a = S a := by
  unfold gask
  rw [sS_ne (by omega), sS_ne (by omega), sS_ne (by omega), sS_ne (by omega)]
theorem x_ask {p s : Int32} {so : Bool} (hX : RX h S) (hG : RG S) (hk : ∀ h', Fr lX h h' → RX h' (uAsk S p s so) → K (some (.int (aAsk S p s))) h') : qCall (d + 2) 56 [.ref 0, .int p, .int s, .int (b2 so)] h K := by
  have hB := hG.1
  have hn0 := hB.1
  have ha0 := hG.2.1.1
  have e := hX.2.1.2.2.2.2.2.1
  unfold aAsk uAsk at hk
  refine call_wp (n := 60) (cut := []) _ (by decide) (Nat.lt_succ_self _) rfl rfl (Nat.le_of_ble_eq_true rfl) rfl ?_
  refine c_isPerson hX.1 hB (fun n hn ep => ?_) (fun hp => ?_)
  · subst ep
    rw [ip_some hB hn] at hk
    dsimp only at hk
    refine And.intro (fun c => absurd c (by decide)) (fun _ => ?_)
    refine And.intro (fun c1 => ?_) (fun c1 => ?_)
    · rw [show ix s 16 = none from ix_none (by decide) (fun j hj z => nI_pos (by omega) (z ▸ c1))] at hk
      exact hk h Fr.rf hX
    · obtain ⟨q, hq, rfl⟩ := nI_of c1
      refine And.intro (fun c2 => ?_) (fun c2 => ?_)
      · have c2 : nI q ≤ nI 15 := c2
        rw [nI_leI (by omega) (by omega)] at c2
        rw [ix_some (n := q) (by omega) (by decide)] at hk
        dsimp only at hk
        refine And.intro (fun c3 => ?_) (fun c3 => ?_)
        · have c3 : h.1 5 7 < nI 6 := c3
          rw [e, nI_ltI (by omega) (by omega)] at c3
          have hc2 : ¬ 6 ≤ S 5 4 := by omega
          simp only [if_neg hc2] at hk
          refine c_addAsked c3 (by omega) (by omega) e ?_
          have hf : Fr [5, 6, 7] h (qI (qI h 7 (S 5 4) (nI (16 * n + q + 64 * (if so then 1 else 0)))) 5 7 (nI (S 5 4 + 1))) := (Fr.rf.I (by decide)).I (by decide)
          refine hk _ (hf.mono (by decide)) (hX.scene hf ?_ (fun a ha => gask_o ha))
          obtain ⟨r0, r1, r2, r3, r4, r7, r6, rq⟩ := hX.2.1
          have hb2 : (if so then 1 else 0 : Nat) < 2 := by split <;> decide
          generalize (if so then 1 else 0 : Nat) = b at hb2 ⊢
          have g0 : gask S n q b 0 = S 0 := gask_o (Or.inl (by decide))
          have g4 : gask S n q b 4 = S 4 := by unfold gask; rw [sS_ne (by omega), sS_ne (by omega), sS_ne (by omega), sS_ne (by omega)]
          have g6 : gask S n q b 6 = S 6 := by unfold gask; rw [sS_ne (by omega), sS_ne (by omega), sS_ne (by omega), sS_ne (by omega)]
          have g5 : ∀ y, y ≠ 4 → gask S n q b 5 y = S 5 y := fun y hy => by unfold gask; rw [sS_nb hy, sS_ne (by omega), sS_ne (by omega), sS_ne (by omega)]
          have g54 : gask S n q b 5 4 = S 5 4 + 1 := sS_eq
          have g7 : ∀ i, gask S n q b 7 i = if i = S 5 4 then n else S 7 i := fun i => by
            unfold gask
            rw [sS_ne (by omega), sS_ne (by omega), sS_ne (by omega)]
            by_cases z : i = S 5 4
            · rw [if_pos z, z, sS_eq]
            · rw [if_neg z, sS_nb z]
          have g8 : ∀ i, gask S n q b 8 i = if i = S 5 4 then q else S 8 i := fun i => by
            unfold gask
            rw [sS_ne (by omega), sS_ne (by omega)]
            by_cases z : i = S 5 4
            · rw [if_pos z, z, sS_eq]
            · rw [if_neg z, sS_nb z, sS_ne (by omega)]
          have g9 : ∀ i, gask S n q b 9 i = if i = S 5 4 then b else S 9 i := fun i => by
            unfold gask
            rw [sS_ne (by omega)]
            by_cases z : i = S 5 4
            · rw [if_pos z, z, sS_eq]
            · rw [if_neg z, sS_nb z, sS_ne (by omega), sS_ne (by omega)]
          unfold RS
          rw [g0, g4, g6, g5 0 (by decide), g5 1 (by decide), g5 2 (by decide), g5 3 (by decide), g54]
          refine ⟨r0, r1, r2, r3, r4, rfl, r6, fun i hi => ?_⟩
          rw [g7, g8, g9]
          show (if 5 + 2 = 5 ∧ i = 7 then nI (S 5 4 + 1) else if 5 + 2 = 7 ∧ i = S 5 4 then nI (16 * n + q + 64 * b) else h.1 (5 + 2) i) = _
          rw [if_neg (by omega)]
          by_cases z : i = S 5 4
          · rw [if_pos ⟨rfl, z⟩, if_pos z, if_pos z, if_pos z]
          · rw [if_neg (fun w => z w.2), if_neg z, if_neg z, if_neg z]
            exact rq i (by omega)
        · have c3 : ¬ h.1 5 7 < nI 6 := c3
          rw [e, nI_ltI (by omega) (by omega)] at c3
          have hc2 : 6 ≤ S 5 4 := by omega
          simp only [if_pos hc2] at hk
          exact hk h Fr.rf hX
      · have c2 : ¬ nI q ≤ nI 15 := c2
        rw [nI_leI (by omega) (by omega)] at c2
        rw [show ix (nI q) 16 = none from ix_none (by decide) (fun j hj z => by rw [nI_eq (by omega) (by omega)] at z; omega)] at hk
        exact hk h Fr.rf hX
  · rw [ip_none hB hp] at hk
    refine And.intro (fun _ => ?_) (fun c => absurd rfl c)
    exact hk h Fr.rf hX
theorem x_forget (hX : RX h S) (hk : ∀ h', Fr lX h h' → RX h' (sS S 5 4 0) → K (some (.int (nI (S 5 4)))) h') : qCall (d + 1) 57 [.ref 0] h K := by
  refine call_wp (n := 40) (cut := []) _ (by decide) (Nat.lt_succ_self _) rfl rfl (Nat.le_of_ble_eq_true rfl) rfl ?_
  have hf : Fr [5, 6, 7] h (qI h 5 7 0) := Fr.rf.I (by decide)
  have hk2 := hk (qI h 5 7 0) (hf.mono (by decide)) (hX.scene hf ?_ (fun a ha => sS_ne (by omega)))
  · rw [← hX.2.1.2.2.2.2.2.1] at hk2
    exact hk2
  · obtain ⟨r0, r1, r2, r3, r4, r7, r6, rq⟩ := hX.2.1
    unfold RS
    rw [show sS S 5 4 0 0 = S 0 from sS_ne (by decide), show sS S 5 4 0 4 = S 4 from sS_ne (by decide), show sS S 5 4 0 6 = S 6 from sS_ne (by decide), show sS S 5 4 0 5 0 = S 5 0 from sS_nb (by decide), show sS S 5 4 0 5 1 = S 5 1 from sS_nb (by decide), show sS S 5 4 0 5 2 = S 5 2 from sS_nb (by decide), show sS S 5 4 0 5 3 = S 5 3 from sS_nb (by decide), sS_eq]
    exact ⟨r0, r1, r2, r3, r4, rfl, r6, fun i hi => by omega⟩
theorem ix10 {w : Int32} (c0 : ¬ w = Int32.ofInt 0) (c1 : ¬ w = Int32.ofInt 1) (c2 : ¬ w = Int32.ofInt 2) (c3 : ¬ w = Int32.ofInt 3) (c4 : ¬ w = Int32.ofInt 4) (c5 : ¬ w = Int32.ofInt 5) (c6 : ¬ w = Int32.ofInt 6) (c7 : ¬ w = Int32.ofInt 7) (c8 : ¬ w = Int32.ofInt 8) (c9 : ¬ w = Int32.ofInt 9) : ix w 10 = none := by
  refine ix_none (by decide) (fun n hn z => ?_)
  match n, hn with
  | 0, _ => exact c0 z
  | 1, _ => exact c1 z
  | 2, _ => exact c2 z
  | 3, _ => exact c3 z
  | 4, _ => exact c4 z
  | 5, _ => exact c5 z
  | 6, _ => exact c6 z
  | 7, _ => exact c7 z
  | 8, _ => exact c8 z
  | 9, _ => exact c9 z
theorem x_count {w : Int32} (hX : RX h S) (hG : RG S) (hk : K (some (.int (aCount S w))) h) : qCall (d + 5) 63 [.ref 0, .int w] h K := by
  have hB := hG.1
  have hn0 := hB.1
  unfold aCount at hk
  refine call_wp (n := 60) (cut := []) _ (by decide) (Nat.lt_succ_self _) rfl rfl (Nat.le_of_ble_eq_true rfl) rfl ?_
  refine And.intro (fun c0 => ?_) (fun c0 => ?_)
  · rw [c0, show ix (Int32.ofInt 0) 10 = some 0 by decide +kernel] at hk
    exact kI hk hX.1.1.symm
  · have _u := 0
    refine And.intro (fun c1 => ?_) (fun c1 => ?_)
    · rw [c1, show ix (Int32.ofInt 1) 10 = some 1 by decide +kernel] at hk
      exact c_howManyInfer (Or.inl rfl) hX.1 hX.2.1 hB hk
    · have _u := 0
      refine And.intro (fun c2 => ?_) (fun c2 => ?_)
      · rw [c2, show ix (Int32.ofInt 2) 10 = some 2 by decide +kernel] at hk
        show qCall _ 135 [.int (h.1 5 1)] h _
        rw [hX.2.1.2.1]
        exact c_bitCount (by have := hB.2.2.2.1; omega) hk
      · have _u := 0
        refine And.intro (fun c3 => ?_) (fun c3 => ?_)
        · rw [c3, show ix (Int32.ofInt 3) 10 = some 3 by decide +kernel] at hk
          show qCall _ 135 [.int (h.1 5 2)] h _
          rw [hX.2.1.2.2.1]
          exact c_bitCount (by have := hB.2.2.2.2.1; omega) hk
        · have _u := 0
          refine And.intro (fun c4 => ?_) (fun c4 => ?_)
          · rw [c4, show ix (Int32.ofInt 4) 10 = some 4 by decide +kernel] at hk
            show qCall _ 135 [.int (h.1 5 3)] h _
            rw [hX.2.1.2.2.2.1]
            exact c_bitCount (by have := hB.2.2.2.2.2; omega) hk
          · have _u := 0
            refine And.intro (fun c5 => ?_) (fun c5 => ?_)
            · rw [c5, show ix (Int32.ofInt 5) 10 = some 5 by decide +kernel] at hk
              exact kI hk hX.2.1.2.2.2.2.1.symm
            · have _u := 0
              refine And.intro (fun c6 => ?_) (fun c6 => ?_)
              · rw [c6, show ix (Int32.ofInt 6) 10 = some 6 by decide +kernel] at hk
                exact kI hk hX.2.1.2.2.2.2.2.1.symm
              · have _u := 0
                refine And.intro (fun c7 => ?_) (fun c7 => ?_)
                · rw [c7, show ix (Int32.ofInt 7) 10 = some 7 by decide +kernel] at hk
                  exact kI hk hX.2.2.2.2.2.2.1.symm
                · have _u := 0
                  refine And.intro (fun c8 => ?_) (fun c8 => ?_)
                  · rw [c8, show ix (Int32.ofInt 8) 10 = some 8 by decide +kernel] at hk
                    exact kI hk hX.2.2.2.2.1.symm
                  · have _u := 0
                    refine And.intro (fun c9 => ?_) (fun c9 => ?_)
                    · rw [c9, show ix (Int32.ofInt 9) 10 = some 9 by decide +kernel] at hk
                      exact kI hk hX.2.2.2.2.2.1.symm
                    · rw [ix10 c0 c1 c2 c3 c4 c5 c6 c7 c8 c9] at hk
                      exact hk
end QO2
