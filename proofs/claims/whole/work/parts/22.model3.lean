/-! ## the reference: what is asked, amounts one by one -/
theorem qI_qI (h : qH) (r k : Nat) (a b : Int32) : qI (qI h r k a) r k b = qI h r k b := by
  unfold qI
  refine Prod.ext ?_ rfl
  funext x y
  show (if x = r ∧ y = k then b else if x = r ∧ y = k then a else h.1 x y) = if x = r ∧ y = k then b else h.1 x y
  by_cases e : x = r ∧ y = k
  · rw [if_pos e, if_pos e]
  · rw [if_neg e, if_neg e, if_neg e]
theorem qI_self (h : qH) (r k : Nat) : qI h r k (h.1 r k) = h := by
  unfold qI
  refine Prod.ext ?_ rfl
  funext x y
  show (if x = r ∧ y = k then h.1 r k else h.1 x y) = h.1 x y
  by_cases e : x = r ∧ y = k
  · rw [if_pos e, e.1, e.2]
  · rw [if_neg e]
def gallN (S : gS) : Nat → Bool
  | 0 => true
  | n + 1 => gallN S n && (ginf S (S 7 n) (S 8 n) == (S 9 n == 1))
def gallB (S : gS) (s : Nat) : Nat → Nat
  | 0 => 0
  | v + 1 => gallB S s v ||| (if gallN (sS S 3 s (v + 1)) (S 5 4) then 1 <<< v else 0)
theorem bits_or : ∀ v, v < 9 → ∀ x, x < 2 ^ v → nI x ||| ((1 : Int32) <<< (nI v &&& 31)) = nI (x ||| 1 <<< v) := by decide +kernel
theorem bits_or0 : ∀ x, x < 512 → nI x ||| nI 0 = nI x := by decide +kernel
theorem gallB_lt (S : gS) (s : Nat) : ∀ v, gallB S s v < 2 ^ v
  | 0 => by unfold gallB; decide
  | v + 1 => by
    have := gallB_lt S s v
    unfold gallB
    refine Nat.or_lt_two_pow (Nat.lt_of_lt_of_le this (Nat.pow_le_pow_right (by decide) (by omega))) ?_
    split
    · rw [Nat.one_shiftLeft]
      exact Nat.pow_lt_pow_right (by decide) (by omega)
    · exact Nat.two_pow_pos _
theorem gamtF_bit (E T : Nat) (b : Bool) : ∀ n v, (gamtF E T b n).testBit v = (decide (v < n) && decide (E ≤ T + (if b then v + 1 else 0)))
  | 0, v => by simp [gamtF]
  | n + 1, v => by
    have ih := gamtF_bit E T b n v
    have hlt := gamtF_lt E T b n
    unfold gamtF
    by_cases hc : E ≤ T + (if b then n + 1 else 0)
    · have e2 : gamtF E T b n + 2 ^ n = 2 ^ n ||| gamtF E T b n := by
        have := Nat.two_pow_add_eq_or_of_lt hlt 1
        rw [Nat.mul_one] at this
        rw [Nat.add_comm]
        exact this
      rw [if_pos hc, e2, Nat.testBit_or, ih, Nat.testBit_two_pow]
      by_cases hv : n = v
      · subst hv
        simp [hc]
      · have : (v < n + 1) = (v < n) := by apply propext; omega
        simp [hv, this]
    · rw [if_neg hc, Nat.add_zero, ih]
      by_cases hv : v = n
      · subst hv
        simp [hc]
      · have : (v < n + 1) = (v < n) := by apply propext; omega
        simp [this]
theorem gclr_bit : ∀ x, x < 16 → ∀ s, s < 4 → ∀ k, k < 4 → (gclr x s).testBit k = (k != s && x.testBit k) := by decide +kernel
theorem gtog_set {S : gS} {s v sg : Nat} (hs : s < 4) (hsg : sg < 16) : gtog (sS S 3 s v) sg = gtog S (gclr sg s) + (if sg.testBit s then v else 0) := by
  unfold gtog
  rw [gclr_bit sg hsg s hs 0 (by decide), gclr_bit sg hsg s hs 1 (by decide), gclr_bit sg hsg s hs 2 (by decide), gclr_bit sg hsg s hs 3 (by decide)]
  rcases (show s = 0 ∨ s = 1 ∨ s = 2 ∨ s = 3 by omega) with rfl | rfl | rfl | rfl
  all_goals
    simp only [sS]
    cases sg.testBit 0 <;> cases sg.testBit 1 <;> cases sg.testBit 2 <;> cases sg.testBit 3 <;> simp <;> omega
theorem ginf_set {S : gS} {s v p sg : Nat} (hs : s < 4) (hsg : sg < 16) : ginf (sS S 3 s v) p sg = decide (gen (S 1 p) (S 2 p) ≤ gtog S (gclr sg s) + (if sg.testBit s then v else 0)) := by
  unfold ginf
  rw [gtog_set hs hsg, sS_ne (by decide), sS_ne (by decide)]
theorem gamt_bit {S : gS} {s v p sg : Nat} (hs : s < 4) (hsg : sg < 16) (hv : v < 9) : (gamt S p sg s).testBit v = ginf (sS S 3 s (v + 1)) p sg := by
  unfold gamt
  rw [gamtF_bit, ginf_set hs hsg, decide_eq_true hv, Bool.true_and]
theorem gposN_bit {S : gS} {s v : Nat} (hA : GA S) (hs : s < 4) (hv : v < 9) : ∀ n, n ≤ S 5 4 → (gposN S s n).testBit v = gallN (sS S 3 s (v + 1)) n
  | 0, _ => (by decide : ∀ v, v < 9 → (511 : Nat).testBit v = true) v hv
  | n + 1, hn => by
    obtain ⟨a1, a2, a3⟩ := hA.2 n (by omega)
    have ih := gposN_bit hA hs hv n (by omega)
    have h511 : (511 : Nat).testBit v = true := (by decide : ∀ v, v < 9 → (511 : Nat).testBit v = true) v hv
    unfold gposN gallN
    rw [Nat.testBit_and, ih, show sS S 3 s (v + 1) 7 = S 7 from sS_ne (by decide), show sS S 3 s (v + 1) 8 = S 8 from sS_ne (by decide), show sS S 3 s (v + 1) 9 = S 9 from sS_ne (by decide)]
    congr 1
    by_cases h9 : S 9 n = 0
    · rw [if_pos h9, Nat.testBit_xor, h511, gamt_bit hs a2 hv, h9]
      cases ginf (sS S 3 s (v + 1)) (S 7 n) (S 8 n) <;> rfl
    · have h9 : S 9 n = 1 := by omega
      rw [if_neg (by omega), gamt_bit hs a2 hv, h9]
      cases ginf (sS S 3 s (v + 1)) (S 7 n) (S 8 n) <;> rfl
theorem gallB_bit {S : gS} {s : Nat} : ∀ n v, (gallB S s n).testBit v = (decide (v < n) && gallN (sS S 3 s (v + 1)) (S 5 4))
  | 0, v => by simp [gallB]
  | n + 1, v => by
    have ih := gallB_bit (S := S) (s := s) n v
    unfold gallB
    rw [Nat.testBit_or, ih]
    by_cases hv : v = n
    · subst hv
      cases hb : gallN (sS S 3 s (v + 1)) (S 5 4)
      · simp
      · rw [if_pos rfl, Nat.one_shiftLeft, Nat.testBit_two_pow]
        simp
    · have e : decide (v < n + 1) = decide (v < n) := decide_eq_decide.mpr (by omega)
      rw [e]
      split
      · rw [Nat.one_shiftLeft, Nat.testBit_two_pow]
        have : ¬ n = v := fun z => hv z.symm
        simp [this]
      · simp
theorem gallB_pos {S : gS} {s : Nat} (hA : GA S) (hs : s < 4) : gallB S s 9 = gposN S s (S 5 4) := by
  apply Nat.eq_of_testBit_eq
  intro v
  rw [gallB_bit]
  by_cases hv : v < 9
  · rw [decide_eq_true hv, Bool.true_and, gposN_bit hA hs hv _ (Nat.le_refl _)]
  · rw [decide_eq_false hv, Bool.false_and]
    exact (Nat.testBit_lt_two_pow (Nat.lt_of_lt_of_le (gposN_lt S s _) (Nat.pow_le_pow_right (by decide : 2 > 0) (by omega : 9 ≤ v)))).symm
theorem gpop_split (P I : Nat) : ∀ n, n ≤ 9 → gpopN (P &&& I) n + gpopN (P &&& (511 ^^^ I)) n = gpopN P n
  | 0, _ => rfl
  | n + 1, hn => by
    have ih := gpop_split P I n (by omega)
    have h511 : (511 : Nat).testBit n = true := (by decide : ∀ v, v < 9 → (511 : Nat).testBit v = true) n (by omega)
    unfold gpopN
    rw [Nat.testBit_and, Nat.testBit_and, Nat.testBit_xor, h511]
    cases P.testBit n <;> cases I.testBit n <;> simp <;> omega
/-- the reference's court with another amount of one sign -/
theorem RMc.amt {h : qH} {S : gS} (hM : RMc h S) {s v : Nat} (hs : s < 4) : RMc (qI h 20 s (nI v)) (sS S 3 s v) := by
  unfold RMc at hM ⊢
  have e : ∀ a, a ≠ 20 → (qI h 20 s (nI v)).1 a = h.1 a := fun a ha => qI_ne ha
  rw [e 15 (by decide), e 16 (by decide), e 17 (by decide), e 18 (by decide), e 19 (by decide), e 21 (by decide), e 22 (by decide), e 23 (by decide), show sS S 3 s v 0 = S 0 from sS_ne (by decide), show sS S 3 s v 1 = S 1 from sS_ne (by decide), show sS S 3 s v 2 = S 2 from sS_ne (by decide), show sS S 3 s v 4 = S 4 from sS_ne (by decide), show sS S 3 s v 5 = S 5 from sS_ne (by decide), show sS S 3 s v 6 = S 6 from sS_ne (by decide), show sS S 3 s v 7 = S 7 from sS_ne (by decide), show sS S 3 s v 8 = S 8 from sS_ne (by decide), show sS S 3 s v 9 = S 9 from sS_ne (by decide)]
  refine ⟨hM.1, hM.2.1, fun k hk => ?_, hM.2.2.2⟩
  rw [qI_get]
  by_cases z : k = s
  · rw [if_pos ⟨rfl, z⟩, z, sS_eq]
  · rw [if_neg (fun w => z w.2), sS_nb z]
    exact hM.2.2.1 k hk
theorem GB.amt {S : gS} (hB : GB S) {s v : Nat} (hv : v < 10) : GB (sS S 3 s v) := by
  unfold GB at hB ⊢
  rw [show sS S 3 s v 0 = S 0 from sS_ne (by decide), show sS S 3 s v 1 = S 1 from sS_ne (by decide), show sS S 3 s v 2 = S 2 from sS_ne (by decide), show sS S 3 s v 4 = S 4 from sS_ne (by decide), show sS S 3 s v 5 = S 5 from sS_ne (by decide)]
  refine ⟨hB.1, hB.2.1, fun k hk => ?_, hB.2.2.2⟩
  by_cases z : k = s
  · rw [z, sS_eq]
    exact hv
  · rw [sS_nb z]
    exact hB.2.2.1 k hk
theorem GA.amt {S : gS} (hA : GA S) {s v : Nat} : GA (sS S 3 s v) := by
  unfold GA at hA ⊢
  rw [show sS S 3 s v 0 = S 0 from sS_ne (by decide), show sS S 3 s v 5 = S 5 from sS_ne (by decide), show sS S 3 s v 7 = S 7 from sS_ne (by decide), show sS S 3 s v 8 = S 8 from sS_ne (by decide), show sS S 3 s v 9 = S 9 from sS_ne (by decide)]
  exact hA
section QM3
variable {d : Nat} {h : qH} {K : qK} {S : gS}
theorem l_isAsked (hM : RMc h S) (hB : GB S) (hA : GA S) (k1 : gallN S (S 5 4) = true → K (some (.int 1)) h) (k0 : gallN S (S 5 4) = false → K (some (.int 0)) h) : ∀ m n, n + m = S 5 4 → qAt (d + 2, 111, some .boolean, q0, K) 4 [some (.ref 15), some (.int (b2 (gallN S n))), some (.int (nI n))] [] h := by
  have hn0 := hB.1
  have ha0 := hA.1
  have e := hM.2.2.2.2.2.2.2.1
  intro m
  induction m with
  | zero =>
    intro n hn
    have hn : n = S 5 4 := by omega
    refine at_wp [] 12 (Nat.le_of_ble_eq_true rfl) rfl ?_
    refine And.intro (fun _ => ?_) (fun c => absurd (by show h.1 15 11 ≤ nI n; rw [e, hn]; exact nI_le (Nat.le_refl _) (by omega)) c)
    rw [← hn] at k1 k0
    cases hb : gallN S n
    · exact ⟨Or.inl rfl, k0 hb⟩
    · exact ⟨Or.inr rfl, k1 hb⟩
  | succ m ih =>
    intro n hn
    obtain ⟨a1, a2, a3⟩ := hA.2 n (by omega)
    obtain ⟨q1, q2, q3⟩ := hM.2.2.2.2.2.2.2.2 n (by omega)
    have ec : (nI n).toNatClampNeg = n := nI_clamp (by omega)
    have ihn := ih (n + 1) (by omega)
    rw [gallN, ← nI_1] at ihn
    have e1 : ∀ x, x < 2 → (nI x = (1 : Int32) ↔ x = 1) := by decide +kernel
    refine at_wp [4] 80 (Nat.le_of_ble_eq_true rfl) rfl ?_
    refine And.intro (fun c => absurd c (by show ¬ h.1 15 11 ≤ nI n; rw [e]; exact nI_ge (by omega) (by omega))) (fun _ => ?_)
    cases hb : gallN S n
    · rw [hb, Bool.false_and] at ihn
      refine And.intro (fun _ => ?_) (fun c => absurd rfl c)
      exact ihn
    · rw [hb, Bool.true_and] at ihn
      refine And.intro (fun c => absurd c (by decide)) (fun _ => ?_)
      refine And.intro (vp_in_nI (by omega) (by decide)) ?_
      refine And.intro (vp_in_nI (by omega) (by decide)) ?_
      show qCall _ 88 [.ref 15, .int (h.1 22 (nI n).toNatClampNeg)] h _
      rw [ec, q2]
      refine m_tellAll hM.2.2.1 a2 ?_
      show qCall _ 89 [.ref 15, .int (h.1 21 n), .int (nI (gtog S (S 8 n)))] h _
      rw [q1]
      refine m_enough hM hB a1 (fun b1 => ?_) (fun b1 => ?_)
      · rw [b1] at ihn
        refine And.intro (vp_in_nI (by omega) (by decide)) ?_
        refine And.intro (fun c1 => ?_) (fun c1 => ?_)
        · have c1 : h.1 23 (nI n).toNatClampNeg = 1 := c1
          rw [ec, q3, e1 _ a3] at c1
          rw [c1] at ihn
          refine And.intro (fun _ => ?_) (fun c => absurd rfl c)
          exact ihn
        · have c1 : ¬ h.1 23 (nI n).toNatClampNeg = 1 := c1
          rw [ec, q3, e1 _ a3] at c1
          have c1 : S 9 n = 0 := by omega
          rw [c1] at ihn
          refine And.intro (fun c => absurd c (by decide)) (fun _ => ?_)
          exact ihn
      · rw [b1] at ihn
        refine And.intro (vp_in_nI (by omega) (by decide)) ?_
        refine And.intro (fun c1 => ?_) (fun c1 => ?_)
        · have c1 : h.1 23 (nI n).toNatClampNeg = 1 := c1
          rw [ec, q3, e1 _ a3] at c1
          rw [c1] at ihn
          refine And.intro (fun c => absurd c (by decide)) (fun _ => ?_)
          exact ihn
        · have c1 : ¬ h.1 23 (nI n).toNatClampNeg = 1 := c1
          rw [ec, q3, e1 _ a3] at c1
          have c1 : S 9 n = 0 := by omega
          rw [c1] at ihn
          refine And.intro (fun _ => ?_) (fun c => absurd rfl c)
          exact ihn
theorem m_isAsked (hM : RMc h S) (hB : GB S) (hA : GA S) (k1 : gallN S (S 5 4) = true → K (some (.int 1)) h) (k0 : gallN S (S 5 4) = false → K (some (.int 0)) h) : qCall (d + 3) 111 [.ref 15] h K := by
  refine call_wp (n := 4) (cut := []) _ (by decide) (Nat.lt_succ_self _) rfl rfl (Nat.le_of_ble_eq_true rfl) rfl ?_
  exact l_isAsked hM hB hA k1 k0 (S 5 4) 0 (by omega)
theorem l_tellsNow {s : Nat} (hM : RMc h S) (hB : GB S) (hA : GA S) (hs : s < 4) (hk : K (some (.int (nI (gposN S s (S 5 4))))) h) : ∀ m v, v + m = 9 → ∀ w, qAt (d + 3, 112, some .int, q0, K) 9 [some (.ref 15), some (.int (nI s)), some (.int (h.1 20 s)), some (.int (nI (gallB S s v))), some (.int (nI (v + 1)))] [] (qI h 20 s w) := by
  have ec : (nI s).toNatClampNeg = s := nI_clamp (by omega)
  intro m
  induction m with
  | zero =>
    intro v hv w
    have hv : v = 9 := by omega
    subst hv
    refine at_wp [] 20 (Nat.le_of_ble_eq_true rfl) rfl ?_
    refine And.intro (fun _ => ?_) (fun c => absurd (by decide) c)
    refine And.intro (vp_in_nI (by omega) (by decide)) ?_
    show K (some (.int (nI (gallB S s 9)))) (qI (qI h 20 s w) 20 (nI s).toNatClampNeg (h.1 20 s))
    rw [ec, qI_qI, qI_self, gallB_pos hA hs]
    exact hk
  | succ m ih =>
    intro v hv w
    have hlt := gallB_lt S s v
    have hl2 : gallB S s v < 512 := Nat.lt_of_lt_of_le hlt (Nat.pow_le_pow_right (by decide : 2 > 0) (by omega : v ≤ 9))
    have ihn := ih (v + 1) (by omega) (nI (v + 1))
    rw [gallB, ← nI_1 (v + 1)] at ihn
    have hM' := hM.amt (s := s) (v := v + 1) hs
    have hB' := hB.amt (s := s) (v := v + 1) (by omega)
    have hA' := hA.amt (s := s) (v := v + 1)
    have e54 : sS S 3 s (v + 1) 5 4 = S 5 4 := by rw [sS_ne (by decide)]
    refine at_wp [9] 60 (Nat.le_of_ble_eq_true rfl) rfl ?_
    refine And.intro (fun c => absurd c (nI_nlt (a := 9) (b := v + 1) (by omega) (by decide))) (fun _ => ?_)
    refine And.intro (vp_in_nI (by omega) (by decide)) ?_
    show qCall _ 111 [.ref 15] (qI (qI h 20 s w) 20 (nI s).toNatClampNeg (nI (v + 1))) _
    rw [ec, qI_qI]
    refine m_isAsked hM' hB' hA' (fun b1 => ?_) (fun b1 => ?_)
    · rw [e54] at b1
      rw [if_pos b1] at ihn
      refine And.intro (fun c => absurd c (by decide)) (fun _ => ?_)
      show qAt _ 9 [some (.ref 15), some (.int (nI s)), some (.int (h.1 20 s)), some (.int (nI (gallB S s v) ||| (1 <<< (nI (v + 1) - 1 &&& 31)))), some (.int (nI (v + 1) + 1))] [] _
      rw [nI_pred, bits_or v (by omega) _ hlt]
      exact ihn
    · rw [e54] at b1
      rw [if_neg (by rw [b1]; decide), Nat.or_zero] at ihn
      refine And.intro (fun _ => ?_) (fun c => absurd rfl c)
      show qAt _ 9 [some (.ref 15), some (.int (nI s)), some (.int (h.1 20 s)), some (.int (nI (gallB S s v) ||| nI 0)), some (.int (nI (v + 1) + 1))] [] _
      rw [bits_or0 _ hl2]
      exact ihn
theorem m_tellsNow {s : Nat} (hM : RMc h S) (hB : GB S) (hA : GA S) (hs : s < 4) (hk : K (some (.int (nI (gposN S s (S 5 4))))) h) : qCall (d + 4) 112 [.ref 15, .int (nI s)] h K := by
  have ec : (nI s).toNatClampNeg = s := nI_clamp (by omega)
  refine call_wp (n := 9) (cut := []) _ (by decide) (Nat.lt_succ_self _) rfl rfl (Nat.le_of_ble_eq_true rfl) rfl ?_
  refine And.intro (vp_in_nI (by omega) (by decide)) ?_
  have := l_tellsNow (d := d) hM hB hA hs hk 9 0 rfl (h.1 20 s)
  rw [qI_self] at this
  show qAt _ 9 [some (.ref 15), some (.int (nI s)), some (.int (h.1 20 (nI s).toNatClampNeg)), some (.int (nI 0)), some (.int (nI 1))] [] h
  rw [ec]
  exact this
theorem m_tells {k : Int32} (hM : RM h S) (hG : RG S) (hk : K (some (.int (aTells S k))) h) : qCall (d + 5) 113 [.ref 15, .int k] h K := by
  have hB := hG.1
  unfold aTells at hk
  refine call_wp (n := 40) (cut := []) _ (by decide) (Nat.lt_succ_self _) rfl rfl (Nat.le_of_ble_eq_true rfl) rfl ?_
  refine m_isSign hM.1 hB (fun n hn h0 ep => ?_) (fun hp => ?_)
  · subst ep
    rw [isg_some h0 hn] at hk
    refine And.intro (fun c => absurd c (by decide)) (fun _ => ?_)
    exact m_tellsNow hM.1 hB hG.2.1 hn hk
  · rw [isg_none hp] at hk
    refine And.intro (fun _ => ?_) (fun c => absurd rfl c)
    exact hk
end QM3
