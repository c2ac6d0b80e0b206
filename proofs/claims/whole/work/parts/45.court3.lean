/-! ## the class opens a scene; its court -/
def op0 (g : qH) : Prop := g.1 5 1 = 0 ∧ g.1 5 2 = 0 ∧ g.1 5 3 = 0 ∧ g.1 5 4 = 0 ∧ g.1 5 7 = 0
def opI (h g : qH) (F : Nat → Nat) (n p : Nat) : Prop := Fr [5, 6] h g ∧ op0 g ∧ (∀ q, q < n → g.1 6 q = 0) ∧ ∀ q, q < p → fget (g.1 5 0) (nI q) = nI (fkn (F q))
section QOC
variable {d : Nat} {h : qH} {K : qK} {S : gS}
theorem c_firstKnown {q f : Nat} (hf : f < 5) (e : fget (h.1 3 3) (nI q) = nI f) (hk : K (some (.int (nI (fkn f)))) h) : qCall (d + 2) 21 [.ref 3, .int (nI q)] h K := by
  refine call_wp (n := 20) (cut := []) _ (by decide) (Nat.lt_succ_self _) rfl rfl (Nat.le_of_ble_eq_true rfl) rfl ?_
  refine c_get ?_
  refine kI hk ?_
  show _ = Int32.ofInt 1 <<< (fget (h.1 3 3) (nI q) &&& 31) &&& Int32.ofInt 15
  rw [e, fk_ok f hf]
theorem l_opB {P : Nat} {F : Nat → Nat} (hP : P ≤ 4) (h0 : h.1 3 0 = nI P) (hF : ∀ q, q < P → F q < 5 ∧ fget (h.1 3 3) (nI q) = nI (F q)) (hk : ∀ g, opI h g F 4 P → K none g) : ∀ m p, p + m = P → ∀ g, opI h g F 4 p → qAt (d + 2, 26, none, q0, K) 34 [some (.ref 5), some (.ref 3), some (.int (nI p))] [] g := by
  intro m
  induction m with
  | zero =>
    intro p hp g f
    have hp : p = P := by omega
    subst hp
    have e0 : g.1 3 0 = nI p := by rw [f.1.1 3 (by decide)]; exact h0
    refine at_wp [] 12 (Nat.le_of_ble_eq_true rfl) rfl ?_
    refine And.intro (fun _ => ?_) (fun c => absurd (by show g.1 3 0 ≤ nI p; rw [e0]; exact nI_le (Nat.le_refl _) (by omega)) c)
    exact hk g f
  | succ m ih =>
    intro p hp g f
    have e3 : g.1 3 = h.1 3 := f.1.1 3 (by decide)
    have e0 : g.1 3 0 = nI P := by rw [e3]; exact h0
    obtain ⟨f1, f2, f3, f4⟩ := f
    have hf := hF p (by omega)
    refine at_wp [34] 40 (Nat.le_of_ble_eq_true rfl) rfl ?_
    refine And.intro (fun c => absurd c (by show ¬ g.1 3 0 ≤ nI p; rw [e0]; exact nI_ge (by omega) (by omega))) (fun _ => ?_)
    refine c_firstKnown hf.1 (by rw [e3]; exact hf.2) ?_
    refine c_put ?_
    have := ih (p + 1) (by omega) (qI g 5 0 (fput (g.1 5 0) (nI p) (nI (fkn (F p))))) ⟨f1.I (by decide), f2, f3, fun q hq => by
      show fget (fput (g.1 5 0) (nI p) (nI (fkn (F p)))) (nI q) = _
      rw [fgs (by omega) (by omega) (fkn_lt _ hf.1)]
      by_cases e : q = p
      · rw [if_pos e, e]
      · rw [if_neg e]
        exact f4 q (by omega)⟩
    rw [← nI_1 p] at this
    exact this
theorem l_opA {P : Nat} {F : Nat → Nat} (hP : P ≤ 4) (h0 : h.1 3 0 = nI P) (hF : ∀ q, q < P → F q < 5 ∧ fget (h.1 3 3) (nI q) = nI (F q)) (hk : ∀ g, opI h g F 4 P → K none g) : ∀ m n, n + m = 4 → ∀ g, opI h g F n 0 → qAt (d + 2, 26, none, q0, K) 20 [some (.ref 5), some (.ref 3), some (.int (nI n))] [] g := by
  intro m
  induction m with
  | zero =>
    intro n hn g f
    have hn : n = 4 := by omega
    subst hn
    refine at_wp [34] 12 (Nat.le_of_ble_eq_true rfl) rfl ?_
    refine And.intro (fun _ => ?_) (fun c => absurd (by decide) c)
    exact l_opB hP h0 hF hk P 0 (by omega) g f
  | succ m ih =>
    intro n hn g f
    obtain ⟨f1, f2, f3, f4⟩ := f
    have ec : (nI n).toNatClampNeg = n := nI_clamp (by omega)
    refine at_wp [20] 30 (Nat.le_of_ble_eq_true rfl) rfl ?_
    refine And.intro (fun c => absurd c (nI_ge (a := n) (b := 4) (by omega) (by decide))) (fun _ => ?_)
    refine And.intro (vp_in_nI (by omega) (by decide)) ?_
    have := ih (n + 1) (by omega) (qI g 6 n 0) ⟨f1.I (by decide), f2, fun q hq => by
      rw [qI_get]
      by_cases e : q = n
      · rw [if_pos ⟨rfl, e⟩]
      · rw [if_neg (fun z => e z.2)]
        exact f3 q (by omega), fun q hq => by omega⟩
    rw [← nI_1 n] at this
    show qAt _ 20 [some (.ref 5), some (.ref 3), some (.int (nI n + 1))] [] (qI g 6 (nI n).toNatClampNeg 0)
    rw [ec]
    exact this
theorem c_open {P : Nat} {F : Nat → Nat} (hP : P ≤ 4) (h0 : h.1 3 0 = nI P) (hF : ∀ q, q < P → F q < 5 ∧ fget (h.1 3 3) (nI q) = nI (F q)) (hk : ∀ g, opI h g F 4 P → K none g) : qCall (d + 3) 26 [.ref 5, .ref 3] h K := by
  refine call_wp (n := 40) (cut := [20]) _ (by decide) (Nat.lt_succ_self _) rfl rfl (Nat.le_of_ble_eq_true rfl) rfl ?_
  refine l_opA hP h0 hF hk 4 0 rfl _ ⟨?_, ?_, fun q hq => by omega, fun q hq => by omega⟩
  · exact (((((Fr.rf.I (by decide)).I (by decide)).I (by decide)).I (by decide)).I (by decide)).I (by decide)
  · exact ⟨rfl, rfl, rfl, rfl, rfl⟩
theorem gct_hi {a : Nat} (h : 14 ≤ a) : gct S a = S a := by
  funext y
  unfold gct
  rw [if_neg (by omega), if_neg (by omega), if_neg (by omega), if_neg (by omega), if_neg (by omega), if_neg (by omega), if_neg (by omega), if_neg (by omega), if_neg (by omega), if_neg (by omega)]
theorem gct_G (hG : RG S) (hw : gwh (S 11) (S 10 0) = true) : RG (gct S) := by
  refine ⟨gct_B hG.pg.1 hw, ⟨by show (0 : Nat) ≤ 6; decide, fun i hi => absurd hi (Nat.not_lt_zero i)⟩, fun z => absurd (show (0 : Nat) = 1 from z) (by decide), by show (0 : Nat) < 2; decide, hG.2.2.2.2.1, by show (0 : Nat) ≤ 22; decide, fun i hi => absurd hi (Nat.not_lt_zero i)⟩
theorem x_court (hX : RX h S) (hG : RG S) (hk : ∀ h', Fr lX h h' → RX h' (uCourt S) → K (some (.int (aCourt S))) h') : qCall (d + 9) 48 [.ref 0] h K := by
  unfold uCourt aCourt at hk
  refine call_wp (n := 90) (cut := []) _ (by decide) (Nat.lt_succ_self _) rfl rfl (Nat.le_of_ble_eq_true rfl) rfl ?_
  refine c_isCourt hX.pg hG.pg (fun hw => ?_) (fun hw => ?_)
  · simp only [if_pos hw] at hk
    have hB' := gct_B hG.pg.1 hw
    refine And.intro (fun c => absurd c (by decide)) (fun _ => ?_)
    refine c_read (d := d + 2) hX.pg hG.pg hw (fun g f1 hC hF => ?_)
    obtain ⟨P, p2, p4, eL, hq, hd⟩ := gwh_i hG.pg.1 hw
    have eP : gct S 0 0 = P := by
      show S 10 0 / 4 - 1 = P
      omega
    refine c_open (P := P) (F := fun q => S 11 (4 * q + 2) - 48) p4 (by rw [hC.1, eP]) (fun q hqq => ⟨by have := dg_i (hq q hqq).2.2; show S 11 (4 * q + 2) - 48 < 5; omega, hF q (by omega)⟩) (fun k f => ?_)
    obtain ⟨f2, ⟨o1, o2, o3, o4, o7⟩, f6, f0⟩ := f
    refine And.intro (Or.inl rfl) ?_
    have k0 : k.1 0 = h.1 0 := (f2.1 0 (by decide)).trans (f1.1 0 (by decide))
    have hCk : RC k (gct S) := hC.fr f2 (by decide) (by decide)
    have e7 : k.1 0 7 = nI (S 12 1) := by rw [k0]; exact hX.2.2.2.2.1
    show K (some (.int (k.1 3 0))) (qI (qI (qI k 0 6 0) 0 7 (k.1 0 7 + 1)) 1 1 0)
    rw [hCk.1, e7, nI_1]
    have hFr : Fr [0, 1] k (qI (qI (qI k 0 6 0) 0 7 (nI (S 12 1 + 1))) 1 1 0) := ((Fr.rf.I (by decide)).I (by decide)).I (by decide)
    refine hk _ (((f1.mono (by decide)).tr (f2.mono (by decide))).tr (hFr.mono (by decide))) ?_
    refine ⟨hCk.fr hFr (by decide) (by decide), ⟨fun p hp => ?_, ?_, ?_, ?_, ?_, ?_, fun p hp => ?_, fun i hi => absurd hi (Nat.not_lt_zero i)⟩, fun z => absurd (show (0 : Nat) = 1 from z) (by decide), rfl, rfl, ?_, rfl, fun i hi => absurd hi (Nat.not_lt_zero i)⟩
    · rw [hFr.1 5 (by decide)]
      exact f0 p (by omega)
    · rw [hFr.1 5 (by decide)]
      exact o1
    · rw [hFr.1 5 (by decide)]
      exact o2
    · rw [hFr.1 5 (by decide)]
      exact o3
    · rw [hFr.1 5 (by decide)]
      exact o4
    · rw [hFr.1 5 (by decide)]
      exact o7
    · have p4' := hB'.1
      rw [hFr.1 6 (by decide)]
      exact f6 p (by omega)
    · show k.1 0 8 = nI (S 12 0)
      rw [k0]
      exact hX.2.2.2.2.2.1
  · simp only [hw] at hk
    refine And.intro (fun _ => ?_) (fun c => absurd rfl c)
    exact hk h Fr.rf hX
end QOC
