/-! ## plans: the class's fewest words -/
section QF3
variable {d : Nat} {h : qH} {K : qK} {S : gS}
theorem c_findsS {r k : Nat} (rec : FOk d r k) : FOk d (r + 1) k := by
  intro S h K p0 hp hC hR hB hk k1 k0
  have hn0 := hB.1
  have go := l_finds (d := d) (r := r) rec hp hC hR hB hk k1 k0 (16 * S 0 0) 0 (by omega) h none none none none none ⟨Fr.rf, fun _ _ => rfl⟩ (fun c hc => by omega)
  refine call_wp (n := 60) (cut := [27]) _ (by decide) (Nat.lt_succ_self _) rfl rfl (Nat.le_of_ble_eq_true rfl) rfl ?_
  refine And.intro (fun c => absurd c (nI_pos (by omega))) (fun _ => ?_)
  refine And.intro (fun c => absurd c (nI_ge (by omega) (by omega))) (fun _ => ?_)
  refine And.intro (fun _ => ?_) (fun c => absurd (nI_lt (b := 3) (by omega) (by decide)) c)
  have em : nI (p0 + (r + 1)) - 1 = nI (p0 + r) := nI_pred (p0 + r)
  refine And.intro (fun c => ?_) (fun c => ?_)
  · have c : nI p0 = nI (p0 + (r + 1)) - 1 := c
    rw [em, nI_eq (by omega) (by omega)] at c
    have r0 : r = 0 := by omega
    subst r0
    exact go
  · have c : ¬ nI p0 = nI (p0 + (r + 1)) - 1 := c
    rw [em, nI_eq (by omega) (by omega)] at c
    obtain ⟨j, rfl⟩ : ∃ j, r = j + 1 := ⟨r - 1, by omega⟩
    exact go
theorem c_finds {k : Nat} : ∀ r, FOk d r k
  | 0 => c_finds0
  | r + 1 => c_findsS (c_finds r)
theorem gfew_up {k m : Nat} {x : Nat × Nat} (e : gfew S k m = some x) : ∀ j, gfew S k (m + j) = some x
  | 0 => e
  | j + 1 => by
    rw [← Nat.add_assoc, gfew, gfew_up e j]
theorem gfew_n {k m : Nat} (e : gfew S k (m + 1) = none) : gfew S k m = none ∧ gff (gP k m S) (64 ^ m) = none := by
  rw [gfew] at e
  cases e1 : gfew S k m with
  | some x => rw [e1] at e; simp at e
  | none =>
    rw [e1] at e
    cases e2 : gff (gP k m S) (64 ^ m) with
    | some x => rw [e2] at e; simp at e
    | none => exact ⟨rfl, rfl⟩
theorem gPp_eq {k m : Nat} (e : gfew S k m = none) : ∀ c, c < 64 ^ m → gPp k m S c = gP k m S c := by
  cases m with
  | zero => exact fun c _ => rfl
  | succ m => exact prune_eq m S (gff_of_none _ (gfew_n e).2)
theorem l_few {k : Nat} (hC : RC h S) (hR : RS 11 h S) (hB : GB S) (hk : k < S 0 0) (kS : ∀ h' m c, Fr [14] h h' → gfew S k 4 = some (m, c) → m ≤ 3 → (∀ i, i < m → h'.1 14 i = nI (c / 64 ^ (m - 1 - i) % 64)) → K (some (.int (nI m))) h') (kN : ∀ h', Fr [14] h h' → gfew S k 4 = none → K (some (.int (-1))) h') : ∀ j m, m + j = 4 → ∀ h1, Fr [14] h h1 → gfew S k m = none → qAt (d + 8, 67, some .int, q0, K) 7 [some (.ref 0), some (.int (nI k)), some (.int (nI m))] [] h1 := by
  intro j
  induction j with
  | zero =>
    intro m hm h1 hF e
    have hm : m = 4 := by omega
    subst hm
    refine at_wp [] 12 (Nat.le_of_ble_eq_true rfl) rfl ?_
    refine And.intro (fun _ => ?_) (fun c => absurd (by decide) c)
    exact kN h1 hF e
  | succ j ih =>
    intro m hm h1 hF e
    have hC1 : RC h1 S := hC.fr hF (by decide) (by decide)
    have hR1 : RS 11 h1 S := hR.fr hF (by decide) (by decide) (by decide)
    have rec' : ∀ K2, (∀ h' c, FI h1 h' 0 → c < 64 ^ m → gPp k m S c = true → (∀ x, x < c → gPp k m S x = false) → (∀ i, i < m → h'.1 14 (0 + i) = nI (c / 64 ^ (m - 1 - i) % 64)) → K2 (some (.int 1)) h') → (∀ h', FI h1 h' 0 → (∀ c, c < 64 ^ m → gPp k m S c = false) → K2 (some (.int 0)) h') → qCall (d + 8) 68 [.ref 3, .ref 11, .ref 14, .int (nI k), .int (nI 0), .int (nI m)] h1 K2 := fun K2 a b => by
      have := c_finds (d := d + (3 - m)) (k := k) m S h1 K2 0 (by omega) hC1 hR1 hB hk a b
      rw [Nat.zero_add, show d + (3 - m) + m + 5 = d + 8 by omega] at this
      exact this
    refine at_wp [7] 40 (Nat.le_of_ble_eq_true rfl) rfl ?_
    refine And.intro (fun c => absurd c (nI_nlt (a := 3) (b := m) (by omega) (by decide))) (fun _ => ?_)
    refine rec' _ (fun h' c hF' hc hpc hl hw => ?_) (fun h' hF' hz => ?_)
    · refine And.intro (fun c => absurd c (by decide)) (fun _ => ?_)
      have f : gff (gP k m S) (64 ^ m) = some c := gff_some (by rw [← gPp_eq e c hc]; exact hpc) (fun x hx => by rw [← gPp_eq e x (by omega)]; exact hl x hx) _ hc
      have f2 : gfew S k (m + 1) = some (m, c) := by rw [gfew, e, f]
      have f3 := gfew_up f2 j
      rw [show m + 1 + j = 4 by omega] at f3
      refine kS h' m c (hF.tr hF'.1) f3 (by omega) (fun i hi => ?_)
      have := hw i hi
      rw [Nat.zero_add] at this
      exact this
    · refine And.intro (fun _ => ?_) (fun c => absurd rfl c)
      have f : gff (gP k m S) (64 ^ m) = none := gff_none _ (fun c hc => by rw [← gPp_eq e c hc]; exact hz c hc)
      have f2 : gfew S k (m + 1) = none := by rw [gfew, e, f]
      have := ih (m + 1) (by omega) h' (hF.tr hF'.1) f2
      rw [← nI_1] at this
      exact this
theorem c_fewest {k : Nat} (hC : RC h S) (hR : RS 5 h S) (hB : GB S) (hA : GA S) (hk : k < S 0 0) (kS : ∀ h' m c, Fr [11, 12, 13, 14] h h' → gfew S k 4 = some (m, c) → m ≤ 3 → (∀ i, i < m → h'.1 14 i = nI (c / 64 ^ (m - 1 - i) % 64)) → K (some (.int (nI m))) h') (kN : ∀ h', Fr [11, 12, 13, 14] h h' → gfew S k 4 = none → K (some (.int (-1))) h') : qCall (d + 9) 67 [.ref 0, .int (nI k)] h K := by
  refine call_wp (n := 40) (cut := [7]) _ (by decide) (Nat.lt_succ_self _) rfl rfl (Nat.le_of_ble_eq_true rfl) rfl ?_
  refine c_copy_11 (fun h1 hc => ?_)
  obtain ⟨z1, z2, z3, z4, z5⟩ := hc
  have r11 : RS 11 h1 S := RS.copy hB hA hR z2 z3 z4 z5
  have hC1 : RC h1 S := hC.fr z1 (by decide) (by decide)
  exact l_few hC1 r11 hB hk (fun h' m c hF => kS h' m c ((z1.mono (by decide)).tr (hF.mono (by decide)))) (fun h' hF => kN h' ((z1.mono (by decide)).tr (hF.mono (by decide)))) 4 0 rfl h1 Fr.rf rfl
end QF3
