/-! ## the class reads a court -/
theorem fgs {a : Int32} {p q v : Nat} (hp : p < 4) (hq : q < 4) (hv : v < 16) : fget (fput a (nI p) (nI v)) (nI q) = if q = p then nI v else fget a (nI q) := by
  rw [fgp a (nI v) hp hq, n15 v hv]
theorem half : ∀ n, n < 10 → (nI n + nI 1) / nI 2 = nI ((n + 1) / 2) := by decide +kernel
theorem fk_ok : ∀ f, f < 5 → Int32.ofInt 1 <<< (nI f &&& 31) &&& Int32.ofInt 15 = nI (fkn f) := by decide +kernel
theorem kdI_n {c : Nat} (h : kdN c < 5) : kdI c = nI (kdN c) := by
  unfold kdI
  exact if_neg (by omega)
def rpH (h : qH) (p k n f : Nat) : qH := qI (qI (qI (qI h 3 1 (fput (h.1 3 1) (nI p) (nI k))) 3 2 (fput (h.1 3 2) (nI p) (nI n))) 3 3 (fput (h.1 3 3) (nI p) (nI f))) 3 4 (fput (h.1 3 4) (nI p) (nI (gen k n)))
theorem gen_16 {k n : Nat} (h : n < 10) : gen k n < 16 := by
  unfold gen
  split <;> omega
def rdP (S : gS) (g : qH) (p : Nat) : Prop := ∀ q, q < p → fget (g.1 3 1) (nI q) = nI (gct S 1 q) ∧ fget (g.1 3 2) (nI q) = nI (gct S 2 q) ∧ fget (g.1 3 3) (nI q) = nI (S 11 (4 * q + 2) - 48) ∧ fget (g.1 3 4) (nI q) = nI (gen (gct S 1 q) (gct S 2 q))
def rdA (S : gS) (h g : qH) (P p k n : Nat) : Prop := Fr [3, 4] h g ∧ g.1 3 0 = nI P ∧ rdP S g p ∧ (∀ j, j < k → fget (g.1 3 5) (nI j) = nI (gct S 3 j)) ∧ ∀ s, s < n → g.1 4 s = nI (gtog (gct S) s)
theorem pgX.fr {h g : qH} {S : gS} (hp : pgX h S) (f : Fr [3, 4] h g) : pgX g S := by
  unfold pgX
  rw [f.1 1 (by decide), f.1 2 (by decide)]
  exact hp
section QRC
variable {d : Nat} {h : qH} {K : qK} {S : gS}
theorem c_digN {i : Nat} (hp : pgX h S) (hg : pgB S) (hi : i < S 10 0) (h48 : 48 ≤ S 11 i) (hk : K (some (.int (nI (S 11 i - 48)))) h) : qCall (d + 2) 4 [.ref 1, .int (nI i)] h K := by
  refine c_digitAt hp hg hi ?_
  show K (some (.int (nI (S 11 i) - nI 48))) h
  rw [pk_sub h48]
  exact hk
theorem c_enoughOf {k n : Nat} (hk5 : k < 5) (hn : n < 10) (hk : K (some (.int (nI (gen k n)))) h) : qCall (d + 1) 13 [.int (nI k), .int (nI n)] h K := by
  refine call_wp (n := 30) (cut := []) _ (by decide) (Nat.lt_succ_self _) rfl rfl (Nat.le_of_ble_eq_true rfl) rfl ?_
  refine And.intro (fun c => ?_) (fun c => ?_)
  · have c : nI k = nI 2 := c
    rw [nI_eq (by omega) (by omega)] at c
    subst c
    refine And.intro (by decide) ?_
    show K (some (.int ((nI n + nI 1) / nI 2))) h
    rw [half n hn]
    exact hk
  · have c : ¬ nI k = nI 2 := c
    rw [nI_eq (by omega) (by omega)] at c
    refine And.intro (fun c2 => ?_) (fun c2 => ?_)
    · have c2 : nI k = nI 4 := c2
      rw [nI_eq (by omega) (by omega)] at c2
      subst c2
      show K (some (.int (nI n + nI 2))) h
      rw [nI_add]
      exact hk
    · have c2 : ¬ nI k = nI 4 := c2
      rw [nI_eq (by omega) (by omega)] at c2
      have e : gen k n = n := by
        unfold gen
        split
        · exact absurd rfl c
        · exact absurd rfl c2
        · rfl
      rw [e] at hk
      exact hk
theorem c_readPerson {p k n f : Nat} (hk5 : k < 5) (hn : n < 10) (hk : K none (rpH h p k n f)) : qCall (d + 2) 12 [.ref 3, .int (nI p), .int (nI k), .int (nI n), .int (nI f)] h K := by
  refine call_wp (n := 50) (cut := []) _ (by decide) (Nat.lt_succ_self _) rfl rfl (Nat.le_of_ble_eq_true rfl) rfl ?_
  refine c_put ?_
  refine c_put ?_
  refine c_put ?_
  refine c_enoughOf hk5 hn ?_
  refine c_put ?_
  exact hk
theorem rdA.person {P p : Nat} {g : qH} (hg : pgB S) (f : rdA S h g P p 0 0) (hp : p < 4) (k5 : kdN (S 11 (4 * p)) < 5) (d1 : dg (S 11 (4 * p + 1)) 1 9 = true) (d2 : dg (S 11 (4 * p + 2)) 0 4 = true) : rdA S h (rpH g p (kdN (S 11 (4 * p))) (S 11 (4 * p + 1) - 48) (S 11 (4 * p + 2) - 48)) P (p + 1) 0 0 := by
  obtain ⟨f1, f2, f3, f4, f5⟩ := f
  have d1 := dg_i d1
  have d2 := dg_i d2
  refine ⟨(((f1.I (by decide)).I (by decide)).I (by decide)).I (by decide), f2, fun q hq => ?_, fun j hj => by omega, fun s hs => by omega⟩
  have v1 : (rpH g p (kdN (S 11 (4 * p))) (S 11 (4 * p + 1) - 48) (S 11 (4 * p + 2) - 48)).1 3 1 = fput (g.1 3 1) (nI p) (nI (kdN (S 11 (4 * p)))) := rfl
  have v2 : (rpH g p (kdN (S 11 (4 * p))) (S 11 (4 * p + 1) - 48) (S 11 (4 * p + 2) - 48)).1 3 2 = fput (g.1 3 2) (nI p) (nI (S 11 (4 * p + 1) - 48)) := rfl
  have v3 : (rpH g p (kdN (S 11 (4 * p))) (S 11 (4 * p + 1) - 48) (S 11 (4 * p + 2) - 48)).1 3 3 = fput (g.1 3 3) (nI p) (nI (S 11 (4 * p + 2) - 48)) := rfl
  have v4 : (rpH g p (kdN (S 11 (4 * p))) (S 11 (4 * p + 1) - 48) (S 11 (4 * p + 2) - 48)).1 3 4 = fput (g.1 3 4) (nI p) (nI (gen (kdN (S 11 (4 * p))) (S 11 (4 * p + 1) - 48))) := rfl
  have g4 := gen_16 (k := kdN (S 11 (4 * p))) (show S 11 (4 * p + 1) - 48 < 10 by omega)
  rw [v1, v2, v3, v4, fgs hp (by omega) (by omega), fgs hp (by omega) (by omega), fgs hp (by omega) (by omega), fgs hp (by omega) g4]
  by_cases e : q = p
  · subst e
    rw [if_pos rfl, if_pos rfl, if_pos rfl, if_pos rfl]
    exact ⟨rfl, rfl, rfl, rfl⟩
  · rw [if_neg e, if_neg e, if_neg e, if_neg e]
    exact f3 q (by omega)
theorem l_rsum {s : Nat} {T : gS} (hT : ∀ k, k < 4 → fget (h.1 3 5) (nI k) = nI (T 3 k)) (hs : s < 16) (hk : K (some (.int (nI (gtog T s)))) h) : ∀ m k, k + m = 4 → qAt (d + 2, 14, some .int, q0, K) 4 [some (.ref 3), some (.int (nI s)), some (.int (nI (gtogN T s k))), some (.int (nI k))] [] h := by
  intro m
  induction m with
  | zero =>
    intro n hn
    have hn : n = 4 := by omega
    subst hn
    refine at_wp [] 12 (Nat.le_of_ble_eq_true rfl) rfl ?_
    refine And.intro (fun _ => ?_) (fun c => absurd (by decide) c)
    rw [← gtogN_4] at hk
    exact hk
  | succ m ih =>
    intro n hn
    have ihn := ih (n + 1) (by omega)
    rw [gtogN, ← nI_1] at ihn
    refine at_wp [4] 40 (Nat.le_of_ble_eq_true rfl) rfl ?_
    refine And.intro (fun c => absurd c (nI_ge (a := n) (b := 4) (by omega) (by decide))) (fun _ => ?_)
    refine And.intro (fun z => ?_) (fun z => ?_)
    · have z := (bit_and s hs n (by omega)).mp z
      rw [z] at ihn
      exact ihn
    · have z : s.testBit n = true := by
        cases b : s.testBit n with
        | true => rfl
        | false => exact absurd ((bit_and s hs n (by omega)).mpr b) z
      rw [if_pos z, ← nI_add] at ihn
      refine call_wp (n := 20) (cut := []) _ (by decide) (Nat.lt_succ_self _) rfl rfl (Nat.le_of_ble_eq_true rfl) rfl ?_
      refine c_get ?_
      rw [← hT n (by omega)] at ihn
      exact ihn
theorem c_sumOf {s : Nat} {T : gS} (hT : ∀ k, k < 4 → fget (h.1 3 5) (nI k) = nI (T 3 k)) (hs : s < 16) (hk : K (some (.int (nI (gtog T s)))) h) : qCall (d + 3) 14 [.ref 3, .int (nI s)] h K := by
  refine call_wp (n := 10) (cut := [4]) _ (by decide) (Nat.lt_succ_self _) rfl rfl (Nat.le_of_ble_eq_true rfl) rfl ?_
  exact l_rsum hT hs hk 4 0 rfl
theorem l_rdC {P : Nat} (hk : ∀ g, rdA S h g P P 4 16 → K none g) : ∀ m s, s + m = 16 → ∀ g, rdA S h g P P 4 s → qAt (d + 5, 11, none, q0, K) 63 [some (.ref 3), some (.ref 1), some (.int (nI s))] [] g := by
  intro m
  induction m with
  | zero =>
    intro s hs g f
    have hs : s = 16 := by omega
    subst hs
    refine at_wp [] 12 (Nat.le_of_ble_eq_true rfl) rfl ?_
    refine And.intro (fun _ => ?_) (fun c => absurd (by decide) c)
    exact hk g f
  | succ m ih =>
    intro s hs g f
    obtain ⟨f1, f2, f3, f4, f5⟩ := f
    have ec : (nI s).toNatClampNeg = s := nI_clamp (by omega)
    refine at_wp [63] 40 (Nat.le_of_ble_eq_true rfl) rfl ?_
    refine And.intro (fun c => absurd c (nI_ge (a := s) (b := 16) (by omega) (by decide))) (fun _ => ?_)
    refine c_sumOf (d := d + 2) (T := gct S) (fun k hk => f4 k hk) (by omega) ?_
    refine And.intro (vp_in_nI (by omega) (by decide)) ?_
    have := ih (s + 1) (by omega) (qI g 4 s (nI (gtog (gct S) s))) ⟨f1.I (by decide), f2, f3, f4, fun j hj => by
      rw [qI_get]
      by_cases e : j = s
      · rw [if_pos ⟨rfl, e⟩, e]
      · rw [if_neg (fun z => e z.2)]
        exact f5 j (by omega)⟩
    rw [← nI_1] at this
    show qAt _ 63 [some (.ref 3), some (.ref 1), some (.int (nI s + 1))] [] (qI g 4 (nI s).toNatClampNeg (nI (gtog (gct S) s)))
    rw [ec]
    exact this
theorem l_rdB {P : Nat} (hp : pgX h S) (hg : pgB S) (eP : S 10 0 = 4 * P + 4) (hd : ∀ k, k < 4 → dg (S 11 (4 * P + k)) 1 9 = true) (hk : ∀ g, rdA S h g P P 4 16 → K none g) : ∀ m k, k + m = 4 → ∀ g, rdA S h g P P k 0 → qAt (d + 5, 11, none, q0, K) 42 [some (.ref 3), some (.ref 1), some (.int (nI k))] [] g := by
  have h10 := hg.1
  intro m
  induction m with
  | zero =>
    intro k hs g f
    have hs : k = 4 := by omega
    subst hs
    refine at_wp [63] 12 (Nat.le_of_ble_eq_true rfl) rfl ?_
    refine And.intro (fun _ => ?_) (fun c => absurd (by decide) c)
    exact l_rdC hk 16 0 rfl g f
  | succ m ih =>
    intro k hs g f
    obtain ⟨f1, f2, f3, f4, f5⟩ := f
    have dk := dg_i (hd k (by omega))
    refine at_wp [42] 40 (Nat.le_of_ble_eq_true rfl) rfl ?_
    refine And.intro (fun c => absurd c (nI_ge (a := k) (b := 4) (by omega) (by decide))) (fun _ => ?_)
    show qCall _ 4 [.ref 1, .int (nI 4 * g.1 3 0 + nI k)] g _
    rw [f2, pk_mul, nI_add]
    refine c_digN (hp.fr f1) hg (by omega) (by omega) ?_
    refine c_put ?_
    have := ih (k + 1) (by omega) (qI g 3 5 (fput (g.1 3 5) (nI k) (nI (S 11 (4 * P + k) - 48)))) ⟨f1.I (by decide), f2, f3, fun j hj => by
      show fget (fput (g.1 3 5) (nI k) (nI (S 11 (4 * P + k) - 48))) (nI j) = nI (S 11 (4 * (S 10 0 / 4 - 1) + j) - 48)
      rw [fgs (by omega) (by omega) (by omega), show S 10 0 / 4 - 1 = P by omega]
      by_cases e : j = k
      · rw [if_pos e, e]
      · rw [if_neg e]
        have := f4 j (by omega)
        rw [this]
        show nI (S 11 (4 * (S 10 0 / 4 - 1) + j) - 48) = _
        rw [show S 10 0 / 4 - 1 = P by omega], fun s hs => by omega⟩
    rw [← nI_1] at this
    exact this
theorem l_rdA {P : Nat} (hp : pgX h S) (hg : pgB S) (eP : S 10 0 = 4 * P + 4) (hq : ∀ p, p < P → kdN (S 11 (4 * p)) < 5 ∧ dg (S 11 (4 * p + 1)) 1 9 = true ∧ dg (S 11 (4 * p + 2)) 0 4 = true) (hd : ∀ k, k < 4 → dg (S 11 (4 * P + k)) 1 9 = true) (hk : ∀ g, rdA S h g P P 4 16 → K none g) : ∀ m p, p + m = P → ∀ g, rdA S h g P p 0 0 → qAt (d + 5, 11, none, q0, K) 12 [some (.ref 3), some (.ref 1), some (.int (nI p))] [] g := by
  have h10 := hg.1
  intro m
  induction m with
  | zero =>
    intro p hs g f
    have hs : p = P := by omega
    subst hs
    have f2 := f.2.1
    refine at_wp [42] 12 (Nat.le_of_ble_eq_true rfl) rfl ?_
    refine And.intro (fun _ => ?_) (fun c => absurd (by show g.1 3 0 ≤ nI p; rw [f2]; exact nI_le (Nat.le_refl _) (by omega)) c)
    exact l_rdB hp hg eP hd hk 4 0 rfl g f
  | succ m ih =>
    intro p hs g f
    have f1 := f.1
    have f2 := f.2.1
    obtain ⟨q1, q2, q3⟩ := hq p (by omega)
    have d1 := dg_i q2
    have d2 := dg_i q3
    have hpg := hp.fr f1
    refine at_wp [12] 60 (Nat.le_of_ble_eq_true rfl) rfl ?_
    refine And.intro (fun c => absurd c (by show ¬ g.1 3 0 ≤ nI p; rw [f2]; exact nI_ge (by omega) (by omega))) (fun _ => ?_)
    show qCall _ 5 [.ref 1, .int (nI 4 * nI p)] g _
    rw [pk_mul]
    refine c_kindAt hpg hg (by omega) ?_
    rw [kdI_n q1]
    show qCall _ 4 [.ref 1, .int (nI 4 * nI p + nI 1)] g _
    rw [pk_mul, nI_add]
    refine c_digN hpg hg (by omega) (by omega) ?_
    show qCall _ 4 [.ref 1, .int (nI 4 * nI p + nI 2)] g _
    rw [pk_mul, nI_add]
    refine c_digN hpg hg (by omega) (by omega) ?_
    refine c_readPerson q1 (by omega) ?_
    have := ih (p + 1) (by omega) _ (rdA.person hg f (by omega) q1 q2 q3)
    rw [← nI_1] at this
    exact this
theorem c_read (hp : pgX h S) (hg : pgB S) (hw : gwh (S 11) (S 10 0) = true) (hk : ∀ g, Fr [3, 4] h g → RC g (gct S) → (∀ q, q < gct S 0 0 → fget (g.1 3 3) (nI q) = nI (S 11 (4 * q + 2) - 48)) → K none g) : qCall (d + 6) 11 [.ref 3, .ref 1] h K := by
  obtain ⟨P, p2, p4, eL, hq, hd⟩ := gwh_i hg.1 hw
  have h10 := hg.1
  have eP : gct S 0 0 = P := by
    show S 10 0 / 4 - 1 = P
    omega
  refine call_wp (n := 20) (cut := [12]) _ (by decide) (Nat.lt_succ_self _) rfl rfl (Nat.le_of_ble_eq_true rfl) rfl ?_
  refine And.intro (by decide) ?_
  show qAt _ 12 [some (.ref 3), some (.ref 1), some (.int (nI 0))] [] (qI h 3 0 ((h.1 1 1 - nI 5 + 1) / nI 4))
  rw [hp.1, pk_sub (by omega), nI_1, pk_div (by omega) (by decide) (by decide), show (S 10 0 - 5 + 1) / 4 = P by omega]
  have hp2 : pgX (qI h 3 0 (nI P)) S := hp.fr (Fr.rf.I (by decide))
  refine l_rdA (h := qI h 3 0 (nI P)) hp2 hg eL hq hd (fun g f => ?_) P 0 (by omega) _ ⟨Fr.rf, rfl, fun q hq => by omega, fun q hq => by omega, fun q hq => by omega⟩
  obtain ⟨f1, f2, f3, f4, f5⟩ := f
  refine hk g ((Fr.rf.I (by decide)).tr f1) ⟨by rw [eP]; exact f2, fun p hp => ?_, f4, f5⟩ (fun q hq => (f3 q (by omega)).2.2.1)
  have := f3 p (by omega)
  exact ⟨this.1, this.2.1, this.2.2.2⟩
end QRC
