/-! ## the reference's fault, court -/
theorem RM.rd {h g : qH} {S : gS} (hM : RM h S) (f : rdI h g) : RM g S := by
  obtain ⟨x1, x2, x3, x4, x5, x6, x7⟩ := hM
  have e : ∀ k, k ≠ 18 → k ≠ 19 → g.1 15 k = h.1 15 k := f.2
  have f1 : ∀ a, a ≠ 15 → g.1 a = h.1 a := fun a ha => f.1.1 a (by simp [ha])
  unfold RM RMk
  rw [e 15 (by decide) (by decide), e 16 (by decide) (by decide), e 0 (by decide) (by decide), e 22 (by decide) (by decide), e 23 (by decide) (by decide), e 24 (by decide) (by decide), e 25 (by decide) (by decide), e 26 (by decide) (by decide), e 27 (by decide) (by decide), e 28 (by decide) (by decide), f1 24 (by decide), f1 26 (by decide), f1 27 (by decide), f1 28 (by decide), f1 29 (by decide), f1 30 (by decide)]
  exact ⟨x1.h (fun k hk => e k (by omega) (by omega)) (fun a h1 h2 => f1 a (by omega)), x2, x3, x4, x5, x6, x7⟩
def ctI (S : gS) (h g : qH) (P p k : Nat) : Prop := Fr [15, 16, 17, 18, 19, 20] h g ∧ (∀ s, s ≠ 1 → s ≠ 18 → s ≠ 19 → g.1 15 s = h.1 15 s) ∧ g.1 15 1 = nI P ∧ (∀ q, q < p → g.1 16 q = nI (gct S 1 q) ∧ g.1 17 q = nI (gct S 2 q) ∧ g.1 18 q = nI (gct S 4 q) ∧ g.1 19 q = 0) ∧ ∀ j, j < k → g.1 20 j = nI (gct S 3 j)
theorem fk_m : ∀ f, f < 4 → Int32.ofInt 1 <<< (nI f &&& 31) = nI (fkn f) := by decide +kernel
section QMCO
variable {d : Nat} {h : qH} {K : qK} {S : gS}
theorem m_fault (hM : RM h S) (hG : RG S) (hk : ∀ h', Fr lM h h' → RM h' S → K (some (.int (aFault S))) h') : qCall (d + 5) 83 [.ref 15] h K := by
  refine call_wp (n := 12) (cut := []) _ (by decide) (Nat.lt_succ_self _) rfl rfl (Nat.le_of_ble_eq_true rfl) rfl ?_
  exact m_read hM.pg hG.pg (fun g f _ _ => hk g (f.1.mono (by decide)) (hM.rd f))
theorem pgM.ct {g : qH} {P p k : Nat} (hp : pgM h S) (f : ctI S h g P p k) : pgM g S := by
  unfold pgM
  rw [f.2.1 16 (by decide) (by decide) (by decide), f.1.1 24 (by decide)]
  exact hp
theorem l_ctB {P : Nat} {u : Option Value} (hp : pgM h S) (hg : pgB S) (eP : S 10 0 = 4 * P + 4) (hd : ∀ k, k < 4 → dg (S 11 (4 * P + k)) 1 9 = true) (hk : ∀ g x y, ctI S h g P P 4 → qAt (d + 4, 84, some .int, q0, K) 94 [some (.ref 15), some (.int (nI (4 * P + 4))), x, y] [] g) : ∀ m k, k + m = 4 → ∀ g, ctI S h g P P k → qAt (d + 4, 84, some .int, q0, K) 75 [some (.ref 15), some (.int (nI (4 * P + 4))), some (.int (nI k)), u] [] g := by
  have h10 := hg.1
  intro m
  induction m with
  | zero =>
    intro k hs g f
    have hs : k = 4 := by omega
    subst hs
    refine at_wp [94] 12 (Nat.le_of_ble_eq_true rfl) rfl ?_
    refine And.intro (fun _ => ?_) (fun c => absurd (by decide) c)
    exact hk g _ _ f
  | succ m ih =>
    intro k hs g f
    have hpg := hp.ct f
    obtain ⟨f1, f2, f3, f4, f5⟩ := f
    have dk := dg_i (hd k (by omega))
    have ec : (nI k).toNatClampNeg = k := nI_clamp (by omega)
    have ix : nI (4 * P + 4) - nI 4 + nI k = nI (4 * P + k) := by rw [pk_sub (by omega), nI_add, show 4 * P + 4 - 4 + k = 4 * P + k by omega]
    have ecx : (nI (4 * P + k)).toNatClampNeg = 4 * P + k := nI_clamp (by omega)
    refine at_wp [75] 40 (Nat.le_of_ble_eq_true rfl) rfl ?_
    refine And.intro (fun c => absurd c (nI_ge (a := k) (b := 4) (by omega) (by decide))) (fun _ => ?_)
    refine And.intro (by show vp_in (nI (4 * P + 4) - nI 4 + nI k) 22; rw [ix]; exact vp_in_nI (by omega) (by decide)) ?_
    refine And.intro (vp_in_nI (by omega) (by decide)) ?_
    have := ih (k + 1) (by omega) (qI g 20 k (nI (S 11 (4 * P + k) - 48))) ⟨f1.I (by decide), f2, f3, f4, fun j hj => by
      rw [qI_get]
      show _ = nI (S 11 (4 * (S 10 0 / 4 - 1) + j) - 48)
      rw [show S 10 0 / 4 - 1 = P by omega]
      by_cases e : j = k
      · rw [if_pos ⟨rfl, e⟩, e]
      · rw [if_neg (fun z => e z.2), f5 j (by omega)]
        show nI (S 11 (4 * (S 10 0 / 4 - 1) + j) - 48) = _
        rw [show S 10 0 / 4 - 1 = P by omega]⟩
    rw [← nI_1 k] at this
    show qAt _ 75 [some (.ref 15), some (.int (nI (4 * P + 4))), some (.int (nI k + 1)), u] [] (qI g 20 (nI k).toNatClampNeg (g.1 24 (nI (4 * P + 4) - nI 4 + nI k).toNatClampNeg - nI 48))
    rw [ix, ecx, ec, hpg.2 _ (by omega), pk_sub (by omega)]
    exact this
def ctH (g : qH) (p : Nat) (a b c : Int32) : qH := qI (qI (qI (qI g 16 p a) 17 p b) 18 p c) 19 p 0
theorem ctI.one {g : qH} {P p : Nat} (f : ctI S h g P p 0) : ctI S h (ctH g p (nI (gct S 1 p)) (nI (gct S 2 p)) (nI (gct S 4 p))) P (p + 1) 0 := by
  obtain ⟨f1, f2, f3, f4, f5⟩ := f
  refine ⟨(((f1.I (by decide)).I (by decide)).I (by decide)).I (by decide), f2, f3, fun q hq => ?_, fun j hj => by omega⟩
  have v1 : (ctH g p (nI (gct S 1 p)) (nI (gct S 2 p)) (nI (gct S 4 p))).1 16 q = if q = p then nI (gct S 1 p) else g.1 16 q := by simp [ctH, qI]
  have v2 : (ctH g p (nI (gct S 1 p)) (nI (gct S 2 p)) (nI (gct S 4 p))).1 17 q = if q = p then nI (gct S 2 p) else g.1 17 q := by simp [ctH, qI]
  have v3 : (ctH g p (nI (gct S 1 p)) (nI (gct S 2 p)) (nI (gct S 4 p))).1 18 q = if q = p then nI (gct S 4 p) else g.1 18 q := by simp [ctH, qI]
  have v4 : (ctH g p (nI (gct S 1 p)) (nI (gct S 2 p)) (nI (gct S 4 p))).1 19 q = if q = p then 0 else g.1 19 q := by simp [ctH, qI]
  rw [v1, v2, v3, v4]
  by_cases e : q = p
  · rw [if_pos e, if_pos e, if_pos e, if_pos e, e]
    exact ⟨rfl, rfl, rfl, rfl⟩
  · rw [if_neg e, if_neg e, if_neg e, if_neg e]
    exact f4 q (by omega)
theorem l_ctA {P : Nat} (hp : pgM h S) (hg : pgB S) (p4 : P ≤ 4) (eP : S 10 0 = 4 * P + 4) (hq : ∀ p, p < P → kdN (S 11 (4 * p)) < 5 ∧ dg (S 11 (4 * p + 1)) 1 9 = true ∧ dg (S 11 (4 * p + 2)) 0 4 = true) (hd : ∀ k, k < 4 → dg (S 11 (4 * P + k)) 1 9 = true) (hk : ∀ g x y, ctI S h g P P 4 → qAt (d + 4, 84, some .int, q0, K) 94 [some (.ref 15), some (.int (nI (4 * P + 4))), x, y] [] g) : ∀ m p, p + m = P → ∀ g u, ctI S h g P p 0 → qAt (d + 4, 84, some .int, q0, K) 14 [some (.ref 15), some (.int (nI (4 * P + 4))), some (.int (nI p)), u] [] g := by
  have h10 := hg.1
  intro m
  induction m with
  | zero =>
    intro p hs g u f
    have hs : p = P := by omega
    subst hs
    have f3 := f.2.2.1
    refine at_wp [75] 12 (Nat.le_of_ble_eq_true rfl) rfl ?_
    refine And.intro (fun _ => ?_) (fun c => absurd (by show g.1 15 1 ≤ nI p; rw [f3]; exact nI_le (Nat.le_refl _) (by omega)) c)
    exact l_ctB hp hg eP hd hk 4 0 rfl g f
  | succ m ih =>
    intro p hs g u f
    have hpg := hp.ct f
    have f3 := f.2.2.1
    obtain ⟨q1, q2, q3⟩ := hq p (by omega)
    have d1 := dg_i q2
    have d2 := dg_i q3
    have ec : (nI p).toNatClampNeg = p := nI_clamp (by omega)
    have x0 : nI 4 * nI p = nI (4 * p) := pk_mul 4 p
    have x1 : nI 4 * nI p + nI 1 = nI (4 * p + 1) := by rw [pk_mul, nI_add]
    have x2 : nI 4 * nI p + nI 2 = nI (4 * p + 2) := by rw [pk_mul, nI_add]
    have c0 : (nI (4 * p)).toNatClampNeg = 4 * p := nI_clamp (by omega)
    have c1 : (nI (4 * p + 1)).toNatClampNeg = 4 * p + 1 := nI_clamp (by omega)
    have c2 : (nI (4 * p + 2)).toNatClampNeg = 4 * p + 2 := nI_clamp (by omega)
    have b0 := hg.2 (4 * p) (by omega)
    have go := ih (p + 1) (by omega) _ (some (.int (nI (S 11 (4 * p + 2) - 48)))) f.one
    rw [← nI_1 p] at go
    refine at_wp [14,53] 90 (Nat.le_of_ble_eq_true rfl) rfl ?_
    refine And.intro (fun c => absurd c (by show ¬ g.1 15 1 ≤ nI p; rw [f3]; exact nI_ge (by omega) (by omega))) (fun _ => ?_)
    refine And.intro (by show vp_in (nI 4 * nI p) 22; rw [x0]; exact vp_in_nI (by omega) (by decide)) ?_
    show qCall _ 78 [.int (g.1 24 (nI 4 * nI p).toNatClampNeg)] g _
    rw [x0, c0, hpg.2 _ (by omega)]
    refine m_kindBy (by omega) ?_
    rw [kdI_n q1]
    refine And.intro (vp_in_nI (by omega) (by decide)) ?_
    refine And.intro (by show vp_in (nI 4 * nI p + nI 1) 22; rw [x1]; exact vp_in_nI (by omega) (by decide)) ?_
    refine And.intro (vp_in_nI (by omega) (by decide)) ?_
    refine And.intro (by show vp_in (nI 4 * nI p + nI 2) 22; rw [x2]; exact vp_in_nI (by omega) (by decide)) ?_
    show qAt _ 53 [some (.ref 15), some (.int (nI (4 * P + 4))), some (.int (nI p)), u] [.int (g.1 24 (nI 4 * nI p + nI 2).toNatClampNeg - nI 48)] (qI (qI g 16 (nI p).toNatClampNeg (nI (kdN (S 11 (4 * p))))) 17 (nI p).toNatClampNeg (g.1 24 (nI 4 * nI p + nI 1).toNatClampNeg - nI 48))
    rw [x1, x2, c1, c2, ec, hpg.2 _ (by omega), hpg.2 _ (by omega), pk_sub (by omega), pk_sub (by omega)]
    refine at_wp [14] 60 (Nat.le_of_ble_eq_true rfl) rfl ?_
    refine And.intro (fun z => ?_) (fun z => ?_)
    · have z : nI (S 11 (4 * p + 2) - 48) = nI 4 := z
      rw [nI_eq (by omega) (by omega)] at z
      refine And.intro (vp_in_nI (by omega) (by decide)) ?_
      refine And.intro (vp_in_nI (by omega) (by decide)) ?_
      have e4 : nI (gct S 4 p) = 0 := by
        show nI (fkn (S 11 (4 * p + 2) - 48)) = 0
        rw [z]
        rfl
      rw [e4] at go
      show qAt _ 14 _ [] (qI (qI (qI (qI g 16 p (nI (kdN (S 11 (4 * p))))) 17 p (nI (S 11 (4 * p + 1) - 48))) 18 (nI p).toNatClampNeg 0) 19 (nI p).toNatClampNeg 0)
      rw [ec]
      exact go
    · have z : ¬ nI (S 11 (4 * p + 2) - 48) = nI 4 := z
      rw [nI_eq (by omega) (by omega)] at z
      refine And.intro (vp_in_nI (by omega) (by decide)) ?_
      refine And.intro (vp_in_nI (by omega) (by decide)) ?_
      have e4 : nI (gct S 4 p) = Int32.ofInt 1 <<< (nI (S 11 (4 * p + 2) - 48) &&& 31) := by
        rw [fk_m _ (by omega)]
        rfl
      rw [e4] at go
      show qAt _ 14 _ [] (qI (qI (qI (qI g 16 p (nI (kdN (S 11 (4 * p))))) 17 p (nI (S 11 (4 * p + 1) - 48))) 18 (nI p).toNatClampNeg (Int32.ofInt 1 <<< (nI (S 11 (4 * p + 2) - 48) &&& 31))) 19 (nI p).toNatClampNeg 0)
      rw [ec]
      exact go
def ctE (g : qH) (v : Int32) : qH := qI (qI (qI (qI (qI (qI (qI g 15 0 v) 15 7 0) 15 8 0) 15 9 0) 15 10 0) 15 11 0) 15 16 0
theorem ctE_o {g : qH} {v : Int32} {a : Nat} (ha : a ≠ 15) : (ctE g v).1 a = g.1 a := by
  unfold ctE
  rw [qI_ne ha, qI_ne ha, qI_ne ha, qI_ne ha, qI_ne ha, qI_ne ha, qI_ne ha]
theorem m_court (hM : RM h S) (hG : RG S) (hk : ∀ h', Fr lM h h' → RM h' (uCourt S) → K (some (.int (aCourt S))) h') : qCall (d + 5) 84 [.ref 15] h K := by
  unfold uCourt aCourt at hk
  refine call_wp (n := 20) (cut := [14]) _ (by decide) (Nat.lt_succ_self _) rfl rfl (Nat.le_of_ble_eq_true rfl) rfl ?_
  refine m_read hM.pg hG.pg (fun g f w18 w19 => ?_)
  have hMg := hM.rd f
  cases hw : gwh (S 11) (S 10 0) with
  | false =>
    rw [hw] at w18
    simp only [hw] at hk
    refine And.intro (fun _ => ?_) (fun c => absurd (by show g.1 15 18 = 0; rw [w18]; rfl) c)
    exact hk g (f.1.mono (by decide)) hMg
  | true =>
    have w19 := w19 hw
    rw [hw] at w18
    simp only [if_pos hw] at hk
    obtain ⟨P, p2, p4, eL, hq, hd⟩ := gwh_i hG.pg.1 hw
    have h10 := hG.pg.1
    have eP : S 10 0 / 4 - 1 = P := by omega
    have eP2 : gct S 0 0 = P := eP
    have eg : gfa (S 11) 0 (S 10 0) = 4 * P + 4 := by
      have := hw
      unfold gwh at this
      simp only [Bool.and_eq_true, decide_eq_true_eq] at this
      omega
    refine And.intro (fun c => absurd (show g.1 15 18 = 0 from c) (by rw [w18]; decide)) (fun _ => ?_)
    show qAt _ 14 [some (.ref 15), some (.int (nI (gfa (S 11) 0 (S 10 0)))), some (.int (nI 0)), none] [] (qI g 15 1 (g.1 15 19))
    rw [eg, w19, eP]
    have hpg : pgM (qI g 15 1 (nI P)) S := ⟨hMg.2.2.1, hMg.2.2.2.1⟩
    refine l_ctA (h := qI g 15 1 (nI P)) hpg hG.pg p4 eL hq hd (fun k x y c => ?_) P 0 (by omega) _ none ⟨Fr.rf, fun _ _ _ _ => rfl, rfl, fun q hq => by omega, fun q hq => by omega⟩
    obtain ⟨c1, c2, c3, c4, c5⟩ := c
    have e0 : k.1 15 0 = nI (S 12 1) := by
      rw [c2 0 (by decide) (by decide) (by decide)]
      exact hMg.2.2.2.2.1
    refine at_wp [] 60 (Nat.le_of_ble_eq_true rfl) rfl ?_
    show K (some (.int (k.1 15 1))) (ctE k (k.1 15 0 + 1))
    rw [e0, nI_1, c3]
    have fE : Fr [15] k (ctE k (nI (S 12 1 + 1))) := ((((((Fr.rf.I (by decide)).I (by decide)).I (by decide)).I (by decide)).I (by decide)).I (by decide)).I (by decide)
    have hk := hk (ctE k (nI (S 12 1 + 1))) ((f.1.mono (by decide)).tr ((Fr.I Fr.rf (by decide)).tr ((c1.mono (by decide)).tr (fE.mono (by decide)))))
    rw [eP] at hk
    refine hk ?_
    obtain ⟨x1, x2, x3, x4, x5, ⟨kf, kc, y1, y2, y3, y4, y5⟩, x7⟩ := hMg
    have ek : ∀ s, s ≠ 0 → s ≠ 7 → s ≠ 8 → s ≠ 9 → s ≠ 10 → s ≠ 11 → s ≠ 16 → (ctE k (nI (S 12 1 + 1))).1 15 s = k.1 15 s := fun s h0 h7 h8 h9 h10 h11 h16 => by simp [ctE, qI, h0, h7, h8, h9, h10, h11, h16]
    have eo : ∀ s, s ≠ 0 → s ≠ 7 → s ≠ 8 → s ≠ 9 → s ≠ 10 → s ≠ 11 → s ≠ 16 → s ≠ 1 → s ≠ 18 → s ≠ 19 → (ctE k (nI (S 12 1 + 1))).1 15 s = g.1 15 s := fun s h0 h7 h8 h9 h10 h11 h16 h1 h18 h19 => by
      rw [ek s h0 h7 h8 h9 h10 h11 h16, c2 s h1 h18 h19, qI_get, if_neg (fun z => h1 z.2)]
    refine ⟨⟨?_, fun p hp => ?_, fun j hj => ?_, rfl, rfl, rfl, rfl, rfl, fun i hi => absurd hi (Nat.not_lt_zero i)⟩, ?_, rfl, fun i hi => absurd hi (Nat.not_lt_zero i), rfl, ⟨kf, kc, ?_, y2, ?_, Nat.le_succ_of_le y4, ?_⟩, fun z => absurd (show (0 : Nat) = 1 from z) (by decide)⟩
    · rw [ek 1 (by decide) (by decide) (by decide) (by decide) (by decide) (by decide) (by decide), c3, eP2]
    · have hp : p < P := by omega
      rw [ctE_o (by decide), ctE_o (by decide), ctE_o (by decide), ctE_o (by decide)]
      exact c4 p hp
    · rw [ctE_o (by decide)]
      exact c5 j hj
    · rw [eo 15 (by decide) (by decide) (by decide) (by decide) (by decide) (by decide) (by decide) (by decide) (by decide) (by decide)]
      exact x2
    · rw [eo 22 (by decide) (by decide) (by decide) (by decide) (by decide) (by decide) (by decide) (by decide) (by decide) (by decide)]
      exact y1
    · rw [eo 23 (by decide) (by decide) (by decide) (by decide) (by decide) (by decide) (by decide) (by decide) (by decide) (by decide)]
      exact y3
    · refine ⟨fun z => absurd (show (0 : Nat) = 1 from z) (by decide), fun z => ?_⟩
      have : kc = S 12 1 + 1 := z.2
      omega
end QMCO
