/-! ## the reference: a word told, a letter, a question, what is forbidden -/
theorem RM.scene {h h' : qH} {S S' : gS} (hM : RM h S) (e15 : ∀ k, k ≠ 1 → k < 7 ∨ 11 < k → h'.1 15 k = h.1 15 k) (f : ∀ a, a = 24 ∨ 25 < a → h'.1 a = h.1 a) (hR : RMc h' S') (e : ∀ a, a < 4 ∨ 10 ≤ a → S' a = S a) : RM h' S' := by
  obtain ⟨x1, x2, x3, x4, x5, ⟨kf, kc, k1, k2, k3, k4, k5⟩, x7⟩ := hM
  unfold RM RMk
  rw [e 0 (by omega), e 10 (by omega), e 11 (by omega), e 12 (by omega), e 13 (by omega), e 14 (by omega), e 15 (by omega), e 16 (by omega), e 17 (by omega), e 18 (by omega), e 19 (by omega), f 24 (by omega), f 26 (by omega), f 27 (by omega), f 28 (by omega), f 29 (by omega), f 30 (by omega), e15 15 (by omega) (by omega), e15 16 (by omega) (by omega), e15 0 (by omega) (by omega), e15 22 (by omega) (by omega), e15 23 (by omega) (by omega), e15 24 (by omega) (by omega), e15 25 (by omega) (by omega), e15 26 (by omega) (by omega), e15 27 (by omega) (by omega), e15 28 (by omega) (by omega)]
  exact ⟨hR, x2, x3, x4, x5, ⟨kf, kc, k1, k2, k3, k4, k5⟩, x7⟩
theorem RMc.S {h : qH} {S S' : gS} (hM : RMc h S) (e : ∀ a, a < 10 → S' a = S a) : RMc h S' := by
  unfold RMc at hM ⊢
  rw [e 0 (by decide), e 1 (by decide), e 2 (by decide), e 3 (by decide), e 4 (by decide), e 5 (by decide), e 6 (by decide), e 7 (by decide), e 8 (by decide), e 9 (by decide)]
  exact hM
theorem RMc.h {h h' : qH} {S : gS} (hM : RMc h S) (e15 : ∀ k, k = 1 ∨ (7 ≤ k ∧ k ≤ 11) → h'.1 15 k = h.1 15 k) (f : ∀ a, 15 < a → a < 24 → h'.1 a = h.1 a) : RMc h' S := by
  unfold RMc at hM ⊢
  rw [e15 1 (by omega), e15 7 (by omega), e15 8 (by omega), e15 9 (by omega), e15 10 (by omega), e15 11 (by omega), f 16 (by omega) (by omega), f 17 (by omega) (by omega), f 18 (by omega) (by omega), f 19 (by omega) (by omega), f 20 (by omega) (by omega), f 21 (by omega) (by omega), f 22 (by omega) (by omega), f 23 (by omega) (by omega)]
  exact hM
def mor (b : Bool) (x : Int32) : Int32 := match b with
  | true => x
  | false => 0
def mph (h : qH) (f t s : Nat) (hb sb : Bool) : qH :=
  let h1 := qI h 18 (nI t).toNatClampNeg (h.1 18 (nI t).toNatClampNeg ||| (1 <<< (nI s &&& 31)))
  let h2 := qI h1 15 8 (h1.1 15 8 ||| mor hb (1 <<< (nI f &&& 31)))
  let h3 := qI h2 15 9 (h2.1 15 9 ||| mor sb (1 <<< (nI t &&& 31)))
  let h4 := qI h3 19 (nI f).toNatClampNeg (h3.1 19 (nI f).toNatClampNeg + 1)
  qI h4 15 10 (h4.1 15 10 + 1)
theorem mph_fr {h : qH} {f t s : Nat} {hb sb : Bool} : Fr [15, 18, 19] h (mph h f t s hb sb) := ((((Fr.rf.I (by decide)).I (by decide)).I (by decide)).I (by decide)).I (by decide)
section QM5
variable {d : Nat} {h : qH} {K : qK} {S : gS}
theorem mph_rel {f t s : Nat} {hb sb : Bool} (hM : RMc h S) (hB : GB S) (hf : f < S 0 0) (ht : t < S 0 0) (hs : s < 4) (e1 : ghang S f t s = hb) (e2 : (gnew S t s && gking S t) = sb) : RMc (mph h f t s hb sb) (gpass S f t s) := by
  have hn := hB.1
  have ecf : (nI f).toNatClampNeg = f := nI_clamp (by omega)
  have ect : (nI t).toNatClampNeg = t := nI_clamp (by omega)
  obtain ⟨m1, m2, m3, m4, m5, m6, m7, m8, m9⟩ := hM
  have z18 : ∀ p, (mph h f t s hb sb).1 18 p = if p = t then h.1 18 t ||| (1 <<< (nI s &&& 31)) else h.1 18 p := fun p => by
    simp [mph, qI_get, ect]
  have z19 : ∀ p, (mph h f t s hb sb).1 19 p = if p = f then h.1 19 f + 1 else h.1 19 p := fun p => by
    simp [mph, qI_get, ecf]
  have z1 : (mph h f t s hb sb).1 15 1 = h.1 15 1 := by simp [mph, qI_get]
  have z7 : (mph h f t s hb sb).1 15 7 = h.1 15 7 := by simp [mph, qI_get]
  have z8 : (mph h f t s hb sb).1 15 8 = h.1 15 8 ||| mor hb (1 <<< (nI f &&& 31)) := by simp [mph, qI_get]
  have z9 : (mph h f t s hb sb).1 15 9 = h.1 15 9 ||| mor sb (1 <<< (nI t &&& 31)) := by simp [mph, qI_get]
  have z10 : (mph h f t s hb sb).1 15 10 = h.1 15 10 + 1 := by simp [mph, qI_get]
  have z11 : (mph h f t s hb sb).1 15 11 = h.1 15 11 := by simp [mph, qI_get]
  have zf : ∀ a, a ≠ 15 → a ≠ 18 → a ≠ 19 → (mph h f t s hb sb).1 a = h.1 a := fun a h1 h2 h3 => mph_fr.1 a (by simp [h1, h2, h3])
  have or0 : ∀ x, x < 16 → nI x ||| (0 : Int32) = nI x := by decide +kernel
  have go : ∀ a, a < 4 ∨ 7 ≤ a → gpass S f t s a = S a := fun a ha => by
    funext y
    unfold gpass
    rw [if_neg (by omega), if_neg (by omega), if_neg (by omega), if_neg (by omega), if_neg (by omega)]
  have g4 : ∀ p, gpass S f t s 4 p = if p = t then S 4 t ||| 1 <<< s else S 4 p := fun p => by
    unfold gpass
    by_cases e : p = t
    · rw [if_pos ⟨rfl, e⟩, if_pos e]
    · rw [if_neg (fun z => e z.2), if_neg (by omega), if_neg (by omega), if_neg (by omega), if_neg (by omega), if_neg e]
  have g6 : ∀ p, gpass S f t s 6 p = if p = f then S 6 f + 1 else S 6 p := fun p => by
    unfold gpass
    rw [if_neg (by omega), if_neg (by omega), if_neg (by omega), if_neg (by omega)]
    by_cases e : p = f
    · rw [if_pos ⟨rfl, e⟩, if_pos e]
    · rw [if_neg (fun z => e z.2), if_neg e]
  have g52 : gpass S f t s 5 2 = S 5 2 := by
    unfold gpass
    rw [if_neg (by omega), if_neg (by omega), if_neg (by omega), if_neg (by omega), if_neg (by omega)]
  have g54 : gpass S f t s 5 4 = S 5 4 := by
    unfold gpass
    rw [if_neg (by omega), if_neg (by omega), if_neg (by omega), if_neg (by omega), if_neg (by omega)]
  have g53 : gpass S f t s 5 3 = S 5 3 + 1 := by
    unfold gpass
    rw [if_neg (by omega), if_neg (by omega), if_neg (by omega), if_pos ⟨rfl, rfl⟩]
  have g50 : gpass S f t s 5 0 = if hb then S 5 0 ||| 1 <<< f else S 5 0 := by
    unfold gpass
    rw [if_neg (by omega), if_pos ⟨rfl, rfl⟩, e1]
  have g51 : gpass S f t s 5 1 = if sb then S 5 1 ||| 1 <<< t else S 5 1 := by
    unfold gpass
    rw [if_neg (by omega), if_neg (by omega), if_pos ⟨rfl, rfl⟩, e2]
  unfold RMc
  rw [z1, z7, z8, z9, z10, z11, zf 16 (by decide) (by decide) (by decide), zf 17 (by decide) (by decide) (by decide), zf 20 (by decide) (by decide) (by decide), zf 21 (by decide) (by decide) (by decide), zf 22 (by decide) (by decide) (by decide), zf 23 (by decide) (by decide) (by decide), go 0 (by omega), go 1 (by omega), go 2 (by omega), go 3 (by omega), go 7 (by omega), go 8 (by omega), go 9 (by omega), g52, g54, g53, g50, g51, m1, m4, m5, m6, m7, m8]
  refine ⟨rfl, fun p hp => ⟨(m2 p hp).1, (m2 p hp).2.1, ?_, ?_⟩, m3, rfl, ?_, ?_, nI_1 _, rfl, m9⟩
  · rw [z18, g4]
    by_cases e : p = t
    · rw [if_pos e, if_pos e, (m2 t ht).2.2.1, bit_or _ (hB.2.1 t ht).2.2 s hs]
    · rw [if_neg e, if_neg e]
      exact (m2 p hp).2.2.1
  · rw [z19, g6]
    by_cases e : p = f
    · rw [if_pos e, if_pos e, (m2 f hf).2.2.2]
      exact nI_1 _
    · rw [if_neg e, if_neg e]
      exact (m2 p hp).2.2.2
  · cases hb
    · exact or0 _ hB.2.2.2.1
    · exact bit_or _ hB.2.2.2.1 f (by omega)
  · cases sb
    · exact or0 _ hB.2.2.2.2.1
    · exact bit_or _ hB.2.2.2.2.1 t (by omega)
theorem RMc.kn {t s : Nat} (hM : RMc h S) (hB : GB S) (ht : t < S 0 0) (hs : s < 4) : RMc (qI h 18 t (h.1 18 t ||| (1 <<< (nI s &&& 31)))) (sS S 4 t (S 4 t ||| 1 <<< s)) := by
  obtain ⟨m1, m2, m3, m4, m5, m6, m7, m8, m9⟩ := hM
  have e : ∀ a, a ≠ 18 → (qI h 18 t (h.1 18 t ||| (1 <<< (nI s &&& 31)))).1 a = h.1 a := fun a ha => qI_ne ha
  have g : ∀ a, a ≠ 4 → sS S 4 t (S 4 t ||| 1 <<< s) a = S a := fun a ha => sS_ne ha
  unfold RMc
  rw [e 15 (by decide), e 16 (by decide), e 17 (by decide), e 19 (by decide), e 20 (by decide), e 21 (by decide), e 22 (by decide), e 23 (by decide), g 0 (by decide), g 1 (by decide), g 2 (by decide), g 3 (by decide), g 5 (by decide), g 6 (by decide), g 7 (by decide), g 8 (by decide), g 9 (by decide)]
  refine ⟨m1, fun p hp => ⟨(m2 p hp).1, (m2 p hp).2.1, ?_, (m2 p hp).2.2.2⟩, m3, m4, m5, m6, m7, m8, m9⟩
  rw [qI_get]
  by_cases z : p = t
  · rw [if_pos ⟨rfl, z⟩, z, sS_eq, (m2 t ht).2.2.1, bit_or _ (hB.2.1 t ht).2.2 s hs]
  · rw [if_neg (fun w => z w.2), sS_nb z]
    exact (m2 p hp).2.2.1
theorem GB.kn {t s : Nat} (hB : GB S) (ht : t < S 0 0) (hs : s < 4) : GB (sS S 4 t (S 4 t ||| 1 <<< s)) := by
  have g : ∀ a, a ≠ 4 → sS S 4 t (S 4 t ||| 1 <<< s) a = S a := fun a ha => sS_ne ha
  unfold GB
  rw [g 0 (by decide), g 1 (by decide), g 2 (by decide), g 3 (by decide), g 5 (by decide)]
  refine ⟨hB.1, fun p hp => ⟨(hB.2.1 p hp).1, (hB.2.1 p hp).2.1, ?_⟩, hB.2.2⟩
  by_cases z : p = t
  · rw [z, sS_eq]
    exact bit_or_lt _ (hB.2.1 t ht).2.2 s hs
  · rw [sS_nb z]
    exact (hB.2.1 p hp).2.2
theorem ginf_kn {t s p x : Nat} : ginf (sS S 4 t (S 4 t ||| 1 <<< s)) p x = ginf S p x := by
  unfold ginf gtog
  rw [show sS S 4 t (S 4 t ||| 1 <<< s) 1 = S 1 from sS_ne (by decide), show sS S 4 t (S 4 t ||| 1 <<< s) 2 = S 2 from sS_ne (by decide), show sS S 4 t (S 4 t ||| 1 <<< s) 3 = S 3 from sS_ne (by decide)]
theorem gking_kn {t s p : Nat} : gking (sS S 4 t (S 4 t ||| 1 <<< s)) p = gking S p := by
  unfold gking
  rw [show sS S 4 t (S 4 t ||| 1 <<< s) 1 = S 1 from sS_ne (by decide)]
theorem m_say {f t s : Nat} (hM : RMc h S) (hB : GB S) (hf : f < S 0 0) (ht : t < S 0 0) (hs : s < 4) (hk : ∀ h', Fr [15, 18, 19] h h' → (∀ k, k ≠ 8 → k ≠ 9 → k ≠ 10 → h'.1 15 k = h.1 15 k) → RMc h' (gpass S f t s) → K (some (.int (nI (gpassA S f t s)))) h') : qCall (d + 5) 98 [.ref 15, .int (nI f), .int (nI t), .int (nI s)] h K := by
  have hn := hB.1
  have ect : (nI t).toNatClampNeg = t := nI_clamp (by omega)
  have hM1 := hM.kn hB ht hs
  have hB1 := hB.kn ht hs
  have ht1 : t < sS S 4 t (S 4 t ||| 1 <<< s) 0 0 := by rw [sS_ne (by decide)]; exact ht
  have e41 : ginf (sS S 4 t (S 4 t ||| 1 <<< s)) t (sS S 4 t (S 4 t ||| 1 <<< s) 4 t) = ginf S t (S 4 t ||| 1 <<< s) := by rw [ginf_kn, sS_eq]
  have e15 : ∀ hb sb k, k ≠ 8 → k ≠ 9 → k ≠ 10 → (mph h f t s hb sb).1 15 k = h.1 15 k := fun hb sb k h8 h9 h10 => by simp [mph, qI_get, h8, h9, h10]
  refine call_wp (n := 160) (cut := []) _ (by decide) (Nat.lt_succ_self _) rfl rfl (Nat.le_of_ble_eq_true rfl) rfl ?_
  refine m_isHanging hM hB hf ht hs (fun b1 => ?_) (fun b1 => ?_)
  · refine m_infers hM hB ht (fun b2 => ?_) (fun b2 => ?_)
    · refine And.intro (vp_in_nI (by omega) (by decide)) ?_
      refine And.intro (vp_in_nI (by omega) (by decide)) ?_
      show qCall _ 90 [.ref 15, .int (nI t)] (qI h 18 (nI t).toNatClampNeg (h.1 18 (nI t).toNatClampNeg ||| (1 <<< (nI s &&& 31)))) _
      have hM2 : RMc (qI h 18 (nI t).toNatClampNeg (h.1 18 (nI t).toNatClampNeg ||| (1 <<< (nI s &&& 31)))) (sS S 4 t (S 4 t ||| 1 <<< s)) := by rw [ect]; exact hM1
      refine m_infers hM2 hB1 ht1 (fun b3 => ?_) (fun b3 => ?_)
      · rw [e41] at b3
        have en : gnew S t s = false := by simp [gnew, b2, b3]
        refine And.intro (fun c => absurd c (by decide)) (fun _ => ?_)
        refine And.intro (fun c => absurd c (by decide)) (fun _ => ?_)
        refine And.intro (fun _ => ?_) (fun c => absurd rfl c)
        refine And.intro (fun c => absurd c (by decide)) (fun _ => ?_)
        refine And.intro (fun _ => ?_) (fun c => absurd rfl c)
        refine And.intro (vp_in_nI (by omega) (by decide)) ?_
        refine And.intro (vp_in_nI (by omega) (by decide)) ?_
        refine And.intro (fun _ => ?_) (fun c => absurd rfl c)
        refine And.intro (fun c => absurd c (by decide)) (fun _ => ?_)
        refine And.intro (fun _ => ?_) (fun c => absurd rfl c)
        show K (some (.int _)) (mph h f t s true false)
        exact kI (hk _ mph_fr (e15 _ _) (mph_rel (hb := true) (sb := false) hM hB hf ht hs b1 (by rw [en]; rfl))) (by unfold gpassA; rw [b1, en]; rfl)
      · rw [e41] at b3
        have en : gnew S t s = false := by simp [gnew, b2, b3]
        refine And.intro (fun _ => ?_) (fun c => absurd rfl c)
        refine And.intro (fun _ => ?_) (fun c => absurd rfl c)
        refine And.intro (fun c => absurd c (by decide)) (fun _ => ?_)
        refine And.intro (fun _ => ?_) (fun c => absurd rfl c)
        refine And.intro (vp_in_nI (by omega) (by decide)) ?_
        refine And.intro (vp_in_nI (by omega) (by decide)) ?_
        refine And.intro (fun _ => ?_) (fun c => absurd rfl c)
        refine And.intro (fun c => absurd c (by decide)) (fun _ => ?_)
        refine And.intro (fun _ => ?_) (fun c => absurd rfl c)
        show K (some (.int _)) (mph h f t s true false)
        exact kI (hk _ mph_fr (e15 _ _) (mph_rel (hb := true) (sb := false) hM hB hf ht hs b1 (by rw [en]; rfl))) (by unfold gpassA; rw [b1, en]; rfl)
    · refine And.intro (vp_in_nI (by omega) (by decide)) ?_
      refine And.intro (vp_in_nI (by omega) (by decide)) ?_
      show qCall _ 90 [.ref 15, .int (nI t)] (qI h 18 (nI t).toNatClampNeg (h.1 18 (nI t).toNatClampNeg ||| (1 <<< (nI s &&& 31)))) _
      have hM2 : RMc (qI h 18 (nI t).toNatClampNeg (h.1 18 (nI t).toNatClampNeg ||| (1 <<< (nI s &&& 31)))) (sS S 4 t (S 4 t ||| 1 <<< s)) := by rw [ect]; exact hM1
      refine m_infers hM2 hB1 ht1 (fun b3 => ?_) (fun b3 => ?_)
      · rw [e41] at b3
        have en : gnew S t s = true := by simp [gnew, b2, b3]
        refine And.intro (fun c => absurd c (by decide)) (fun _ => ?_)
        refine And.intro (fun _ => ?_) (fun c => absurd rfl c)
        refine And.intro (fun c => absurd c (by decide)) (fun _ => ?_)
        refine m_isKing hM2 hB1 ht1 (fun bk => ?_) (fun bk => ?_)
        · rw [gking_kn] at bk
          refine And.intro (fun c => absurd c (by decide)) (fun _ => ?_)
          refine And.intro (fun c => absurd c (by decide)) (fun _ => ?_)
          refine And.intro (fun c => absurd c (by decide)) (fun _ => ?_)
          refine And.intro (vp_in_nI (by omega) (by decide)) ?_
          refine And.intro (vp_in_nI (by omega) (by decide)) ?_
          refine And.intro (fun c => absurd c (by decide)) (fun _ => ?_)
          refine And.intro (fun c => absurd c (by decide)) (fun _ => ?_)
          refine And.intro (fun c => absurd c (by decide)) (fun _ => ?_)
          show K (some (.int _)) (mph h f t s true true)
          exact kI (hk _ mph_fr (e15 _ _) (mph_rel (hb := true) (sb := true) hM hB hf ht hs b1 (by rw [en, bk]; rfl))) (by unfold gpassA; rw [b1, en, bk]; rfl)
        · rw [gking_kn] at bk
          refine And.intro (fun _ => ?_) (fun c => absurd rfl c)
          refine And.intro (fun c => absurd c (by decide)) (fun _ => ?_)
          refine And.intro (fun _ => ?_) (fun c => absurd rfl c)
          refine And.intro (vp_in_nI (by omega) (by decide)) ?_
          refine And.intro (vp_in_nI (by omega) (by decide)) ?_
          refine And.intro (fun c => absurd c (by decide)) (fun _ => ?_)
          refine And.intro (fun c => absurd c (by decide)) (fun _ => ?_)
          refine And.intro (fun _ => ?_) (fun c => absurd rfl c)
          show K (some (.int _)) (mph h f t s true false)
          exact kI (hk _ mph_fr (e15 _ _) (mph_rel (hb := true) (sb := false) hM hB hf ht hs b1 (by rw [en, bk]; rfl))) (by unfold gpassA; rw [b1, en, bk]; rfl)
      · rw [e41] at b3
        have en : gnew S t s = false := by simp [gnew, b2, b3]
        refine And.intro (fun _ => ?_) (fun c => absurd rfl c)
        refine And.intro (fun _ => ?_) (fun c => absurd rfl c)
        refine And.intro (fun c => absurd c (by decide)) (fun _ => ?_)
        refine And.intro (fun _ => ?_) (fun c => absurd rfl c)
        refine And.intro (vp_in_nI (by omega) (by decide)) ?_
        refine And.intro (vp_in_nI (by omega) (by decide)) ?_
        refine And.intro (fun _ => ?_) (fun c => absurd rfl c)
        refine And.intro (fun c => absurd c (by decide)) (fun _ => ?_)
        refine And.intro (fun _ => ?_) (fun c => absurd rfl c)
        show K (some (.int _)) (mph h f t s true false)
        exact kI (hk _ mph_fr (e15 _ _) (mph_rel (hb := true) (sb := false) hM hB hf ht hs b1 (by rw [en]; rfl))) (by unfold gpassA; rw [b1, en]; rfl)
  · refine m_infers hM hB ht (fun b2 => ?_) (fun b2 => ?_)
    · refine And.intro (vp_in_nI (by omega) (by decide)) ?_
      refine And.intro (vp_in_nI (by omega) (by decide)) ?_
      show qCall _ 90 [.ref 15, .int (nI t)] (qI h 18 (nI t).toNatClampNeg (h.1 18 (nI t).toNatClampNeg ||| (1 <<< (nI s &&& 31)))) _
      have hM2 : RMc (qI h 18 (nI t).toNatClampNeg (h.1 18 (nI t).toNatClampNeg ||| (1 <<< (nI s &&& 31)))) (sS S 4 t (S 4 t ||| 1 <<< s)) := by rw [ect]; exact hM1
      refine m_infers hM2 hB1 ht1 (fun b3 => ?_) (fun b3 => ?_)
      · rw [e41] at b3
        have en : gnew S t s = false := by simp [gnew, b2, b3]
        refine And.intro (fun c => absurd c (by decide)) (fun _ => ?_)
        refine And.intro (fun c => absurd c (by decide)) (fun _ => ?_)
        refine And.intro (fun _ => ?_) (fun c => absurd rfl c)
        refine And.intro (fun _ => ?_) (fun c => absurd rfl c)
        refine And.intro (fun _ => ?_) (fun c => absurd rfl c)
        refine And.intro (vp_in_nI (by omega) (by decide)) ?_
        refine And.intro (vp_in_nI (by omega) (by decide)) ?_
        refine And.intro (fun _ => ?_) (fun c => absurd rfl c)
        refine And.intro (fun _ => ?_) (fun c => absurd rfl c)
        refine And.intro (fun _ => ?_) (fun c => absurd rfl c)
        show K (some (.int _)) (mph h f t s false false)
        exact kI (hk _ mph_fr (e15 _ _) (mph_rel (hb := false) (sb := false) hM hB hf ht hs b1 (by rw [en]; rfl))) (by unfold gpassA; rw [b1, en]; rfl)
      · rw [e41] at b3
        have en : gnew S t s = false := by simp [gnew, b2, b3]
        refine And.intro (fun _ => ?_) (fun c => absurd rfl c)
        refine And.intro (fun _ => ?_) (fun c => absurd rfl c)
        refine And.intro (fun _ => ?_) (fun c => absurd rfl c)
        refine And.intro (fun _ => ?_) (fun c => absurd rfl c)
        refine And.intro (vp_in_nI (by omega) (by decide)) ?_
        refine And.intro (vp_in_nI (by omega) (by decide)) ?_
        refine And.intro (fun _ => ?_) (fun c => absurd rfl c)
        refine And.intro (fun _ => ?_) (fun c => absurd rfl c)
        refine And.intro (fun _ => ?_) (fun c => absurd rfl c)
        show K (some (.int _)) (mph h f t s false false)
        exact kI (hk _ mph_fr (e15 _ _) (mph_rel (hb := false) (sb := false) hM hB hf ht hs b1 (by rw [en]; rfl))) (by unfold gpassA; rw [b1, en]; rfl)
    · refine And.intro (vp_in_nI (by omega) (by decide)) ?_
      refine And.intro (vp_in_nI (by omega) (by decide)) ?_
      show qCall _ 90 [.ref 15, .int (nI t)] (qI h 18 (nI t).toNatClampNeg (h.1 18 (nI t).toNatClampNeg ||| (1 <<< (nI s &&& 31)))) _
      have hM2 : RMc (qI h 18 (nI t).toNatClampNeg (h.1 18 (nI t).toNatClampNeg ||| (1 <<< (nI s &&& 31)))) (sS S 4 t (S 4 t ||| 1 <<< s)) := by rw [ect]; exact hM1
      refine m_infers hM2 hB1 ht1 (fun b3 => ?_) (fun b3 => ?_)
      · rw [e41] at b3
        have en : gnew S t s = true := by simp [gnew, b2, b3]
        refine And.intro (fun c => absurd c (by decide)) (fun _ => ?_)
        refine And.intro (fun _ => ?_) (fun c => absurd rfl c)
        refine And.intro (fun c => absurd c (by decide)) (fun _ => ?_)
        refine m_isKing hM2 hB1 ht1 (fun bk => ?_) (fun bk => ?_)
        · rw [gking_kn] at bk
          refine And.intro (fun c => absurd c (by decide)) (fun _ => ?_)
          refine And.intro (fun _ => ?_) (fun c => absurd rfl c)
          refine And.intro (fun c => absurd c (by decide)) (fun _ => ?_)
          refine And.intro (vp_in_nI (by omega) (by decide)) ?_
          refine And.intro (vp_in_nI (by omega) (by decide)) ?_
          refine And.intro (fun c => absurd c (by decide)) (fun _ => ?_)
          refine And.intro (fun _ => ?_) (fun c => absurd rfl c)
          refine And.intro (fun c => absurd c (by decide)) (fun _ => ?_)
          show K (some (.int _)) (mph h f t s false true)
          exact kI (hk _ mph_fr (e15 _ _) (mph_rel (hb := false) (sb := true) hM hB hf ht hs b1 (by rw [en, bk]; rfl))) (by unfold gpassA; rw [b1, en, bk]; rfl)
        · rw [gking_kn] at bk
          refine And.intro (fun _ => ?_) (fun c => absurd rfl c)
          refine And.intro (fun _ => ?_) (fun c => absurd rfl c)
          refine And.intro (fun _ => ?_) (fun c => absurd rfl c)
          refine And.intro (vp_in_nI (by omega) (by decide)) ?_
          refine And.intro (vp_in_nI (by omega) (by decide)) ?_
          refine And.intro (fun c => absurd c (by decide)) (fun _ => ?_)
          refine And.intro (fun _ => ?_) (fun c => absurd rfl c)
          refine And.intro (fun _ => ?_) (fun c => absurd rfl c)
          show K (some (.int _)) (mph h f t s false false)
          exact kI (hk _ mph_fr (e15 _ _) (mph_rel (hb := false) (sb := false) hM hB hf ht hs b1 (by rw [en, bk]; rfl))) (by unfold gpassA; rw [b1, en, bk]; rfl)
      · rw [e41] at b3
        have en : gnew S t s = false := by simp [gnew, b2, b3]
        refine And.intro (fun _ => ?_) (fun c => absurd rfl c)
        refine And.intro (fun _ => ?_) (fun c => absurd rfl c)
        refine And.intro (fun _ => ?_) (fun c => absurd rfl c)
        refine And.intro (fun _ => ?_) (fun c => absurd rfl c)
        refine And.intro (vp_in_nI (by omega) (by decide)) ?_
        refine And.intro (vp_in_nI (by omega) (by decide)) ?_
        refine And.intro (fun _ => ?_) (fun c => absurd rfl c)
        refine And.intro (fun _ => ?_) (fun c => absurd rfl c)
        refine And.intro (fun _ => ?_) (fun c => absurd rfl c)
        show K (some (.int _)) (mph h f t s false false)
        exact kI (hk _ mph_fr (e15 _ _) (mph_rel (hb := false) (sb := false) hM hB hf ht hs b1 (by rw [en]; rfl))) (by unfold gpassA; rw [b1, en]; rfl)
theorem m_tell {f t s : Int32} (hM : RM h S) (hG : RG S) (hk : ∀ h', Fr lM h h' → RM h' (uTell S f t s) → K (some (.int (aTell S f t s))) h') : qCall (d + 6) 99 [.ref 15, .int f, .int t, .int s] h K := by
  have hB := hG.1
  have hn0 := hB.1
  unfold aTell uTell at hk
  rw [iTell_pair] at hk
  refine call_wp (n := 60) (cut := []) _ (by decide) (Nat.lt_succ_self _) rfl rfl (Nat.le_of_ble_eq_true rfl) rfl ?_
  refine m_isOne hM.1 hB (fun p hp ep => ?_) (fun hp => ?_)
  · subst ep
    refine And.intro (fun c => absurd c (by decide)) (fun _ => ?_)
    refine m_isOne hM.1 hB (fun q hq eq => ?_) (fun hq => ?_)
    · subst eq
      refine And.intro (fun c => absurd c (by decide)) (fun _ => ?_)
      refine And.intro (fun c1 => ?_) (fun c1 => ?_)
      · have c1 := (nI_eq (by omega) (by omega)).mp c1
        rw [iPair_none hB (fun p' q' hp' hq' hne e1 e2 => by
          rw [nI_eq (by omega) (by omega)] at e1 e2
          omega)] at hk
        exact hk h Fr.rf hM
      · have c1 : ¬ p = q := fun z => c1 (by rw [z])
        rw [iPair_some hB hp hq c1] at hk
        refine m_isSign hM.1 hB (fun n hn h0 es => ?_) (fun hs => ?_)
        · subst es
          rw [isg_some h0 hn] at hk
          dsimp only at hk
          refine And.intro (fun c => absurd c (by decide)) (fun _ => ?_)
          refine m_canTell hM.1 hB hp hq hn (fun b1 => ?_) (fun b1 => ?_)
          · refine And.intro (fun c => absurd c (by decide)) (fun _ => ?_)
            rw [if_pos b1, if_pos b1] at hk
            refine m_say hM.1 hB hp hq hn (fun h' hf h15 hR => ?_)
            exact hk h' (hf.mono (by decide)) (hM.scene (fun k h1 h2 => h15 k (by omega) (by omega) (by omega)) (fun a ha => hf.1 a (by simp; omega)) hR (fun a ha => by
              funext y
              unfold gpass
              rw [if_neg (by omega), if_neg (by omega), if_neg (by omega), if_neg (by omega), if_neg (by omega)]))
          · refine And.intro (fun _ => ?_) (fun c => absurd rfl c)
            rw [if_neg (by rw [b1]; decide), if_neg (by rw [b1]; decide)] at hk
            exact hk h Fr.rf hM
        · rw [isg_none hs] at hk
          refine And.intro (fun _ => ?_) (fun c => absurd rfl c)
          exact hk h Fr.rf hM
    · refine And.intro (fun _ => ?_) (fun c => absurd rfl c)
      rw [iPair_none hB (fun p' q' hp' hq' hne e1 e2 => hq q' hq' e2)] at hk
      exact hk h Fr.rf hM
  · refine And.intro (fun _ => ?_) (fun c => absurd rfl c)
    rw [iPair_none hB (fun p' q' hp' hq' hne e1 e2 => hp p' hp' e1)] at hk
    exact hk h Fr.rf hM
end QM5
