/-! ## audiences: the reference's answer -/
def auM (h : qH) (S : gS) (s n : Nat) (g : qH) : Prop := (∀ a, a ≠ 15 → a ≠ 18 → a ≠ 25 → g.1 a = h.1 a) ∧ (∀ k, k ≠ 8 → g.1 15 k = h.1 15 k) ∧ (∀ p, p < 4 → g.1 25 p = h.1 18 p) ∧ RMc g (gmk S (gau S s n).1)
theorem gmk_pass {S T : gS} {f t s : Nat} (a : Nat) (ha : a < 10) : gmk S (gpass T f t s) a = sS (sS (gmk S T) 5 0 (if ghang T f t s then T 5 0 ||| 1 <<< f else T 5 0)) 4 t (T 4 t ||| 1 <<< s) a := by
  funext y
  by_cases a4 : a = 4
  · subst a4
    rw [gmk_4]
    by_cases yt : y = t
    · subst yt
      rw [sS_eq]
      unfold gpass
      rw [if_pos ⟨rfl, rfl⟩]
    · rw [sS_nb yt, sS_ne (by decide), gmk_4]
      unfold gpass
      rw [if_neg (fun z => yt z.2), if_neg (by omega), if_neg (by omega), if_neg (by omega), if_neg (by omega)]
  · rw [sS_ne a4]
    by_cases a5 : a = 5
    · subst a5
      by_cases y0 : y = 0
      · subst y0
        rw [sS_eq, gmk_50]
        unfold gpass
        rw [if_neg (by omega), if_pos ⟨rfl, rfl⟩]
      · rw [sS_nb y0, gmk_5 y0, gmk_5 y0]
    · rw [sS_ne a5, gmk_o a4 a5, gmk_o a4 a5]
section QAU4
variable {d : Nat} {h : qH} {K : qK} {S : gS}
theorem RMc.ps {T : gS} {f t s : Nat} {v : Int32} (hM : RMc h (gmk S T)) (hB : GB (gmk S T)) (ht : t < S 0 0) (hs : s < 4) (hv : v = nI (if ghang T f t s then T 5 0 ||| 1 <<< f else T 5 0)) : RMc (qI (qI h 15 8 v) 18 t (h.1 18 t ||| (1 <<< (nI s &&& 31)))) (gmk S (gpass T f t s)) := by
  have e4 : gmk S T 4 t = T 4 t := by rw [gmk_4]
  have r1 := RMc.h8 (v := (if ghang T f t s then T 5 0 ||| 1 <<< f else T 5 0)) hM
  rw [← hv] at r1
  have k4 := (hB.2.1 t (by rw [gmk_o (by decide) (by decide)]; exact ht)).2.2
  rw [e4] at k4
  have e0 : gmk S (gpass T f t s) 0 = S 0 := gmk_o (by decide) (by decide)
  refine RMc.S (S := sS (sS (gmk S T) 5 0 (if ghang T f t s then T 5 0 ||| 1 <<< f else T 5 0)) 4 t (T 4 t ||| 1 <<< s)) ?_ gmk_pass
  obtain ⟨m1, m2, m3, m4, m5, m6, m7, m8, m9⟩ := r1
  have e : ∀ a, a ≠ 18 → (qI (qI h 15 8 v) 18 t (h.1 18 t ||| (1 <<< (nI s &&& 31)))).1 a = (qI h 15 8 v).1 a := fun a ha => qI_ne ha
  have g : ∀ a, a ≠ 4 → sS (sS (gmk S T) 5 0 (if ghang T f t s then T 5 0 ||| 1 <<< f else T 5 0)) 4 t (T 4 t ||| 1 <<< s) a = sS (gmk S T) 5 0 (if ghang T f t s then T 5 0 ||| 1 <<< f else T 5 0) a := fun a ha => sS_ne ha
  unfold RMc
  rw [e 15 (by decide), e 16 (by decide), e 17 (by decide), e 19 (by decide), e 20 (by decide), e 21 (by decide), e 22 (by decide), e 23 (by decide), g 0 (by decide), g 1 (by decide), g 2 (by decide), g 3 (by decide), g 5 (by decide), g 6 (by decide), g 7 (by decide), g 8 (by decide), g 9 (by decide)]
  refine ⟨m1, fun p hp => ⟨(m2 p hp).1, (m2 p hp).2.1, ?_, (m2 p hp).2.2.2⟩, m3, m4, m5, m6, m7, m8, m9⟩
  have m2p := (m2 p hp).2.2.1
  rw [qI_ne (by decide), sS_ne (by decide)] at m2p
  rw [qI_get]
  by_cases z : p = t
  · rw [if_pos ⟨rfl, z⟩, z, sS_eq]
    rw [z, e4] at m2p
    rw [m2p, bit_or _ k4 s hs]
  · rw [if_neg (fun w => z w.2), sS_nb z, qI_ne (by decide), sS_ne (by decide)]
    exact m2p
theorem l_am {s N : Nat} {u w we : Option Value} (hM : RM h S) (hG : RG S) (h0 : 0 < S 0 0) (hs : s < 2147483648) (hN : N < 100) (hk : ∀ g x y z, auM h S s N g → qAt (d + 4, 119, some .int, q0, K) 62 [some (.ref 15), some (.int (nI N)), u, w, we, some (.int (nI N)), x, y, z] [] (qJ g 15 21 (lN (gau S s N).2))) (hwe : ∃ v, we = some (.int v)) : ∀ m n, n + m = N → ∀ g x y z, auM h S s n g → qAt (d + 4, 119, some .int, q0, K) 11 [some (.ref 15), some (.int (nI N)), u, w, we, some (.int (nI n)), x, y, z] [] (qJ g 15 21 (lN (gau S s n).2)) := by
  have hB := hG.1
  have hn0 := hB.1
  obtain ⟨wv, rfl⟩ := hwe
  intro m
  induction m with
  | zero =>
    intro n hn g x y z hc
    have hn : n = N := by omega
    subst hn
    refine at_wp [62] 12 (Nat.le_of_ble_eq_true rfl) rfl ?_
    refine And.intro (fun _ => ?_) (fun c => absurd (nI_le (Nat.le_refl _) (by omega)) c)
    exact hk g x y z hc
  | succ m ih =>
    intro n hn g x y z hc
    obtain ⟨b1, b2, b3, b4⟩ := gau_ok hB h0 hs n
    obtain ⟨c1, c2, c3, c4⟩ := id hc
    have e : g.1 15 1 = nI (S 0 0) := by rw [c2 1 (by decide)]; exact hM.1.1
    have e0 : gmk S (gau S s n).1 0 0 = S 0 0 := by rw [gmk_o (by decide) (by decide)]
    have bB : GB (gmk S (gau S s n).1) := gmk_B hB b1 b2
    have q4 : gmk S (gau S s n).1 4 = (gau S s n).1 4 := gmk_4
    have q50 : gmk S (gau S s n).1 5 0 = (gau S s n).1 5 0 := gmk_50
    have q52 : gmk S (gau S s n).1 5 2 = (gau S s n).1 5 2 := by rw [gmk_5 (by decide), b3]
    have q1 : gmk S (gau S s n).1 1 = (gau S s n).1 1 := by rw [gmk_o (by decide) (by decide), b2 1 (by decide)]
    have q2 : gmk S (gau S s n).1 2 = (gau S s n).1 2 := by rw [gmk_o (by decide) (by decide), b2 2 (by decide)]
    have q3 : gmk S (gau S s n).1 3 = (gau S s n).1 3 := by rw [gmk_o (by decide) (by decide), b2 3 (by decide)]
    obtain ⟨F, eF⟩ : ∃ F, F = gdr (gns (gau S s n).2) (S 0 0) := ⟨_, rfl⟩
    obtain ⟨G, eG⟩ : ∃ G, G = gdr (gns (gns (gau S s n).2)) (S 0 0) := ⟨_, rfl⟩
    obtain ⟨Q, eQ⟩ : ∃ Q, Q = gdr (gns (gns (gns (gau S s n).2))) 4 := ⟨_, rfl⟩
    have lF : F < S 0 0 := by rw [eF]; exact Nat.mod_lt _ h0
    have lG : G < S 0 0 := by rw [eG]; exact Nat.mod_lt _ h0
    have lQ : Q < 4 := by rw [eQ]; exact Nat.mod_lt _ (by decide)
    have ecG : (nI G).toNatClampNeg = G := nI_clamp (by omega)
    have st2 : (gau S s (n + 1)).2 = gns (gns (gns (gau S s n).2)) := rfl
    have st1 : (gau S s (n + 1)).1 = (if gcan (gau S s n).1 F G Q then gpass (gau S s n).1 F G Q else (gau S s n).1) := by rw [gau, eF, eG, eQ]; rfl
    refine at_wp [11] 140 (Nat.le_of_ble_eq_true rfl) rfl ?_
    refine And.intro (fun c => absurd c (nI_ge (by omega) (by omega))) (fun _ => ?_)
    show qCall _ 117 [.ref 15, .int (g.1 15 1)] (qJ g 15 21 (lN (gau S s n).2)) _
    rw [e]
    refine m_draw b4 h0 (by omega) ?_
    rw [← eF]
    show qCall _ 117 [.ref 15, .int (g.1 15 1)] (qJ g 15 21 (lN (gns (gau S s n).2))) _
    rw [e]
    refine m_draw (gns_lt _) h0 (by omega) ?_
    rw [← eG]
    show qCall _ 117 [.ref 15, .int (nI 4)] (qJ g 15 21 (lN (gns (gns (gau S s n).2)))) _
    refine m_draw (gns_lt _) (by decide) (by decide) ?_
    rw [← eQ]
    refine m_canTell (h := qJ g 15 21 _) (S := gmk S (gau S s n).1) c4 bB (by rw [e0]; exact lF) (by rw [e0]; exact lG) lQ (fun b => ?_) (fun b => ?_)
    · rw [gcan_c q4 q50] at b
      refine And.intro (fun c => absurd c (by decide)) (fun _ => ?_)
      have fin : ∀ v, v = nI (if ghang (gau S s n).1 F G Q then (gau S s n).1 5 0 ||| 1 <<< F else (gau S s n).1 5 0) → qAt (d + 4, 119, some .int, q0, K) 11 [some (.ref 15), some (.int (nI N)), u, w, some (.int wv), some (.int (nI n + 1)), some (.int (nI F)), some (.int (nI G)), some (.int (nI Q))] [] (qJ (qI (qI g 15 8 v) 18 G (g.1 18 G ||| (1 <<< (nI Q &&& 31)))) 15 21 (lN (gns (gns (gns (gau S s n).2))))) := fun v hv => by
        have := ih (n + 1) (by omega) (qI (qI g 15 8 v) 18 G (g.1 18 G ||| (1 <<< (nI Q &&& 31)))) (some (.int (nI F))) (some (.int (nI G))) (some (.int (nI Q))) ⟨fun a a1 a2 a3 => by rw [qI_ne a2, qI_ne a1]; exact c1 a a1 a2 a3, fun k hk => by rw [qI_ne (by decide), qI_get, if_neg (fun z => hk z.2)]; exact c2 k hk, fun p hp => by rw [qI_ne (by decide), qI_ne (by decide)]; exact c3 p hp, by rw [st1, if_pos b]; exact RMc.ps c4 bB lG lQ hv⟩
        rw [← nI_1, st2] at this
        exact this
      have h8 : g.1 15 8 = nI ((gau S s n).1 5 0) := by rw [c4.2.2.2.2.1, q50]
      have l8 := b1.2.2.2.1
      refine m_isHanging (h := qJ g 15 21 _) (S := gmk S (gau S s n).1) c4 bB (by rw [e0]; exact lF) (by rw [e0]; exact lG) lQ (fun b' => ?_) (fun b' => ?_)
      · rw [ghang_c q1 q2 q3 q4 q52] at b'
        refine And.intro (fun c => absurd c (by decide)) (fun _ => ?_)
        refine And.intro (vp_in_nI (by omega) (by decide)) ?_
        refine And.intro (vp_in_nI (by omega) (by decide)) ?_
        have := fin (g.1 15 8 ||| (1 <<< (nI F &&& 31))) (by rw [if_pos b', h8, bit_or _ l8 F (by omega)])
        rw [← ecG] at this
        rw [ecG] at this
        show qAt _ 11 [some (.ref 15), some (.int (nI N)), u, w, some (.int wv), some (.int (nI n + 1)), some (.int (nI F)), some (.int (nI G)), some (.int (nI Q))] [] (qJ (qI (qI g 15 8 (g.1 15 8 ||| (1 <<< (nI F &&& 31)))) 18 (nI G).toNatClampNeg (g.1 18 (nI G).toNatClampNeg ||| (1 <<< (nI Q &&& 31)))) 15 21 (lN (gns (gns (gns (gau S s n).2)))))
        rw [ecG]
        exact this
      · rw [ghang_c q1 q2 q3 q4 q52] at b'
        refine And.intro (fun _ => ?_) (fun c => absurd rfl c)
        refine And.intro (vp_in_nI (by omega) (by decide)) ?_
        refine And.intro (vp_in_nI (by omega) (by decide)) ?_
        have := fin (g.1 15 8 ||| 0) (by rw [if_neg (by rw [b']; decide), h8, Int32.or_zero])
        show qAt _ 11 [some (.ref 15), some (.int (nI N)), u, w, some (.int wv), some (.int (nI n + 1)), some (.int (nI F)), some (.int (nI G)), some (.int (nI Q))] [] (qJ (qI (qI g 15 8 (g.1 15 8 ||| 0)) 18 (nI G).toNatClampNeg (g.1 18 (nI G).toNatClampNeg ||| (1 <<< (nI Q &&& 31)))) 15 21 (lN (gns (gns (gns (gau S s n).2)))))
        rw [ecG]
        exact this
    · rw [gcan_c q4 q50] at b
      refine And.intro (fun _ => ?_) (fun c => absurd rfl c)
      have := ih (n + 1) (by omega) g (some (.int (nI F))) (some (.int (nI G))) (some (.int (nI Q))) ⟨c1, c2, c3, by rw [st1, if_neg (by rw [b]; decide)]; exact c4⟩
      rw [← nI_1, st2] at this
      exact this
end QAU4
