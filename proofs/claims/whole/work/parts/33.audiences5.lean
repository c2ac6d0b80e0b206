/-! ## audiences: the reference's answer, end -/
def auA (S : gS) (n s : Nat) (w : Int32) : Int32 := if w = 0 then nI (gpop ((gau S s n).1 5 0)) else if w = 1 then nI (ginfN (gau S s n).1 (S 0 0)) else nI (gau S s n).2
section QAU5
variable {d : Nat} {h : qH} {K : qK} {S : gS}
theorem m_audiencesNow {n s : Nat} {w : Int32} (hM : RM h S) (hG : RG S) (h0 : 0 < S 0 0) (hs : s < 2147483648) (hN : n < 100) (hk : ∀ h', (∀ a, a ∉ lM → h'.1 a = h.1 a) → RM h' S → K (some (.int (auA S n s w))) h') : qCall (d + 5) 119 [.ref 15, .int (nI n), .int (nI s), .int w] h K := by
  have hB := hG.1
  have hn0 := hB.1
  refine call_wp (n := 40) (cut := [11]) _ (by decide) (Nat.lt_succ_self _) rfl rfl (Nat.le_of_ble_eq_true rfl) rfl ?_
  refine m_save (fun h1 f1 s1 => ?_)
  have e15 : h1.1 15 = h.1 15 := f1.1 15 (by decide)
  have base : auM h S s 0 h1 := ⟨fun a a1 a2 a3 => f1.1 a (by simp; exact a3), fun k _ => by rw [e15], s1, by
    have : RMc h1 S := hM.1.h (fun k _ => by rw [e15]) (fun a a1 a2 => f1.1 a (by simp; omega))
    refine this.S (fun a ha => ?_)
    show gmk S S a = S a
    funext y
    unfold gmk
    split
    · rename_i z
      rw [z]
    · split
      · rename_i z
        rw [z.1, z.2]
      · rfl⟩
  have go := l_am (K := K) (d := d) (s := s) (N := n) (u := some (.int (nI s))) (w := some (.int w)) (we := some (.int (h1.1 15 8))) hM hG h0 hs hN (fun g x y z hc => ?_) ⟨_, rfl⟩ n 0 (by omega) h1 none none none base
  · rw [show (gau S s 0).2 = s from rfl, ← nI_l (by omega)] at go
    exact go
  · obtain ⟨b1, b2, b3, b4⟩ := gau_ok hB h0 hs n
    obtain ⟨c1, c2, c3, c4⟩ := id hc
    have bB : GB (gmk S (gau S s n).1) := gmk_B hB b1 b2
    have q4 : gmk S (gau S s n).1 4 = (gau S s n).1 4 := gmk_4
    have q50 : gmk S (gau S s n).1 5 0 = (gau S s n).1 5 0 := gmk_50
    have q0' : gmk S (gau S s n).1 0 0 = S 0 0 := by rw [gmk_o (by decide) (by decide)]
    have q1 : gmk S (gau S s n).1 1 = (gau S s n).1 1 := by rw [gmk_o (by decide) (by decide), b2 1 (by decide)]
    have q2 : gmk S (gau S s n).1 2 = (gau S s n).1 2 := by rw [gmk_o (by decide) (by decide), b2 2 (by decide)]
    have q3 : gmk S (gau S s n).1 3 = (gau S s n).1 3 := by rw [gmk_o (by decide) (by decide), b2 3 (by decide)]
    refine at_wp [] 60 (Nat.le_of_ble_eq_true rfl) rfl ?_
    show qCall _ 75 [.int (g.1 15 8)] (qJ g 15 21 (lN (gau S s n).2)) _
    rw [c4.2.2.2.2.1, q50]
    refine m_size b1.2.2.2.1 ?_
    refine m_inferring (h := qJ g 15 21 _) (S := gmk S (gau S s n).1) c4 bB ?_
    rw [ginfN_c q1 q2 q3 q4, q0']
    refine m_load (h := qJ (qI g 15 8 (h1.1 15 8)) 15 21 (lN (gau S s n).2)) (fun h3 f3 s3 => ?_)
    have g15 : h3.1 15 = h.1 15 := by
      rw [f3.1 15 (by decide)]
      funext k
      show (qI g 15 8 (h1.1 15 8)).1 15 k = h.1 15 k
      rw [qI_get]
      by_cases z : k = 8
      · rw [if_pos ⟨rfl, z⟩, e15, z]
      · rw [if_neg (fun v => z v.2)]
        exact c2 k z
    have go : ∀ a, a ≠ 15 → a ≠ 18 → a ≠ 25 → h3.1 a = h.1 a := fun a a1 a2 a3 => by
      rw [f3.1 a (by simp; exact a2)]
      show (qI g 15 8 (h1.1 15 8)).1 a = h.1 a
      rw [qI_ne a1]
      exact c1 a a1 a2 a3
    have g18 : ∀ p, p < 4 → h3.1 18 p = h.1 18 p := fun p hp => by
      rw [s3 p hp]
      show (qI g 15 8 (h1.1 15 8)).1 25 p = h.1 18 p
      rw [qI_ne (by decide)]
      exact c3 p hp
    have hR : RMc h3 S := by
      obtain ⟨m1, m2, m3, m4, m5, m6, m7, m8, m9⟩ := hM.1
      unfold RMc
      rw [g15, go 16 (by decide) (by decide) (by decide), go 17 (by decide) (by decide) (by decide), go 19 (by decide) (by decide) (by decide), go 20 (by decide) (by decide) (by decide), go 21 (by decide) (by decide) (by decide), go 22 (by decide) (by decide) (by decide), go 23 (by decide) (by decide) (by decide)]
      exact ⟨m1, fun p hp => ⟨(m2 p hp).1, (m2 p hp).2.1, by rw [g18 p (by omega)]; exact (m2 p hp).2.2.1, (m2 p hp).2.2.2⟩, m3, m4, m5, m6, m7, m8, m9⟩
    have hk := hk h3 (fun a ha => go a (fun z => ha (by rw [z]; decide)) (fun z => ha (by rw [z]; decide)) (fun z => ha (by rw [z]; decide))) (hM.scene (fun k _ _ => by rw [g15]) (fun a ha => go a (by omega) (by omega) (by omega)) hR (fun a _ => rfl))
    unfold auA at hk
    refine And.intro (fun c7 => ?_) (fun c7 => ?_)
    · have c7 : w = 0 := c7
      rw [if_pos c7] at hk
      exact hk
    · have c7 : ¬ w = 0 := c7
      rw [if_neg c7] at hk
      refine And.intro (fun c8 => ?_) (fun c8 => ?_)
      · have c8 : w = 1 := c8
        rw [if_pos c8] at hk
        exact hk
      · have c8 : ¬ w = 1 := c8
        rw [if_neg c8] at hk
        show K (some (.int (h3.2 15 21).toInt32)) h3
        rw [f3.2, qJ_self, lN_i]
        exact hk
theorem m_audiences {t s w : Int32} (hM : RM h S) (hG : RG S) (hk : ∀ h', (∀ a, a ∉ lM → h'.1 a = h.1 a) → RM h' S → K (some (.int (aAud S t s w))) h') : qCall (d + 6) 120 [.ref 15, .int t, .int s, .int w] h K := by
  have hB := hG.1
  have hn0 := hB.1
  have e := hM.1.1
  have bad : ¬ (1 ≤ t ∧ t ≤ 60 ∧ 0 ≤ s ∧ 0 ≤ w ∧ w ≤ 2) → K (some (.int (-102))) h := fun z => by
    have := hk h (fun _ _ => rfl) hM
    unfold aAud at this
    rw [if_neg z] at this
    exact this
  refine call_wp (n := 60) (cut := []) _ (by decide) (Nat.lt_succ_self _) rfl rfl (Nat.le_of_ble_eq_true rfl) rfl ?_
  refine m_within (lo := 1) (hi := 60) (by decide) (by decide) (fun n n1 n2 en => ?_) (fun c1 => ?_)
  · subst en
    refine And.intro (fun c => absurd c (by decide)) (fun _ => ?_)
    refine And.intro (fun c3 => bad (fun z => absurd z.2.2.1 (Int32.not_le.mpr c3))) (fun c3 => ?_)
    obtain ⟨s, rfl, s1⟩ := t_nn (Int32.not_lt.mp c3)
    refine m_within (lo := 0) (hi := 2) (by decide) (by decide) (fun k _ k2 ek => ?_) (fun c4 => ?_)
    · subst ek
      refine And.intro (fun c => absurd c (by decide)) (fun _ => ?_)
      rw [aAud_ok n1 n2 s1 (nI_pos' (by omega)) (nI_le (b := 2) k2 (by decide))] at hk
      refine And.intro (fun c6 => ?_) (fun c6 => ?_)
      · have c6 : h.1 15 1 = nI 0 := c6
        rw [e, nI_eq (by omega) (by omega)] at c6
        simp only [if_pos c6] at hk
        exact hk h (fun _ _ => rfl) hM
      · have c6 : ¬ h.1 15 1 = nI 0 := c6
        rw [e, nI_eq (by omega) (by omega)] at c6
        simp only [if_neg c6] at hk
        exact m_audiencesNow hM hG (by omega) s1 (by omega) hk
    · refine And.intro (fun _ => ?_) (fun c => absurd rfl c)
      refine bad (fun z => ?_)
      obtain ⟨k, rfl, k1⟩ := t_nn z.2.2.2.1
      refine c4 k (Nat.zero_le _) ?_ rfl
      rcases Nat.lt_or_ge 2 k with q | q
      · exact absurd z.2.2.2.2 (nI_ge (a := 2) q (by omega))
      · exact q
  · refine And.intro (fun _ => ?_) (fun c => absurd rfl c)
    refine bad (fun z => ?_)
    obtain ⟨n, rfl, n1, n2⟩ := t_60 z.1 z.2.1
    exact c1 n n1 n2 rfl
end QAU5
