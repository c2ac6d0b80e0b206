/-! ## the reference: what to ask next, of one, how many -/
theorem gpopN_le (n : Nat) : ∀ k, gpopN n k ≤ k
  | 0 => Nat.le_refl _
  | k + 1 => by
    have := gpopN_le n k
    unfold gpopN
    split <;> omega
theorem bits_v : ∀ P, P < 512 → ∀ v, v < 9 → nI P >>> (nI v &&& 31) &&& 1 = nI (if P.testBit v then 1 else 0) := by decide +kernel
theorem gbq_10 {S : gS} {s P : Nat} : ∀ q, (gbq S s P q).1 = 0 → (gbq S s P q).2 = 10
  | 0, _ => rfl
  | q + 1, h => by
    unfold gbq at h ⊢
    split at h
    · cases h
    · rename_i hc
      rw [if_neg hc]
      exact gbq_10 q h
def aOne (S : gS) (n k : Nat) : Int32 := match k with
  | 0 => nI (S 1 n)
  | 1 => nI (S 2 n)
  | 2 => nI (S 4 n)
  | 3 => nI (gtog S (S 4 n))
  | 4 => b2 (ginf S n (S 4 n))
  | 5 => b2 ((S 5 0).testBit n)
  | 6 => b2 ((S 5 1).testBit n)
  | _ => nI (S 6 n)
theorem aAbout_one {S : gS} {n k : Nat} {w : Int32} (hB : GB S) (hn : n < S 0 0) (hk : k < 8) (hw : ix w 8 = some k) : aAbout S (nI n) w = aOne S n k := by
  unfold aAbout aOne
  rw [ip_some hB hn, hw]
  match k, hk with
  | 0, _ => rfl
  | 1, _ => rfl
  | 2, _ => rfl
  | 3, _ => rfl
  | 4, _ => rfl
  | 5, _ => rfl
  | 6, _ => rfl
  | 7, _ => rfl
section QM4
variable {d : Nat} {h : qH} {K : qK} {S : gS}
theorem l_worst {s P p sg : Nat} (hM : RMc h S) (hB : GB S) (hs : s < 4) (hP : P < 512) (hp : p < S 0 0) (hsg : sg < 16) (hk : K (some (.int (nI (max (gpop (P &&& gamt S p sg s)) (gpop (P &&& (511 ^^^ gamt S p sg s))))))) h) : ∀ m v, v + m = 9 → ∀ w, qAt (d + 2, 114, some .int, q0, K) 11 [some (.ref 15), some (.int (nI s)), some (.int (nI P)), some (.int (nI p)), some (.int (nI sg)), some (.int (h.1 20 s)), some (.int (nI (gpopN (P &&& gamt S p sg s) v))), some (.int (nI (gpopN P v))), some (.int (nI (v + 1)))] [] (qI h 20 s w) := by
  have hn0 := hB.1
  have ec : (nI s).toNatClampNeg = s := nI_clamp (by omega)
  intro m
  induction m with
  | zero =>
    intro v hv w
    have hv : v = 9 := by omega
    subst hv
    have l1 : gpopN (P &&& gamt S p sg s) 9 ≤ 9 := gpopN_le _ 9
    have l2 : gpopN P 9 ≤ 9 := gpopN_le _ 9
    have sp := gpop_split P (gamt S p sg s) 9 (Nat.le_refl 9)
    have ed : nI (gpopN P 9) - nI (gpopN (P &&& gamt S p sg s) 9) = nI (gpop (P &&& (511 ^^^ gamt S p sg s))) := by
      rw [pk_sub (by omega)]
      unfold gpop
      congr 1
      omega
    refine at_wp [] 40 (Nat.le_of_ble_eq_true rfl) rfl ?_
    refine And.intro (fun _ => ?_) (fun c => absurd (by decide) c)
    refine And.intro (vp_in_nI (by omega) (by decide)) ?_
    refine And.intro (fun c1 => ?_) (fun c1 => ?_)
    · have c1 : nI (gpopN (P &&& gamt S p sg s) 9) ≤ nI (gpopN P 9) - nI (gpopN (P &&& gamt S p sg s) 9) := c1
      rw [ed, nI_leI (by omega) (by unfold gpop; have := gpopN_le (P &&& (511 ^^^ gamt S p sg s)) 9; omega)] at c1
      show K (some (.int (nI (gpopN P 9) - nI (gpopN (P &&& gamt S p sg s) 9)))) (qI (qI h 20 s w) 20 (nI s).toNatClampNeg (h.1 20 s))
      rw [ec, qI_qI, qI_self, ed]
      rw [Nat.max_eq_right (by unfold gpop at c1 ⊢; exact c1)] at hk
      exact hk
    · have c1 : ¬ nI (gpopN (P &&& gamt S p sg s) 9) ≤ nI (gpopN P 9) - nI (gpopN (P &&& gamt S p sg s) 9) := c1
      rw [ed, nI_leI (by omega) (by unfold gpop; have := gpopN_le (P &&& (511 ^^^ gamt S p sg s)) 9; omega)] at c1
      show K (some (.int (nI (gpopN (P &&& gamt S p sg s) 9)))) (qI (qI h 20 s w) 20 (nI s).toNatClampNeg (h.1 20 s))
      rw [ec, qI_qI, qI_self]
      rw [Nat.max_eq_left (by unfold gpop at c1 ⊢; omega)] at hk
      exact hk
  | succ m ih =>
    intro v hv w
    have hM' := hM.amt (s := s) (v := v + 1) hs
    have hB' := hB.amt (s := s) (v := v + 1) (by omega)
    have ihn := ih (v + 1) (by omega) (nI (v + 1))
    rw [gpopN, gpopN, ← nI_1 (v + 1), Nat.testBit_and, gamt_bit hs hsg (by omega : v < 9), ← nI_add (gpopN P v), ← nI_add (gpopN (P &&& gamt S p sg s) v)] at ihn
    have ev : nI (if P.testBit v then 1 else 0) = nI P >>> (nI (v + 1) - 1 &&& 31) &&& 1 := by
      rw [nI_pred]
      exact (bits_v P hP v (by omega)).symm
    rw [ev] at ihn
    have hp' : p < sS S 3 s (v + 1) 0 0 := by rw [sS_ne (by decide)]; exact hp
    refine at_wp [11] 90 (Nat.le_of_ble_eq_true rfl) rfl ?_
    refine And.intro (fun c => absurd c (nI_nlt (a := 9) (b := v + 1) (by omega) (by decide))) (fun _ => ?_)
    refine And.intro (vp_in_nI (by omega) (by decide)) ?_
    show qCall _ 74 [.int (nI P), .int (nI (v + 1) - 1)] (qI (qI h 20 s w) 20 (nI s).toNatClampNeg (nI (v + 1))) _
    rw [ec, qI_qI, nI_pred]
    refine m_isIn hP (by omega) (fun b1 => ?_) (fun b1 => ?_)
    · rw [b1, Bool.true_and] at ihn
      refine And.intro (fun c => absurd c (by decide)) (fun _ => ?_)
      refine m_tellAll hM'.2.2.1 hsg ?_
      refine m_enough hM' hB' hp' (fun b2 => ?_) (fun b2 => ?_)
      · refine And.intro (fun c => absurd c (by decide)) (fun _ => ?_)
        rw [b2] at ihn
        exact ihn
      · refine And.intro (fun _ => ?_) (fun c => absurd rfl c)
        rw [b2] at ihn
        exact ihn
    · rw [b1, Bool.false_and] at ihn
      refine And.intro (fun _ => ?_) (fun c => absurd rfl c)
      exact ihn
theorem m_worstBy {s P p sg : Nat} (hM : RMc h S) (hB : GB S) (hs : s < 4) (hP : P < 512) (hp : p < S 0 0) (hsg : sg < 16) (hk : K (some (.int (nI (max (gpop (P &&& gamt S p sg s)) (gpop (P &&& (511 ^^^ gamt S p sg s))))))) h) : qCall (d + 3) 114 [.ref 15, .int (nI s), .int (nI P), .int (nI p), .int (nI sg)] h K := by
  have ec : (nI s).toNatClampNeg = s := nI_clamp (by omega)
  refine call_wp (n := 11) (cut := []) _ (by decide) (Nat.lt_succ_self _) rfl rfl (Nat.le_of_ble_eq_true rfl) rfl ?_
  refine And.intro (vp_in_nI (by omega) (by decide)) ?_
  have := l_worst (d := d) hM hB hs hP hp hsg hk 9 0 rfl (h.1 20 s)
  rw [qI_self] at this
  show qAt _ 11 [some (.ref 15), some (.int (nI s)), some (.int (nI P)), some (.int (nI p)), some (.int (nI sg)), some (.int (h.1 20 (nI s).toNatClampNeg)), some (.int (nI 0)), some (.int (nI 0)), some (.int (nI 1))] [] h
  rw [ec]
  exact this
def gfar (q : Nat × Nat) : Int32 := if q.1 = 0 then nI 268435456 else nI q.2
theorem l_mnext {s P : Nat} (hM : RMc h S) (hB : GB S) (hs : s < 4) (hP : P < 512) (hk : K (some (.int (if P = 0 then -1 else ib (gbq S s P (16 * S 0 0)).1))) h) : ∀ m q, q + m = 16 * S 0 0 → (P = 0 → q = 0) → ∀ u, qAt (d + 3, 115, some .int, q0, K) 10 [some (.ref 15), some (.int (nI s)), some (.int (nI P)), some (.int (ib (gbq S s P q).1)), some (.int (gfar (gbq S s P q))), some (.int (nI q)), u] [] h := by
  have hn0 := hB.1
  have e : (16 : Int32) * h.1 15 1 = nI (16 * S 0 0) := by rw [hM.1]; exact pk_mul 16 _
  intro m
  induction m with
  | zero =>
    intro q hq hz u
    have hq : q = 16 * S 0 0 := by omega
    refine at_wp [] 12 (Nat.le_of_ble_eq_true rfl) rfl ?_
    refine And.intro (fun _ => ?_) (fun c => absurd (by show (16 : Int32) * h.1 15 1 ≤ nI q; rw [e, hq]; exact nI_le (Nat.le_refl _) (by omega)) c)
    by_cases hP0 : P = 0
    · have h0 := hz hP0
      subst h0
      rw [if_pos hP0] at hk
      exact hk
    · rw [if_neg hP0, ← hq] at hk
      exact hk
  | succ m ih =>
    intro q hq hz u
    have hq64 : q < 64 := by omega
    refine at_wp [10] 90 (Nat.le_of_ble_eq_true rfl) rfl ?_
    refine And.intro (fun c => absurd c (by show ¬ (16 : Int32) * h.1 15 1 ≤ nI q; rw [e]; exact nI_ge (by omega) (by omega))) (fun _ => ?_)
    refine And.intro (fun c1 => ?_) (fun c1 => ?_)
    · have c1 : nI P = nI 0 := c1
      rw [nI_eq (by omega) (by omega)] at c1
      have h0 := hz c1
      subst h0
      rw [if_pos c1] at hk
      exact hk
    · have c1 : ¬ nI P = nI 0 := c1
      rw [nI_eq (by omega) (by omega)] at c1
      have ihq := ih (q + 1) (by omega) (fun z => absurd z c1)
      refine And.intro (by decide) ?_
      show qCall _ 74 [.int (nI q - nI q / nI 16 * nI 16), .int (nI s)] h _
      rw [pk_rem (by omega) (by decide) (by decide)]
      refine m_isIn (by omega) (by omega) (fun b1 => ?_) (fun b1 => ?_)
      · have b1' : q.testBit s = true := ((by decide +kernel : ∀ q, q < 64 → ∀ s, s < 4 → (q % 16).testBit s = q.testBit s) q hq64 s hs) ▸ b1
        refine And.intro (fun c => absurd c (by decide)) (fun _ => ?_)
        refine And.intro (by decide) ?_
        refine And.intro (by decide) ?_
        show qCall _ 114 [.ref 15, .int (nI s), .int (nI P), .int (nI q / nI 16), .int (nI q - nI q / nI 16 * nI 16)] h _
        rw [pk_rem (by omega) (by decide) (by decide), pk_div (by omega) (by decide) (by decide)]
        refine m_worstBy hM hB hs hP (by omega) (by omega) ?_
        have l3 := gleft_le (S := S) (s := s) (q := q) hP
        have l4 := gbq_le (S := S) (s := s) hP q
        have efar : (gleft S s P q < (gbq S s P q).2) ↔ nI (gleft S s P q) < gfar (gbq S s P q) := by
          unfold gfar
          by_cases z : (gbq S s P q).1 = 0
          · rw [if_pos z, nI_ltI (by omega) (by decide), gbq_10 q z]
            constructor <;> intro _ <;> omega
          · rw [if_neg z, nI_ltI (by omega) (by omega)]
        refine And.intro (fun c2 => ?_) (fun c2 => ?_)
        · have c2 : gfar (gbq S s P q) ≤ nI (gleft S s P q) := c2
          have c3 : ¬ gleft S s P q < (gbq S s P q).2 := fun z => Int32.not_lt.mpr c2 (efar.mp z)
          rw [gbq, b1', decide_eq_false c3, Bool.and_false, ← nI_1] at ihq
          refine And.intro (fun _ => ?_) (fun c => absurd c2 c)
          exact ihq _
        · have c2 : ¬ gfar (gbq S s P q) ≤ nI (gleft S s P q) := c2
          have c3 : gleft S s P q < (gbq S s P q).2 := efar.mpr (Int32.not_le.mp c2)
          have eb : ib (q + 1, gleft S s P q).1 = nI q := nI_pred q
          have ef : gfar (q + 1, gleft S s P q) = nI (gleft S s P q) := if_neg (Nat.succ_ne_zero q)
          rw [gbq, b1', decide_eq_true c3, Bool.and_true, if_pos rfl, ← nI_1, eb, ef] at ihq
          refine And.intro (fun c => absurd c c2) (fun _ => ?_)
          exact ihq _
      · have b1' : q.testBit s = false := ((by decide +kernel : ∀ q, q < 64 → ∀ s, s < 4 → (q % 16).testBit s = q.testBit s) q hq64 s hs) ▸ b1
        refine And.intro (fun _ => ?_) (fun c => absurd rfl c)
        rw [gbq, b1', Bool.false_and, ← nI_1] at ihq
        exact ihq _
theorem m_nextNow {s : Nat} (hM : RMc h S) (hB : GB S) (hA : GA S) (hs : s < 4) (hk : K (some (.int (if gposN S s (S 5 4) = 0 then -1 else ib (gbq S s (gposN S s (S 5 4)) (16 * S 0 0)).1))) h) : qCall (d + 5) 115 [.ref 15, .int (nI s)] h K := by
  refine call_wp (n := 10) (cut := []) _ (by decide) (Nat.lt_succ_self _) rfl rfl (Nat.le_of_ble_eq_true rfl) rfl ?_
  refine m_tellsNow hM hB hA hs ?_
  exact l_mnext hM hB hs (gposN_lt S s _) hk (16 * S 0 0) 0 (by omega) (fun _ => rfl) _
theorem m_next {k : Int32} (hM : RM h S) (hG : RG S) (hk : K (some (.int (aNext S k))) h) : qCall (d + 6) 116 [.ref 15, .int k] h K := by
  have hB := hG.1
  unfold aNext at hk
  refine call_wp (n := 40) (cut := []) _ (by decide) (Nat.lt_succ_self _) rfl rfl (Nat.le_of_ble_eq_true rfl) rfl ?_
  refine m_isSign hM.1 hB (fun n hn h0 ep => ?_) (fun hp => ?_)
  · subst ep
    rw [isg_some h0 hn] at hk
    refine And.intro (fun c => absurd c (by decide)) (fun _ => ?_)
    exact m_nextNow hM.1 hB hG.2.1 hn hk
  · rw [isg_none hp] at hk
    refine And.intro (fun _ => ?_) (fun c => absurd rfl c)
    exact hk
theorem m_oneNow {n k : Nat} (hM : RMc h S) (hB : GB S) (hn : n < S 0 0) (hk8 : k < 8) (hk : K (some (.int (aOne S n k))) h) : qCall (d + 4) 91 [.ref 15, .int (nI n), .int (nI k)] h K := by
  have hn0 := hB.1
  have ec : (nI n).toNatClampNeg = n := nI_clamp (by omega)
  obtain ⟨q1, q2, q3, q4⟩ := hM.2.1 n hn
  have hh := hB.2.2.2.1
  have hs := hB.2.2.2.2.1
  match k, hk8, hk with
  | 0, _, hk =>
    refine call_wp (n := 40) (cut := []) _ (by decide) (Nat.lt_succ_self _) rfl rfl (Nat.le_of_ble_eq_true rfl) rfl ?_
    refine And.intro (fun _ => ?_) (fun c => absurd rfl c)
    refine And.intro (vp_in_nI (by omega) (by decide)) ?_
    exact kI hk (by show _ = h.1 16 (nI n).toNatClampNeg; rw [ec, q1]; rfl)
  | 1, _, hk =>
    refine call_wp (n := 40) (cut := []) _ (by decide) (Nat.lt_succ_self _) rfl rfl (Nat.le_of_ble_eq_true rfl) rfl ?_
    refine And.intro (fun c => absurd c (by decide)) (fun _ => ?_)
    refine And.intro (fun _ => ?_) (fun c => absurd rfl c)
    refine And.intro (vp_in_nI (by omega) (by decide)) ?_
    exact kI hk (by show _ = h.1 17 (nI n).toNatClampNeg; rw [ec, q2]; rfl)
  | 2, _, hk =>
    refine call_wp (n := 40) (cut := []) _ (by decide) (Nat.lt_succ_self _) rfl rfl (Nat.le_of_ble_eq_true rfl) rfl ?_
    refine And.intro (fun c => absurd c (by decide)) (fun _ => ?_)
    refine And.intro (fun c => absurd c (by decide)) (fun _ => ?_)
    refine And.intro (fun _ => ?_) (fun c => absurd rfl c)
    refine And.intro (vp_in_nI (by omega) (by decide)) ?_
    exact kI hk (by show _ = h.1 18 (nI n).toNatClampNeg; rw [ec, q3]; rfl)
  | 3, _, hk =>
    refine call_wp (n := 40) (cut := []) _ (by decide) (Nat.lt_succ_self _) rfl rfl (Nat.le_of_ble_eq_true rfl) rfl ?_
    refine And.intro (fun c => absurd c (by decide)) (fun _ => ?_)
    refine And.intro (fun c => absurd c (by decide)) (fun _ => ?_)
    refine And.intro (fun c => absurd c (by decide)) (fun _ => ?_)
    refine And.intro (fun _ => ?_) (fun c => absurd rfl c)
    refine And.intro (vp_in_nI (by omega) (by decide)) ?_
    show qCall _ 88 [.ref 15, .int (h.1 18 (nI n).toNatClampNeg)] h _
    rw [ec, q3]
    exact m_tellAll hM.2.2.1 (hB.2.1 n hn).2.2 hk
  | 4, _, hk =>
    refine call_wp (n := 40) (cut := []) _ (by decide) (Nat.lt_succ_self _) rfl rfl (Nat.le_of_ble_eq_true rfl) rfl ?_
    refine And.intro (fun c => absurd c (by decide)) (fun _ => ?_)
    refine And.intro (fun c => absurd c (by decide)) (fun _ => ?_)
    refine And.intro (fun c => absurd c (by decide)) (fun _ => ?_)
    refine And.intro (fun c => absurd c (by decide)) (fun _ => ?_)
    refine And.intro (fun _ => ?_) (fun c => absurd rfl c)
    refine m_infers hM hB hn (fun b => ?_) (fun b => ?_)
    · refine And.intro (fun c => absurd c (by decide)) (fun _ => ?_)
      unfold aOne at hk
      rw [b] at hk
      exact hk
    · refine And.intro (fun _ => ?_) (fun c => absurd rfl c)
      unfold aOne at hk
      rw [b] at hk
      exact hk
  | 5, _, hk =>
    refine call_wp (n := 40) (cut := []) _ (by decide) (Nat.lt_succ_self _) rfl rfl (Nat.le_of_ble_eq_true rfl) rfl ?_
    refine And.intro (fun c => absurd c (by decide)) (fun _ => ?_)
    refine And.intro (fun c => absurd c (by decide)) (fun _ => ?_)
    refine And.intro (fun c => absurd c (by decide)) (fun _ => ?_)
    refine And.intro (fun c => absurd c (by decide)) (fun _ => ?_)
    refine And.intro (fun c => absurd c (by decide)) (fun _ => ?_)
    refine And.intro (fun _ => ?_) (fun c => absurd rfl c)
    refine kI hk ?_
    show _ = h.1 15 8 >>> (nI n &&& 31) &&& 1
    rw [hM.2.2.2.2.1, bit_val _ hh n (by omega)]
    rfl
  | 6, _, hk =>
    refine call_wp (n := 40) (cut := []) _ (by decide) (Nat.lt_succ_self _) rfl rfl (Nat.le_of_ble_eq_true rfl) rfl ?_
    refine And.intro (fun c => absurd c (by decide)) (fun _ => ?_)
    refine And.intro (fun c => absurd c (by decide)) (fun _ => ?_)
    refine And.intro (fun c => absurd c (by decide)) (fun _ => ?_)
    refine And.intro (fun c => absurd c (by decide)) (fun _ => ?_)
    refine And.intro (fun c => absurd c (by decide)) (fun _ => ?_)
    refine And.intro (fun c => absurd c (by decide)) (fun _ => ?_)
    refine And.intro (fun _ => ?_) (fun c => absurd rfl c)
    refine kI hk ?_
    show _ = h.1 15 9 >>> (nI n &&& 31) &&& 1
    rw [hM.2.2.2.2.2.1, bit_val _ hs n (by omega)]
    rfl
  | 7, _, hk =>
    refine call_wp (n := 40) (cut := []) _ (by decide) (Nat.lt_succ_self _) rfl rfl (Nat.le_of_ble_eq_true rfl) rfl ?_
    refine And.intro (fun c => absurd c (by decide)) (fun _ => ?_)
    refine And.intro (fun c => absurd c (by decide)) (fun _ => ?_)
    refine And.intro (fun c => absurd c (by decide)) (fun _ => ?_)
    refine And.intro (fun c => absurd c (by decide)) (fun _ => ?_)
    refine And.intro (fun c => absurd c (by decide)) (fun _ => ?_)
    refine And.intro (fun c => absurd c (by decide)) (fun _ => ?_)
    refine And.intro (fun c => absurd c (by decide)) (fun _ => ?_)
    refine And.intro (vp_in_nI (by omega) (by decide)) ?_
    exact kI hk (by show _ = h.1 19 (nI n).toNatClampNeg; rw [ec, q4]; rfl)
theorem m_about {p w : Int32} (hM : RM h S) (hG : RG S) (hk : K (some (.int (aAbout S p w))) h) : qCall (d + 5) 92 [.ref 15, .int p, .int w] h K := by
  have hB := hG.1
  refine call_wp (n := 40) (cut := []) _ (by decide) (Nat.lt_succ_self _) rfl rfl (Nat.le_of_ble_eq_true rfl) rfl ?_
  refine m_isOne hM.1 hB (fun n hn ep => ?_) (fun hp => ?_)
  · subst ep
    refine And.intro (fun c => absurd c (by decide)) (fun _ => ?_)
    refine m_within (lo := 0) (hi := 7) (by decide) (by decide) (fun k h1 h2 e => ?_) (fun hj => ?_)
    · subst e
      rw [aAbout_one hB hn (k := k) (by omega) (ix_some (by omega) (by decide))] at hk
      refine And.intro (fun c => absurd c (by decide)) (fun _ => ?_)
      exact m_oneNow hM.1 hB hn (by omega) hk
    · refine And.intro (fun _ => ?_) (fun c => absurd rfl c)
      unfold aAbout at hk
      rw [ip_some hB hn, show ix w 8 = none from ix_none (by decide) (fun j hj' => hj j (by omega) (by omega))] at hk
      exact hk
  · unfold aAbout at hk
    rw [ip_none hB hp] at hk
    refine And.intro (fun _ => ?_) (fun c => absurd rfl c)
    exact hk
theorem l_inferring (hM : RMc h S) (hB : GB S) (hk : K (some (.int (nI (ginfN S (S 0 0))))) h) : ∀ m n, n + m = S 0 0 → qAt (d + 3, 118, some .int, q0, K) 4 [some (.ref 15), some (.int (nI (ginfN S n))), some (.int (nI n))] [] h := by
  have hn0 := hB.1
  have e := hM.1
  intro m
  induction m with
  | zero =>
    intro n hn
    have hn : n = S 0 0 := by omega
    refine at_wp [] 12 (Nat.le_of_ble_eq_true rfl) rfl ?_
    refine And.intro (fun _ => ?_) (fun c => absurd (by show h.1 15 1 ≤ nI n; rw [e, hn]; exact nI_le (Nat.le_refl _) (by omega)) c)
    rw [← hn] at hk
    exact hk
  | succ m ih =>
    intro n hn
    have ihn := ih (n + 1) (by omega)
    rw [ginfN, ← nI_1 n] at ihn
    refine at_wp [4] 60 (Nat.le_of_ble_eq_true rfl) rfl ?_
    refine And.intro (fun c => absurd c (by show ¬ h.1 15 1 ≤ nI n; rw [e]; exact nI_ge (by omega) (by omega))) (fun _ => ?_)
    refine m_infers hM hB (by omega) (fun b1 => ?_) (fun b1 => ?_)
    · refine And.intro (fun c => absurd c (by decide)) (fun _ => ?_)
      rw [if_pos b1, ← nI_1] at ihn
      exact ihn
    · refine And.intro (fun _ => ?_) (fun c => absurd rfl c)
      rw [b1] at ihn
      show qAt _ 4 [some (.ref 15), some (.int (nI (ginfN S n) + nI 0)), some (.int (nI n + 1))] [] h
      rw [nI_add]
      exact ihn
theorem m_inferring (hM : RMc h S) (hB : GB S) (hk : K (some (.int (nI (ginfN S (S 0 0))))) h) : qCall (d + 4) 118 [.ref 15] h K := by
  refine call_wp (n := 4) (cut := []) _ (by decide) (Nat.lt_succ_self _) rfl rfl (Nat.le_of_ble_eq_true rfl) rfl ?_
  exact l_inferring hM hB hk (S 0 0) 0 (by omega)
theorem m_howMany {w : Int32} (hM : RM h S) (hG : RG S) (hk : K (some (.int (aCount S w))) h) : qCall (d + 5) 123 [.ref 15, .int w] h K := by
  have hB := hG.1
  have hn0 := hB.1
  unfold aCount at hk
  refine call_wp (n := 60) (cut := []) _ (by decide) (Nat.lt_succ_self _) rfl rfl (Nat.le_of_ble_eq_true rfl) rfl ?_
  refine And.intro (fun c0 => ?_) (fun c0 => ?_)
  · rw [c0, show ix (Int32.ofInt 0) 10 = some 0 by decide +kernel] at hk
    exact kI hk hM.1.1.symm
  · have _u := 0
    refine And.intro (fun c1 => ?_) (fun c1 => ?_)
    · rw [c1, show ix (Int32.ofInt 1) 10 = some 1 by decide +kernel] at hk
      exact m_inferring hM.1 hB hk
    · have _u := 0
      refine And.intro (fun c2 => ?_) (fun c2 => ?_)
      · rw [c2, show ix (Int32.ofInt 2) 10 = some 2 by decide +kernel] at hk
        show qCall _ 75 [.int (h.1 15 8)] h _
        rw [hM.1.2.2.2.2.1]
        exact m_size (hB.2.2.2.1) hk
      · have _u := 0
        refine And.intro (fun c3 => ?_) (fun c3 => ?_)
        · rw [c3, show ix (Int32.ofInt 3) 10 = some 3 by decide +kernel] at hk
          show qCall _ 75 [.int (h.1 15 9)] h _
          rw [hM.1.2.2.2.2.2.1]
          exact m_size (hB.2.2.2.2.1) hk
        · have _u := 0
          refine And.intro (fun c4 => ?_) (fun c4 => ?_)
          · rw [c4, show ix (Int32.ofInt 4) 10 = some 4 by decide +kernel] at hk
            show qCall _ 75 [.int (h.1 15 7)] h _
            rw [hM.1.2.2.2.1]
            exact m_size (hB.2.2.2.2.2) hk
          · have _u := 0
            refine And.intro (fun c5 => ?_) (fun c5 => ?_)
            · rw [c5, show ix (Int32.ofInt 5) 10 = some 5 by decide +kernel] at hk
              exact kI hk hM.1.2.2.2.2.2.2.1.symm
            · have _u := 0
              refine And.intro (fun c6 => ?_) (fun c6 => ?_)
              · rw [c6, show ix (Int32.ofInt 6) 10 = some 6 by decide +kernel] at hk
                exact kI hk hM.1.2.2.2.2.2.2.2.1.symm
              · have _u := 0
                refine And.intro (fun c7 => ?_) (fun c7 => ?_)
                · rw [c7, show ix (Int32.ofInt 7) 10 = some 7 by decide +kernel] at hk
                  exact kI hk hM.2.2.1.symm
                · have _u := 0
                  refine And.intro (fun c8 => ?_) (fun c8 => ?_)
                  · rw [c8, show ix (Int32.ofInt 8) 10 = some 8 by decide +kernel] at hk
                    exact kI hk hM.2.2.2.2.1.symm
                  · have _u := 0
                    refine And.intro (fun c9 => ?_) (fun c9 => ?_)
                    · rw [c9, show ix (Int32.ofInt 9) 10 = some 9 by decide +kernel] at hk
                      exact kI hk hM.2.1.symm
                    · rw [ix10 c0 c1 c2 c3 c4 c5 c6 c7 c8 c9] at hk
                      exact hk
theorem m_count {w : Int32} (hM : RM h S) (hG : RG S) (hk : K (some (.int (aCount S w))) h) : qCall (d + 6) 124 [.ref 15, .int w] h K := by
  refine call_wp (n := 10) (cut := []) _ (by decide) (Nat.lt_succ_self _) rfl rfl (Nat.le_of_ble_eq_true rfl) rfl ?_
  exact m_howMany hM hG hk
end QM4
