/-! ## the class's own calls: answers (a..) and the state behind (u..) -/
def ix (p : Int32) (N : Nat) : Option Nat := if 0 ≤ p.toInt ∧ p.toInt < (N : Int) then some p.toNatClampNeg else none
theorem ix_some {n N : Nat} (h : n < N) (hN : N < 2 ^ 31) : ix (nI n) N = some n := by
  unfold ix
  rw [nI_toInt (by omega), if_pos ⟨by omega, by omega⟩, nI_clamp (by omega)]
theorem ix_none {p : Int32} {N : Nat} (hN : N < 2 ^ 31) (h : ∀ n, n < N → p ≠ nI n) : ix p N = none := by
  unfold ix
  rw [if_neg]
  rintro ⟨h1, h2⟩
  have h3 : ¬ p < 0 := fun z => by
    rw [Int32.lt_iff_toInt_lt] at z
    have : (0 : Int32).toInt = 0 := by decide
    omega
  obtain ⟨j, hj, rfl⟩ := nI_of h3
  rw [nI_toInt hj] at h2
  exact h j (by omega) rfl
theorem ix_lt {p : Int32} {N n : Nat} (hN : N < 2 ^ 31) (h : ix p N = some n) : n < N ∧ p = nI n := by
  unfold ix at h
  split at h
  · rename_i hc
    have h3 : ¬ p < 0 := fun z => by
      rw [Int32.lt_iff_toInt_lt] at z
      have : (0 : Int32).toInt = 0 := by decide
      omega
    obtain ⟨j, hj, rfl⟩ := nI_of h3
    rw [nI_toInt hj] at hc
    rw [nI_clamp hj] at h
    cases h
    exact ⟨by omega, rfl⟩
  · cases h
def ip (S : gS) (p : Int32) : Option Nat := ix p (S 0 0)
def isg (S : gS) (k : Int32) : Option Nat := if 0 < S 0 0 then ix k 4 else none
theorem isg_some {S : gS} {n : Nat} (h0 : 0 < S 0 0) (h : n < 4) : isg S (nI n) = some n := by
  unfold isg
  rw [if_pos h0, ix_some h (by decide)]
theorem isg_none {S : gS} {p : Int32} (h : 0 < S 0 0 → ∀ n, n < 4 → p ≠ nI n) : isg S p = none := by
  unfold isg
  by_cases h0 : 0 < S 0 0
  · rw [if_pos h0, ix_none (by decide) (h h0)]
  · rw [if_neg h0]
theorem ip_some {S : gS} (hB : GB S) {n : Nat} (h : n < S 0 0) : ip S (nI n) = some n := ix_some h (by have := hB.1; omega)
theorem ip_none {S : gS} (hB : GB S) {p : Int32} (h : ∀ n, n < S 0 0 → p ≠ nI n) : ip S p = none := ix_none (by have := hB.1; omega) h
def gkept (S : gS) : gS := fun x y => if x = 4 then S 14 y else if x = 5 then S 15 y else if x = 6 then S 16 y else if x = 7 then S 17 y else if x = 8 then S 18 y else if x = 9 then S 19 y else S x y
def RX (h : qH) (S : gS) : Prop := RC h S ∧ RS 5 h S ∧ (S 13 0 = 1 → RS 8 h (gkept S)) ∧ h.1 0 6 = nI (S 13 0) ∧ h.1 0 7 = nI (S 12 1) ∧ h.1 0 8 = nI (S 12 0) ∧ h.1 1 1 = nI (S 10 0) ∧ ∀ i, i < S 10 0 → h.1 2 i = nI (S 11 i)
def RG (S : gS) : Prop := GB S ∧ GA S ∧ (S 13 0 = 1 → GB (gkept S) ∧ GA (gkept S)) ∧ S 13 0 < 2 ∧ S 12 0 ≤ 12 ∧ S 10 0 ≤ 22 ∧ ∀ i, i < S 10 0 → 32 ≤ S 11 i ∧ S 11 i ≤ 126
def lX : List Nat := [0, 1, 2, 3, 4, 5, 6, 7, 8, 9, 10, 11, 12, 13, 14]
theorem gkept_S {S S' : gS} (e : ∀ a, a < 4 ∨ 10 ≤ a → S' a = S a) : gkept S' = gkept S := by
  funext x y
  unfold gkept
  by_cases h4 : x = 4
  · rw [if_pos h4, if_pos h4, e 14 (by omega)]
  · by_cases h5 : x = 5
    · rw [if_neg h4, if_neg h4, if_pos h5, if_pos h5, e 15 (by omega)]
    · by_cases h6 : x = 6
      · rw [if_neg h4, if_neg h4, if_neg h5, if_neg h5, if_pos h6, if_pos h6, e 16 (by omega)]
      · by_cases h7 : x = 7
        · rw [if_neg h4, if_neg h4, if_neg h5, if_neg h5, if_neg h6, if_neg h6, if_pos h7, if_pos h7, e 17 (by omega)]
        · by_cases h8 : x = 8
          · rw [if_neg h4, if_neg h4, if_neg h5, if_neg h5, if_neg h6, if_neg h6, if_neg h7, if_neg h7, if_pos h8, if_pos h8, e 18 (by omega)]
          · by_cases h9 : x = 9
            · rw [if_neg h4, if_neg h4, if_neg h5, if_neg h5, if_neg h6, if_neg h6, if_neg h7, if_neg h7, if_neg h8, if_neg h8, if_pos h9, if_pos h9, e 19 (by omega)]
            · rw [if_neg h4, if_neg h4, if_neg h5, if_neg h5, if_neg h6, if_neg h6, if_neg h7, if_neg h7, if_neg h8, if_neg h8, if_neg h9, if_neg h9, e x (by omega)]
theorem RX.scene {h h' : qH} {S S' : gS} (hX : RX h S) (f : Fr [5, 6, 7] h h') (hR : RS 5 h' S') (e : ∀ a, a < 4 ∨ 10 ≤ a → S' a = S a) : RX h' S' := by
  obtain ⟨x1, x2, x3, x4, x5, x6, x7, x8⟩ := hX
  unfold RX
  rw [e 13 (by omega), e 12 (by omega), e 10 (by omega), e 11 (by omega), gkept_S e, f.1 0 (by decide), f.1 1 (by decide), f.1 2 (by decide)]
  exact ⟨(x1.fr f (by decide) (by decide)).S (fun a ha => e a (Or.inl ha)), hR, fun z => (x3 z).fr f (by decide) (by decide) (by decide), x4, x5, x6, x7, x8⟩
theorem RG.scene {S S' : gS} (hG : RG S) (hB : GB S') (hA : GA S') (e : ∀ a, a < 4 ∨ 10 ≤ a → S' a = S a) : RG S' := by
  obtain ⟨x1, x2, x3, x4, x5, x6, x7⟩ := hG
  unfold RG
  rw [e 13 (by omega), e 12 (by omega), e 10 (by omega), e 11 (by omega), gkept_S e]
  exact ⟨hB, hA, x3, x4, x5, x6, x7⟩
/-! answers -/
def aAbout (S : gS) (p w : Int32) : Int32 := match ip S p with
  | none => -101
  | some n => match ix w 8 with
    | some 0 => nI (S 1 n)
    | some 1 => nI (S 2 n)
    | some 2 => nI (S 4 n)
    | some 3 => nI (gtog S (S 4 n))
    | some 4 => b2 (ginf S n (S 4 n))
    | some 5 => b2 ((S 5 0).testBit n)
    | some 6 => b2 ((S 5 1).testBit n)
    | some _ => nI (S 6 n)
    | none => -102
def aAs (S : gS) (p k : Int32) : Int32 := match ip S p with
  | none => -101
  | some n => match ix k 5 with
    | none => -102
    | some k => if gisA S n k then nI n else -1
def aSign (S : gS) (k : Int32) : Int32 := match isg S k with
  | none => -101
  | some k => nI (S 3 k)
def aForbid (S : gS) (k : Int32) : Int32 := match isg S k with
  | none => -101
  | some k => b2 ((S 5 2).testBit k)
def uForbid (S : gS) (k : Int32) (is : Bool) : gS := match isg S k with
  | none => S
  | some k => sS S 5 2 (gfb S k is)
def iTell (S : gS) (f t s : Int32) : Option (Nat × Nat × Nat) := match ip S f, ip S t, isg S s with
  | some f, some t, some s => if f = t then none else some (f, t, s)
  | _, _, _ => none
def aTell (S : gS) (f t s : Int32) : Int32 := match iTell S f t s with
  | none => -101
  | some q => if gcan S q.1 q.2.1 q.2.2 then nI (gpassA S q.1 q.2.1 q.2.2) else -103
def uTell (S : gS) (f t s : Int32) : gS := match iTell S f t s with
  | none => S
  | some q => if gcan S q.1 q.2.1 q.2.2 then gpass S q.1 q.2.1 q.2.2 else S
def iPair (S : gS) (f t : Int32) : Option (Nat × Nat) := match ip S f, ip S t with
  | some f, some t => if f = t then none else some (f, t)
  | _, _ => none
def aSafe (S : gS) (f t : Int32) : Int32 := match iPair S f t with
  | none => -101
  | some q => if (S 5 0).testBit q.1 || (S 5 0).testBit q.2 then -103 else nI (gsafeN S q.1 q.2 4)
def aTells (S : gS) (k : Int32) : Int32 := match isg S k with
  | none => -101
  | some k => nI (gposN S k (S 5 4))
def aNext (S : gS) (k : Int32) : Int32 := match isg S k with
  | none => -101
  | some k => if gposN S k (S 5 4) = 0 then -1 else ib (gbq S k (gposN S k (S 5 4)) (16 * S 0 0)).1
theorem iPair_some {S : gS} (hB : GB S) {p q : Nat} (hp : p < S 0 0) (hq : q < S 0 0) (hne : p ≠ q) : iPair S (nI p) (nI q) = some (p, q) := by
  unfold iPair
  rw [ip_some hB hp, ip_some hB hq]
  exact if_neg hne
theorem iPair_none {S : gS} (hB : GB S) {a b : Int32} (h : ∀ p q, p < S 0 0 → q < S 0 0 → p ≠ q → a = nI p → b = nI q → False) : iPair S a b = none := by
  have hN : S 0 0 < 2 ^ 31 := by have := hB.1; omega
  unfold iPair
  cases ha : ip S a with
  | none => rfl
  | some p =>
    cases hb : ip S b with
    | none => rfl
    | some q =>
      obtain ⟨p1, p2⟩ := ix_lt hN ha
      obtain ⟨q1, q2⟩ := ix_lt hN hb
      show (if p = q then none else some (p, q)) = none
      by_cases e : p = q
      · rw [if_pos e]
      · exact (h p q p1 q1 e p2 q2).elim
theorem iTell_pair (S : gS) (f t s : Int32) : iTell S f t s = match iPair S f t, isg S s with
    | some q, some s => some (q.1, q.2, s)
    | _, _ => none := by
  unfold iTell iPair
  cases ip S f with
  | none => rfl
  | some f =>
    cases ip S t with
    | none => rfl
    | some t =>
      cases isg S s with
      | none =>
        show none = _
        dsimp only
        split <;> simp_all
      | some s =>
        dsimp only
        by_cases e : f = t
        · rw [if_pos e, if_pos e]
        · rw [if_neg e, if_neg e]
section QO
variable {d : Nat} {h : qH} {K : qK} {S : gS}
theorem x_as {p k : Int32} (hX : RX h S) (hG : RG S) (hk : K (some (.int (aAs S p k))) h) : qCall (d + 4) 50 [.ref 0, .int p, .int k] h K := by
  have hB := hG.1
  have hn := hB.1
  unfold aAs at hk
  refine call_wp (n := 40) (cut := []) _ (by decide) (Nat.lt_succ_self _) rfl rfl (Nat.le_of_ble_eq_true rfl) rfl ?_
  refine c_isPerson hX.1 hB (fun n hn ep => ?_) (fun hp => ?_)
  · subst ep
    rw [ip_some hB hn] at hk
    refine And.intro (fun c => absurd c (by decide)) (fun _ => ?_)
    refine And.intro (fun c1 => ?_) (fun c1 => ?_)
    · rw [show ix k 5 = none from ix_none (by decide) (fun j hj z => nI_pos (by omega) (z ▸ c1))] at hk
      exact hk
    · obtain ⟨q, hq, rfl⟩ := nI_of c1
      refine And.intro (fun c2 => ?_) (fun c2 => ?_)
      · have c2 : nI q ≤ nI 4 := c2
        rw [nI_leI (by omega) (by omega)] at c2
        rw [ix_some (n := q) (by omega) (by decide)] at hk
        dsimp only at hk
        refine c_isA hX.1 hB hn (by omega) (fun b1 => ?_) (fun b1 => ?_)
        · refine And.intro (fun c => absurd c (by decide)) (fun _ => ?_)
          rw [if_pos (by exact b1)] at hk
          exact hk
        · refine And.intro (fun _ => ?_) (fun c => absurd rfl c)
          rw [if_neg (by rw [b1]; decide)] at hk
          exact hk
      · have c2 : ¬ nI q ≤ nI 4 := c2
        rw [nI_leI (by omega) (by omega)] at c2
        rw [show ix (nI q) 5 = none from ix_none (by decide) (fun j hj z => by rw [nI_eq (by omega) (by omega)] at z; omega)] at hk
        exact hk
  · rw [ip_none hB hp] at hk
    refine And.intro (fun _ => ?_) (fun c => absurd rfl c)
    exact hk
theorem x_sign {k : Int32} (hX : RX h S) (hG : RG S) (hk : K (some (.int (aSign S k))) h) : qCall (d + 3) 51 [.ref 0, .int k] h K := by
  have hB := hG.1
  unfold aSign at hk
  refine call_wp (n := 40) (cut := []) _ (by decide) (Nat.lt_succ_self _) rfl rfl (Nat.le_of_ble_eq_true rfl) rfl ?_
  refine c_isSign hX.1 hB (fun n hn h0 ep => ?_) (fun hp => ?_)
  · subst ep
    rw [isg_some h0 hn] at hk
    refine And.intro (fun c => absurd c (by decide)) (fun _ => ?_)
    exact c_amountOf hX.1 hn hk
  · rw [isg_none hp] at hk
    refine And.intro (fun _ => ?_) (fun c => absurd rfl c)
    exact hk
theorem x_tells {k : Int32} (hX : RX h S) (hG : RG S) (hk : K (some (.int (aTells S k))) h) : qCall (d + 5) 58 [.ref 0, .int k] h K := by
  have hB := hG.1
  unfold aTells at hk
  refine call_wp (n := 40) (cut := []) _ (by decide) (Nat.lt_succ_self _) rfl rfl (Nat.le_of_ble_eq_true rfl) rfl ?_
  refine c_isSign hX.1 hB (fun n hn h0 ep => ?_) (fun hp => ?_)
  · subst ep
    rw [isg_some h0 hn] at hk
    refine And.intro (fun c => absurd c (by decide)) (fun _ => ?_)
    exact c_possibleAmounts hX.1 hX.2.1 hB hG.2.1 hn hk
  · rw [isg_none hp] at hk
    refine And.intro (fun _ => ?_) (fun c => absurd rfl c)
    exact hk
theorem x_next {k : Int32} (hX : RX h S) (hG : RG S) (hk : K (some (.int (aNext S k))) h) : qCall (d + 5) 59 [.ref 0, .int k] h K := by
  have hB := hG.1
  unfold aNext at hk
  refine call_wp (n := 40) (cut := []) _ (by decide) (Nat.lt_succ_self _) rfl rfl (Nat.le_of_ble_eq_true rfl) rfl ?_
  refine c_isSign hX.1 hB (fun n hn h0 ep => ?_) (fun hp => ?_)
  · subst ep
    rw [isg_some h0 hn] at hk
    refine And.intro (fun c => absurd c (by decide)) (fun _ => ?_)
    refine c_possibleAmounts hX.1 hX.2.1 hB hG.2.1 hn ?_
    have hP := gposN_lt S n (S 5 4)
    refine And.intro (fun c1 => ?_) (fun c1 => ?_)
    · have c1 : nI (gposN S n (S 5 4)) = nI 0 := c1
      rw [nI_eq (by omega) (by omega)] at c1
      dsimp only at hk
      rw [if_pos c1] at hk
      exact hk
    · have c1 : ¬ nI (gposN S n (S 5 4)) = nI 0 := c1
      rw [nI_eq (by omega) (by omega)] at c1
      dsimp only at hk
      rw [if_neg c1] at hk
      exact c_bestQuestion hX.1 hB hn hP hk
  · rw [isg_none hp] at hk
    refine And.intro (fun _ => ?_) (fun c => absurd rfl c)
    exact hk
theorem x_safe {f t : Int32} (hX : RX h S) (hG : RG S) (hk : K (some (.int (aSafe S f t))) h) : qCall (d + 6) 55 [.ref 0, .int f, .int t] h K := by
  have hB := hG.1
  have hn0 := hB.1
  unfold aSafe at hk
  refine call_wp (n := 40) (cut := []) _ (by decide) (Nat.lt_succ_self _) rfl rfl (Nat.le_of_ble_eq_true rfl) rfl ?_
  refine c_isPair hX.1 hB (fun p q hp hq hne ep eq => ?_) (fun hp => ?_)
  · subst ep
    subst eq
    rw [iPair_some hB hp hq hne] at hk
    dsimp only at hk
    refine And.intro (fun c => absurd c (by decide)) (fun _ => ?_)
    refine c_isHanged (Or.inl rfl) hX.2.1 hB (by omega) (fun b1 => ?_) (fun b1 => ?_)
    · refine And.intro (fun c => absurd c (by decide)) (fun _ => ?_)
      rw [b1] at hk
      exact hk
    · refine And.intro (fun _ => ?_) (fun c => absurd rfl c)
      refine c_isHanged (Or.inl rfl) hX.2.1 hB (by omega) (fun b2 => ?_) (fun b2 => ?_)
      · refine And.intro (fun c => absurd c (by decide)) (fun _ => ?_)
        rw [b1, b2] at hk
        exact hk
      · refine And.intro (fun _ => ?_) (fun c => absurd rfl c)
        rw [b1, b2] at hk
        exact c_unpunished hX.1 hX.2.1 hB hp hq hk
  · rw [iPair_none hB hp] at hk
    refine And.intro (fun _ => ?_) (fun c => absurd rfl c)
    exact hk
theorem x_forbid {k : Int32} {is : Bool} (hX : RX h S) (hG : RG S) (hk : ∀ h', Fr lX h h' → RX h' (uForbid S k is) → K (some (.int (aForbid S k))) h') : qCall (d + 2) 52 [.ref 0, .int k, .int (b2 is)] h K := by
  have hB := hG.1
  unfold aForbid uForbid at hk
  refine call_wp (n := 60) (cut := []) _ (by decide) (Nat.lt_succ_self _) rfl rfl (Nat.le_of_ble_eq_true rfl) rfl ?_
  refine c_isSign hX.1 hB (fun n hn h0 ep => ?_) (fun hp => ?_)
  · subst ep
    rw [isg_some h0 hn] at hk
    dsimp only at hk
    have hf : Fr [5, 6, 7] h (qI h 5 3 (nI (gfb S n is))) := Fr.rf.I (by decide)
    have hk2 := hk (qI h 5 3 (nI (gfb S n is))) (hf.mono (by decide)) (hX.scene hf ?_ (fun a ha => sS_ne (by omega)))
    · refine And.intro (fun c => absurd c (by decide)) (fun _ => ?_)
      refine c_isForbidden (Or.inl rfl) hX.2.1 hB hn (fun b1 => ?_) (fun b1 => ?_)
      · refine And.intro (fun c => absurd c (by decide)) (fun _ => ?_)
        refine c_setForbidden hX.2.1 hB hn ?_
        rw [b1] at hk2
        exact hk2
      · refine And.intro (fun _ => ?_) (fun c => absurd rfl c)
        refine c_setForbidden hX.2.1 hB hn ?_
        rw [b1] at hk2
        exact hk2
    · obtain ⟨r0, r1, r2, r3, r4, r7, r6, rq⟩ := hX.2.1
      exact ⟨r0, r1, r2, rfl, r4, r7, r6, rq⟩
  · rw [isg_none hp] at hk
    refine And.intro (fun _ => ?_) (fun c => absurd rfl c)
    exact hk h Fr.rf hX
theorem x_tell {f t s : Int32} (hX : RX h S) (hG : RG S) (hk : ∀ h', Fr lX h h' → RX h' (uTell S f t s) → K (some (.int (aTell S f t s))) h') : qCall (d + 6) 53 [.ref 0, .int f, .int t, .int s] h K := by
  have hB := hG.1
  unfold aTell uTell at hk
  rw [iTell_pair] at hk
  refine call_wp (n := 60) (cut := []) _ (by decide) (Nat.lt_succ_self _) rfl rfl (Nat.le_of_ble_eq_true rfl) rfl ?_
  refine c_isPair hX.1 hB (fun p q hp hq hne ep eq => ?_) (fun hp => ?_)
  · subst ep
    subst eq
    rw [iPair_some hB hp hq hne] at hk
    refine And.intro (fun c => absurd c (by decide)) (fun _ => ?_)
    refine c_isSign hX.1 hB (fun n hn h0 es => ?_) (fun hs => ?_)
    · subst es
      rw [isg_some h0 hn] at hk
      dsimp only at hk
      refine And.intro (fun c => absurd c (by decide)) (fun _ => ?_)
      refine c_canTell (Or.inl rfl) hX.2.1 hB hp hq hn (fun b1 => ?_) (fun b1 => ?_)
      · refine And.intro (fun c => absurd c (by decide)) (fun _ => ?_)
        rw [if_pos b1, if_pos b1] at hk
        refine c_pass (Or.inl rfl) hX.1 hX.2.1 hB hp hq hn (fun h' hf hR => ?_)
        exact hk h' (hf.mono (by decide)) (hX.scene (hf.mono (by decide)) hR (fun a ha => by
          funext y
          unfold gpass
          rw [if_neg (by omega), if_neg (by omega), if_neg (by omega), if_neg (by omega), if_neg (by omega)]))
      · refine And.intro (fun _ => ?_) (fun c => absurd rfl c)
        rw [if_neg (by rw [b1]; decide), if_neg (by rw [b1]; decide)] at hk
        exact hk h Fr.rf hX
    · rw [isg_none hs] at hk
      refine And.intro (fun _ => ?_) (fun c => absurd rfl c)
      exact hk h Fr.rf hX
  · rw [iPair_none hB hp] at hk
    refine And.intro (fun _ => ?_) (fun c => absurd rfl c)
    exact hk h Fr.rf hX
theorem ix8 {w : Int32} (c0 : ¬ w = Int32.ofInt 0) (c1 : ¬ w = Int32.ofInt 1) (c2 : ¬ w = Int32.ofInt 2) (c3 : ¬ w = Int32.ofInt 3) (c4 : ¬ w = Int32.ofInt 4) (c5 : ¬ w = Int32.ofInt 5) (c6 : ¬ w = Int32.ofInt 6) (c7 : ¬ w = Int32.ofInt 7) : ix w 8 = none := by
  refine ix_none (by decide) (fun n hn z => ?_)
  match n, hn with
  | 0, _ => exact c0 z
  | 1, _ => exact c1 z
  | 2, _ => exact c2 z
  | 3, _ => exact c3 z
  | 4, _ => exact c4 z
  | 5, _ => exact c5 z
  | 6, _ => exact c6 z
  | 7, _ => exact c7 z
theorem x_about {p w : Int32} (hX : RX h S) (hG : RG S) (hk : K (some (.int (aAbout S p w))) h) : qCall (d + 3) 49 [.ref 0, .int p, .int w] h K := by
  have hB := hG.1
  have hn0 := hB.1
  unfold aAbout at hk
  refine call_wp (n := 60) (cut := []) _ (by decide) (Nat.lt_succ_self _) rfl rfl (Nat.le_of_ble_eq_true rfl) rfl ?_
  refine c_isPerson hX.1 hB (fun n hn ep => ?_) (fun hp => ?_)
  · subst ep
    rw [ip_some hB hn] at hk
    dsimp only at hk
    refine And.intro (fun c => absurd c (by decide)) (fun _ => ?_)
    refine c_knownTo (Or.inl rfl) hX.2.1 hn ?_
    have hkn := (hB.2.1 n hn).2.2
    refine And.intro (fun c0 => ?_) (fun c0 => ?_)
    · rw [c0, show ix (Int32.ofInt 0) 8 = some 0 by decide +kernel] at hk
      exact c_kindOf hX.1 hn hk
    · refine And.intro (fun c1 => ?_) (fun c1 => ?_)
      · rw [c1, show ix (Int32.ofInt 1) 8 = some 1 by decide +kernel] at hk
        exact c_needOf hX.1 hn hk
      · refine And.intro (fun c2 => ?_) (fun c2 => ?_)
        · rw [c2, show ix (Int32.ofInt 2) 8 = some 2 by decide +kernel] at hk
          exact hk
        · refine And.intro (fun c3 => ?_) (fun c3 => ?_)
          · rw [c3, show ix (Int32.ofInt 3) 8 = some 3 by decide +kernel] at hk
            exact c_together hX.1 hkn hk
          · refine And.intro (fun c4 => ?_) (fun c4 => ?_)
            · rw [c4, show ix (Int32.ofInt 4) 8 = some 4 by decide +kernel] at hk
              refine c_infers hX.1 hB hn hkn (fun b1 => ?_) (fun b1 => ?_)
              · refine And.intro (fun c => absurd c (by decide)) (fun _ => ?_)
                rw [b1] at hk
                exact hk
              · refine And.intro (fun _ => ?_) (fun c => absurd rfl c)
                rw [b1] at hk
                exact hk
            · refine And.intro (fun c5 => ?_) (fun c5 => ?_)
              · rw [c5, show ix (Int32.ofInt 5) 8 = some 5 by decide +kernel] at hk
                refine c_isHanged (Or.inl rfl) hX.2.1 hB (by omega) (fun b1 => ?_) (fun b1 => ?_)
                · refine And.intro (fun c => absurd c (by decide)) (fun _ => ?_)
                  rw [b1] at hk
                  exact hk
                · refine And.intro (fun _ => ?_) (fun c => absurd rfl c)
                  rw [b1] at hk
                  exact hk
              · refine And.intro (fun c6 => ?_) (fun c6 => ?_)
                · rw [c6, show ix (Int32.ofInt 6) 8 = some 6 by decide +kernel] at hk
                  refine c_hasSaid (Or.inl rfl) hX.2.1 hB (by omega) (fun b1 => ?_) (fun b1 => ?_)
                  · refine And.intro (fun c => absurd c (by decide)) (fun _ => ?_)
                    rw [b1] at hk
                    exact hk
                  · refine And.intro (fun _ => ?_) (fun c => absurd rfl c)
                    rw [b1] at hk
                    exact hk
                · refine And.intro (fun c7 => ?_) (fun c7 => ?_)
                  · rw [c7, show ix (Int32.ofInt 7) 8 = some 7 by decide +kernel] at hk
                    exact c_wordsOf (r := 5) (Or.inl rfl) (by omega) (kI hk (hX.2.1.2.2.2.2.2.2.1 n hn).symm)
                  · rw [ix8 c0 c1 c2 c3 c4 c5 c6 c7] at hk
                    exact hk
  · rw [ip_none hB hp] at hk
    refine And.intro (fun _ => ?_) (fun c => absurd rfl c)
    exact hk
end QO
