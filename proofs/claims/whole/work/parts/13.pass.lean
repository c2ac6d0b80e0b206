/-! ## what a scene is told -/
theorem at_wp {X : qX} {C : List Instr} (cut : List Nat) (n : Nat) (hj : X.2.1 < 139) (hC : qCL.getD X.2.1 [] = C) {i : Nat} {ls : qL} {st : List Value} {h : qH} (hw : wp X C cut n i ls st h) : qAt X i ls st h := wp_at hj hC n i ls st h hw
/-- nothing but these cells' numbers is another -/
def Fr (l : List Nat) (h h' : qH) : Prop := (∀ a, a ∉ l → h'.1 a = h.1 a) ∧ h'.2 = h.2
theorem Fr.rf {l : List Nat} {h : qH} : Fr l h h := ⟨fun _ _ => rfl, rfl⟩
theorem Fr.I {l : List Nat} {h h' : qH} (f : Fr l h h') {r k : Nat} {v : Int32} (hr : r ∈ l) : Fr l h (qI h' r k v) := ⟨fun a ha => by rw [qI_ne (fun z => ha (by rw [z]; exact hr))]; exact f.1 a ha, f.2⟩
theorem Fr.tr {l : List Nat} {h h' h'' : qH} (f : Fr l h h') (g : Fr l h' h'') : Fr l h h'' := ⟨fun a ha => (g.1 a ha).trans (f.1 a ha), g.2.trans f.2⟩
theorem Fr.mono {l l' : List Nat} {h h' : qH} (f : Fr l h h') (hl : ∀ a ∈ l, a ∈ l') : Fr l' h h' := ⟨fun a ha => f.1 a (fun z => ha (hl a z)), f.2⟩
theorem RC.fr {l : List Nat} {h h' : qH} {S : gS} (hC : RC h S) (f : Fr l h h') (h3 : 3 ∉ l) (h4 : 4 ∉ l) : RC h' S := by
  unfold RC at hC ⊢
  rw [f.1 3 h3, f.1 4 h4]
  exact hC
theorem RC.S {h : qH} {S S' : gS} (hC : RC h S) (e : ∀ a, a < 4 → S' a = S a) : RC h S' := by
  unfold RC gtog at hC ⊢
  rw [e 0 (by decide), e 1 (by decide), e 2 (by decide), e 3 (by decide)]
  exact hC
theorem RS.fr {l : List Nat} {h h' : qH} {S : gS} {r : Nat} (hR : RS r h S) (f : Fr l h h') (h0 : r ∉ l) (h1 : r + 1 ∉ l) (h2 : r + 2 ∉ l) : RS r h' S := by
  unfold RS at hR ⊢
  rw [f.1 r h0, f.1 _ h1, f.1 _ h2]
  exact hR
def gpass (S : gS) (f t s : Nat) : gS := fun x y =>
  if x = 4 ∧ y = t then S 4 t ||| 1 <<< s
  else if x = 5 ∧ y = 0 then (if ghang S f t s then S 5 0 ||| 1 <<< f else S 5 0)
  else if x = 5 ∧ y = 1 then (if gnew S t s && gking S t then S 5 1 ||| 1 <<< t else S 5 1)
  else if x = 5 ∧ y = 3 then S 5 3 + 1
  else if x = 6 ∧ y = f then S 6 f + 1
  else S x y
def gpassA (S : gS) (f t s : Nat) : Nat := (if gnew S t s then 1 else 0) + (if ghang S f t s then 2 else 0) + (if gnew S t s && gking S t then 4 else 0)
theorem gpass_S (S : gS) (f t s : Nat) (a : Nat) (ha : a < 4) : gpass S f t s a = S a := by
  funext y
  unfold gpass
  rw [if_neg (by omega), if_neg (by omega), if_neg (by omega), if_neg (by omega), if_neg (by omega)]
theorem gpass_B {S : gS} (hB : GB S) {f t s : Nat} (hf : f < S 0 0) (ht : t < S 0 0) (hs : s < 4) : GB (gpass S f t s) := by
  have hn := hB.1
  unfold GB
  rw [gpass_S S f t s 0 (by decide), gpass_S S f t s 1 (by decide), gpass_S S f t s 2 (by decide), gpass_S S f t s 3 (by decide)]
  refine ⟨hn, fun p hp => ⟨(hB.2.1 p hp).1, (hB.2.1 p hp).2.1, ?_⟩, hB.2.2.1, ?_, ?_, ?_⟩
  · unfold gpass
    by_cases e : p = t
    · rw [if_pos ⟨rfl, e⟩]
      exact bit_or_lt _ (hB.2.1 t ht).2.2 s hs
    · rw [if_neg (fun z => e z.2), if_neg (by omega), if_neg (by omega), if_neg (by omega), if_neg (by omega)]
      exact (hB.2.1 p hp).2.2
  · unfold gpass
    rw [if_neg (by omega), if_pos ⟨rfl, rfl⟩]
    split
    · exact bit_or_lt _ hB.2.2.2.1 f (by omega)
    · exact hB.2.2.2.1
  · unfold gpass
    rw [if_neg (by omega), if_neg (by omega), if_pos ⟨rfl, rfl⟩]
    split
    · exact bit_or_lt _ hB.2.2.2.2.1 t (by omega)
    · exact hB.2.2.2.2.1
  · unfold gpass
    rw [if_neg (by omega), if_neg (by omega), if_neg (by omega), if_neg (by omega), if_neg (by omega)]
    exact hB.2.2.2.2.2
def gsafeN (S : gS) (f t : Nat) : Nat → Nat
  | 0 => 0
  | n + 1 => if gcan S f t n && !ghang S f t n then gsafeN S f t n ||| 1 <<< n else gsafeN S f t n
theorem gsafeN_lt (S : gS) (f t : Nat) : ∀ n, n ≤ 4 → gsafeN S f t n < 16
  | 0, _ => Nat.le_of_ble_eq_true rfl
  | n + 1, h => by
    unfold gsafeN
    split
    · exact bit_or_lt _ (gsafeN_lt S f t n (by omega)) n (by omega)
    · exact gsafeN_lt S f t n (by omega)
section QP
variable {d : Nat} {h : qH} {K : qK} {S : gS} {r : Nat}
theorem l_unp {f t : Nat} (hC : RC h S) (hR : RS 5 h S) (hB : GB S) (hf : f < S 0 0) (ht : t < S 0 0) (hk : K (some (.int (nI (gsafeN S f t 4)))) h) : ∀ m n, n + m = 4 → qAt (d + 4, 40, some .int, q0, K) 4 [some (.ref 5), some (.ref 3), some (.int (nI f)), some (.int (nI t)), some (.int (nI (gsafeN S f t n))), some (.int (nI n))] [] h := by
  intro m
  induction m with
  | zero =>
    intro n hn
    have hn : n = 4 := by omega
    subst hn
    refine at_wp [] 10 (Nat.le_of_ble_eq_true rfl) rfl ?_
    refine And.intro (fun _ => ?_) (fun c => absurd (by decide) c)
    exact hk
  | succ m ih =>
    intro n hn
    refine at_wp [4] 60 (Nat.le_of_ble_eq_true rfl) rfl ?_
    refine And.intro (fun c => absurd c (nI_ge (a := n) (b := 4) (by omega) (by decide))) (fun _ => ?_)
    refine c_canTell (Or.inl rfl) hR hB hf ht (by omega) (fun b1 => ?_) (fun b1 => ?_)
    · refine And.intro (fun c => absurd c (by decide)) (fun _ => ?_)
      refine c_hangsTeller (Or.inl rfl) hC hR hB hf ht (by omega) (fun b2 => ?_) (fun b2 => ?_)
      · refine And.intro (fun c => absurd c (by decide)) (fun _ => ?_)
        show qAt _ 4 [some (.ref 5), some (.ref 3), some (.int (nI f)), some (.int (nI t)), some (.int (nI (gsafeN S f t n))), some (.int (nI n + 1))] [] h
        rw [nI_1]
        have := ih (n + 1) (by omega)
        rw [gsafeN, b1, b2] at this
        exact this
      · refine And.intro (fun _ => ?_) (fun c => absurd rfl c)
        show qAt _ 4 [some (.ref 5), some (.ref 3), some (.int (nI f)), some (.int (nI t)), some (.int (nI (gsafeN S f t n) ||| (1 <<< (nI n &&& 31)))), some (.int (nI n + 1))] [] h
        rw [nI_1, bit_or _ (gsafeN_lt S f t n (by omega)) n (by omega)]
        have := ih (n + 1) (by omega)
        rw [gsafeN, b1, b2] at this
        exact this
    · refine And.intro (fun _ => ?_) (fun c => absurd rfl c)
      show qAt _ 4 [some (.ref 5), some (.ref 3), some (.int (nI f)), some (.int (nI t)), some (.int (nI (gsafeN S f t n))), some (.int (nI n + 1))] [] h
      rw [nI_1]
      have := ih (n + 1) (by omega)
      rw [gsafeN, b1] at this
      exact this
theorem c_unpunished {f t : Nat} (hC : RC h S) (hR : RS 5 h S) (hB : GB S) (hf : f < S 0 0) (ht : t < S 0 0) (hk : K (some (.int (nI (gsafeN S f t 4)))) h) : qCall (d + 5) 40 [.ref 5, .ref 3, .int (nI f), .int (nI t)] h K := by
  refine call_wp (n := 4) (cut := []) _ (by decide) (Nat.lt_succ_self _) rfl rfl (Nat.le_of_ble_eq_true rfl) rfl ?_
  exact l_unp hC hR hB hf ht hk 4 0 rfl
theorem c_learn {p s : Nat} (hr : r = 5 ∨ r = 11) (hR : RS r h S) (hB : GB S) (hp : p < S 0 0) (hs : s < 4) (hk : K none (qI h r 0 (fput (h.1 r 0) (nI p) (nI (S 4 p ||| 1 <<< s))))) : qCall (d + 3) 36 [.ref r, .int (nI p), .int (nI s)] h K := by
  have hr0 := hr
  rcases hr with rfl | rfl
  all_goals
    refine call_wp (n := 30) (cut := []) _ (by decide) (Nat.lt_succ_self _) rfl rfl (Nat.le_of_ble_eq_true rfl) rfl ?_
    refine c_knownTo hr0 hR hp ?_
    refine c_put ?_
    rw [← bit_or _ (hB.2.1 p hp).2.2 s hs] at hk
    exact hk
theorem fput_rel {S : gS} {f t s : Nat} {a : Int32} (hB : GB S) (ht : t < S 0 0) (hs : s < 4) (ha : ∀ p, p < S 0 0 → fget a (nI p) = nI (S 4 p)) : ∀ p, p < S 0 0 → fget (fput a (nI t) (nI (S 4 t ||| 1 <<< s))) (nI p) = nI (gpass S f t s 4 p) := by
  intro p hp
  have hn := hB.1
  rw [fgp _ _ (by omega) (by omega)]
  unfold gpass
  by_cases e : p = t
  · rw [if_pos e, if_pos ⟨rfl, e⟩, n15 _ (bit_or_lt _ (hB.2.1 t ht).2.2 s hs)]
  · rw [if_neg e, if_neg (fun z => e z.2), if_neg (by omega), if_neg (by omega), if_neg (by omega), if_neg (by omega)]
    exact ha p hp
end QP
