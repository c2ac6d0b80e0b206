/-! ## plans: the class's search, a step -/
theorem cd_dig {n r q c : Nat} (hq : q < r) : (n * 64 ^ r + c) / 64 ^ q % 64 = c / 64 ^ q % 64 := by
  obtain ⟨j, rfl⟩ : ∃ j, r = q + 1 + j := ⟨r - q - 1, by omega⟩
  rw [show n * 64 ^ (q + 1 + j) + c = 64 ^ q * (64 * (n * 64 ^ j)) + c by rw [Nat.pow_add, Nat.pow_succ]; simp [Nat.mul_comm, Nat.mul_left_comm, Nat.mul_assoc]]
  rw [Nat.mul_add_div (Nat.pow_pos (by decide)), Nat.mul_add_mod]
section QF2
variable {d : Nat} {h : qH} {K : qK} {S : gS}
theorem fret {h h1 h' : qH} {p0 n : Nat} {v : Int32} (hF : FI h h1 p0) (hF2 : FI (qI (qI h1 14 p0 (nI n)) 11 0 v) h' (p0 + 1)) : FI h (qI h' 11 0 (h1.1 11 0)) p0 ∧ (qI h' 11 0 (h1.1 11 0)).1 14 p0 = nI n := by
  obtain ⟨⟨a1, a2⟩, a3⟩ := hF
  obtain ⟨⟨b1, b2⟩, b3⟩ := hF2
  refine ⟨⟨⟨fun a ha => ?_, b2.trans a2⟩, fun i hi => ?_⟩, ?_⟩
  · have ha : a ≠ 14 := fun z => ha (by rw [z]; decide)
    by_cases e : a = 11
    · subst e
      funext k
      rw [qI_get]
      by_cases z : k = 0
      · rw [if_pos ⟨rfl, z⟩, z, a1 11 (by decide)]
      · rw [if_neg (fun w => z w.2), b1 11 (by decide), qI_get, if_neg (fun w => z w.2), qI_ne (by decide), a1 11 (by decide)]
    · rw [qI_ne e, b1 a (by simp; exact ha), qI_ne e, qI_ne ha, a1 a (by simp; exact ha)]
  · rw [qI_ne (by decide), b3 i (by omega), qI_ne (by decide), qI_get, if_neg (fun w => by omega)]
    exact a3 i hi
  · rw [qI_ne (by decide), b3 p0 (by omega), qI_ne (by decide), qI_get, if_pos ⟨rfl, rfl⟩]
theorem gok_ge {w : Nat} (h : 16 * S 0 0 ≤ w) : gok S w = false := by
  unfold gok
  rw [show decide (w / 16 < S 0 0) = false from decide_eq_false (by omega)]
  rfl
theorem l_finds {r k p0 : Nat} (rec : FOk d r k) (hp : p0 + (r + 1) ≤ 3) (hC : RC h S) (hR : RS 11 h S) (hB : GB S) (hk : k < S 0 0) (k1 : ∀ h' c, FI h h' p0 → c < 64 ^ (r + 1) → gPp k (r + 1) S c = true → (∀ x, x < c → gPp k (r + 1) S x = false) → (∀ i, i < r + 1 → h'.1 14 (p0 + i) = nI (c / 64 ^ (r + 1 - 1 - i) % 64)) → K (some (.int 1)) h') (k0 : ∀ h', FI h h' p0 → (∀ c, c < 64 ^ (r + 1) → gPp k (r + 1) S c = false) → K (some (.int 0)) h') : ∀ m n, n + m = 16 * S 0 0 → ∀ h1 x y z u v, FI h h1 p0 → (∀ c, c < n * 64 ^ r → gPp k (r + 1) S c = false) → qAt (d + r + 5, 68, some .boolean, q0, K) 27 [some (.ref 3), some (.ref 11), some (.ref 14), some (.int (nI k)), some (.int (nI p0)), some (.int (nI (p0 + (r + 1)))), some (.int (b2 (r == 0))), some (.int (nI n)), x, y, z, u, v] [] h1 := by
  have hn0 := hB.1
  intro m
  induction m with
  | zero =>
    intro n hn h1 x y z u v hF hz
    have hn : n = 16 * S 0 0 := by omega
    have e : (16 : Int32) * h1.1 3 0 = nI (16 * S 0 0) := by rw [hF.1.1 3 (by decide), hC.1]; exact pk_mul 16 _
    refine at_wp [] 20 (Nat.le_of_ble_eq_true rfl) rfl ?_
    refine And.intro (fun _ => ?_) (fun c => absurd (by show (16 : Int32) * h1.1 3 0 ≤ nI n; rw [e, hn]; exact nI_le (Nat.le_refl _) (by omega)) c)
    refine ⟨Or.inl rfl, k0 h1 hF (fun c hc => ?_)⟩
    rcases Nat.lt_or_ge c (n * 64 ^ r) with q | q
    · exact hz c q
    · have : n ≤ c / 64 ^ r := (Nat.le_div_iff_mul_le (Nat.pow_pos (by decide))).mpr q
      rw [gPp, gok_ge (by omega)]
      rfl
  | succ m ih =>
    intro n hn h1 x y z u v hF hz
    have hn64 : n < 64 := by omega
    have e : (16 : Int32) * h1.1 3 0 = nI (16 * S 0 0) := by rw [hF.1.1 3 (by decide), hC.1]; exact pk_mul 16 _
    have hC1 : RC h1 S := hC.fr hF.1 (by decide) (by decide)
    have hR1 : RS 11 h1 S := hR.fr hF.1 (by decide) (by decide) (by decide)
    have nxt : ∀ h2 x y z u v, FI h h2 p0 → (∀ x, x < 64 ^ r → (gok S n && (r != 0 || n / 4 % 4 == k) && gPp k r (glrn S n) x) = false) → qAt (d + r + 5, 68, some .boolean, q0, K) 98 [some (.ref 3), some (.ref 11), some (.ref 14), some (.int (nI k)), some (.int (nI p0)), some (.int (nI (p0 + (r + 1)))), some (.int (b2 (r == 0))), some (.int (nI n)), x, y, z, u, v] [] h2 := by
      intro h2 x y z u v hF2 hz2
      refine at_wp [27] 12 (Nat.le_of_ble_eq_true rfl) rfl ?_
      have := ih (n + 1) (by omega) h2 x y z u v hF2 (fnext hz hz2)
      rw [← nI_1] at this
      exact this
    have bod : (r != 0 || n / 4 % 4 == k) = true → qAt (d + r + 5, 68, some .boolean, q0, K) 52 [some (.ref 3), some (.ref 11), some (.ref 14), some (.int (nI k)), some (.int (nI p0)), some (.int (nI (p0 + (r + 1)))), some (.int (b2 (r == 0))), some (.int (nI n)), some (.int (nI (n / 16))), some (.int (nI (n / 4 % 4))), some (.int (nI (n % 4))), u, v] [] h1 := by
      intro hl
      have lt : n / 4 % 4 < 4 := Nat.mod_lt _ (by decide)
      have ls : n % 4 < 4 := Nat.mod_lt _ (by decide)
      have lf : n / 16 < S 0 0 := by omega
      refine at_wp [98] 90 (Nat.le_of_ble_eq_true rfl) rfl ?_
      refine c_isPerson hC1 hB (fun t ht et => ?_) (fun hne => ?_)
      · rw [nI_eq (by omega) (by omega)] at et
        have ht : n / 4 % 4 < S 0 0 := by omega
        refine And.intro (fun c => absurd c (by decide)) (fun _ => ?_)
        refine c_canTell (Or.inr rfl) hR1 hB lf ht ls (fun b1 => ?_) (fun b1 => ?_)
        · refine And.intro (fun c => absurd c (by decide)) (fun _ => ?_)
          refine c_hangsTeller (Or.inr rfl) hC1 hR1 hB lf ht ls (fun bh => ?_) (fun bh => ?_)
          · refine And.intro (fun c => absurd c (by decide)) (fun _ => ?_)
            refine nxt h1 _ _ _ _ _ hF (fun x _ => ?_)
            rw [show gok S n = false by unfold gok; rw [bh]; simp]
            rfl
          · refine And.intro (fun _ => ?_) (fun c => absurd rfl c)
            have ok : gok S n = true := by
              unfold gok
              rw [b1, bh, decide_eq_true lf, decide_eq_true ht]
              rfl
            have ecp : (nI p0).toNatClampNeg = p0 := nI_clamp (by omega)
            refine And.intro (vp_in_nI (by omega) (by decide)) ?_
            have hF14 : Fr [14] h1 (qI h1 14 (nI p0).toNatClampNeg (nI n)) := Fr.rf.I (by decide)
            have hR2 : RS 11 (qI h1 14 (nI p0).toNatClampNeg (nI n)) S := hR1.fr hF14 (by decide) (by decide) (by decide)
            have hC2 : RC (qI h1 14 (nI p0).toNatClampNeg (nI n)) S := hC1.fr hF14 (by decide) (by decide)
            refine c_learn (Or.inr rfl) hR2 hB ht ls ?_
            have hR3 := hR2.learn hB ht ls
            obtain ⟨fv, efv⟩ : ∃ fv, fv = fput ((qI h1 14 (nI p0).toNatClampNeg (nI n)).1 11 0) (nI (n / 4 % 4)) (nI (S 4 (n / 4 % 4) ||| 1 <<< (n % 4))) := ⟨_, rfl⟩
            rw [← efv] at hR3 ⊢
            have hC3 : RC (qI (qI h1 14 (nI p0).toNatClampNeg (nI n)) 11 0 fv) (glrn S n) := (hC2.fr (l := [11]) (Fr.rf.I (by decide)) (by decide) (by decide)).S (fun a ha => glrn_o (by omega))
            have rec' : ∀ K2, (∀ h' c, FI (qI (qI h1 14 (nI p0).toNatClampNeg (nI n)) 11 0 fv) h' (p0 + 1) → c < 64 ^ r → gPp k r (glrn S n) c = true → (∀ x, x < c → gPp k r (glrn S n) x = false) → (∀ i, i < r → h'.1 14 (p0 + 1 + i) = nI (c / 64 ^ (r - 1 - i) % 64)) → K2 (some (.int 1)) h') → (∀ h', FI (qI (qI h1 14 (nI p0).toNatClampNeg (nI n)) 11 0 fv) h' (p0 + 1) → (∀ c, c < 64 ^ r → gPp k r (glrn S n) c = false) → K2 (some (.int 0)) h') → qCall (d + r + 5) 68 [.ref 3, .ref 11, .ref 14, .int (nI k), .int (nI p0 + 1), .int (nI (p0 + (r + 1)))] (qI (qI h1 14 (nI p0).toNatClampNeg (nI n)) 11 0 fv) K2 := fun K2 a b => by
              have := rec (glrn S n) _ K2 (p0 + 1) (by omega) hC3 hR3 (hB.kn ht ls) (by rw [glrn_o (by decide)]; exact hk) a b
              rw [← nI_1, show p0 + 1 + r = p0 + (r + 1) by omega] at this
              exact this
            refine rec' _ (fun h' c hF' hc hpc hlc hw => ?_) (fun h' hF' hz' => ?_)
            · rw [ecp] at hF'
              obtain ⟨f1, f2⟩ := fret hF hF'
              refine And.intro (fun c => absurd c (by decide)) (fun _ => ?_)
              refine ⟨Or.inr rfl, ?_⟩
              show K (some (.int 1)) (qI h' 11 0 (h1.1 11 0))
              refine k1 _ (n * 64 ^ r + c) f1 (cd_lt hn64 hc) (by rw [gPp_at hc, ok, hl, hpc]; rfl) (fun x hx => ?_) (fun i hi => ?_)
              · rcases Nat.lt_or_ge x (n * 64 ^ r) with q | q
                · exact hz x q
                · have := gPp_at (S := S) (k := k) (r := r) (n := n) (x := x - n * 64 ^ r) (by omega)
                  rw [show n * 64 ^ r + (x - n * 64 ^ r) = x by omega] at this
                  rw [this, hlc _ (by omega)]
                  simp
              · rcases Nat.eq_zero_or_pos i with z | z
                · subst z
                  rw [Nat.add_zero, f2, show r + 1 - 1 - 0 = r by omega, cd_div hc, Nat.mod_eq_of_lt hn64]
                · obtain ⟨j, rfl⟩ : ∃ j, i = j + 1 := ⟨i - 1, by omega⟩
                  have := hw j (by omega)
                  rw [qI_ne (by decide), show p0 + (j + 1) = p0 + 1 + j by omega, this, show r + 1 - 1 - (j + 1) = r - 1 - j by omega, cd_dig (by omega)]
            · rw [ecp] at hF'
              obtain ⟨f1, f2⟩ := fret hF hF'
              refine And.intro (fun _ => ?_) (fun c => absurd rfl c)
              show qAt _ 98 [some (.ref 3), some (.ref 11), some (.ref 14), some (.int (nI k)), some (.int (nI p0)), some (.int (nI (p0 + (r + 1)))), some (.int (b2 (r == 0))), some (.int (nI n)), some (.int (nI (n / 16))), some (.int (nI (n / 4 % 4))), some (.int (nI (n % 4))), some (.int (h1.1 11 0)), some (.int 0)] [] (qI h' 11 0 (h1.1 11 0))
              refine nxt _ _ _ _ _ _ f1 (fun x hx => ?_)
              rw [hz' x hx]
              simp
        · refine And.intro (fun _ => ?_) (fun c => absurd rfl c)
          refine nxt h1 _ _ _ _ _ hF (fun x _ => ?_)
          rw [show gok S n = false by unfold gok; rw [b1]; simp]
          rfl
      · refine And.intro (fun _ => ?_) (fun c => absurd rfl c)
        refine nxt h1 _ _ _ _ _ hF (fun x _ => ?_)
        rw [show gok S n = false by unfold gok; rw [show decide (n / 4 % 4 < S 0 0) = false from decide_eq_false (fun w => hne _ w rfl)]; simp]
        rfl
    refine at_wp [52, 98] 60 (Nat.le_of_ble_eq_true rfl) rfl ?_
    refine And.intro (fun c => absurd c (by show ¬ (16 : Int32) * h1.1 3 0 ≤ nI n; rw [e]; exact nI_ge (by omega) (by omega))) (fun _ => ?_)
    rw [← w_f n hn64, ← w_t n hn64, ← w_s n hn64] at bod
    refine And.intro (fun c1 => ?_) (fun c1 => ?_)
    · refine bod ?_
      cases r with
      | zero => exact absurd c1 (by decide)
      | succ r => rfl
    · have r0 : r = 0 := by
        cases r with
        | zero => rfl
        | succ r => exact absurd rfl c1
      refine And.intro (fun c2 => ?_) (fun c2 => ?_)
      · have c2 : nI n >>> ((2 : Int32) &&& 31) &&& 3 = nI k := c2
        rw [w_t n hn64, nI_eq (by omega) (by omega)] at c2
        exact bod (by rw [c2]; simp)
      · have c2 : ¬ nI n >>> ((2 : Int32) &&& 31) &&& 3 = nI k := c2
        rw [w_t n hn64, nI_eq (by omega) (by omega)] at c2
        refine nxt h1 _ _ _ _ _ hF (fun x _ => ?_)
        rw [show (r != 0 || n / 4 % 4 == k) = false by rw [r0]; simp [c2]]
        simp
end QF2
