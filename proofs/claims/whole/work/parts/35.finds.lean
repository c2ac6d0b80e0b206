/-! ## plans: the class's search -/
theorem w_f : ∀ w, w < 64 → nI w >>> ((4 : Int32) &&& 31) = nI (w / 16) := by decide +kernel
theorem w_t : ∀ w, w < 64 → nI w >>> ((2 : Int32) &&& 31) &&& 3 = nI (w / 4 % 4) := by decide +kernel
theorem w_s : ∀ w, w < 64 → nI w &&& 3 = nI (w % 4) := by decide +kernel
def FI (h h1 : qH) (p0 : Nat) : Prop := Fr [14] h h1 ∧ ∀ i, i < p0 → h1.1 14 i = h.1 14 i
def FOk (d r k : Nat) : Prop := ∀ (S : gS) (h : qH) (K : qK) (p0 : Nat), p0 + r ≤ 3 → RC h S → RS 11 h S → GB S → k < S 0 0 → (∀ h' c, FI h h' p0 → c < 64 ^ r → gPp k r S c = true → (∀ x, x < c → gPp k r S x = false) → (∀ i, i < r → h'.1 14 (p0 + i) = nI (c / 64 ^ (r - 1 - i) % 64)) → K (some (.int 1)) h') → (∀ h', FI h h' p0 → (∀ c, c < 64 ^ r → gPp k r S c = false) → K (some (.int 0)) h') → qCall (d + r + 5) 68 [.ref 3, .ref 11, .ref 14, .int (nI k), .int (nI p0), .int (nI (p0 + r))] h K
theorem RS.learn {h : qH} {S : gS} {t s : Nat} (hR : RS 11 h S) (hB : GB S) (ht : t < S 0 0) (hs : s < 4) : RS 11 (qI h 11 0 (fput (h.1 11 0) (nI t) (nI (S 4 t ||| 1 <<< s)))) (sS S 4 t (S 4 t ||| 1 <<< s)) := by
  obtain ⟨r0, r1, r2, r3, r4, r7, r6, rq⟩ := hR
  have g : ∀ a, a ≠ 4 → sS S 4 t (S 4 t ||| 1 <<< s) a = S a := fun a ha => sS_ne ha
  have hk : ∀ k, k ≠ 0 → (qI h 11 0 (fput (h.1 11 0) (nI t) (nI (S 4 t ||| 1 <<< s)))).1 11 k = h.1 11 k := fun k hk => by rw [qI_get, if_neg (fun z => hk z.2)]
  unfold RS
  rw [g 0 (by decide), g 5 (by decide), g 6 (by decide), g 7 (by decide), g 8 (by decide), g 9 (by decide), hk 1 (by decide), hk 2 (by decide), hk 3 (by decide), hk 4 (by decide), hk 7 (by decide)]
  refine ⟨fun p hp => ?_, r1, r2, r3, r4, r7, fun p hp => by rw [qI_ne (by decide)]; exact r6 p hp, fun i hi => by rw [qI_ne (by decide)]; exact rq i hi⟩
  rw [qI_get, if_pos ⟨rfl, rfl⟩, fput_rel (f := 0) hB ht hs r0 p hp]
  by_cases z : p = t
  · rw [z, sS_eq]
    unfold gpass
    rw [if_pos ⟨rfl, rfl⟩]
  · rw [sS_nb z]
    unfold gpass
    rw [if_neg (fun v => z v.2), if_neg (by omega), if_neg (by omega), if_neg (by omega), if_neg (by omega)]
section QF
variable {d : Nat} {h : qH} {K : qK} {S : gS}
theorem c_finds0 {k : Nat} : FOk d 0 k := by
  intro S h K p0 hp hC hR hB hk k1 k0
  have hn0 := hB.1
  refine call_wp (n := 40) (cut := []) _ (by decide) (Nat.lt_succ_self _) rfl rfl (Nat.le_of_ble_eq_true rfl) rfl ?_
  refine And.intro (fun c => absurd c (nI_pos (by omega))) (fun _ => ?_)
  refine And.intro (fun _ => ?_) (fun c => absurd (nI_le (Nat.le_refl _) (by omega)) c)
  refine c_knownTo (Or.inr rfl) hR hk ?_
  refine c_infers hC hB hk (hB.2.1 k hk).2.2 (fun b => ?_) (fun b => ?_)
  · exact ⟨Or.inr rfl, k1 h 0 ⟨Fr.rf, fun _ _ => rfl⟩ (by decide) b (fun x hx => by omega) (fun i hi => by omega)⟩
  · exact ⟨Or.inl rfl, k0 h ⟨Fr.rf, fun _ _ => rfl⟩ (fun c _ => b)⟩
theorem gPp_at {k r n x : Nat} (hx : x < 64 ^ r) : gPp k (r + 1) S (n * 64 ^ r + x) = (gok S n && (r != 0 || n / 4 % 4 == k) && gPp k r (glrn S n) x) := by
  rw [gPp, cd_div hx, cd_mod hx]
theorem fnext {k r n : Nat} (h1 : ∀ c, c < n * 64 ^ r → gPp k (r + 1) S c = false) (h2 : ∀ x, x < 64 ^ r → (gok S n && (r != 0 || n / 4 % 4 == k) && gPp k r (glrn S n) x) = false) : ∀ c, c < (n + 1) * 64 ^ r → gPp k (r + 1) S c = false := by
  intro c hc
  rcases Nat.lt_or_ge c (n * 64 ^ r) with z | z
  · exact h1 c z
  · rw [Nat.add_mul, Nat.one_mul] at hc
    have hx : c - n * 64 ^ r < 64 ^ r := by omega
    have := h2 _ hx
    rw [← gPp_at hx] at this
    rw [show n * 64 ^ r + (c - n * 64 ^ r) = c by omega] at this
    exact this
end QF
