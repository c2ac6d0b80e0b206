/-! ## plans: words as codes, the first such -/
def gok (S : gS) (w : Nat) : Bool := decide (w / 16 < S 0 0) && decide (w / 4 % 4 < S 0 0) && gcan S (w / 16) (w / 4 % 4) (w % 4) && !ghang S (w / 16) (w / 4 % 4) (w % 4)
def glrn (S : gS) (w : Nat) : gS := sS S 4 (w / 4 % 4) (S 4 (w / 4 % 4) ||| 1 <<< (w % 4))
def gP (k : Nat) : Nat → gS → Nat → Bool
  | 0, S, _ => ginf S k (S 4 k)
  | r + 1, S, c => gok S (c / 64 ^ r) && gP k r (glrn S (c / 64 ^ r)) (c % 64 ^ r)
def gPp (k : Nat) : Nat → gS → Nat → Bool
  | 0, S, _ => ginf S k (S 4 k)
  | r + 1, S, c => gok S (c / 64 ^ r) && (r != 0 || c / 64 ^ r / 4 % 4 == k) && gPp k r (glrn S (c / 64 ^ r)) (c % 64 ^ r)
def gff (p : Nat → Bool) : Nat → Option Nat
  | 0 => none
  | n + 1 => match gff p n with
    | some c => some c
    | none => if p n then some n else none
def gfew (S : gS) (k : Nat) : Nat → Option (Nat × Nat)
  | 0 => none
  | m + 1 => match gfew S k m with
    | some x => some x
    | none => match gff (gP k m S) (64 ^ m) with
      | some c => some (m, c)
      | none => none
theorem gff_none {p : Nat → Bool} : ∀ N, (∀ c, c < N → p c = false) → gff p N = none
  | 0, _ => rfl
  | n + 1, h => by
    rw [gff, gff_none n (fun c hc => h c (by omega))]
    simp [h n (by omega)]
theorem gff_some {p : Nat → Bool} {c : Nat} (hc : p c = true) (hl : ∀ x, x < c → p x = false) : ∀ N, c < N → gff p N = some c
  | 0, h => by omega
  | n + 1, h => by
    rw [gff]
    by_cases e : c = n
    · subst e
      rw [gff_none c hl]
      simp [hc]
    · rw [gff_some hc hl n (by omega)]
theorem gff_of_none {p : Nat → Bool} : ∀ N, gff p N = none → ∀ c, c < N → p c = false
  | 0, _, c, hc => by omega
  | n + 1, h, c, hc => by
    rw [gff] at h
    cases e : gff p n with
    | some x => rw [e] at h; simp at h
    | none =>
      rw [e] at h
      by_cases z : c = n
      · subst z
        cases pc : p c with
        | false => rfl
        | true => rw [pc] at h; simp at h
      · exact gff_of_none n e c (by omega)
theorem cd_div {w r x : Nat} (hx : x < 64 ^ r) : (w * 64 ^ r + x) / 64 ^ r = w := by
  rw [Nat.mul_comm, Nat.mul_add_div (Nat.pow_pos (by decide)), Nat.div_eq_of_lt hx, Nat.add_zero]
theorem cd_mod {w r x : Nat} (hx : x < 64 ^ r) : (w * 64 ^ r + x) % 64 ^ r = x := by
  rw [Nat.mul_comm, Nat.mul_add_mod, Nat.mod_eq_of_lt hx]
theorem cd_lt {w r x : Nat} (hw : w < 64) (hx : x < 64 ^ r) : w * 64 ^ r + x < 64 ^ (r + 1) := by
  have : (w + 1) * 64 ^ r ≤ 64 * 64 ^ r := Nat.mul_le_mul_right _ hw
  rw [Nat.pow_succ, Nat.mul_comm (64 ^ r) 64]
  rw [Nat.add_mul, Nat.one_mul] at this
  omega
theorem cd_w {r c : Nat} (hc : c < 64 ^ (r + 1)) : c / 64 ^ r < 64 := by
  rw [Nat.pow_succ, Nat.mul_comm] at hc
  exact Nat.div_lt_of_lt_mul (by rw [Nat.mul_comm]; exact hc)
theorem glrn_o {S : gS} {w a : Nat} (h : a ≠ 4) : glrn S w a = S a := sS_ne h
theorem glrn_nb {S : gS} {w k : Nat} (h : w / 4 % 4 ≠ k) : ginf (glrn S w) k (glrn S w 4 k) = ginf S k (S 4 k) := by
  rw [ginf_c (B := S) (glrn_o (by decide)) (glrn_o (by decide)) (glrn_o (by decide))]
  unfold glrn
  rw [sS_nb (fun z => h z.symm)]
theorem prune_eq {k : Nat} : ∀ r S, (∀ c, c < 64 ^ r → gP k r S c = false) → ∀ c, c < 64 ^ (r + 1) → gPp k (r + 1) S c = gP k (r + 1) S c
  | 0, S, h, c, hc => by
    have h0 := h 0 (by decide)
    rw [gP] at h0
    simp only [gPp, gP]
    by_cases e : c / 64 ^ 0 / 4 % 4 = k
    · rw [e]
      simp
    · rw [glrn_nb e, h0]
      simp
  | r + 1, S, h, c, hc => by
    have lw : c / 64 ^ (r + 1) < 64 := cd_w hc
    rw [gPp, gP]
    cases g : gok S (c / 64 ^ (r + 1)) with
    | false => rfl
    | true =>
      rw [prune_eq r (glrn S (c / 64 ^ (r + 1))) (fun x hx => ?_) _ (Nat.mod_lt _ (Nat.pow_pos (by decide)))]
      · simp
      · have := h (c / 64 ^ (r + 1) * 64 ^ r + x) (cd_lt lw hx)
        rw [gP, cd_div hx, cd_mod hx, g] at this
        simpa using this
