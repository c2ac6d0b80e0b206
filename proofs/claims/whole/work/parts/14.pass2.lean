/-! ## a word told -/
def ph (h : qH) (r f t : Nat) (kv : Int32) (hb sb : Bool) : qH :=
  let h1 := qI h r 0 (fput (h.1 r 0) (nI t) kv)
  let h2 := qI h1 r 4 (h1.1 r 4 + 1)
  let h3 := qI h2 (r + 1) (nI f).toNatClampNeg (h2.1 (r + 1) (nI f).toNatClampNeg + 1)
  let h4 := match hb with
    | true => qI h3 r 1 (h3.1 r 1 ||| (1 <<< (nI f &&& 31)))
    | false => h3
  match sb with
    | true => qI h4 r 2 (h4.1 r 2 ||| (1 <<< (nI t &&& 31)))
    | false => h4
theorem ph_fr {h : qH} {r f t : Nat} {kv : Int32} {hb sb : Bool} : Fr [r, r + 1] h (ph h r f t kv hb sb) := by
  have m0 : r ∈ [r, r + 1] := List.mem_cons_self
  have m1 : r + 1 ∈ [r, r + 1] := List.mem_cons_of_mem _ List.mem_cons_self
  unfold ph
  cases hb <;> cases sb
  · exact ((Fr.rf.I m0).I m0).I m1
  · exact (((Fr.rf.I m0).I m0).I m1).I m0
  · exact (((Fr.rf.I m0).I m0).I m1).I m0
  · exact ((((Fr.rf.I m0).I m0).I m1).I m0).I m0
theorem qI_get (h : qH) (r k : Nat) (v : Int32) (a b : Nat) : (qI h r k v).1 a b = if a = r ∧ b = k then v else h.1 a b := rfl
section QPH
variable {d : Nat} {h : qH} {K : qK} {S : gS} {r : Nat}
theorem ph_rel {f t s : Nat} {hb sb : Bool} (hr : r = 5 ∨ r = 11) (hR : RS r h S) (hB : GB S) (hf : f < S 0 0) (ht : t < S 0 0) (hs : s < 4) (e1 : ghang S f t s = hb) (e2 : (gnew S t s && gking S t) = sb) : RS r (ph h r f t (nI (S 4 t ||| 1 <<< s)) hb sb) (gpass S f t s) := by
  have hn := hB.1
  have z0 : (ph h r f t (nI (S 4 t ||| 1 <<< s)) hb sb).1 r 0 = fput (h.1 r 0) (nI t) (nI (S 4 t ||| 1 <<< s)) := by
    rcases hr with rfl | rfl <;> cases hb <;> cases sb <;> simp [ph, qI_get]
  have z1 : (ph h r f t (nI (S 4 t ||| 1 <<< s)) hb sb).1 r 1 = if hb then h.1 r 1 ||| (1 <<< (nI f &&& 31)) else h.1 r 1 := by
    rcases hr with rfl | rfl <;> cases hb <;> cases sb <;> simp [ph, qI_get]
  have z2 : (ph h r f t (nI (S 4 t ||| 1 <<< s)) hb sb).1 r 2 = if sb then h.1 r 2 ||| (1 <<< (nI t &&& 31)) else h.1 r 2 := by
    rcases hr with rfl | rfl <;> cases hb <;> cases sb <;> simp [ph, qI_get]
  have z3 : (ph h r f t (nI (S 4 t ||| 1 <<< s)) hb sb).1 r 3 = h.1 r 3 := by
    rcases hr with rfl | rfl <;> cases hb <;> cases sb <;> simp [ph, qI_get]
  have z4 : (ph h r f t (nI (S 4 t ||| 1 <<< s)) hb sb).1 r 4 = h.1 r 4 + 1 := by
    rcases hr with rfl | rfl <;> cases hb <;> cases sb <;> simp [ph, qI_get]
  have z7 : (ph h r f t (nI (S 4 t ||| 1 <<< s)) hb sb).1 r 7 = h.1 r 7 := by
    rcases hr with rfl | rfl <;> cases hb <;> cases sb <;> simp [ph, qI_get]
  have zw : ∀ p, (ph h r f t (nI (S 4 t ||| 1 <<< s)) hb sb).1 (r + 1) p = if p = f then h.1 (r + 1) f + 1 else h.1 (r + 1) p := by
    intro p
    have ec : (nI f).toNatClampNeg = f := nI_clamp (by omega)
    rcases hr with rfl | rfl <;> cases hb <;> cases sb <;> simp [ph, qI_get, ec]
  have zq : (ph h r f t (nI (S 4 t ||| 1 <<< s)) hb sb).1 (r + 2) = h.1 (r + 2) := ph_fr.1 (r + 2) (by simp)
  have g0 : gpass S f t s 0 = S 0 := gpass_S S f t s 0 (by decide)
  have g7 : gpass S f t s 7 = S 7 := by
    funext y
    unfold gpass
    rw [if_neg (by omega), if_neg (by omega), if_neg (by omega), if_neg (by omega), if_neg (by omega)]
  have g8 : gpass S f t s 8 = S 8 := by
    funext y
    unfold gpass
    rw [if_neg (by omega), if_neg (by omega), if_neg (by omega), if_neg (by omega), if_neg (by omega)]
  have g9 : gpass S f t s 9 = S 9 := by
    funext y
    unfold gpass
    rw [if_neg (by omega), if_neg (by omega), if_neg (by omega), if_neg (by omega), if_neg (by omega)]
  have g54 : gpass S f t s 5 4 = S 5 4 := by
    unfold gpass
    rw [if_neg (by omega), if_neg (by omega), if_neg (by omega), if_neg (by omega), if_neg (by omega)]
  have g52 : gpass S f t s 5 2 = S 5 2 := by
    unfold gpass
    rw [if_neg (by omega), if_neg (by omega), if_neg (by omega), if_neg (by omega), if_neg (by omega)]
  have g53 : gpass S f t s 5 3 = S 5 3 + 1 := by
    unfold gpass
    rw [if_neg (by omega), if_neg (by omega), if_neg (by omega), if_pos ⟨rfl, rfl⟩]
  have g50 : gpass S f t s 5 0 = if hb then S 5 0 ||| 1 <<< f else S 5 0 := by
    unfold gpass
    rw [if_neg (by omega), if_pos ⟨rfl, rfl⟩, e1]
  have g51 : gpass S f t s 5 1 = if sb then S 5 1 ||| 1 <<< t else S 5 1 := by
    unfold gpass
    rw [if_neg (by omega), if_neg (by omega), if_pos ⟨rfl, rfl⟩, e2]
  have g6 : ∀ p, gpass S f t s 6 p = if p = f then S 6 f + 1 else S 6 p := by
    intro p
    unfold gpass
    rw [if_neg (by omega), if_neg (by omega), if_neg (by omega), if_neg (by omega)]
    by_cases e : p = f
    · rw [if_pos ⟨rfl, e⟩, if_pos e]
    · rw [if_neg (fun z => e z.2), if_neg e]
  obtain ⟨r0, r1, r2, r3, r4, r7, r6, rq⟩ := hR
  unfold RS
  rw [z0, z1, z2, z3, z4, z7, zq, g0, g7, g8, g9, g54, g52, g53, g50, g51, r1, r2, r3, r4, r7]
  refine ⟨fput_rel hB ht hs r0, ?_, ?_, rfl, nI_1 _, rfl, fun p hp => ?_, rq⟩
  · cases hb
    · rfl
    · exact bit_or _ hB.2.2.2.1 f (by omega)
  · cases sb
    · rfl
    · exact bit_or _ hB.2.2.2.2.1 t (by omega)
  · rw [zw, g6]
    by_cases e : p = f
    · rw [if_pos e, if_pos e, r6 f hf]
      exact nI_1 _
    · rw [if_neg e, if_neg e]
      exact r6 p hp

theorem c_pass {f t s : Nat} (hr : r = 5 ∨ r = 11) (hC : RC h S) (hR : RS r h S) (hB : GB S) (hf : f < S 0 0) (ht : t < S 0 0) (hs : s < 4) (hk : ∀ h', Fr [r, r + 1] h h' → RS r h' (gpass S f t s) → K (some (.int (nI (gpassA S f t s)))) h') : qCall (d + 5) 41 [.ref r, .ref 3, .int (nI f), .int (nI t), .int (nI s)] h K := by
  have hn := hB.1
  have hr0 := hr
  rcases hr with rfl | rfl
  · refine call_wp (n := 140) (cut := []) _ (by decide) (Nat.lt_succ_self _) rfl rfl (Nat.le_of_ble_eq_true rfl) rfl ?_
    refine c_makesInfer hr0 hC hR hB ht hs (fun b1 => ?_) (fun b1 => ?_)
    · refine c_hangsTeller hr0 hC hR hB hf ht hs (fun b2 => ?_) (fun b2 => ?_)
      · refine And.intro (fun c => absurd c (by decide)) (fun _ => ?_)
        refine c_isA (k := 1) hC hB ht (by decide) (fun b3 => ?_) (fun b3 => ?_)
        · rw [gisA_1] at b3
          refine And.intro (fun c => absurd c (by decide)) (fun _ => ?_)
          refine c_learn hr0 hR hB ht hs ?_
          refine And.intro (fun c => absurd c (nI_pos (by omega))) (fun _ => ?_)
          refine And.intro (fun c => absurd c (nI_ge (a := f) (b := 4) (by omega) (by decide))) (fun _ => ?_)
          refine And.intro (vp_in_nI (by omega) (by decide)) ?_
          refine And.intro (vp_in_nI (by omega) (by decide)) ?_
          refine And.intro (fun c => absurd c (by decide)) (fun _ => ?_)
          refine And.intro (fun c => absurd c (by decide)) (fun _ => ?_)
          refine And.intro (fun c => absurd c (by decide)) (fun _ => ?_)
          refine And.intro (fun c => absurd c (by decide)) (fun _ => ?_)
          refine And.intro (fun c => absurd c (by decide)) (fun _ => ?_)
          show K (some (.int _)) (ph h 5 f t (nI (S 4 t ||| 1 <<< s)) true true)
          exact kI (hk _ ph_fr (ph_rel (hb := true) (sb := true) hr0 hR hB hf ht hs b2 (by simp [b1, b3]))) (by unfold gpassA; rw [b1, b2, b3]; rfl)
        · rw [gisA_1] at b3
          refine And.intro (fun _ => ?_) (fun c => absurd rfl c)
          refine c_learn hr0 hR hB ht hs ?_
          refine And.intro (fun c => absurd c (nI_pos (by omega))) (fun _ => ?_)
          refine And.intro (fun c => absurd c (nI_ge (a := f) (b := 4) (by omega) (by decide))) (fun _ => ?_)
          refine And.intro (vp_in_nI (by omega) (by decide)) ?_
          refine And.intro (vp_in_nI (by omega) (by decide)) ?_
          refine And.intro (fun c => absurd c (by decide)) (fun _ => ?_)
          refine And.intro (fun _ => ?_) (fun c => absurd rfl c)
          refine And.intro (fun c => absurd c (by decide)) (fun _ => ?_)
          refine And.intro (fun c => absurd c (by decide)) (fun _ => ?_)
          refine And.intro (fun _ => ?_) (fun c => absurd rfl c)
          show K (some (.int _)) (ph h 5 f t (nI (S 4 t ||| 1 <<< s)) true false)
          exact kI (hk _ ph_fr (ph_rel (hb := true) (sb := false) hr0 hR hB hf ht hs b2 (by simp [b1, b3]))) (by unfold gpassA; rw [b1, b2, b3]; rfl)
      · refine And.intro (fun c => absurd c (by decide)) (fun _ => ?_)
        refine c_isA (k := 1) hC hB ht (by decide) (fun b3 => ?_) (fun b3 => ?_)
        · rw [gisA_1] at b3
          refine And.intro (fun c => absurd c (by decide)) (fun _ => ?_)
          refine c_learn hr0 hR hB ht hs ?_
          refine And.intro (fun c => absurd c (nI_pos (by omega))) (fun _ => ?_)
          refine And.intro (fun c => absurd c (nI_ge (a := f) (b := 4) (by omega) (by decide))) (fun _ => ?_)
          refine And.intro (vp_in_nI (by omega) (by decide)) ?_
          refine And.intro (vp_in_nI (by omega) (by decide)) ?_
          refine And.intro (fun _ => ?_) (fun c => absurd rfl c)
          refine And.intro (fun c => absurd c (by decide)) (fun _ => ?_)
          refine And.intro (fun c => absurd c (by decide)) (fun _ => ?_)
          refine And.intro (fun _ => ?_) (fun c => absurd rfl c)
          refine And.intro (fun c => absurd c (by decide)) (fun _ => ?_)
          show K (some (.int _)) (ph h 5 f t (nI (S 4 t ||| 1 <<< s)) false true)
          exact kI (hk _ ph_fr (ph_rel (hb := false) (sb := true) hr0 hR hB hf ht hs b2 (by simp [b1, b3]))) (by unfold gpassA; rw [b1, b2, b3]; rfl)
        · rw [gisA_1] at b3
          refine And.intro (fun _ => ?_) (fun c => absurd rfl c)
          refine c_learn hr0 hR hB ht hs ?_
          refine And.intro (fun c => absurd c (nI_pos (by omega))) (fun _ => ?_)
          refine And.intro (fun c => absurd c (nI_ge (a := f) (b := 4) (by omega) (by decide))) (fun _ => ?_)
          refine And.intro (vp_in_nI (by omega) (by decide)) ?_
          refine And.intro (vp_in_nI (by omega) (by decide)) ?_
          refine And.intro (fun _ => ?_) (fun c => absurd rfl c)
          refine And.intro (fun _ => ?_) (fun c => absurd rfl c)
          refine And.intro (fun c => absurd c (by decide)) (fun _ => ?_)
          refine And.intro (fun _ => ?_) (fun c => absurd rfl c)
          refine And.intro (fun _ => ?_) (fun c => absurd rfl c)
          show K (some (.int _)) (ph h 5 f t (nI (S 4 t ||| 1 <<< s)) false false)
          exact kI (hk _ ph_fr (ph_rel (hb := false) (sb := false) hr0 hR hB hf ht hs b2 (by simp [b1, b3]))) (by unfold gpassA; rw [b1, b2, b3]; rfl)
    · refine c_hangsTeller hr0 hC hR hB hf ht hs (fun b2 => ?_) (fun b2 => ?_)
      · refine And.intro (fun _ => ?_) (fun c => absurd rfl c)
        refine c_learn hr0 hR hB ht hs ?_
        refine And.intro (fun c => absurd c (nI_pos (by omega))) (fun _ => ?_)
        refine And.intro (fun c => absurd c (nI_ge (a := f) (b := 4) (by omega) (by decide))) (fun _ => ?_)
        refine And.intro (vp_in_nI (by omega) (by decide)) ?_
        refine And.intro (vp_in_nI (by omega) (by decide)) ?_
        refine And.intro (fun c => absurd c (by decide)) (fun _ => ?_)
        refine And.intro (fun _ => ?_) (fun c => absurd rfl c)
        refine And.intro (fun _ => ?_) (fun c => absurd rfl c)
        refine And.intro (fun c => absurd c (by decide)) (fun _ => ?_)
        refine And.intro (fun _ => ?_) (fun c => absurd rfl c)
        show K (some (.int _)) (ph h 5 f t (nI (S 4 t ||| 1 <<< s)) true false)
        exact kI (hk _ ph_fr (ph_rel (hb := true) (sb := false) hr0 hR hB hf ht hs b2 (by simp [b1]))) (by unfold gpassA; rw [b1, b2]; rfl)
      · refine And.intro (fun _ => ?_) (fun c => absurd rfl c)
        refine c_learn hr0 hR hB ht hs ?_
        refine And.intro (fun c => absurd c (nI_pos (by omega))) (fun _ => ?_)
        refine And.intro (fun c => absurd c (nI_ge (a := f) (b := 4) (by omega) (by decide))) (fun _ => ?_)
        refine And.intro (vp_in_nI (by omega) (by decide)) ?_
        refine And.intro (vp_in_nI (by omega) (by decide)) ?_
        refine And.intro (fun _ => ?_) (fun c => absurd rfl c)
        refine And.intro (fun _ => ?_) (fun c => absurd rfl c)
        refine And.intro (fun _ => ?_) (fun c => absurd rfl c)
        refine And.intro (fun _ => ?_) (fun c => absurd rfl c)
        refine And.intro (fun _ => ?_) (fun c => absurd rfl c)
        show K (some (.int _)) (ph h 5 f t (nI (S 4 t ||| 1 <<< s)) false false)
        exact kI (hk _ ph_fr (ph_rel (hb := false) (sb := false) hr0 hR hB hf ht hs b2 (by simp [b1]))) (by unfold gpassA; rw [b1, b2]; rfl)
  · refine call_wp (n := 140) (cut := []) _ (by decide) (Nat.lt_succ_self _) rfl rfl (Nat.le_of_ble_eq_true rfl) rfl ?_
    refine c_makesInfer hr0 hC hR hB ht hs (fun b1 => ?_) (fun b1 => ?_)
    · refine c_hangsTeller hr0 hC hR hB hf ht hs (fun b2 => ?_) (fun b2 => ?_)
      · refine And.intro (fun c => absurd c (by decide)) (fun _ => ?_)
        refine c_isA (k := 1) hC hB ht (by decide) (fun b3 => ?_) (fun b3 => ?_)
        · rw [gisA_1] at b3
          refine And.intro (fun c => absurd c (by decide)) (fun _ => ?_)
          refine c_learn hr0 hR hB ht hs ?_
          refine And.intro (fun c => absurd c (nI_pos (by omega))) (fun _ => ?_)
          refine And.intro (fun c => absurd c (nI_ge (a := f) (b := 4) (by omega) (by decide))) (fun _ => ?_)
          refine And.intro (vp_in_nI (by omega) (by decide)) ?_
          refine And.intro (vp_in_nI (by omega) (by decide)) ?_
          refine And.intro (fun c => absurd c (by decide)) (fun _ => ?_)
          refine And.intro (fun c => absurd c (by decide)) (fun _ => ?_)
          refine And.intro (fun c => absurd c (by decide)) (fun _ => ?_)
          refine And.intro (fun c => absurd c (by decide)) (fun _ => ?_)
          refine And.intro (fun c => absurd c (by decide)) (fun _ => ?_)
          show K (some (.int _)) (ph h 11 f t (nI (S 4 t ||| 1 <<< s)) true true)
          exact kI (hk _ ph_fr (ph_rel (hb := true) (sb := true) hr0 hR hB hf ht hs b2 (by simp [b1, b3]))) (by unfold gpassA; rw [b1, b2, b3]; rfl)
        · rw [gisA_1] at b3
          refine And.intro (fun _ => ?_) (fun c => absurd rfl c)
          refine c_learn hr0 hR hB ht hs ?_
          refine And.intro (fun c => absurd c (nI_pos (by omega))) (fun _ => ?_)
          refine And.intro (fun c => absurd c (nI_ge (a := f) (b := 4) (by omega) (by decide))) (fun _ => ?_)
          refine And.intro (vp_in_nI (by omega) (by decide)) ?_
          refine And.intro (vp_in_nI (by omega) (by decide)) ?_
          refine And.intro (fun c => absurd c (by decide)) (fun _ => ?_)
          refine And.intro (fun _ => ?_) (fun c => absurd rfl c)
          refine And.intro (fun c => absurd c (by decide)) (fun _ => ?_)
          refine And.intro (fun c => absurd c (by decide)) (fun _ => ?_)
          refine And.intro (fun _ => ?_) (fun c => absurd rfl c)
          show K (some (.int _)) (ph h 11 f t (nI (S 4 t ||| 1 <<< s)) true false)
          exact kI (hk _ ph_fr (ph_rel (hb := true) (sb := false) hr0 hR hB hf ht hs b2 (by simp [b1, b3]))) (by unfold gpassA; rw [b1, b2, b3]; rfl)
      · refine And.intro (fun c => absurd c (by decide)) (fun _ => ?_)
        refine c_isA (k := 1) hC hB ht (by decide) (fun b3 => ?_) (fun b3 => ?_)
        · rw [gisA_1] at b3
          refine And.intro (fun c => absurd c (by decide)) (fun _ => ?_)
          refine c_learn hr0 hR hB ht hs ?_
          refine And.intro (fun c => absurd c (nI_pos (by omega))) (fun _ => ?_)
          refine And.intro (fun c => absurd c (nI_ge (a := f) (b := 4) (by omega) (by decide))) (fun _ => ?_)
          refine And.intro (vp_in_nI (by omega) (by decide)) ?_
          refine And.intro (vp_in_nI (by omega) (by decide)) ?_
          refine And.intro (fun _ => ?_) (fun c => absurd rfl c)
          refine And.intro (fun c => absurd c (by decide)) (fun _ => ?_)
          refine And.intro (fun c => absurd c (by decide)) (fun _ => ?_)
          refine And.intro (fun _ => ?_) (fun c => absurd rfl c)
          refine And.intro (fun c => absurd c (by decide)) (fun _ => ?_)
          show K (some (.int _)) (ph h 11 f t (nI (S 4 t ||| 1 <<< s)) false true)
          exact kI (hk _ ph_fr (ph_rel (hb := false) (sb := true) hr0 hR hB hf ht hs b2 (by simp [b1, b3]))) (by unfold gpassA; rw [b1, b2, b3]; rfl)
        · rw [gisA_1] at b3
          refine And.intro (fun _ => ?_) (fun c => absurd rfl c)
          refine c_learn hr0 hR hB ht hs ?_
          refine And.intro (fun c => absurd c (nI_pos (by omega))) (fun _ => ?_)
          refine And.intro (fun c => absurd c (nI_ge (a := f) (b := 4) (by omega) (by decide))) (fun _ => ?_)
          refine And.intro (vp_in_nI (by omega) (by decide)) ?_
          refine And.intro (vp_in_nI (by omega) (by decide)) ?_
          refine And.intro (fun _ => ?_) (fun c => absurd rfl c)
          refine And.intro (fun _ => ?_) (fun c => absurd rfl c)
          refine And.intro (fun c => absurd c (by decide)) (fun _ => ?_)
          refine And.intro (fun _ => ?_) (fun c => absurd rfl c)
          refine And.intro (fun _ => ?_) (fun c => absurd rfl c)
          show K (some (.int _)) (ph h 11 f t (nI (S 4 t ||| 1 <<< s)) false false)
          exact kI (hk _ ph_fr (ph_rel (hb := false) (sb := false) hr0 hR hB hf ht hs b2 (by simp [b1, b3]))) (by unfold gpassA; rw [b1, b2, b3]; rfl)
    · refine c_hangsTeller hr0 hC hR hB hf ht hs (fun b2 => ?_) (fun b2 => ?_)
      · refine And.intro (fun _ => ?_) (fun c => absurd rfl c)
        refine c_learn hr0 hR hB ht hs ?_
        refine And.intro (fun c => absurd c (nI_pos (by omega))) (fun _ => ?_)
        refine And.intro (fun c => absurd c (nI_ge (a := f) (b := 4) (by omega) (by decide))) (fun _ => ?_)
        refine And.intro (vp_in_nI (by omega) (by decide)) ?_
        refine And.intro (vp_in_nI (by omega) (by decide)) ?_
        refine And.intro (fun c => absurd c (by decide)) (fun _ => ?_)
        refine And.intro (fun _ => ?_) (fun c => absurd rfl c)
        refine And.intro (fun _ => ?_) (fun c => absurd rfl c)
        refine And.intro (fun c => absurd c (by decide)) (fun _ => ?_)
        refine And.intro (fun _ => ?_) (fun c => absurd rfl c)
        show K (some (.int _)) (ph h 11 f t (nI (S 4 t ||| 1 <<< s)) true false)
        exact kI (hk _ ph_fr (ph_rel (hb := true) (sb := false) hr0 hR hB hf ht hs b2 (by simp [b1]))) (by unfold gpassA; rw [b1, b2]; rfl)
      · refine And.intro (fun _ => ?_) (fun c => absurd rfl c)
        refine c_learn hr0 hR hB ht hs ?_
        refine And.intro (fun c => absurd c (nI_pos (by omega))) (fun _ => ?_)
        refine And.intro (fun c => absurd c (nI_ge (a := f) (b := 4) (by omega) (by decide))) (fun _ => ?_)
        refine And.intro (vp_in_nI (by omega) (by decide)) ?_
        refine And.intro (vp_in_nI (by omega) (by decide)) ?_
        refine And.intro (fun _ => ?_) (fun c => absurd rfl c)
        refine And.intro (fun _ => ?_) (fun c => absurd rfl c)
        refine And.intro (fun _ => ?_) (fun c => absurd rfl c)
        refine And.intro (fun _ => ?_) (fun c => absurd rfl c)
        refine And.intro (fun _ => ?_) (fun c => absurd rfl c)
        show K (some (.int _)) (ph h 11 f t (nI (S 4 t ||| 1 <<< s)) false false)
        exact kI (hk _ ph_fr (ph_rel (hb := false) (sb := false) hr0 hR hB hf ht hs b2 (by simp [b1]))) (by unfold gpassA; rw [b1, b2]; rfl)
end QPH
