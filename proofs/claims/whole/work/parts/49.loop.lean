/-! ## the law's loop -/
theorem lw_in {n L : Nat} (j : Nat) (h4 : 4 * n + 4 ≤ L) (hL : L ≤ 256) (hj : j < 4) : vp_in (nI (4 * n) + nI j) (L + 1 - 1) := by
  rw [nI_add]
  exact vp_in_nI (by omega) (by omega)
section QLL
variable {d : Nat} {h : qH} {K : qK} {S : gS} {L : Nat} {xs : Nat → Int32} {n : Nat}
theorem o_letter (hX : RX h S) (hM : RM h S) (hG : RG S) (hn : S 12 1 ≤ n) (h4 : 4 * n + 4 ≤ L) (hL : L ≤ 256) (nx : ∀ h' S', RX h' S' → RM h' S' → Kp S S' → qAt (d + 10, 138, some .boolean, (L + 1, xs), K) 419 [some (.ref 99), some (.ref 0), some (.ref 15), some (.int (nI (4 * n)))] [] h') : qAt (d + 10, 138, some .boolean, (L + 1, xs), K) 22 [some (.ref 99), some (.ref 0), some (.ref 15), some (.int (nI (4 * n)))] [] h := by
  refine at_wp [419] 120 (Nat.le_of_ble_eq_true rfl) rfl ?_
  refine And.intro (lw_in 1 h4 hL (by decide)) ?_
  refine x_letter hX hG (fun h1 f1 X1 => ?_)
  refine And.intro (lw_in 1 h4 hL (by decide)) ?_
  refine m_letter (hM.x f1) hG (fun h2 f2 M2 => ?_)
  refine And.intro (fun _ => ?_) (fun c => absurd rfl c)
  exact nx h2 _ (X1.m f2.1) M2 (k_letter hG _)
theorem o_blank (hX : RX h S) (hM : RM h S) (hG : RG S) (hn : S 12 1 ≤ n) (h4 : 4 * n + 4 ≤ L) (hL : L ≤ 256) (nx : ∀ h' S', RX h' S' → RM h' S' → Kp S S' → qAt (d + 10, 138, some .boolean, (L + 1, xs), K) 419 [some (.ref 99), some (.ref 0), some (.ref 15), some (.int (nI (4 * n)))] [] h') : qAt (d + 10, 138, some .boolean, (L + 1, xs), K) 39 [some (.ref 99), some (.ref 0), some (.ref 15), some (.int (nI (4 * n)))] [] h := by
  refine at_wp [419] 120 (Nat.le_of_ble_eq_true rfl) rfl ?_
  refine x_blank hX (fun h1 f1 X1 => ?_)
  refine m_blank (hM.x f1) (fun h2 f2 M2 => ?_)
  refine And.intro (fun _ => ?_) (fun c => absurd rfl c)
  exact nx h2 _ (X1.m f2.1) M2 (k_blank hG)
theorem o_fault (hX : RX h S) (hM : RM h S) (hG : RG S) (hn : S 12 1 ≤ n) (h4 : 4 * n + 4 ≤ L) (hL : L ≤ 256) (nx : ∀ h' S', RX h' S' → RM h' S' → Kp S S' → qAt (d + 10, 138, some .boolean, (L + 1, xs), K) 419 [some (.ref 99), some (.ref 0), some (.ref 15), some (.int (nI (4 * n)))] [] h') : qAt (d + 10, 138, some .boolean, (L + 1, xs), K) 46 [some (.ref 99), some (.ref 0), some (.ref 15), some (.int (nI (4 * n)))] [] h := by
  refine at_wp [419] 120 (Nat.le_of_ble_eq_true rfl) rfl ?_
  refine x_fault hX hG ?_
  refine m_fault hM hG (fun h2 f2 M2 => ?_)
  refine And.intro (fun _ => ?_) (fun c => absurd rfl c)
  exact nx h2 S (hX.m f2.1) M2 (Kp.rf hG)
theorem o_court (hX : RX h S) (hM : RM h S) (hG : RG S) (hn : S 12 1 ≤ n) (h4 : 4 * n + 4 ≤ L) (hL : L ≤ 256) (nx : ∀ h' S', RX h' S' → RM h' S' → Kp S S' → qAt (d + 10, 138, some .boolean, (L + 1, xs), K) 419 [some (.ref 99), some (.ref 0), some (.ref 15), some (.int (nI (4 * n)))] [] h') : qAt (d + 10, 138, some .boolean, (L + 1, xs), K) 53 [some (.ref 99), some (.ref 0), some (.ref 15), some (.int (nI (4 * n)))] [] h := by
  refine at_wp [419] 120 (Nat.le_of_ble_eq_true rfl) rfl ?_
  refine x_court hX hG (fun h1 f1 X1 => ?_)
  refine m_court (hM.x f1) hG (fun h2 f2 M2 => ?_)
  refine And.intro (fun _ => ?_) (fun c => absurd rfl c)
  exact nx h2 _ (X1.m f2.1) M2 (k_court hG)
theorem o_about (hX : RX h S) (hM : RM h S) (hG : RG S) (hn : S 12 1 ≤ n) (h4 : 4 * n + 4 ≤ L) (hL : L ≤ 256) (nx : ∀ h' S', RX h' S' → RM h' S' → Kp S S' → qAt (d + 10, 138, some .boolean, (L + 1, xs), K) 419 [some (.ref 99), some (.ref 0), some (.ref 15), some (.int (nI (4 * n)))] [] h') : qAt (d + 10, 138, some .boolean, (L + 1, xs), K) 60 [some (.ref 99), some (.ref 0), some (.ref 15), some (.int (nI (4 * n)))] [] h := by
  refine at_wp [419] 120 (Nat.le_of_ble_eq_true rfl) rfl ?_
  refine And.intro (lw_in 1 h4 hL (by decide)) ?_
  refine And.intro (lw_in 2 h4 hL (by decide)) ?_
  refine x_about hX hG ?_
  refine And.intro (lw_in 1 h4 hL (by decide)) ?_
  refine And.intro (lw_in 2 h4 hL (by decide)) ?_
  refine m_about hM hG ?_
  refine And.intro (fun _ => ?_) (fun c => absurd rfl c)
  exact nx h S hX hM (Kp.rf hG)
theorem o_as (hX : RX h S) (hM : RM h S) (hG : RG S) (hn : S 12 1 ≤ n) (h4 : 4 * n + 4 ≤ L) (hL : L ≤ 256) (nx : ∀ h' S', RX h' S' → RM h' S' → Kp S S' → qAt (d + 10, 138, some .boolean, (L + 1, xs), K) 419 [some (.ref 99), some (.ref 0), some (.ref 15), some (.int (nI (4 * n)))] [] h') : qAt (d + 10, 138, some .boolean, (L + 1, xs), K) 87 [some (.ref 99), some (.ref 0), some (.ref 15), some (.int (nI (4 * n)))] [] h := by
  refine at_wp [419] 120 (Nat.le_of_ble_eq_true rfl) rfl ?_
  refine And.intro (lw_in 1 h4 hL (by decide)) ?_
  refine And.intro (lw_in 2 h4 hL (by decide)) ?_
  refine x_as hX hG ?_
  refine And.intro (lw_in 1 h4 hL (by decide)) ?_
  refine And.intro (lw_in 2 h4 hL (by decide)) ?_
  refine m_as hM hG ?_
  refine And.intro (fun _ => ?_) (fun c => absurd rfl c)
  exact nx h S hX hM (Kp.rf hG)
theorem o_sign (hX : RX h S) (hM : RM h S) (hG : RG S) (hn : S 12 1 ≤ n) (h4 : 4 * n + 4 ≤ L) (hL : L ≤ 256) (nx : ∀ h' S', RX h' S' → RM h' S' → Kp S S' → qAt (d + 10, 138, some .boolean, (L + 1, xs), K) 419 [some (.ref 99), some (.ref 0), some (.ref 15), some (.int (nI (4 * n)))] [] h') : qAt (d + 10, 138, some .boolean, (L + 1, xs), K) 114 [some (.ref 99), some (.ref 0), some (.ref 15), some (.int (nI (4 * n)))] [] h := by
  refine at_wp [419] 120 (Nat.le_of_ble_eq_true rfl) rfl ?_
  refine And.intro (lw_in 1 h4 hL (by decide)) ?_
  refine x_sign hX hG ?_
  refine And.intro (lw_in 1 h4 hL (by decide)) ?_
  refine m_sign hM hG ?_
  refine And.intro (fun _ => ?_) (fun c => absurd rfl c)
  exact nx h S hX hM (Kp.rf hG)
theorem o_forbid (hX : RX h S) (hM : RM h S) (hG : RG S) (hn : S 12 1 ≤ n) (h4 : 4 * n + 4 ≤ L) (hL : L ≤ 256) (nx : ∀ h' S', RX h' S' → RM h' S' → Kp S S' → qAt (d + 10, 138, some .boolean, (L + 1, xs), K) 419 [some (.ref 99), some (.ref 0), some (.ref 15), some (.int (nI (4 * n)))] [] h') : qAt (d + 10, 138, some .boolean, (L + 1, xs), K) 131 [some (.ref 99), some (.ref 0), some (.ref 15), some (.int (nI (4 * n)))] [] h := by
  refine at_wp [419] 120 (Nat.le_of_ble_eq_true rfl) rfl ?_
  refine And.intro (lw_in 1 h4 hL (by decide)) ?_
  refine And.intro (lw_in 2 h4 hL (by decide)) ?_
  refine And.intro (fun z => ?_) (fun z => ?_)
  · refine x_forbid (is := false) hX hG (fun h1 f1 X1 => ?_)
    refine And.intro (lw_in 1 h4 hL (by decide)) ?_
    refine And.intro (lw_in 2 h4 hL (by decide)) ?_
    refine And.intro (fun _ => ?_) (fun c => absurd z c)
    refine m_forbid (is := false) (hM.x f1) hG (fun h2 f2 M2 => ?_)
    refine And.intro (fun _ => ?_) (fun c => absurd rfl c)
    exact nx h2 _ (X1.m f2.1) M2 (k_forbid hG _ _)
  · refine x_forbid (is := true) hX hG (fun h1 f1 X1 => ?_)
    refine And.intro (lw_in 1 h4 hL (by decide)) ?_
    refine And.intro (lw_in 2 h4 hL (by decide)) ?_
    refine And.intro (fun c => absurd c z) (fun _ => ?_)
    refine m_forbid (is := true) (hM.x f1) hG (fun h2 f2 M2 => ?_)
    refine And.intro (fun _ => ?_) (fun c => absurd rfl c)
    exact nx h2 _ (X1.m f2.1) M2 (k_forbid hG _ _)
theorem o_tell (hX : RX h S) (hM : RM h S) (hG : RG S) (hn : S 12 1 ≤ n) (h4 : 4 * n + 4 ≤ L) (hL : L ≤ 256) (nx : ∀ h' S', RX h' S' → RM h' S' → Kp S S' → qAt (d + 10, 138, some .boolean, (L + 1, xs), K) 419 [some (.ref 99), some (.ref 0), some (.ref 15), some (.int (nI (4 * n)))] [] h') : qAt (d + 10, 138, some .boolean, (L + 1, xs), K) 166 [some (.ref 99), some (.ref 0), some (.ref 15), some (.int (nI (4 * n)))] [] h := by
  refine at_wp [419] 120 (Nat.le_of_ble_eq_true rfl) rfl ?_
  refine And.intro (lw_in 1 h4 hL (by decide)) ?_
  refine And.intro (lw_in 2 h4 hL (by decide)) ?_
  refine And.intro (lw_in 3 h4 hL (by decide)) ?_
  refine x_tell hX hG (fun h1 f1 X1 => ?_)
  refine And.intro (lw_in 1 h4 hL (by decide)) ?_
  refine And.intro (lw_in 2 h4 hL (by decide)) ?_
  refine And.intro (lw_in 3 h4 hL (by decide)) ?_
  refine m_tell (hM.x f1) hG (fun h2 f2 M2 => ?_)
  refine And.intro (fun _ => ?_) (fun c => absurd rfl c)
  exact nx h2 _ (X1.m f2.1) M2 (k_tell hG _ _ _)
theorem o_plan (hX : RX h S) (hM : RM h S) (hG : RG S) (hn : S 12 1 ≤ n) (h4 : 4 * n + 4 ≤ L) (hL : L ≤ 256) (nx : ∀ h' S', RX h' S' → RM h' S' → Kp S S' → qAt (d + 10, 138, some .boolean, (L + 1, xs), K) 419 [some (.ref 99), some (.ref 0), some (.ref 15), some (.int (nI (4 * n)))] [] h') : qAt (d + 10, 138, some .boolean, (L + 1, xs), K) 203 [some (.ref 99), some (.ref 0), some (.ref 15), some (.int (nI (4 * n)))] [] h := by
  refine at_wp [419] 120 (Nat.le_of_ble_eq_true rfl) rfl ?_
  refine And.intro (lw_in 1 h4 hL (by decide)) ?_
  refine And.intro (lw_in 2 h4 hL (by decide)) ?_
  refine x_plan hX hG (fun h1 f1 X1 => ?_)
  refine And.intro (lw_in 1 h4 hL (by decide)) ?_
  refine And.intro (lw_in 2 h4 hL (by decide)) ?_
  refine m_plan (hM.x f1) hG (fun h2 f2 M2 => ?_)
  refine And.intro (fun _ => ?_) (fun c => absurd rfl c)
  exact nx h2 _ (X1.m f2.1) M2 (k_plan hG _ _)
theorem o_safe (hX : RX h S) (hM : RM h S) (hG : RG S) (hn : S 12 1 ≤ n) (h4 : 4 * n + 4 ≤ L) (hL : L ≤ 256) (nx : ∀ h' S', RX h' S' → RM h' S' → Kp S S' → qAt (d + 10, 138, some .boolean, (L + 1, xs), K) 419 [some (.ref 99), some (.ref 0), some (.ref 15), some (.int (nI (4 * n)))] [] h') : qAt (d + 10, 138, some .boolean, (L + 1, xs), K) 230 [some (.ref 99), some (.ref 0), some (.ref 15), some (.int (nI (4 * n)))] [] h := by
  refine at_wp [419] 120 (Nat.le_of_ble_eq_true rfl) rfl ?_
  refine And.intro (lw_in 1 h4 hL (by decide)) ?_
  refine And.intro (lw_in 2 h4 hL (by decide)) ?_
  refine x_safe hX hG ?_
  refine And.intro (lw_in 1 h4 hL (by decide)) ?_
  refine And.intro (lw_in 2 h4 hL (by decide)) ?_
  refine m_safe hM hG ?_
  refine And.intro (fun _ => ?_) (fun c => absurd rfl c)
  exact nx h S hX hM (Kp.rf hG)
theorem o_ask (hX : RX h S) (hM : RM h S) (hG : RG S) (hn : S 12 1 ≤ n) (h4 : 4 * n + 4 ≤ L) (hL : L ≤ 256) (nx : ∀ h' S', RX h' S' → RM h' S' → Kp S S' → qAt (d + 10, 138, some .boolean, (L + 1, xs), K) 419 [some (.ref 99), some (.ref 0), some (.ref 15), some (.int (nI (4 * n)))] [] h') : qAt (d + 10, 138, some .boolean, (L + 1, xs), K) 257 [some (.ref 99), some (.ref 0), some (.ref 15), some (.int (nI (4 * n)))] [] h := by
  refine at_wp [419] 120 (Nat.le_of_ble_eq_true rfl) rfl ?_
  refine And.intro (lw_in 1 h4 hL (by decide)) ?_
  refine And.intro (lw_in 2 h4 hL (by decide)) ?_
  refine And.intro (lw_in 3 h4 hL (by decide)) ?_
  refine And.intro (fun z => ?_) (fun z => ?_)
  · refine x_ask (so := false) hX hG (fun h1 f1 X1 => ?_)
    refine And.intro (lw_in 1 h4 hL (by decide)) ?_
    refine And.intro (lw_in 2 h4 hL (by decide)) ?_
    refine And.intro (lw_in 3 h4 hL (by decide)) ?_
    refine And.intro (fun _ => ?_) (fun c => absurd z c)
    refine m_ask (so := false) (hM.x f1) hG (fun h2 f2 M2 => ?_)
    refine And.intro (fun _ => ?_) (fun c => absurd rfl c)
    exact nx h2 _ (X1.m f2.1) M2 (k_ask hG _ _ _)
  · refine x_ask (so := true) hX hG (fun h1 f1 X1 => ?_)
    refine And.intro (lw_in 1 h4 hL (by decide)) ?_
    refine And.intro (lw_in 2 h4 hL (by decide)) ?_
    refine And.intro (lw_in 3 h4 hL (by decide)) ?_
    refine And.intro (fun c => absurd c z) (fun _ => ?_)
    refine m_ask (so := true) (hM.x f1) hG (fun h2 f2 M2 => ?_)
    refine And.intro (fun _ => ?_) (fun c => absurd rfl c)
    exact nx h2 _ (X1.m f2.1) M2 (k_ask hG _ _ _)
theorem o_forget (hX : RX h S) (hM : RM h S) (hG : RG S) (hn : S 12 1 ≤ n) (h4 : 4 * n + 4 ≤ L) (hL : L ≤ 256) (nx : ∀ h' S', RX h' S' → RM h' S' → Kp S S' → qAt (d + 10, 138, some .boolean, (L + 1, xs), K) 419 [some (.ref 99), some (.ref 0), some (.ref 15), some (.int (nI (4 * n)))] [] h') : qAt (d + 10, 138, some .boolean, (L + 1, xs), K) 302 [some (.ref 99), some (.ref 0), some (.ref 15), some (.int (nI (4 * n)))] [] h := by
  refine at_wp [419] 120 (Nat.le_of_ble_eq_true rfl) rfl ?_
  refine x_forget hX (fun h1 f1 X1 => ?_)
  refine m_forget (hM.x f1) (fun h2 f2 M2 => ?_)
  refine And.intro (fun _ => ?_) (fun c => absurd rfl c)
  exact nx h2 _ (X1.m f2.1) M2 (k_forget hG)
theorem o_tells (hX : RX h S) (hM : RM h S) (hG : RG S) (hn : S 12 1 ≤ n) (h4 : 4 * n + 4 ≤ L) (hL : L ≤ 256) (nx : ∀ h' S', RX h' S' → RM h' S' → Kp S S' → qAt (d + 10, 138, some .boolean, (L + 1, xs), K) 419 [some (.ref 99), some (.ref 0), some (.ref 15), some (.int (nI (4 * n)))] [] h') : qAt (d + 10, 138, some .boolean, (L + 1, xs), K) 309 [some (.ref 99), some (.ref 0), some (.ref 15), some (.int (nI (4 * n)))] [] h := by
  refine at_wp [419] 120 (Nat.le_of_ble_eq_true rfl) rfl ?_
  refine And.intro (lw_in 1 h4 hL (by decide)) ?_
  refine x_tells hX hG ?_
  refine And.intro (lw_in 1 h4 hL (by decide)) ?_
  refine m_tells hM hG ?_
  refine And.intro (fun _ => ?_) (fun c => absurd rfl c)
  exact nx h S hX hM (Kp.rf hG)
theorem o_next (hX : RX h S) (hM : RM h S) (hG : RG S) (hn : S 12 1 ≤ n) (h4 : 4 * n + 4 ≤ L) (hL : L ≤ 256) (nx : ∀ h' S', RX h' S' → RM h' S' → Kp S S' → qAt (d + 10, 138, some .boolean, (L + 1, xs), K) 419 [some (.ref 99), some (.ref 0), some (.ref 15), some (.int (nI (4 * n)))] [] h') : qAt (d + 10, 138, some .boolean, (L + 1, xs), K) 326 [some (.ref 99), some (.ref 0), some (.ref 15), some (.int (nI (4 * n)))] [] h := by
  refine at_wp [419] 120 (Nat.le_of_ble_eq_true rfl) rfl ?_
  refine And.intro (lw_in 1 h4 hL (by decide)) ?_
  refine x_next hX hG ?_
  refine And.intro (lw_in 1 h4 hL (by decide)) ?_
  refine m_next hM hG ?_
  refine And.intro (fun _ => ?_) (fun c => absurd rfl c)
  exact nx h S hX hM (Kp.rf hG)
theorem o_audiences (hX : RX h S) (hM : RM h S) (hG : RG S) (hn : S 12 1 ≤ n) (h4 : 4 * n + 4 ≤ L) (hL : L ≤ 256) (nx : ∀ h' S', RX h' S' → RM h' S' → Kp S S' → qAt (d + 10, 138, some .boolean, (L + 1, xs), K) 419 [some (.ref 99), some (.ref 0), some (.ref 15), some (.int (nI (4 * n)))] [] h') : qAt (d + 10, 138, some .boolean, (L + 1, xs), K) 343 [some (.ref 99), some (.ref 0), some (.ref 15), some (.int (nI (4 * n)))] [] h := by
  refine at_wp [419] 120 (Nat.le_of_ble_eq_true rfl) rfl ?_
  refine And.intro (lw_in 1 h4 hL (by decide)) ?_
  refine And.intro (lw_in 2 h4 hL (by decide)) ?_
  refine And.intro (lw_in 3 h4 hL (by decide)) ?_
  refine x_audiences hX hG (fun h1 f1 X1 => ?_)
  refine And.intro (lw_in 1 h4 hL (by decide)) ?_
  refine And.intro (lw_in 2 h4 hL (by decide)) ?_
  refine And.intro (lw_in 3 h4 hL (by decide)) ?_
  refine m_audiences (hM.x f1) hG (fun h2 f2 M2 => ?_)
  refine And.intro (fun _ => ?_) (fun c => absurd rfl c)
  exact nx h2 S (X1.m f2) M2 (Kp.rf hG)
theorem o_image (hX : RX h S) (hM : RM h S) (hG : RG S) (hn : S 12 1 ≤ n) (h4 : 4 * n + 4 ≤ L) (hL : L ≤ 256) (nx : ∀ h' S', RX h' S' → RM h' S' → Kp S S' → qAt (d + 10, 138, some .boolean, (L + 1, xs), K) 419 [some (.ref 99), some (.ref 0), some (.ref 15), some (.int (nI (4 * n)))] [] h') : qAt (d + 10, 138, some .boolean, (L + 1, xs), K) 380 [some (.ref 99), some (.ref 0), some (.ref 15), some (.int (nI (4 * n)))] [] h := by
  refine at_wp [419] 120 (Nat.le_of_ble_eq_true rfl) rfl ?_
  refine x_image hX hG (fun h1 f1 X1 => ?_)
  refine m_image (hM.x f1) hG (fun h2 f2 M2 => ?_)
  refine And.intro (fun _ => ?_) (fun c => absurd rfl c)
  exact nx h2 _ (X1.m f2.1) M2 (k_image hG)
theorem o_restore (hX : RX h S) (hM : RM h S) (hG : RG S) (hn : S 12 1 ≤ n) (h4 : 4 * n + 4 ≤ L) (hL : L ≤ 256) (nx : ∀ h' S', RX h' S' → RM h' S' → Kp S S' → qAt (d + 10, 138, some .boolean, (L + 1, xs), K) 419 [some (.ref 99), some (.ref 0), some (.ref 15), some (.int (nI (4 * n)))] [] h') : qAt (d + 10, 138, some .boolean, (L + 1, xs), K) 387 [some (.ref 99), some (.ref 0), some (.ref 15), some (.int (nI (4 * n)))] [] h := by
  refine at_wp [419] 120 (Nat.le_of_ble_eq_true rfl) rfl ?_
  refine x_restore hX hG (fun h1 f1 X1 => ?_)
  refine m_restore (hM.x f1) hG (by omega) (fun h2 f2 M2 => ?_)
  refine And.intro (fun _ => ?_) (fun c => absurd rfl c)
  exact nx h2 _ (X1.m f2.1) M2 (k_restore hG)
theorem o_count (hX : RX h S) (hM : RM h S) (hG : RG S) (hn : S 12 1 ≤ n) (h4 : 4 * n + 4 ≤ L) (hL : L ≤ 256) (nx : ∀ h' S', RX h' S' → RM h' S' → Kp S S' → qAt (d + 10, 138, some .boolean, (L + 1, xs), K) 419 [some (.ref 99), some (.ref 0), some (.ref 15), some (.int (nI (4 * n)))] [] h') : qAt (d + 10, 138, some .boolean, (L + 1, xs), K) 394 [some (.ref 99), some (.ref 0), some (.ref 15), some (.int (nI (4 * n)))] [] h := by
  refine at_wp [419] 120 (Nat.le_of_ble_eq_true rfl) rfl ?_
  refine And.intro (lw_in 1 h4 hL (by decide)) ?_
  refine x_count hX hG ?_
  refine And.intro (lw_in 1 h4 hL (by decide)) ?_
  refine m_count hM hG ?_
  refine And.intro (fun _ => ?_) (fun c => absurd rfl c)
  exact nx h S hX hM (Kp.rf hG)
theorem o_digest (hX : RX h S) (hM : RM h S) (hG : RG S) (hn : S 12 1 ≤ n) (h4 : 4 * n + 4 ≤ L) (hL : L ≤ 256) (nx : ∀ h' S', RX h' S' → RM h' S' → Kp S S' → qAt (d + 10, 138, some .boolean, (L + 1, xs), K) 419 [some (.ref 99), some (.ref 0), some (.ref 15), some (.int (nI (4 * n)))] [] h') : qAt (d + 10, 138, some .boolean, (L + 1, xs), K) 411 [some (.ref 99), some (.ref 0), some (.ref 15), some (.int (nI (4 * n)))] [] h := by
  refine at_wp [419] 120 (Nat.le_of_ble_eq_true rfl) rfl ?_
  refine x_digest hX hG ?_
  refine m_digest hM hG (fun h2 e2 => ?_)
  refine And.intro (fun _ => ?_) (fun c => absurd ((lg_cmp_eq _ _).mpr rfl) c)
  exact nx h2 S (hX.keep (fun a _ => by rw [e2])) (hM.keep (fun a _ => by rw [e2])) (Kp.rf hG)
theorem l_law (hL : L ≤ 256) (hk : ∀ h', K (some (.int 1)) h') : ∀ m n, L < 4 * n + 4 + 4 * m → ∀ h S, RX h S → RM h S → RG S → S 12 1 ≤ n → n ≤ 64 → qAt (d + 10, 138, some .boolean, (L + 1, xs), K) 10 [some (.ref 99), some (.ref 0), some (.ref 15), some (.int (nI (4 * n)))] [] h := by
  intro m
  have ex : ∀ n, L < 4 * n + 4 → n ≤ 64 → ∀ h, qAt (d + 10, 138, some .boolean, (L + 1, xs), K) 10 [some (.ref 99), some (.ref 0), some (.ref 15), some (.int (nI (4 * n)))] [] h := by
    intro n hn h64 h
    refine at_wp [] 30 (Nat.le_of_ble_eq_true rfl) rfl ?_
    refine And.intro (Nat.succ_ne_zero L) ?_
    refine And.intro (fun _ => ⟨Or.inr rfl, hk h⟩) (fun c => absurd ?_ c)
    show nI L - nI 4 < nI (4 * n)
    rw [Int32.lt_iff_toInt_lt, pk_sub_toInt (by omega) (by omega), nI_toInt (by omega)]
    omega
  induction m with
  | zero => exact fun n hn h S _ _ _ _ h64 => ex n (by omega) h64 h
  | succ m ih =>
    intro n hn h S hX hM hG hc h64
    by_cases h4 : 4 * n + 4 ≤ L
    · have nx : ∀ h' S', RX h' S' → RM h' S' → Kp S S' → qAt (d + 10, 138, some .boolean, (L + 1, xs), K) 419 [some (.ref 99), some (.ref 0), some (.ref 15), some (.int (nI (4 * n)))] [] h' := by
        intro h' S' X' M' kp
        have := ih (n + 1) (by omega) h' S' X' M' kp.1 (by have := kp.2; omega) (by omega)
        rw [show 4 * (n + 1) = 4 * n + 4 by omega, ← nI_add (4 * n) 4] at this
        refine at_wp [10] 10 (Nat.le_of_ble_eq_true rfl) rfl ?_
        exact this
      refine at_wp [22,39,46,53,60,87,114,131,166,203,230,257,302,309,326,343,380,387,394,411,419] 30 (Nat.le_of_ble_eq_true rfl) rfl ?_
      refine And.intro (Nat.succ_ne_zero L) ?_
      refine And.intro (fun c => absurd (show nI L - nI 4 < nI (4 * n) from c) (by rw [pk_sub (by omega)]; exact nI_nlt (by omega) (by omega))) (fun _ => ?_)
      refine And.intro (vp_in_nI (N := L + 1 - 1) (by omega) (by omega)) ?_
      refine And.intro (fun _ => o_letter hX hM hG hc h4 hL nx) (fun _ => ?_)
      refine And.intro (fun _ => o_blank hX hM hG hc h4 hL nx) (fun _ => ?_)
      refine And.intro (fun _ => o_fault hX hM hG hc h4 hL nx) (fun _ => ?_)
      refine And.intro (fun _ => o_court hX hM hG hc h4 hL nx) (fun _ => ?_)
      refine And.intro (fun _ => o_about hX hM hG hc h4 hL nx) (fun _ => ?_)
      refine And.intro (fun _ => o_as hX hM hG hc h4 hL nx) (fun _ => ?_)
      refine And.intro (fun _ => o_sign hX hM hG hc h4 hL nx) (fun _ => ?_)
      refine And.intro (fun _ => o_forbid hX hM hG hc h4 hL nx) (fun _ => ?_)
      refine And.intro (fun _ => o_tell hX hM hG hc h4 hL nx) (fun _ => ?_)
      refine And.intro (fun _ => o_plan hX hM hG hc h4 hL nx) (fun _ => ?_)
      refine And.intro (fun _ => o_safe hX hM hG hc h4 hL nx) (fun _ => ?_)
      refine And.intro (fun _ => o_ask hX hM hG hc h4 hL nx) (fun _ => ?_)
      refine And.intro (fun _ => o_forget hX hM hG hc h4 hL nx) (fun _ => ?_)
      refine And.intro (fun _ => o_tells hX hM hG hc h4 hL nx) (fun _ => ?_)
      refine And.intro (fun _ => o_next hX hM hG hc h4 hL nx) (fun _ => ?_)
      refine And.intro (fun _ => o_audiences hX hM hG hc h4 hL nx) (fun _ => ?_)
      refine And.intro (fun _ => o_image hX hM hG hc h4 hL nx) (fun _ => ?_)
      refine And.intro (fun _ => o_restore hX hM hG hc h4 hL nx) (fun _ => ?_)
      refine And.intro (fun _ => o_count hX hM hG hc h4 hL nx) (fun _ => ?_)
      refine And.intro (fun _ => o_digest hX hM hG hc h4 hL nx) (fun _ => ?_)
      exact nx h S hX hM (Kp.rf hG)
    · exact ex n (by omega) h64 h
end QLL
