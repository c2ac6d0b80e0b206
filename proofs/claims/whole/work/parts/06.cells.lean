/-! fields, arrays, the text -/
theorem qW_at {cI cB : ClassId} {ad : Nat → Nat} {h : qH} {r : Nat} (hr : r < 31) : (qW cI cB ad h)[r]? = some (ad r, qce cI cB ad h r) := by
  unfold qW
  rw [List.getElem?_map, List.getElem?_range hr]
  rfl
theorem qce_congr {cI cB : ClassId} {ad : Nat → Nat} {h h' : qH} {r : Nat} (h1 : h'.1 r = h.1 r) (h2 : h'.2 r = h.2 r) : qce cI cB ad h' r = qce cI cB ad h r := by
  unfold qce qfv
  rw [h1, h2]
theorem qI_ne {h : qH} {a k r : Nat} {v : Int32} (hr : r ≠ a) : (qI h a k v).1 r = h.1 r := by
  funext b
  show (if r = a ∧ b = k then v else h.1 r b) = h.1 r b
  rw [if_neg (fun z => hr z.1)]
theorem qJ_ne {h : qH} {a k r : Nat} {v : Int64} (hr : r ≠ a) : (qJ h a k v).2 r = h.2 r := by
  funext b
  show (if r = a ∧ b = k then v else h.2 r b) = h.2 r b
  rw [if_neg (fun z => hr z.1)]
theorem qW_set {cI cB : ClassId} {ad : Nat → Nat} {h h' : qH} {a : Nat} {E : va_E} (ha : a < 31) (hE : qce cI cB ad h' a = E) (hne : ∀ r, r ≠ a → qce cI cB ad h' r = qce cI cB ad h r) : (qW cI cB ad h).set a (ad a, E) = qW cI cB ad h' := by
  subst hE
  apply List.ext_getElem?
  intro i
  by_cases hi : i = a
  · subst hi
    rw [qW_at ha, List.getElem?_set_self (by unfold qW; simp; exact ha)]
  · rw [List.getElem?_set_ne (Ne.symm hi)]
    rcases Nat.lt_or_ge i 31 with q | q
    · rw [qW_at q, qW_at q, hne i hi]
    · rw [List.getElem?_eq_none (by unfold qW; simp; exact q), List.getElem?_eq_none (by unfold qW; simp; exact q)]
theorem qkd_lt {r c : Nat} (h : (qkd r).1 = c) (hc : c = 0 ∨ c = 1 ∨ c = 2) : r < 31 := by
  rcases Nat.lt_or_ge r 31 with q | q
  · exact q
  · unfold qkd at h
    rw [List.getD_eq_getElem?_getD, List.getElem?_eq_none q] at h
    simp only [Option.getD_none] at h
    split at h
    · omega
    · split at h
      · omega
      · split at h
        · omega
        · omega
theorem qkd_97 {r n : Nat} (h : qkd r = (5, n)) : r = 97 := by
  rcases Nat.lt_or_ge r 31 with q | q
  · exact absurd h ((by decide +kernel : ∀ r, r < 31 → ∀ n, n < 1 → (qkd r).1 ≠ 5) r q 0 (by decide) |> fun z w => z (by rw [w]))
  · unfold qkd at h
    rw [List.getD_eq_getElem?_getD, List.getElem?_eq_none q] at h
    simp only [Option.getD_none] at h
    split at h
    · assumption
    · split at h
      · cases h
      · split at h
        · cases h
        · cases h
theorem qkd_98 {r n : Nat} (h : qkd r = (6, n)) : r = 98 ∧ n = 5 := by
  rcases Nat.lt_or_ge r 31 with q | q
  · exact absurd h ((by decide +kernel : ∀ r, r < 31 → ∀ n, n < 1 → (qkd r).1 ≠ 6) r q 0 (by decide) |> fun z w => z (by rw [w]))
  · unfold qkd at h
    rw [List.getD_eq_getElem?_getD, List.getElem?_eq_none q] at h
    simp only [Option.getD_none] at h
    split at h
    · cases h
    · split at h
      · cases h
        exact ⟨by assumption, rfl⟩
      · split at h
        · cases h
        · cases h
theorem qkd_99 {r n : Nat} (h : qkd r = (4, n)) : r = 99 := by
  rcases Nat.lt_or_ge r 31 with q | q
  · exact absurd h ((by decide +kernel : ∀ r, r < 31 → ∀ n, n < 1 → (qkd r).1 ≠ 4) r q 0 (by decide) |> fun z w => z (by rw [w]))
  · unfold qkd at h
    rw [List.getD_eq_getElem?_getD, List.getElem?_eq_none q] at h
    simp only [Option.getD_none] at h
    split at h
    · cases h
    · split at h
      · cases h
      · split at h
        · assumption
        · cases h
theorem qkd_c {r c : Nat} (h : qkd r = (0, c)) : c < 5 := by
  have hr : r < 31 := qkd_lt (c := 0) (by rw [h]) (Or.inl rfl)
  have := (by decide +kernel : ∀ r, r < 31 → (qkd r).1 = 0 → (qkd r).2 < 5) r hr (by rw [h])
  rw [h] at this
  exact this
def qcl (c : Nat) : vw_C := vwCl.getD c (RJ0, TX0, 0)
def qtyF (c : Nat) : Nat → FieldType := match c with
  | 0 => tyX0
  | 1 => tyX2
  | 2 => tyX3
  | 3 => tyX4
  | _ => tyX5
theorem qcl_ok {c : Nat} (hc : c < 5) : vwCl[c]? = some ((qcl c).1, qTf c, qnf c) ∧ (∀ w ∈ u_ws (qcl c).1 (qTf c) (qnf c), w ∈ qU) ∧ (∀ k, k < qnf c → parseFieldDescriptor (qTf c k).2.2.1 = some (qtyF c k)) ∧ (∀ a, a < qnf c → ∀ b, b < qnf c → a ≠ b → (qTf c a).2.1 ≠ (qTf c b).2.1) := by
  match c, hc with
  | 0, _ => exact ⟨rfl, qlay0, tyX0_ok, nmX0⟩
  | 1, _ => exact ⟨rfl, qlay1, tyX2_ok, nmX2⟩
  | 2, _ => exact ⟨rfl, qlay2, tyX3_ok, nmX3⟩
  | 3, _ => exact ⟨rfl, qlay3, tyX4_ok, nmX4⟩
  | 4, _ => exact ⟨rfl, qlay4, tyX5_ok, nmX5⟩
def qfkB (c k : Nat) : Bool := match qfk c k with
  | 0 => (qTf c k).2.2.2 == false && decide (parseFieldDescriptor (qTf c k).2.2.1 = some .int)
  | 1 => (qTf c k).2.2.2 == false && decide (parseFieldDescriptor (qTf c k).2.2.1 = some .long)
  | 3 => (qTf c k).2.2.2 == false && decide (parseFieldDescriptor (qTf c k).2.2.1 = some .boolean)
  | _ => true
theorem qfk_ok : ∀ c, c < 5 → ∀ k, k < qnf c → qfkB c k = true := by decide +kernel
section QCELL
variable {X : qX} {pc : Nat} {ls : qL} {r : List Value} {h : qH}
/-- the two kinds of links of a field -/
def qlk (own idx f : Nat) : Bool := qFT.elem (own, idx, f) || qNT.elem (own, idx, f)
theorem ok_getfield {a ci k idx : Nat} (hd : decode (qb X.2.1) pc = .ok (.getfield idx, 3)) (hlk : qlk (qownL.getD X.2.1 0) idx (64 * ci + k) = true) (hk64 : k < 64) (hka : qkd a = (0, ci)) (hk : k < qnf ci) (kk : qAtP X (pc + 3) ls (qfv h a ci k :: r) h) : qAtP X pc ls (.ref a :: r) h := by
  intro p l e R s m args below meth c D cI cB ad A H locs k0 n Q M hP hD hS lsM hl
  have ha : a < 31 := qkd_lt (c := 0) (by rw [hka]) (Or.inl rfl)
  have hc : ci < 5 := qkd_c hka
  obtain ⟨hcl, hin, -, -⟩ := qcl_ok hc
  have hcell := qW_at (cI := cI) (cB := cB) (ad := ad) (h := h) ha
  unfold qce at hcell
  rw [hka] at hcell
  have hdiv : (64 * ci + k) / 64 = ci := by omega
  have hmod : (64 * ci + k) % 64 = k := by omega
  have go := kk p l e R s m args below meth c D cI cB ad A H locs k0 n Q M hP hD hS lsM hl
  obtain ⟨hx, hb, hml, hown, hts, hK, hA, hRO, -⟩ := M
  have hv : ((List.range (qnf ci)).map (fun k => qcv ad (qfv h a ci k)))[k]? = some (qcv ad (qfv h a ci k)) := by
    rw [List.getElem?_map, List.getElem?_range hk]
    rfl
  rcases (Bool.or_eq_true _ _).mp hlk with q | q
  · have hw := qFT_ok _ (List.mem_of_elem_eq_true q)
    simp only [hdiv, hmod] at hw
    exact va_get hx hb hts hin hown hK hP a hcell hcl k hk (hts _ hw) (fun _ z => z) hv hd go
  · have hw := hRO.2.2.2 _ (List.mem_of_elem_eq_true q)
    simp only [qnest, hdiv, hmod] at hw
    exact va_getN hx hb hts hin hown hK hP a hcell hcl k hk (va_Nw.use rfl hw) (fun _ z => z) hv hd go
theorem qset_map {N k : Nat} {f g : Nat → Value} {v : Value} (hk : k < N) (h1 : g k = v) (h2 : ∀ j, j ≠ k → g j = f j) : ((List.range N).map f).set k v = (List.range N).map g := by
  apply List.ext_getElem?
  intro i
  by_cases hi : i = k
  · subst hi
    rw [List.getElem?_set_self (by simpa using hk), List.getElem?_map, List.getElem?_range hk]
    simp [h1]
  · rw [List.getElem?_set_ne (Ne.symm hi), List.getElem?_map, List.getElem?_map]
    rcases Nat.lt_or_ge i N with q | q
    · rw [List.getElem?_range q]
      simp [h2 i hi]
    · rw [List.getElem?_eq_none (by simpa using q)]
      rfl
theorem ok_put {a ci k idx : Nat} {v : Value} {h' : qH} {ty : FieldType} (hd : decode (qb X.2.1) pc = .ok (.putfield idx, 3)) (hlk : qlk (qownL.getD X.2.1 0) idx (64 * ci + k) = true) (hk64 : k < 64) (hka : qkd a = (0, ci)) (hk : k < qnf ci)
    (hfin : (qTf ci k).2.2.2 = false) (hty : parseFieldDescriptor (qTf ci k).2.2.1 = some ty) (hn : narrow ty v = v) (hfit : fits ty v = true) (hcv : ∀ ad, qcv ad v = v)
    (he : ∀ ad, ∀ j, qcv ad (qfv h' a ci j) = if j = k then v else qcv ad (qfv h a ci j)) (hne : ∀ r, r ≠ a → h'.1 r = h.1 r ∧ h'.2 r = h.2 r) (kk : qAtP X (pc + 3) ls r h') : qAtP X pc ls (v :: .ref a :: r) h := by
  intro p l e R s m args below meth c D cI cB ad A H locs k0 n Q M hP hD hS lsM hl
  have ha : a < 31 := qkd_lt (c := 0) (by rw [hka]) (Or.inl rfl)
  have hc : ci < 5 := qkd_c hka
  obtain ⟨hcl, hin, ht, hnm⟩ := qcl_ok hc
  have hcell := qW_at (cI := cI) (cB := cB) (ad := ad) (h := h) ha
  unfold qce at hcell
  rw [hka] at hcell
  have hdiv : (64 * ci + k) / 64 = ci := by omega
  have hmod : (64 * ci + k) % 64 = k := by omega
  have go := kk p l e R s m args below meth c D cI cB ad A
  have M0 := M
  obtain ⟨hx, hb, hml, hown, hts, hK, hA, hRO, -⟩ := M
  have hset : (qW cI cB ad h).set a (ad a, .inr (ci, ((List.range (qnf ci)).map (fun k => qcv ad (qfv h a ci k))).set k v)) = qW cI cB ad h' := by
    refine qW_set ha ?_ (fun r hr => qce_congr (hne r hr).1 (hne r hr).2)
    unfold qce
    rw [hka]
    refine congrArg (fun l => Sum.inr (ci, l)) ?_
    refine (qset_map hk ?_ ?_).symm
    · rw [he, if_pos rfl]
    · intro j hj
      rw [he, if_neg hj]
  have hlen : k < ((List.range (qnf ci)).map (fun k => qcv ad (qfv h a ci k))).length := by simpa using hk
  show W p l e R s m args below meth _ H locs k0 n Q (F0 m pc lsM (qcv ad v :: .ref (ad a) :: r.map (qcv ad)))
  rw [hcv ad]
  rcases (Bool.or_eq_true _ _).mp hlk with q | q
  · have hw := qFT_ok _ (List.mem_of_elem_eq_true q)
    simp only [hdiv, hmod] at hw
    refine va_put hx hb hts hin (qtyF _) ht hnm hown hK hP hD hS a hcell hcl k hk (hts _ hw) (fun _ z => z) hfin hty hn hfit hlen hd (fun H1 locs1 hP1 hD1 hS1 => ?_)
    rw [hset] at hP1 hD1
    exact go H1 locs1 k0 n Q M0 hP1 hD1 hS1 lsM hl
  · have hw := hRO.2.2.2 _ (List.mem_of_elem_eq_true q)
    simp only [qnest, hdiv, hmod] at hw
    refine va_putN hx hb hts hin (qtyF _) ht hnm hown hK hP hD hS a hcell hcl k hk (va_Nw.use rfl hw) (fun _ z => z) hfin hty hn hfit hlen hd (fun H1 locs1 hP1 hD1 hS1 => ?_)
    rw [hset] at hP1 hD1
    exact go H1 locs1 k0 n Q M0 hP1 hD1 hS1 lsM hl

theorem ok_iald {a N : Nat} {i : Int32} (hd : decode (qb X.2.1) pc = .ok (.iaload, 1)) (hka : qkd a = (1, N)) (hin : vp_in i N) (kk : qAtP X (pc + 1) ls (.int (h.1 a i.toNatClampNeg) :: r) h) : qAtP X pc ls (.int i :: .ref a :: r) h := by
  intro p l e R s m args below meth c D cI cB ad A H locs k0 n Q M hP hD hS lsM hl
  have ha : a < 31 := qkd_lt (c := 1) (by rw [hka]) (by decide)
  have hcell := qW_at (cI := cI) (cB := cB) (ad := ad) (h := h) ha
  unfold qce at hcell
  rw [hka] at hcell
  exact va_iald M.1 M.2.1 M.2.2.2.2.2.1 hP a 0 hcell rfl hin hd (kk p l e R s m args below meth c D cI cB ad A H locs k0 n Q M hP hD hS lsM hl)
theorem ok_iast {a N : Nat} {i v : Int32} (hd : decode (qb X.2.1) pc = .ok (.iastore, 1)) (hka : qkd a = (1, N)) (hin : vp_in i N) (kk : qAtP X (pc + 1) ls r (qI h a i.toNatClampNeg (v))) : qAtP X pc ls (.int v :: .int i :: .ref a :: r) h := by
  intro p l e R s m args below meth c D cI cB ad A H locs k0 n Q M hP hD hS lsM hl
  have ha : a < 31 := qkd_lt (c := 1) (by rw [hka]) (by decide)
  have hcell := qW_at (cI := cI) (cB := cB) (ad := ad) (h := h) ha
  unfold qce at hcell
  rw [hka] at hcell
  refine va_iast M.1 M.2.1 M.2.2.2.2.2.1 hP hD hS a 0 hcell rfl hin hd (fun H1 locs1 hP1 hD1 hS1 => ?_)
  have hset : (qW cI cB ad h).set a (ad a, .inl (cI, N, .inl (upd (h.1 a) i.toNatClampNeg (v)))) = qW cI cB ad (qI h a i.toNatClampNeg (v)) := by
    refine qW_set ha ?_ (fun r hr => qce_congr (qI_ne hr) rfl)
    unfold qce
    rw [hka]
    refine congrArg (fun f => Sum.inl (cI, N, Sum.inl f)) ?_
    funext j
    show (if a = a ∧ j = i.toNatClampNeg then _ else _) = _
    unfold upd
    by_cases hj : j = i.toNatClampNeg
    · rw [if_pos ⟨rfl, hj⟩, if_pos hj]
    · rw [if_neg (fun z => hj z.2), if_neg hj]
  rw [hset] at hP1 hD1
  exact kk p l e R s m args below meth c D cI cB ad A H1 locs1 k0 n Q M hP1 hD1 hS1 lsM hl
theorem ok_bald {a N : Nat} {i : Int32} (hd : decode (qb X.2.1) pc = .ok (.baload, 1)) (hka : qkd a = (2, N)) (hin : vp_in i N) (kk : qAtP X (pc + 1) ls (.int (h.1 a i.toNatClampNeg) :: r) h) : qAtP X pc ls (.int i :: .ref a :: r) h := by
  intro p l e R s m args below meth c D cI cB ad A H locs k0 n Q M hP hD hS lsM hl
  have ha : a < 31 := qkd_lt (c := 2) (by rw [hka]) (by decide)
  have hcell := qW_at (cI := cI) (cB := cB) (ad := ad) (h := h) ha
  unfold qce at hcell
  rw [hka] at hcell
  exact va_bald M.1 M.2.1 M.2.2.2.2.2.1 hP a 1 hcell rfl hin hd (kk p l e R s m args below meth c D cI cB ad A H locs k0 n Q M hP hD hS lsM hl)
theorem ok_bast {a N : Nat} {i v : Int32} (hd : decode (qb X.2.1) pc = .ok (.bastore, 1)) (hka : qkd a = (2, N)) (hin : vp_in i N) (kk : qAtP X (pc + 1) ls r (qI h a i.toNatClampNeg (vp_nar .byte v))) : qAtP X pc ls (.int v :: .int i :: .ref a :: r) h := by
  intro p l e R s m args below meth c D cI cB ad A H locs k0 n Q M hP hD hS lsM hl
  have ha : a < 31 := qkd_lt (c := 2) (by rw [hka]) (by decide)
  have hcell := qW_at (cI := cI) (cB := cB) (ad := ad) (h := h) ha
  unfold qce at hcell
  rw [hka] at hcell
  refine va_bast M.1 M.2.1 M.2.2.2.2.2.1 hP hD hS a 1 hcell rfl hin hd (fun H1 locs1 hP1 hD1 hS1 => ?_)
  have hset : (qW cI cB ad h).set a (ad a, .inl (cB, N, .inl (upd (h.1 a) i.toNatClampNeg (vp_nar .byte v)))) = qW cI cB ad (qI h a i.toNatClampNeg (vp_nar .byte v)) := by
    refine qW_set ha ?_ (fun r hr => qce_congr (qI_ne hr) rfl)
    unfold qce
    rw [hka]
    refine congrArg (fun f => Sum.inl (cB, N, Sum.inl f)) ?_
    funext j
    show (if a = a ∧ j = i.toNatClampNeg then _ else _) = _
    unfold upd
    by_cases hj : j = i.toNatClampNeg
    · rw [if_pos ⟨rfl, hj⟩, if_pos hj]
    · rw [if_neg (fun z => hj z.2), if_neg hj]
  rw [hset] at hP1 hD1
  exact kk p l e R s m args below meth c D cI cB ad A H1 locs1 k0 n Q M hP1 hD1 hS1 lsM hl
theorem ok_alen {a N K : Nat} (hd : decode (qb X.2.1) pc = .ok (.arraylength, 1)) (hka : qkd a = (K, N)) (hK : K = 1 ∨ K = 2) (kk : qAtP X (pc + 1) ls (.int (Int32.ofNat N) :: r) h) : qAtP X pc ls (.ref a :: r) h := by
  intro p l e R s m args below meth c D cI cB ad A H locs k0 n Q M hP hD hS lsM hl
  have ha : a < 31 := qkd_lt (c := K) (by rw [hka]) (Or.inr hK)
  have hcell := qW_at (cI := cI) (cB := cB) (ad := ad) (h := h) ha
  unfold qce at hcell
  rw [hka] at hcell
  rcases hK with rfl | rfl
  · exact va_alen M.1 M.2.1 M.2.2.2.2.2.1 hP a 0 hcell rfl rfl hd (kk p l e R s m args below meth c D cI cB ad A H locs k0 n Q M hP hD hS lsM hl)
  · exact va_alen M.1 M.2.1 M.2.2.2.2.2.1 hP a 1 hcell rfl rfl hd (kk p l e R s m args below meth c D cI cB ad A H locs k0 n Q M hP hD hS lsM hl)
theorem ok_sld {a N : Nat} {i : Int32} (hd : decode (qb X.2.1) pc = .ok (.iaload, 1)) (hka : qkd a = (4, N)) (hin : vp_in i (X.2.2.2.1.1 - 1)) (kk : qAtP X (pc + 1) ls (.int (X.2.2.2.1.2 i.toNatClampNeg) :: r) h) : qAtP X pc ls (.int i :: .ref a :: r) h := by
  have ha := qkd_99 hka
  subst ha
  intro p l e R s m args below meth c D cI cB ad A H locs k0 n Q M hP hD hS lsM hl
  have go := kk p l e R s m args below meth c D cI cB ad A H locs k0 n Q M hP hD hS lsM hl
  obtain ⟨hx, hb, hml, hown, hts, hK, hA, hRO, hroom, hsc, -⟩ := M
  rcases hsc with z | ⟨hX, hbl, hbA⟩
  · rw [z] at hin
    exact absurd (Or.inr (Nat.zero_le _)) hin
  · exact va_sld hx hb hX hbl hbA hS hin hd go
theorem ok_slen {a N : Nat} (hd : decode (qb X.2.1) pc = .ok (.arraylength, 1)) (hka : qkd a = (4, N)) (hnz : X.2.2.2.1.1 ≠ 0) (kk : qAtP X (pc + 1) ls (.int (Int32.ofNat (X.2.2.2.1.1 - 1)) :: r) h) : qAtP X pc ls (.ref a :: r) h := by
  have ha := qkd_99 hka
  subst ha
  intro p l e R s m args below meth c D cI cB ad A H locs k0 n Q M hP hD hS lsM hl
  have go := kk p l e R s m args below meth c D cI cB ad A H locs k0 n Q M hP hD hS lsM hl
  obtain ⟨hx, hb, hml, hown, hts, hK, hA, hRO, hroom, hsc, -⟩ := M
  rcases hsc with z | ⟨hX, hbl, hbA⟩
  · exact absurd z hnz
  · exact va_slen hx hb hX hbl hbA hS hd go
theorem ok_tbld {a N : Nat} {i : Int32} (hd : decode (qb X.2.1) pc = .ok (.baload, 1)) (hka : qkd a = (6, N)) (hin : vp_in i N) (kk : qAtP X (pc + 1) ls (.int (qstr.getD i.toNatClampNeg 0) :: r) h) : qAtP X pc ls (.int i :: .ref a :: r) h := by
  obtain ⟨ha, hN⟩ := qkd_98 hka
  subst ha
  subst hN
  intro p l e R s m args below meth c D cI cB ad A H locs k0 n Q M hP hD hS lsM hl
  have go := kk p l e R s m args below meth c D cI cB ad A H locs k0 n Q M hP hD hS lsM hl
  obtain ⟨hx, hb, hml, hown, hts, hK, hA, hRO, -⟩ := M
  exact va_tb hx hb (hRO.1.1 0 (by decide)).2.2.2 hS hin rfl hd go
theorem ok_tlen {a N : Nat} (hd : decode (qb X.2.1) pc = .ok (.arraylength, 1)) (hka : qkd a = (6, N)) (kk : qAtP X (pc + 1) ls (.int (Int32.ofNat N) :: r) h) : qAtP X pc ls (.ref a :: r) h := by
  obtain ⟨ha, hN⟩ := qkd_98 hka
  subst ha
  subst hN
  intro p l e R s m args below meth c D cI cB ad A H locs k0 n Q M hP hD hS lsM hl
  have go := kk p l e R s m args below meth c D cI cB ad A H locs k0 n Q M hP hD hS lsM hl
  obtain ⟨hx, hb, hml, hown, hts, hK, hA, hRO, -⟩ := M
  exact va_tlen hx hb (hRO.1.1 0 (by decide)).2.2.2 hS rfl hd go
theorem ok_sget0 {a n0 idx : Nat} (hd : decode (qb X.2.1) pc = .ok (.getfield idx, 3)) (hka : qkd a = (5, n0)) (hlk : qFT.elem (qownL.getD X.2.1 0, idx, 320) = true) (kk : qAtP X (pc + 3) ls (.ref 98 :: r) h) : qAtP X pc ls (.ref a :: r) h := by
  have ha := qkd_97 hka
  subst ha
  intro p l e R s m args below meth c D cI cB ad A H locs k0 n Q M hP hD hS lsM hl
  have go := kk p l e R s m args below meth c D cI cB ad A H locs k0 n Q M hP hD hS lsM hl
  obtain ⟨hx, hb, hml, hown, hts, hK, hA, hRO, -⟩ := M
  have hw := qFT_ok _ (List.mem_of_elem_eq_true hlk)
  have e : qTf (320 / 64) (320 % 64) = ("java/lang/String", "value", "[B", true) := by decide +kernel
  dsimp only at hw
  rw [e] at hw
  exact vk_getf hx hb (hRO.1.1 0 (by decide)).2.2.1 hS hown (hts _ hw) (fun _ z => z) hd go
theorem ok_sget1 {a n0 idx : Nat} (hd : decode (qb X.2.1) pc = .ok (.getfield idx, 3)) (hka : qkd a = (5, n0)) (hlk : qFT.elem (qownL.getD X.2.1 0, idx, 321) = true) (kk : qAtP X (pc + 3) ls (.int 0 :: r) h) : qAtP X pc ls (.ref a :: r) h := by
  have ha := qkd_97 hka
  subst ha
  intro p l e R s m args below meth c D cI cB ad A H locs k0 n Q M hP hD hS lsM hl
  have go := kk p l e R s m args below meth c D cI cB ad A H locs k0 n Q M hP hD hS lsM hl
  obtain ⟨hx, hb, hml, hown, hts, hK, hA, hRO, -⟩ := M
  have hw := qFT_ok _ (List.mem_of_elem_eq_true hlk)
  have e : qTf (321 / 64) (321 % 64) = ("java/lang/String", "coder", "B", true) := by decide +kernel
  dsimp only at hw
  rw [e] at hw
  exact vk_getf hx hb (hRO.1.1 0 (by decide)).2.1 hS hown (hts _ hw) (fun _ z => z) hd go
theorem ok_gets {idx : Nat} (hd : decode (qb X.2.1) pc = .ok (.getstatic idx, 3)) (hlk : qST.elem (qownL.getD X.2.1 0, idx) = true) (kk : qAtP X (pc + 3) ls (.int 1 :: r) h) : qAtP X pc ls r h := by
  intro p l e R s m args below meth c D cI cB ad A H locs k0 n Q M hP hD hS lsM hl
  have go := kk p l e R s m args below meth c D cI cB ad A H locs k0 n Q M hP hD hS lsM hl
  obtain ⟨hx, hb, hml, hown, hts, hK, hA, hRO, -⟩ := M
  exact va_gets hx hb hRO.2.1 hS hown (hts _ (qST_ok _ (List.mem_of_elem_eq_true hlk))) (fun _ z => z) hd go
theorem ok_ldcS (hd : decode (qb X.2.1) pc = .ok (.ldc 23, 2)) (ho : qownL.getD X.2.1 0 = 2) (kk : qAtP X (pc + 2) ls (.ref 97 :: r) h) : qAtP X pc ls r h := by
  intro p l e R s m args below meth c D cI cB ad A H locs k0 n Q M hP hD hS lsM hl
  have go := kk p l e R s m args below meth c D cI cB ad A H locs k0 n Q M hP hD hS lsM hl
  obtain ⟨hx, hb, hml, hown, hts, hK, hA, hRO, -⟩ := M
  unfold qow at hown
  rw [ho] at hown
  exact va_ldcS hx hb hown hRO.2.2.1 hd go
theorem ok_ldcI {idx : Nat} {v : Int} (hd : decode (qb X.2.1) pc = .ok (.ldc idx, 2)) (hlk : qIT.elem (qownL.getD X.2.1 0, idx, v) = true) (kk : qAtP X (pc + 2) ls (.int (Int32.ofInt v) :: r) h) : qAtP X pc ls r h := by
  intro p l e R s m args below meth c D cI cB ad A H locs k0 n Q M hP hD hS lsM hl
  exact lv_ldc M.1 M.2.1 M.2.2.2.1 (M.2.2.2.2.1 _ (qIT_ok _ (List.mem_of_elem_eq_true hlk))) hd (kk p l e R s m args below meth c D cI cB ad A H locs k0 n Q M hP hD hS lsM hl)
theorem ok_ldcW {idx : Nat} {v : Int} (hd : decode (qb X.2.1) pc = .ok (.ldc_w idx, 3)) (hlk : qIT.elem (qownL.getD X.2.1 0, idx, v) = true) (kk : qAtP X (pc + 3) ls (.int (Int32.ofInt v) :: r) h) : qAtP X pc ls r h := by
  intro p l e R s m args below meth c D cI cB ad A H locs k0 n Q M hP hD hS lsM hl
  exact lv_ldcw M.1 M.2.1 M.2.2.2.1 (M.2.2.2.2.1 _ (qIT_ok _ (List.mem_of_elem_eq_true hlk))) hd (kk p l e R s m args below meth c D cI cB ad A H locs k0 n Q M hP hD hS lsM hl)
theorem ok_ldcJ {idx : Nat} {v : Int} (hd : decode (qb X.2.1) pc = .ok (.ldc2_w idx, 3)) (hlk : qJT.elem (qownL.getD X.2.1 0, idx, v) = true) (kk : qAtP X (pc + 3) ls (.long (Int64.ofInt v) :: r) h) : qAtP X pc ls r h := by
  intro p l e R s m args below meth c D cI cB ad A H locs k0 n Q M hP hD hS lsM hl
  exact lv_ldc2 M.1 M.2.1 M.2.2.2.1 (M.2.2.2.2.1 _ (qJT_ok _ (List.mem_of_elem_eq_true hlk))) hd (kk p l e R s m args below meth c D cI cB ad A H locs k0 n Q M hP hD hS lsM hl)
theorem qcat_map (ad : Nat → Nat) (l : List Value) : (l.map (qcv ad)).map (fun v => v.category) = l.map Value.category := by
  rw [List.map_map]
  exact List.map_congr_left (fun v _ => qcv_cat ad v)
theorem ok_max {x y : Int32} {idx : Nat} (hd : decode (qb X.2.1) pc = .ok (.invokestatic idx, 3)) (hlk : qMT.elem (qownL.getD X.2.1 0, idx, 136) = true) (hd0 : 0 < X.1) (hr : (r.map Value.category).sum ≤ 8) (kk : qAtP X (pc + 3) ls (.int (if x < y then y else x) :: r) h) : qAtP X pc ls (.int y :: .int x :: r) h := by
  intro p l e R s m args below meth c D cI cB ad A H locs k0 n Q M hP hD hS lsM hl
  have go := kk p l e R s m args below meth c D cI cB ad A H locs k0 n Q M hP hD hS lsM hl
  obtain ⟨hx, hb, hml, hown, hts, hK, hA, hRO, ⟨h1, h2, h3, h4⟩, -⟩ := M
  exact va_mmax hx hb (by rw [hml]; exact hl.2.1.symm) hown (hts _ (qMT_ok _ (List.mem_of_elem_eq_true hlk))) (hts _ qw136.2.2) (hts _ qw136.2.1) (hts _ qw136.1) (by omega) (by rw [qcat_map]; omega) h3 h4 hd go
theorem ok_min {x y : Int32} {idx : Nat} (hd : decode (qb X.2.1) pc = .ok (.invokestatic idx, 3)) (hlk : qMT.elem (qownL.getD X.2.1 0, idx, 137) = true) (hd0 : 0 < X.1) (hr : (r.map Value.category).sum ≤ 8) (kk : qAtP X (pc + 3) ls (.int (if y < x then y else x) :: r) h) : qAtP X pc ls (.int y :: .int x :: r) h := by
  intro p l e R s m args below meth c D cI cB ad A H locs k0 n Q M hP hD hS lsM hl
  have go := kk p l e R s m args below meth c D cI cB ad A H locs k0 n Q M hP hD hS lsM hl
  obtain ⟨hx, hb, hml, hown, hts, hK, hA, hRO, ⟨h1, h2, h3, h4⟩, -⟩ := M
  exact va_mmin hx hb (by rw [hml]; exact hl.2.1.symm) hown (hts _ (qMT_ok _ (List.mem_of_elem_eq_true hlk))) (hts _ qw137.2.2) (hts _ qw137.2.1) (hts _ qw137.1) (by omega) (by rw [qcat_map]; omega) h3 h4 hd go
end QCELL
