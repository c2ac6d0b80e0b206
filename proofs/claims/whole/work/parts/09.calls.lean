/-! calls, switches -/
theorem qRO_same {ad : Nat → Nat} {A : Nat → Prop} {u U : State} (hvm : U.vm = u.vm) (hh : U.heap = u.heap) (h : qRO ad A u u.heap) : qRO ad A U U.heap := by
  have al : u.vm.Alike U.vm := by rw [hvm]; exact Vm.Alike.refl u.vm
  rw [hh]
  exact ⟨h.1.moved al, h.2.1.moved al, h.2.2.1.same hvm, fun q hq => va_Nw.same rfl hvm.symm (h.2.2.2 q hq)⟩
theorem qRO_call {ad : Nat → Nat} {A A1 : Nat → Prop} {s U : State} {H : Heap} {locs : List Loc} (h : qRO ad A s s.heap) (hS : va_S A s.heap H locs) (hA : ∀ q, A1 q → A q) (hU : U.heap = H) (hW : s.WarmedH U.vm) : qRO ad A1 U U.heap := by
  rw [hU]
  exact ⟨((h.1.kept hS.2.1).narrow hA).moved hW.alike, ((h.2.1.kept hS.2.1).narrow hA).moved hW.alike, h.2.2.1.warm hW, fun q hq => va_Nw.warmF hW (h.2.2.2 q hq)⟩
def qPc (D : va_G) (cI cB : ClassId) (ad : Nat → Nat) (sz : Nat) (As : List Value) (h : qH) : Array Value → State → Prop := va_Pc (As.map (qcv ad)) (fun U => U.heap.size = sz ∧ va_P D vwCl (qW cI cB ad h) U.heap ∧ va_K D vwCl [(cI, .int), (cB, .byte)] U ∧ va_D (fun _ => True) (qW cI cB ad h) ∧ qRO ad (va_A (qW cI cB ad h) sz) U U.heap)
theorem qPc_blind {D : va_G} {cI cB : ClassId} {ad : Nat → Nat} {sz : Nat} {As : List Value} {h : qH} : FrameBlind (qPc D cI cB ad sz As h) := by
  intro a U g mk q
  obtain ⟨q1, q2, q3, q4, q5, q6⟩ := q
  exact ⟨q1, q2, q3, va_K.moved (u := U) (U := U.calling g mk a) (Vm.Alike.refl U.vm) q4, q5, qRO_same (u := U) (U := U.calling g mk a) rfl rfl q6⟩
section QRUN
variable {p : Program} {l : Launch} {e : Env} {R : Room} {s : State} {m : MethodId} {args : Array Value} {below : List Frame} {meth : Method} {c : Code} {H : Heap} {locs : List Loc} {cells slots : Nat} {Q : State → Prop}
theorem q_run {D : va_G} {cI cB : ClassId} {ad : Nat → Nat} {A : Nat → Prop} {h : qH} {K : qK} {pc : Nat} {lsM : Array Slot} {st0 rest : List Value}
    (hr : va_Run p l e R s m args below meth c H locs cells slots 0 0 (F0 m pc lsM st0) rest (fun st oc t => (∃ (v : Option Value) (h' : qH), oc = .returned v ∧ qpl v ∧ K v h' ∧ va_P D vwCl (qW cI cB ad h') t.heap) ∧ va_F (va_A (qW cI cB ad h) H.size) st t) (va_A (qW cI cB ad h) H.size))
    (hS : va_S A s.heap H locs) (hA : ∀ q, va_A (qW cI cB ad h) H.size q → A q)
    (kk : ∀ (v : Option Value) (h' : qH) (H1 : Heap) (locs1 : List Loc), qpl v → K v h' → va_P D vwCl (qW cI cB ad h') H1 → va_S A s.heap H1 locs1 → W p l e R s m args below meth c H1 locs1 cells slots Q (F0 m (pc + 3) lsM (v.toList ++ rest))) :
    W p l e R s m args below meth c H locs cells slots Q (F0 m pc lsM st0) := by
  intro T hT X
  obtain ⟨v, st₀, t, T', L, h0, X', hL, e1, e2, ⟨⟨v', h', hv, hpl, hK, hP'⟩, hz, hk⟩, st⟩ := hr T hT X
  cases hv
  rw [h0] at hz hk
  obtain ⟨t2, a1, b1⟩ := kk v h' T'.heap (locs ++ L) hpl hK (by rw [e1]; exact hP')
    ⟨Nat.le_trans hS.1 (by rw [e1]; exact hz), fun q h1 h2 => by rw [e1, hk q (Nat.lt_of_lt_of_le h1 hS.1) (fun z => h2 (hA q z))]; exact hS.2.1 q h1 h2, fun q hq => by
      rcases List.mem_append.mp hq with h | h
      · exact hS.2.2 q h
      · exact hA _ (hL q h)⟩ T' rfl X'
  exact ⟨t2, st t2 a1, b1⟩
end QRUN
theorem qyf_ok {j : Nat} (hj : j < 136) : plainName (qy j).cls = true ∧ (qy j).cls ≠ "java/lang/invoke/MethodHandle" ∧ (qy j).cls ≠ "java/lang/invoke/VarHandle" ∧ (parseMethodDescriptor (qy j).desc).map (fun d => d.parameters.length) = some (qarL.getD j 0) ∧ qpc j 0 = 0 ∧ qnl j ≤ 200 ∧ (qy j).cls = qow j := by
  have h := qyf j hj
  unfold qyfB at h
  simp only [Bool.and_eq_true, decide_eq_true_eq] at h
  obtain ⟨h1, h2, h3, h4, h5, h6, h7⟩ := h
  exact ⟨h1, h2, h3, h4, h5, Nat.le_of_ble_eq_true h6, h7⟩
theorem qgood {w : Cond} (h : w ∈ qU) : w ∈ qU ∧ ((w.onTables && w.keeps) = true ∨ ∃ ty, w = .arrayClass ty) := ⟨h, good_of_word (qU_good w h)⟩
theorem qgoodIn {ws : List Cond} (h : ∀ w ∈ ws, w ∈ qU) : GoodIn qU ws := fun w hw => qgood (h w hw)
theorem qW_D {cI cB : ClassId} {ad : Nat → Nat} {h h' : qH} {A : Nat → Prop} (hD : va_D A (qW cI cB ad h)) : va_D A (qW cI cB ad h') := by
  have key : ∀ (h h' : qH) (k : Nat) (q : Nat × va_E), (qW cI cB ad h')[k]? = some q → ∃ q0, (qW cI cB ad h)[k]? = some q0 ∧ q0.1 = q.1 := by
    intro h h' k q hk
    have hlt : k < 31 := by
      have := (List.getElem?_eq_some_iff.mp hk).1
      unfold qW at this
      simpa using this
    rw [qW_at hlt] at hk
    cases hk
    exact ⟨_, qW_at hlt, rfl⟩
  refine ⟨fun i j p q hp hq hpq => ?_, fun k q hk => ?_⟩
  · obtain ⟨p0, hp0, e1⟩ := key h h' i p hp
    obtain ⟨q0, hq0, e2⟩ := key h h' j q hq
    exact hD.1 i j p0 q0 hp0 hq0 (by rw [e1, e2]; exact hpq)
  · obtain ⟨q0, hq0, e⟩ := key h h' k q hk
    rw [← e]
    exact hD.2 k q0 hq0
theorem qW_A {cI cB : ClassId} {ad : Nat → Nat} {h : qH} {A : Nat → Prop} {H H0 : Heap} {locs : List Loc} (hD : va_D A (qW cI cB ad h)) (hS : va_S A H0 H locs) (hA : ∀ q, H0.size ≤ q → A q) : ∀ q, va_A (qW cI cB ad h) H.size q → A q := by
  intro q hq
  rcases hq with ⟨k, e, hk⟩ | hq
  · exact hD.2 k (q, e) hk
  · exact hA q (Nat.le_trans hS.1 hq)
theorem qpl_map {v : Option Value} (h : qpl v) (ad : Nat → Nat) : v.toList.map (qcv ad) = v.toList := by
  cases v with
  | none => rfl
  | some x => cases x <;> first | rfl | exact h.elim
section QINV
variable {X : qX} {pc : Nat} {ls : qL} {rest : List Value} {h : qH}
theorem ok_static {j idx : Nat} {As : List Value} {K' : qK} (hd : decode (qb X.2.1) pc = .ok (.invokestatic idx, 3)) (hlk : qMT.elem (qownL.getD X.2.1 0, idx, j) = true) (hj : j < 136) (hst : qstL.getD j false = true) (har : qarL.getD j 0 = As.length) (hrest : (rest.map Value.category).sum ≤ 8) (hc : qCall X.1 j As h K')
    (kk : ∀ v h', K' v h' → qAtP X (pc + 3) ls (v.toList ++ rest) h') : qAtP X pc ls (As.reverse ++ rest) h := by
  intro p l e R s m args below meth c D cI cB ad A H locs k0 n Q M hP hD hS lsM hl
  have go := kk
  have M0 := M
  obtain ⟨hx, hb, hml, hown, hts, hK, hA, hRO, ⟨r1, r2, r3, r4⟩, -⟩ := M
  obtain ⟨d, hdlt, hsem⟩ := hc
  have hM := hsem l D cI cB ad H.size
  obtain ⟨y1, y2, y3, y4, y5, y6, y7⟩ := qyf_ok hj
  have hw := qwd j hj
  unfold qwP qWd at hw
  rw [hst] at hw
  obtain ⟨w1, w2, w3⟩ := hw
  have hAA := qW_A hD hS hA
  have hlink : Cond.methodLink (qow X.2.1) idx (qy j) ∈ qU := qMT_ok _ (List.mem_of_elem_eq_true hlk)
  have hG : GoodIn qU (va_wsS (qow X.2.1) idx (qy j) (Cond.code (qy j) (qb j) (qnl j) (qrt j) :: qU)) := qgoodIn (fun w hw => by
    rcases List.mem_append.mp hw with hw | hw
    · rcases List.mem_cons.mp hw with rfl | hw
      · exact hlink
      · rcases List.mem_cons.mp hw with rfl | hw
        · exact w3
        · rcases List.mem_cons.mp hw with rfl | hw
          · exact w2
          · cases hw
    · rcases List.mem_cons.mp hw with rfl | hw
      · exact w1
      · exact hw)
  have hcw := va_cwS (R := R) (mc := 0) (ms := 0) (rm := qrm d) As.length hts hG rfl rfl rfl ⟨y2, y3, by rw [y4, har]⟩ ⟨by show d + 1 ≤ R.frames; omega, by show 8 + (qnl j + 11) + 300 * d ≤ R.locals; omega⟩
  have hp : PreS s H (qPc D cI cB ad H.size As h) (As.map (qcv ad)) := ⟨qPc_blind, fun U hU hW => ⟨rfl, by rw [hU], by rw [hU]; exact hP, va_K.moved hW.alike hK, hD.weaken (fun _ _ _ _ => trivial), qRO_call hRO hS hAA hU hW⟩⟩
  have hrun := va_runS (e := e) (below := below) (meth := meth) (locs := locs) (g := F0 m pc lsM ((As.reverse ++ rest).map (qcv ad))) (rest := rest.map (qcv ad)) ⟨hx, hb, hml, hown, hts⟩ hM hcw hp rfl (by simp) hl.2.1 (by simp) (lv_room (by rw [qcat_map]; exact hrest)) hd ⟨by omega, by omega⟩
  refine q_run hrun hS hAA (fun v h' H1 locs1 hpl hK' hP1 hS1 => ?_)
  have g2 := go v h' hK' p l e R s m args below meth c D cI cB ad A H1 locs1 k0 n Q M0 hP1 (qW_D hD) hS1 lsM hl
  rw [List.map_append, qpl_map hpl] at g2
  exact g2
theorem qrv_ok {b ci : Nat} {As : List Value} (hr : qrv (.ref b :: As) ci = true) {s : State} {H : Heap} {A : Nat → Prop} {locs : List Loc} {D : va_G} {cI cB : ClassId} {ad : Nat → Nat} (hK : va_K D vwCl [(cI, .int), (cB, .byte)] s) (hP : va_P D vwCl (qW cI cB ad h) H) (hRO : qRO ad A s s.heap) (hS : va_S A s.heap H locs) : ∃ cellB : Cell, H[ad b]? = some cellB ∧ cellB.vm.isStatics = false ∧ s.vm.findClass (vwCl.getD ci (RJ0, TX0, 0)).1 = some cellB.cls := by
  cases hk : qkd b with
  | mk x y =>
    simp only [qrv, hk] at hr
    split at hr
    · rename_i c' heq
      cases heq
      have hc' := eq_of_beq hr
      subst hc'
      have hb : b < 31 := qkd_lt (c := 0) (by rw [hk]) (Or.inl rfl)
      have hc : y < 5 := qkd_c hk
      obtain ⟨hcl, -⟩ := qcl_ok hc
      have hcell := qW_at (cI := cI) (cB := cB) (ad := ad) (h := h) hb
      unfold qce at hcell
      rw [hk] at hcell
      have rr := va_recv hK hP hcl hcell
      exact rr
    · rename_i n' heq
      cases heq
      have hc' := eq_of_beq hr
      subst hc'
      have hb := qkd_97 hk
      subst hb
      exact vk_recv (N := 1) (i := 0) hRO.1 (by decide) hS
    · cases hr
theorem ok_virtual {j idx b ci : Nat} {As : List Value} {K' : qK} (hd : decode (qb X.2.1) pc = .ok (.invokevirtual idx, 3)) (hlk : qMT.elem (qownL.getD X.2.1 0, idx, j) = true) (hj : j < 136) (hst : qstL.getD j true = false) (har : qarL.getD j 0 = As.length) (hcls : (qy j).cls = (vwCl.getD ci (RJ0, TX0, 0)).1) (hrv : qrv (.ref b :: As) ci = true) (hrest : (rest.map Value.category).sum ≤ 8) (hc : qCall X.1 j (.ref b :: As) h K')
    (kk : ∀ v h', K' v h' → qAtP X (pc + 3) ls (v.toList ++ rest) h') : qAtP X pc ls ((Value.ref b :: As).reverse ++ rest) h := by
  intro p l e R s m args below meth c D cI cB ad A H locs k0 n Q M hP hD hS lsM hl
  have go := kk
  have M0 := M
  obtain ⟨hx, hb, hml, hown, hts, hK, hA, hRO, ⟨r1, r2, r3, r4⟩, -⟩ := M
  obtain ⟨d, hdlt, hsem⟩ := hc
  have hM := hsem l D cI cB ad H.size
  obtain ⟨y1, y2, y3, y4, y5, y6, y7⟩ := qyf_ok hj
  have hw := qwd j hj
  unfold qwP qWd at hw
  have hst2 : qstL.getD j false = false := by
    cases hz : qstL[j]? with
    | none =>
      rw [List.getD_eq_getElem?_getD, hz] at hst
      cases hst
    | some z =>
      rw [List.getD_eq_getElem?_getD, hz] at hst ⊢
      exact hst
  rw [hst2] at hw
  obtain ⟨w1, w2, w3, w4⟩ := hw
  have hAA := qW_A hD hS hA
  have hlink : Cond.methodLink (qow X.2.1) idx (qy j) ∈ qU := qMT_ok _ (List.mem_of_elem_eq_true hlk)
  have hG : GoodIn qU (wsV (qow X.2.1) idx (qy j).cls (qy j) (Cond.code (qy j) (qb j) (qnl j) (qrt j) :: qU)) := qgoodIn (fun w hw => by
    rcases List.mem_append.mp hw with hw | hw
    · rcases List.mem_cons.mp hw with rfl | hw
      · exact hlink
      · rcases List.mem_cons.mp hw with rfl | hw
        · exact w3
        · rcases List.mem_cons.mp hw with rfl | hw
          · exact w4
          · rcases List.mem_cons.mp hw with rfl | hw
            · exact w2
            · cases hw
    · rcases List.mem_cons.mp hw with rfl | hw
      · exact w1
      · exact hw)
  have hcw := cwV (R := R) (mc := 0) (ms := 0) (rm := qrm d) As.length hts hG rfl rfl rfl ⟨rfl, y2, y3, by rw [y4, har]⟩ ⟨by show d + 1 ≤ R.frames; omega, by show 8 + (qnl j + 11) + 300 * d ≤ R.locals; omega⟩
  have hrec := qrv_ok hrv hK hP hRO hS
  rw [← hcls] at hrec
  have hp : PreV s H (qy j).cls (ad b) (qPc D cI cB ad H.size (.ref b :: As) h) (As.map (qcv ad)) := ⟨qPc_blind, hrec, fun U hU hW => ⟨rfl, by rw [hU], by rw [hU]; exact hP, va_K.moved hW.alike hK, hD.weaken (fun _ _ _ _ => trivial), qRO_call hRO hS hAA hU hW⟩⟩
  have hrun := va_runV (e := e) (below := below) (meth := meth) (locs := locs) (g := F0 m pc lsM (((Value.ref b :: As).reverse ++ rest).map (qcv ad))) (rest := rest.map (qcv ad)) ⟨hx, hb, hml, hown, hts⟩ hM hcw hp rfl (by simp) hl.2.1 (by simp [qcv]) (lv_room (by rw [qcat_map]; exact hrest)) hd ⟨by omega, by omega⟩
  refine q_run hrun hS hAA (fun v h' H1 locs1 hpl hK' hP1 hS1 => ?_)
  have g2 := go v h' hK' p l e R s m args below meth c D cI cB ad A H1 locs1 k0 n Q M0 hP1 (qW_D hD) hS1 lsM hl
  rw [List.map_append, qpl_map hpl] at g2
  exact g2
end QINV
/-! ## switches -/
theorem qsw_cases {P : Nat → Prop} {x : Int32} : ∀ (l : List (Int × Int)) (d : Nat), qsw P x l d → (∃ (q : Nat) (k t : Int), l[q]? = some (k, t) ∧ x = Int32.ofInt k ∧ P t.toNat) ∨ ((∀ (q : Nat) (k t : Int), l[q]? = some (k, t) → x ≠ Int32.ofInt k) ∧ P d)
  | [], d, h => Or.inr ⟨fun q k t hq => by simp at hq, h⟩
  | (k, t) :: l, d, h => by
    by_cases hx : x = Int32.ofInt k
    · exact Or.inl ⟨0, k, t, rfl, hx, h.1 hx⟩
    · rcases qsw_cases l d (h.2 hx) with ⟨q, k2, t2, h1, h2, h3⟩ | ⟨h1, h2⟩
      · exact Or.inl ⟨q + 1, k2, t2, h1, h2, h3⟩
      · refine Or.inr ⟨fun q k2 t2 hq => ?_, h2⟩
        cases q with
        | zero =>
          cases hq
          exact hx
        | succ q => exact h1 q k2 t2 hq
theorem qtb_ok {pcs : List Nat} {pc : Nat} : ∀ (os : List Int) (ps : List (Int × Int)) (lo : Int), qtb pcs pc lo os ps = true → os.length = ps.length ∧ ∀ (q : Nat) (k t : Int), ps[q]? = some (k, t) → k = lo + (q : Int) ∧ (Int32.ofInt k).toInt = k ∧ ∃ o, os[q]? = some o ∧ qtg pcs pc o t = true
  | [], [], lo, _ => ⟨rfl, fun q k t hq => by simp at hq⟩
  | [], _ :: _, lo, h => by cases h
  | _ :: _, [], lo, h => by cases h
  | o :: os, (k0, t0) :: ps, lo, h => by
    unfold qtb at h
    simp only [Bool.and_eq_true, decide_eq_true_eq] at h
    obtain ⟨h1, h2, h3, h4⟩ := h
    obtain ⟨i1, i2⟩ := qtb_ok os ps (lo + 1) h4
    refine ⟨by simp [i1], fun q k t hq => ?_⟩
    cases q with
    | zero =>
      cases hq
      exact ⟨by rw [h1]; simp, h2, o, rfl, h3⟩
    | succ q =>
      obtain ⟨e1, e2, o2, e3, e4⟩ := i2 q k t hq
      exact ⟨by rw [e1]; push_cast; omega, e2, o2, e3, e4⟩
theorem qlb_ok {pcs : List Nat} {pc : Nat} {P : Nat → Prop} {x : Int32} {d' : Int} {d : Nat} : ∀ (os ps : List (Int × Int)), qlb pcs pc os ps = true → qsw P x ps d → (∃ t : Int, qtg pcs pc (Op.lookupswitch.offset os d' x.toInt) t = true ∧ P t.toNat) ∨ (Op.lookupswitch.offset os d' x.toInt = d' ∧ P d)
  | [], [], _, h => Or.inr ⟨rfl, h⟩
  | [], _ :: _, h, _ => by cases h
  | _ :: _, [], h, _ => by cases h
  | (a, o) :: os, (k, t) :: ps, h, hs => by
    unfold qlb at h
    simp only [Bool.and_eq_true, decide_eq_true_eq] at h
    obtain ⟨h1, h2, h3, h4⟩ := h
    subst h1
    rw [Op.lookupswitch.offset_cons]
    by_cases hx : x = Int32.ofInt a
    · have e : a = x.toInt := by rw [hx, h2]
      rw [if_pos e]
      exact Or.inl ⟨t, h3, hs.1 hx⟩
    · have e : ¬ a = x.toInt := fun z => hx (by rw [z, Int32.ofInt_toInt])
      rw [if_neg e]
      exact qlb_ok os ps h4 (hs.2 hx)
section QSW
variable {X : qX} {pc : Nat} {ls : qL} {r : List Value} {h : qH}
theorem ok_tableswitch {x : Int32} {d' lo hi : Int} {offs : Array Int} {len : Nat} {dI : Int} {ps : List (Int × Int)} {R : List (Nat × Instr × Nat)} {P : Nat → Prop} (hd : decode (qb X.2.1) pc = .ok (.tableswitch d' lo hi offs, len)) (hq : qtg (qpcs R) pc d' dI = true) (hhi : hi + 1 = lo + (offs.toList.length : Int)) (htb : qtb (qpcs R) pc lo offs.toList ps = true) (hs : qsw P x ps dI.toNat) (kk : ∀ t, P t → qAtP X ((qpcs R).getD t 0) ls r h) : qAtP X pc ls (.int x :: r) h := by
  intro p l e R s m args below meth c D cI cB ad A H locs k0 n Q M hP hD hS lsM hl
  obtain ⟨l1, l2⟩ := qtb_ok _ _ _ htb
  rcases qsw_cases ps dI.toNat hs with ⟨q, k, t, h1, h2, h3⟩ | ⟨h1, h2⟩
  · obtain ⟨e1, e2, o, e3, e4⟩ := l2 q k t h1
    have hx : x.toInt = lo + (q : Int) := by rw [h2, e2, e1]
    have hql : q < offs.toList.length := (List.getElem?_eq_some_iff.mp e3).1
    exact lv_tableIn M.1 M.2.1 hd (by omega) (by omega) (off := o) (by
      rw [show (x.toInt - lo).toNat = q by omega, ← Array.getElem?_toList]
      exact e3) (qtg_ok e4) (kk _ h3 p l e R s m args below meth c D cI cB ad A H locs k0 n Q M hP hD hS lsM hl)
  · refine lv_tableOut M.1 M.2.1 hd ?_ (qtg_ok hq) (kk _ h2 p l e R s m args below meth c D cI cB ad A H locs k0 n Q M hP hD hS lsM hl)
    rcases Int.lt_or_le x.toInt lo with z | z
    · exact Or.inl z
    · rcases Int.lt_or_le hi x.toInt with w | w
      · exact Or.inr w
      · exfalso
        have hql : (x.toInt - lo).toNat < ps.length := by rw [← l1]; omega
        obtain ⟨kt, hkt⟩ : ∃ kt, ps[(x.toInt - lo).toNat]? = some kt := ⟨_, List.getElem?_eq_getElem hql⟩
        obtain ⟨k, t⟩ := kt
        obtain ⟨e1, e2, -⟩ := l2 _ k t hkt
        refine h1 _ k t hkt ?_
        have : k = x.toInt := by omega
        rw [this, Int32.ofInt_toInt]
theorem ok_lookupswitch {x : Int32} {d' : Int} {ps' : Array (Int × Int)} {len : Nat} {dI : Int} {ps : List (Int × Int)} {R : List (Nat × Instr × Nat)} {P : Nat → Prop} (hd : decode (qb X.2.1) pc = .ok (.lookupswitch d' ps', len)) (hq : qtg (qpcs R) pc d' dI = true) (hso : (ps'.toList.zip (ps'.toList.drop 1)).all (fun (a, next) => a.1 < next.1) = true) (hlb : qlb (qpcs R) pc ps'.toList ps = true) (hs : qsw P x ps dI.toNat) (kk : ∀ t, P t → qAtP X ((qpcs R).getD t 0) ls r h) : qAtP X pc ls (.int x :: r) h := by
  intro p l e R s m args below meth c D cI cB ad A H locs k0 n Q M hP hD hS lsM hl
  rcases qlb_ok (d' := d') _ _ hlb hs with ⟨t, h1, h2⟩ | ⟨h1, h2⟩
  · exact lv_lookup M.1 M.2.1 hd hso rfl (qtg_ok h1) (kk _ h2 p l e R s m args below meth c D cI cB ad A H locs k0 n Q M hP hD hS lsM hl)
  · exact lv_lookup M.1 M.2.1 hd hso h1 (qtg_ok hq) (kk _ h2 p l e R s m args below meth c D cI cB ad A H locs k0 n Q M hP hD hS lsM hl)
end QSW
