/-! THE CLAIM OUT OF ONE WALK OF THE LAW'S BODY. Your part is whole_start (and what it stands on); all else here is the same for every law, but numbers. -/
def R_law : String := "UnsaidHorseLaw"
def lw_P (b : Addr) (xs : List Int32) (args : Array Value) (s : State) : Prop := args = #[.ref b] ∧ s.IntsAt b xs ∧ xs.length ≤ 256 ∧ (Jvm.Cond.and given_1 narrow_1).before args s = true
def lw_Q (_ : Array Value) (s : State) (o : Outcome) (t : State) : Prop := o = .returned (some (.int 1)) ∧ Framed s o t [] 617439 7249932
def lw_Z (below : List Frame) (a : Array Value) (s : State) : State → Prop := fun t => ∃ o, t.status = .running ∧ Ended t below o ∧ lw_Q a s o t
/-- the law's own end, with 1 on the stack, nothing written that was there before, its room as the claim has it -/
theorem lw_ret {p : Program} {l : Launch} {e : Env} {s : State} {m : MethodId} {below : List Frame} {meth : Method} {c : Code} {b : Nat} (hx : p.tables.exec = Jvm.exec) (hb : c.code = code) (hr : meth.sig.returnType = ret) (hlocks : meth.locks = false) {pc : Nat} {H : Heap} {ls : Array Slot} (hdg : decode code pc = .ok (.ireturn, 1)) : W p l e room_1 s m #[Value.ref b] below meth c H [] 617439 7249932 (lw_Z below #[Value.ref b] s) (F0 m pc ls [.int 1]) := by
  intro T hT X
  obtain ⟨fs, hret, hrun, hended, hW, hframe⟩ := X.leave (v := some (.int 1)) (hlocks := hlocks) (fun h => by rw [hr] at h; cases h)
  have hmeth' : T.vm.method? m = some meth := X.method'
  refine ⟨T.setFrames fs, ?_, .returned (some (.int 1)), hrun, hended, rfl, ⟨_, rfl⟩, hW, hframe⟩
  jvm_step X.here [X.here.top, hx, hb, hdg, hmeth', hr, ret, narrow_b1]
  (try refine ⟨rfl, ?_⟩); (try refine ⟨rfl, ?_⟩)
  first | (intro acts; rw [hret _ acts rfl rfl rfl]) | rw [hret _ _ rfl rfl rfl]
  exact Steps.refl _
/-- what holds at the law's entry: the machine, the code, the tables' words (any of lw_tbl by 'hts w (by decide +kernel)'), the script of L ints xs at the cell b, what the Statement gives of the start (any of its parts by flat_of_before) -/
def lw_At (p : Program) (s : State) (m : MethodId) (meth : Method) (c : Code) (b L : Nat) (xs : Nat → Int32) : Prop :=
  p.tables.exec = Jvm.exec ∧ c.code = code ∧ meth.sig.returnType = ret ∧ c.maxLocals = 4 ∧ s.vm.findClass R_law = some m.cls ∧ (∀ w ∈ lw_tbl, w.before #[Value.ref b] s = true) ∧ va_X b L xs s s.heap ∧ b < s.heap.size ∧ meth.locks = false ∧ (Jvm.Cond.and given_1 narrow_1).before #[Value.ref b] s = true
/-! the start -/
def qh0 : qH := (fun _ _ => 0, fun _ _ => 0)
def qS0 : gS := fun _ _ => 0
theorem qW_0 (cI cB : ClassId) (ad : Nat → Nat) : qW cI cB ad qh0 = [(ad 0, .inr (3, [.ref (ad 1), .ref (ad 3), .ref (ad 5), .ref (ad 8), .ref (ad 11), .ref (ad 14), .int 0, .int 0, .int 0])), (ad 1, .inr (1, [.ref (ad 2), .int 0])), (ad 2, .inl (cI, 22, .inl (fun _ => 0))), (ad 3, .inr (0, [.int 0, .int 0, .int 0, .int 0, .int 0, .int 0, .ref (ad 4)])), (ad 4, .inl (cI, 16, .inl (fun _ => 0))), (ad 5, .inr (2, [.int 0, .int 0, .int 0, .int 0, .int 0, .ref (ad 6), .ref (ad 7), .int 0])), (ad 6, .inl (cI, 4, .inl (fun _ => 0))), (ad 7, .inl (cI, 6, .inl (fun _ => 0))), (ad 8, .inr (2, [.int 0, .int 0, .int 0, .int 0, .int 0, .ref (ad 9), .ref (ad 10), .int 0])), (ad 9, .inl (cI, 4, .inl (fun _ => 0))), (ad 10, .inl (cI, 6, .inl (fun _ => 0))), (ad 11, .inr (2, [.int 0, .int 0, .int 0, .int 0, .int 0, .ref (ad 12), .ref (ad 13), .int 0])), (ad 12, .inl (cI, 4, .inl (fun _ => 0))), (ad 13, .inl (cI, 6, .inl (fun _ => 0))), (ad 14, .inl (cI, 3, .inl (fun _ => 0))), (ad 15, .inr (4, [.int 0, .int 0, .ref (ad 16), .ref (ad 17), .ref (ad 18), .ref (ad 19), .ref (ad 20), .int 0, .int 0, .int 0, .int 0, .int 0, .ref (ad 21), .ref (ad 22), .ref (ad 23), .int 0, .int 0, .ref (ad 24), .int 0, .int 0, .ref (ad 25), .long 0, .int 0, .int 0, .int 0, .int 0, .int 0, .int 0, .int 0, .ref (ad 26), .ref (ad 27), .ref (ad 28), .ref (ad 29), .ref (ad 30), .long 0])), (ad 16, .inl (cI, 4, .inl (fun _ => 0))), (ad 17, .inl (cI, 4, .inl (fun _ => 0))), (ad 18, .inl (cI, 4, .inl (fun _ => 0))), (ad 19, .inl (cI, 4, .inl (fun _ => 0))), (ad 20, .inl (cI, 4, .inl (fun _ => 0))), (ad 21, .inl (cI, 6, .inl (fun _ => 0))), (ad 22, .inl (cI, 6, .inl (fun _ => 0))), (ad 23, .inl (cI, 6, .inl (fun _ => 0))), (ad 24, .inl (cB, 22, .inl (fun _ => 0))), (ad 25, .inl (cI, 4, .inl (fun _ => 0))), (ad 26, .inl (cI, 4, .inl (fun _ => 0))), (ad 27, .inl (cI, 4, .inl (fun _ => 0))), (ad 28, .inl (cI, 6, .inl (fun _ => 0))), (ad 29, .inl (cI, 6, .inl (fun _ => 0))), (ad 30, .inl (cI, 6, .inl (fun _ => 0)))] := rfl
theorem qpr_law (ad : Nat → Nat) : qpr ad [some (.ref 99), some (.ref 0), some (.ref 15), none] = [(0, .ref (ad 99)), (1, .ref (ad 0)), (2, .ref (ad 15))] := rfl
theorem fget_0 : ∀ k, k < 4 → fget 0 (nI k) = nI 0 := by decide +kernel
theorem gtog_0 : ∀ s, s < 16 → gtog qS0 s = 0 := by decide +kernel
theorem RX_0 : RX qh0 qS0 := by
  refine ⟨⟨rfl, fun p hp => absurd hp (Nat.not_lt_zero p), fget_0, fun s hs => ?_⟩, ⟨fun p hp => absurd hp (Nat.not_lt_zero p), rfl, rfl, rfl, rfl, rfl, fun p hp => absurd hp (Nat.not_lt_zero p), fun i hi => absurd hi (Nat.not_lt_zero i)⟩, fun z => absurd (show (0 : Nat) = 1 from z) (by decide), rfl, rfl, rfl, rfl, fun i hi => absurd hi (Nat.not_lt_zero i)⟩
  rw [gtog_0 s hs]
  rfl
theorem RM_0 : RM qh0 qS0 := by
  refine ⟨⟨rfl, fun p hp => absurd hp (Nat.not_lt_zero p), fun k hk => rfl, rfl, rfl, rfl, rfl, rfl, fun i hi => absurd hi (Nat.not_lt_zero i)⟩, rfl, rfl, fun i hi => absurd hi (Nat.not_lt_zero i), rfl, ⟨0, 0, rfl, by decide, rfl, Nat.le_refl 0, fun z => absurd (show (0 : Nat) = 1 from z) (by decide), fun z => absurd (show (0 : Nat) = 1 from z.1) (by decide)⟩, fun z => absurd (show (0 : Nat) = 1 from z) (by decide)⟩
theorem RG_0 : RG qS0 := by
  refine ⟨⟨Nat.zero_le 4, fun p hp => absurd hp (Nat.not_lt_zero p), fun k hk => by show (0 : Nat) < 10; decide, by show (0 : Nat) < 16; decide, by show (0 : Nat) < 16; decide, by show (0 : Nat) < 16; decide⟩, ⟨Nat.zero_le 6, fun i hi => absurd hi (Nat.not_lt_zero i)⟩, fun z => absurd (show (0 : Nat) = 1 from z) (by decide), by show (0 : Nat) < 2; decide, Nat.zero_le 12, Nat.zero_le 22, fun i hi => absurd hi (Nat.not_lt_zero i)⟩
def qKl : qK := fun v _ => v = some (.int 1)
theorem law_at {L : Nat} {xs : Nat → Int32} (hL : L ≤ 256) : qAt (0 + 10, 138, some .boolean, (L + 1, xs), qKl) 8 [some (.ref 99), some (.ref 0), some (.ref 15), none] [] qh0 := by
  refine at_wp [10] 6 (Nat.le_of_ble_eq_true rfl) rfl ?_
  exact l_law hL (fun _ => rfl) 64 0 (by omega) qh0 qS0 RX_0 RM_0 RG_0 (Nat.le_refl 0) (Nat.zero_le 64)
theorem elaw_0 : decode code 0 = .ok (.new 7, 3) := by decide +kernel
theorem elaw_3 : decode code 3 = .ok (.dup, 1) := by decide +kernel
theorem elaw_4 : decode code 4 = .ok (.invokespecial 9, 3) := by decide +kernel
theorem elaw_7 : decode code 7 = .ok (.astore_n 1, 1) := by decide +kernel
theorem elaw_8 : decode code 8 = .ok (.new 10, 3) := by decide +kernel
theorem elaw_11 : decode code 11 = .ok (.dup, 1) := by decide +kernel
theorem elaw_12 : decode code 12 = .ok (.invokespecial 12, 3) := by decide +kernel
theorem elaw_15 : decode code 15 = .ok (.astore_n 2, 1) := by decide +kernel
set_option maxHeartbeats 4000000 in
set_option maxRecDepth 100000 in
theorem whole_start {p : Program} {e : Env} {s : State} {m : MethodId} {below : List Frame} {meth : Method} {c : Code} (l : Launch) (hflags : l.flags = flags0) {b L : Nat} {xs : Nat → Int32} (hL : L ≤ 256) (C0 : lw_At p s m meth c b L xs) : W p l e room_1 s m #[Value.ref b] below meth c s.heap [] 0 0 (lw_Z below #[Value.ref b] s) (entryFrame m ([Value.ref b] : List Value).toArray 4) := by
  obtain ⟨hx, hb, hr, hml, hown, hts, hX, hbl, hlocks, hgv⟩ := id C0
  have hU : ∀ w ∈ qU, w.before #[Value.ref b] s = true := fun w hw => hts w (qU_in w hw)
  have hs := flat_of_before _ hgv
  have hA : ∀ q : Nat, s.heap.size ≤ q → (fun q : Nat => s.heap.size ≤ q) q := fun _ h => h
  have hnA : ∀ a : Nat, a < s.heap.size → ¬ (fun q : Nat => s.heap.size ≤ q) a := fun a h => Nat.not_le.mpr h
  obtain ⟨c0, j0, k0⟩ := u_known (C := RX0) (T := TX0) (N := 7) (n := 7) hU qlay0 (hU _ (qin 79 (by decide +kernel) (by decide +kernel)))
  obtain ⟨c1, j1, k1⟩ := u_known (C := RX2) (T := TX2) (N := 2) (n := 2) hU qlay1 (hU _ (qin 63 (by decide +kernel) (by decide +kernel)))
  obtain ⟨c2, j2, k2⟩ := u_known (C := RX3) (T := TX3) (N := 8) (n := 8) hU qlay2 (hU _ (qin 109 (by decide +kernel) (by decide +kernel)))
  obtain ⟨c3, j3, k3⟩ := u_known (C := RX4) (T := TX4) (N := 9) (n := 9) hU qlay3 (hU _ (qin 55 (by decide +kernel) (by decide +kernel)))
  obtain ⟨c4, j4, k4⟩ := u_known (C := RX5) (T := TX5) (N := 35) (n := 35) hU qlay4 (hU _ (qin 588 (by decide +kernel) (by decide +kernel)))
  obtain ⟨cI, kI, compI, hI1, hI2, hI3⟩ := Cond.arrayClass_spec (type := .int) (hU (.arrayClass .int) (qin 77 (by decide +kernel) (by decide +kernel)))
  obtain ⟨cB, kB, compB, hB1, hB2, hB3⟩ := Cond.arrayClass_spec (type := .byte) (hU (.arrayClass .byte) (qin 304 (by decide +kernel) (by decide +kernel)))
  obtain ⟨D, hK⟩ : ∃ D : va_G, va_K D vwCl [(cI, .int), (cB, .byte)] s := by
    refine ⟨(fun k => if k = 0 then c0 else if k = 1 then c1 else if k = 2 then c2 else if k = 3 then c3 else c4, fun k => if k = 0 then j0 else if k = 1 then j1 else if k = 2 then j2 else if k = 3 then j3 else j4), fun k q hq => ?_, fun k q hq => ?_⟩
    · match k, hq with
      | 0, hq => cases hq; exact k0
      | 1, hq => cases hq; exact k1
      | 2, hq => cases hq; exact k2
      | 3, hq => cases hq; exact k3
      | 4, hq => cases hq; exact k4
      | k + 5, hq => simp [vwCl] at hq
    · match k, hq with
      | 0, hq => cases hq; exact ⟨fun n z => ⟨fun k h => (by cases h), kI, hI2, compI, hI3⟩, hI1⟩
      | 1, hq => cases hq; exact ⟨fun n z => ⟨fun k h => (by cases h), kB, hB2, compB, hB3⟩, hB1⟩
      | k + 2, hq => simp at hq
  have hN0 : va_Nw (.methodLinkNest "UnsaidHorse" 9 yX2_init "UnsaidHorse") s := va_Nw.of rfl (hts _ (List.mem_of_getElem? (i := 64) (by decide +kernel)))
  have hN1 : va_Nw (.methodLinkNest "UnsaidHorse" 18 yX0_init "UnsaidHorse") s := va_Nw.of rfl (hts _ (List.mem_of_getElem? (i := 80) (by decide +kernel)))
  have hN2 : va_Nw (.methodLinkNest "UnsaidHorse" 25 yX3_init "UnsaidHorse") s := va_Nw.of rfl (hts _ (List.mem_of_getElem? (i := 110) (by decide +kernel)))
  obtain ⟨adK, adV, hvS, hvE⟩ := vk_Sof (args := #[Value.ref b]) (s := s) (N := 1) (tm := fun _ => (.string "UnsaidHorse$Page" 23)) (len := [5]) (byt := [qstr]) (A := fun q : Nat => s.heap.size ≤ q) (by decide)
    (fun i hi => hs (.exactly (.string "UnsaidHorse$Page" 23) "java/lang/String") (by decide +kernel))
    (fun i hi => hs (.eq (.field (.string "UnsaidHorse$Page" 23) "java/lang/String" "coder" "B") (.int 0)) (by decide +kernel))
    (fun i hi => hs (.arrayOf (.field (.string "UnsaidHorse$Page" 23) "java/lang/String" "value" "[B") .byte) (by decide +kernel))
    (fun i hi => by
      rcases (show i = 0 by omega) with rfl
      exact hs (.eq (.length (.field (.string "UnsaidHorse$Page" 23) "java/lang/String" "value" "[B")) (.int 5)) (by decide +kernel))
    (fun i hi j hj => by
      rcases (show i = 0 by omega) with rfl
      have hj : j < 5 := hj
      rcases (show j = 0 ∨ j = 1 ∨ j = 2 ∨ j = 3 ∨ j = 4 by omega) with rfl | rfl | rfl | rfl | rfl
      · exact hs (.eq (.elem (.field (.string "UnsaidHorse$Page" 23) "java/lang/String" "value" "[B") (.int 0)) (.int 109)) (by decide +kernel)
      · exact hs (.eq (.elem (.field (.string "UnsaidHorse$Page" 23) "java/lang/String" "value" "[B") (.int 1)) (.int 107)) (by decide +kernel)
      · exact hs (.eq (.elem (.field (.string "UnsaidHorse$Page" 23) "java/lang/String" "value" "[B") (.int 2)) (.int 99)) (by decide +kernel)
      · exact hs (.eq (.elem (.field (.string "UnsaidHorse$Page" 23) "java/lang/String" "value" "[B") (.int 3)) (.int 110)) (by decide +kernel)
      · exact hs (.eq (.elem (.field (.string "UnsaidHorse$Page" 23) "java/lang/String" "value" "[B") (.int 4)) (.int 113)) (by decide +kernel))
    (fun i j hi hj hij => absurd (show i = j by omega) hij) hnA
  have hvZ : va_Z "java/lang/String" "COMPACT_STRINGS" "Z" (.int 1) (fun q : Nat => s.heap.size ≤ q) s s.heap := va_Zof (hts _ (List.mem_of_getElem? (i := 219) (by decide +kernel))) (hts _ (List.mem_of_getElem? (i := 46) (by decide +kernel))) (va_eqt (hs (.eq (.static "java/lang/String" "COMPACT_STRINGS" "Z") (.int 1)) (by decide +kernel))) hnA
  have hvR : vk_R RX2 23 "mkcnq" (adK 0) s := vk_R.of (hts _ (List.mem_of_getElem? (i := 201) (by decide +kernel))) (hvE 0 (by decide))
  have hS : va_S (fun q : Nat => s.heap.size ≤ q) s.heap s.heap [] := va_S.rf
  have hP : va_P D vwCl [] s.heap := fun k q h => by simp at h
  have hD : va_D (fun q : Nat => s.heap.size ≤ q) [] := ⟨fun i j p q h => by simp at h, fun k q h => by simp at h⟩
  have hl := lv_entry ([.ref b]) (n := 4) (Nat.le_of_ble_eq_true rfl)
  rw [lg_entry_eq]
  generalize (lg_sl ([.ref b]) ++ List.replicate (4 - (lg_sl ([.ref b])).length) Slot.unset).toArray = ls at hl ⊢
  have hl : lv_has ls 4 [(0, .ref b)] := hl
  refine va_new (ci := 3) (fs := [.null, .null, .null, .null, .null, .null, .int 0, .int 0, .int 0]) (C := RX4) (T := TX4) (N := 9) hx hb hU qlay3 tyX4 tyX4_ok hown (hU _ (qin 54 (by decide +kernel) (by decide +kernel))) (hU _ (qin 55 (by decide +kernel) (by decide +kernel))) (hU _ (qin 41 (by decide +kernel) (by decide +kernel))) hK hP hD hS hA rfl (by decide +kernel) (Nat.le_of_ble_eq_true rfl) (Nat.le_of_ble_eq_true rfl) elaw_0 (fun x0 H hP hD hS => ?_)
  have hP : va_P D vwCl [(x0, .inr (3, [.null, .null, .null, .null, .null, .null, .int 0, .int 0, .int 0]))] H := hP
  have hD : va_D (fun q : Nat => s.heap.size ≤ q) [(x0, .inr (3, [.null, .null, .null, .null, .null, .null, .int 0, .int 0, .int 0]))] := hD
  refine W.widen (k := 1) (n := 9) (Nat.le_of_ble_eq_true rfl) (Nat.le_of_ble_eq_true rfl) ?_
  refine lv_dup hx hb elaw_3 rfl ?_
  have hPc := hP.sub (ws' := [(x0, .inr (3, [.null, .null, .null, .null, .null, .null, .int 0, .int 0, .int 0]))]) [0] rfl
  have hDc := hD.sub (ws' := [(x0, .inr (3, [.null, .null, .null, .null, .null, .null, .int 0, .int 0, .int 0]))]) [0] (by decide) rfl
  have hFc := va_free (wc := [(x0, .inr (3, [.null, .null, .null, .null, .null, .null, .int 0, .int 0, .int 0]))]) hD hS hA [0] rfl
  refine va_callv (va_runI (As := []) (rest := [.ref x0]) ⟨hx, hb, hml, hown, hU⟩ (i_X4 l D cI cB x0 H.size) (cwI 0 hU (qgoodIn (fun w hw => (List.mem_cons.mp hw).elim (fun e => e ▸ (qin 58 (by decide +kernel) (by decide +kernel))) id)) rfl rfl rfl (hU _ (qin 41 (by decide +kernel) (by decide +kernel))) (hU _ (qin 56 (by decide +kernel) (by decide +kernel))) (hU _ (qin 57 (by decide +kernel) (by decide +kernel))) rfl (by decide +kernel) ⟨Nat.le_of_ble_eq_true rfl, Nat.le_of_ble_eq_true rfl⟩) ⟨fun a U g mk q => by obtain ⟨q0, q1, qP, qK, qD, hm0, hm1, hm2⟩ := q; exact ⟨q0, q1, qP, va_K.moved (u := U) (U := U.calling g mk a) (Vm.Alike.refl U.vm) qK, qD, va_Nw.same rfl (rfl : U.vm = (U.calling g mk a).vm) hm0, va_Nw.same rfl (rfl : U.vm = (U.calling g mk a).vm) hm1, va_Nw.same rfl (rfl : U.vm = (U.calling g mk a).vm) hm2⟩, fun U hU2 hW => ⟨rfl, by rw [hU2], by rw [hU2]; exact hPc, va_K.moved hW.alike hK, hDc.weaken (fun _ _ _ _ => trivial), va_Nw.warmM hW hN0, va_Nw.warmM hW hN1, va_Nw.warmM hW hN2⟩⟩ rfl rfl hl.1 rfl (lv_room (Nat.le_of_ble_eq_true rfl)) elaw_4 ⟨Nat.le_of_ble_eq_true rfl, Nat.le_of_ble_eq_true rfl⟩) hS (fun q _ h => hFc q h) hFc (fun u t H1 locs ht hvm hw hB hz1 hk1 hS => ?_)
  obtain ⟨hP1, hD1⟩ := hB
  rw [ht] at hP1
  obtain ⟨hP, hD⟩ := va_join (wr := []) (w1 := [(x0, .inr (3, [.ref (u 0), .ref (u 2), .ref (u 4), .ref (u 7), .ref (u 10), .ref (u 13), .int 0, .int 0, .int 0])), (u 0, .inr (1, [.ref (u 1), .int 0])), (u 1, .inl (cI, 22, .inl (fun _ => 0))), (u 2, .inr (0, [.int 0, .int 0, .int 0, .int 0, .int 0, .int 0, .ref (u 3)])), (u 3, .inl (cI, 16, .inl (fun _ => 0))), (u 4, .inr (2, [.int 0, .int 0, .int 0, .int 0, .int 0, .ref (u 5), .ref (u 6), .int 0])), (u 5, .inl (cI, 4, .inl (fun _ => 0))), (u 6, .inl (cI, 6, .inl (fun _ => 0))), (u 7, .inr (2, [.int 0, .int 0, .int 0, .int 0, .int 0, .ref (u 8), .ref (u 9), .int 0])), (u 8, .inl (cI, 4, .inl (fun _ => 0))), (u 9, .inl (cI, 6, .inl (fun _ => 0))), (u 10, .inr (2, [.int 0, .int 0, .int 0, .int 0, .int 0, .ref (u 11), .ref (u 12), .int 0])), (u 11, .inl (cI, 4, .inl (fun _ => 0))), (u 12, .inl (cI, 6, .inl (fun _ => 0))), (u 13, .inl (cI, 3, .inl (fun _ => 0)))]) hP hD [0] [] rfl rfl (by decide) (by decide) hk1 hFc hP1 hD1
  generalize H1 = H at hP hS ⊢
  have hP : va_P D vwCl [(x0, .inr (3, [.ref (u 0), .ref (u 2), .ref (u 4), .ref (u 7), .ref (u 10), .ref (u 13), .int 0, .int 0, .int 0])), (u 0, .inr (1, [.ref (u 1), .int 0])), (u 1, .inl (cI, 22, .inl (fun _ => 0))), (u 2, .inr (0, [.int 0, .int 0, .int 0, .int 0, .int 0, .int 0, .ref (u 3)])), (u 3, .inl (cI, 16, .inl (fun _ => 0))), (u 4, .inr (2, [.int 0, .int 0, .int 0, .int 0, .int 0, .ref (u 5), .ref (u 6), .int 0])), (u 5, .inl (cI, 4, .inl (fun _ => 0))), (u 6, .inl (cI, 6, .inl (fun _ => 0))), (u 7, .inr (2, [.int 0, .int 0, .int 0, .int 0, .int 0, .ref (u 8), .ref (u 9), .int 0])), (u 8, .inl (cI, 4, .inl (fun _ => 0))), (u 9, .inl (cI, 6, .inl (fun _ => 0))), (u 10, .inr (2, [.int 0, .int 0, .int 0, .int 0, .int 0, .ref (u 11), .ref (u 12), .int 0])), (u 11, .inl (cI, 4, .inl (fun _ => 0))), (u 12, .inl (cI, 6, .inl (fun _ => 0))), (u 13, .inl (cI, 3, .inl (fun _ => 0)))] H := hP
  have hD : va_D (fun q : Nat => s.heap.size ≤ q) [(x0, .inr (3, [.ref (u 0), .ref (u 2), .ref (u 4), .ref (u 7), .ref (u 10), .ref (u 13), .int 0, .int 0, .int 0])), (u 0, .inr (1, [.ref (u 1), .int 0])), (u 1, .inl (cI, 22, .inl (fun _ => 0))), (u 2, .inr (0, [.int 0, .int 0, .int 0, .int 0, .int 0, .int 0, .ref (u 3)])), (u 3, .inl (cI, 16, .inl (fun _ => 0))), (u 4, .inr (2, [.int 0, .int 0, .int 0, .int 0, .int 0, .ref (u 5), .ref (u 6), .int 0])), (u 5, .inl (cI, 4, .inl (fun _ => 0))), (u 6, .inl (cI, 6, .inl (fun _ => 0))), (u 7, .inr (2, [.int 0, .int 0, .int 0, .int 0, .int 0, .ref (u 8), .ref (u 9), .int 0])), (u 8, .inl (cI, 4, .inl (fun _ => 0))), (u 9, .inl (cI, 6, .inl (fun _ => 0))), (u 10, .inr (2, [.int 0, .int 0, .int 0, .int 0, .int 0, .ref (u 11), .ref (u 12), .int 0])), (u 11, .inl (cI, 4, .inl (fun _ => 0))), (u 12, .inl (cI, 6, .inl (fun _ => 0))), (u 13, .inl (cI, 3, .inl (fun _ => 0)))] := hD
  refine W.widen (k := 15) (n := 113) (Nat.le_of_ble_eq_true rfl) (Nat.le_of_ble_eq_true rfl) ?_
  refine lv_astore_n (lv' := [(1, .ref x0), (0, .ref b)]) hx hb elaw_7 rfl hl (by decide) rfl (fun ls hl => ?_)
  refine va_new (ci := 4) (fs := [.int 0, .int 0, .null, .null, .null, .null, .null, .int 0, .int 0, .int 0, .int 0, .int 0, .null, .null, .null, .int 0, .int 0, .null, .int 0, .int 0, .null, .long 0, .int 0, .int 0, .int 0, .int 0, .int 0, .int 0, .int 0, .null, .null, .null, .null, .null, .long 0]) (C := RX5) (T := TX5) (N := 35) hx hb hU qlay4 tyX5 tyX5_ok hown (hU _ (qin 587 (by decide +kernel) (by decide +kernel))) (hU _ (qin 588 (by decide +kernel) (by decide +kernel))) (hU _ (qin 45 (by decide +kernel) (by decide +kernel))) hK hP hD hS hA rfl (by decide +kernel) (Nat.le_of_ble_eq_true rfl) (Nat.le_of_ble_eq_true rfl) elaw_8 (fun m0 H hP hD hS => ?_)
  have hP : va_P D vwCl [(x0, .inr (3, [.ref (u 0), .ref (u 2), .ref (u 4), .ref (u 7), .ref (u 10), .ref (u 13), .int 0, .int 0, .int 0])), (u 0, .inr (1, [.ref (u 1), .int 0])), (u 1, .inl (cI, 22, .inl (fun _ => 0))), (u 2, .inr (0, [.int 0, .int 0, .int 0, .int 0, .int 0, .int 0, .ref (u 3)])), (u 3, .inl (cI, 16, .inl (fun _ => 0))), (u 4, .inr (2, [.int 0, .int 0, .int 0, .int 0, .int 0, .ref (u 5), .ref (u 6), .int 0])), (u 5, .inl (cI, 4, .inl (fun _ => 0))), (u 6, .inl (cI, 6, .inl (fun _ => 0))), (u 7, .inr (2, [.int 0, .int 0, .int 0, .int 0, .int 0, .ref (u 8), .ref (u 9), .int 0])), (u 8, .inl (cI, 4, .inl (fun _ => 0))), (u 9, .inl (cI, 6, .inl (fun _ => 0))), (u 10, .inr (2, [.int 0, .int 0, .int 0, .int 0, .int 0, .ref (u 11), .ref (u 12), .int 0])), (u 11, .inl (cI, 4, .inl (fun _ => 0))), (u 12, .inl (cI, 6, .inl (fun _ => 0))), (u 13, .inl (cI, 3, .inl (fun _ => 0))), (m0, .inr (4, [.int 0, .int 0, .null, .null, .null, .null, .null, .int 0, .int 0, .int 0, .int 0, .int 0, .null, .null, .null, .int 0, .int 0, .null, .int 0, .int 0, .null, .long 0, .int 0, .int 0, .int 0, .int 0, .int 0, .int 0, .int 0, .null, .null, .null, .null, .null, .long 0]))] H := hP
  have hD : va_D (fun q : Nat => s.heap.size ≤ q) [(x0, .inr (3, [.ref (u 0), .ref (u 2), .ref (u 4), .ref (u 7), .ref (u 10), .ref (u 13), .int 0, .int 0, .int 0])), (u 0, .inr (1, [.ref (u 1), .int 0])), (u 1, .inl (cI, 22, .inl (fun _ => 0))), (u 2, .inr (0, [.int 0, .int 0, .int 0, .int 0, .int 0, .int 0, .ref (u 3)])), (u 3, .inl (cI, 16, .inl (fun _ => 0))), (u 4, .inr (2, [.int 0, .int 0, .int 0, .int 0, .int 0, .ref (u 5), .ref (u 6), .int 0])), (u 5, .inl (cI, 4, .inl (fun _ => 0))), (u 6, .inl (cI, 6, .inl (fun _ => 0))), (u 7, .inr (2, [.int 0, .int 0, .int 0, .int 0, .int 0, .ref (u 8), .ref (u 9), .int 0])), (u 8, .inl (cI, 4, .inl (fun _ => 0))), (u 9, .inl (cI, 6, .inl (fun _ => 0))), (u 10, .inr (2, [.int 0, .int 0, .int 0, .int 0, .int 0, .ref (u 11), .ref (u 12), .int 0])), (u 11, .inl (cI, 4, .inl (fun _ => 0))), (u 12, .inl (cI, 6, .inl (fun _ => 0))), (u 13, .inl (cI, 3, .inl (fun _ => 0))), (m0, .inr (4, [.int 0, .int 0, .null, .null, .null, .null, .null, .int 0, .int 0, .int 0, .int 0, .int 0, .null, .null, .null, .int 0, .int 0, .null, .int 0, .int 0, .null, .long 0, .int 0, .int 0, .int 0, .int 0, .int 0, .int 0, .int 0, .null, .null, .null, .null, .null, .long 0]))] := hD
  refine W.widen (k := 16) (n := 148) (Nat.le_of_ble_eq_true rfl) (Nat.le_of_ble_eq_true rfl) ?_
  refine lv_dup hx hb elaw_11 rfl ?_
  have hPc := hP.sub (ws' := [(m0, .inr (4, [.int 0, .int 0, .null, .null, .null, .null, .null, .int 0, .int 0, .int 0, .int 0, .int 0, .null, .null, .null, .int 0, .int 0, .null, .int 0, .int 0, .null, .long 0, .int 0, .int 0, .int 0, .int 0, .int 0, .int 0, .int 0, .null, .null, .null, .null, .null, .long 0]))]) [15] rfl
  have hDc := hD.sub (ws' := [(m0, .inr (4, [.int 0, .int 0, .null, .null, .null, .null, .null, .int 0, .int 0, .int 0, .int 0, .int 0, .null, .null, .null, .int 0, .int 0, .null, .int 0, .int 0, .null, .long 0, .int 0, .int 0, .int 0, .int 0, .int 0, .int 0, .int 0, .null, .null, .null, .null, .null, .long 0]))]) [15] (by decide) rfl
  have hFc := va_free (wc := [(m0, .inr (4, [.int 0, .int 0, .null, .null, .null, .null, .null, .int 0, .int 0, .int 0, .int 0, .int 0, .null, .null, .null, .int 0, .int 0, .null, .int 0, .int 0, .null, .long 0, .int 0, .int 0, .int 0, .int 0, .int 0, .int 0, .int 0, .null, .null, .null, .null, .null, .long 0]))]) hD hS hA [15] rfl
  refine va_callv (va_runI (As := []) (rest := [.ref m0]) ⟨hx, hb, hml, hown, hU⟩ (i_X5 l D cI cB m0 H.size) (cwI 0 hU (qgoodIn (fun w hw => (List.mem_cons.mp hw).elim (fun e => e ▸ (qin 591 (by decide +kernel) (by decide +kernel))) id)) rfl rfl rfl (hU _ (qin 45 (by decide +kernel) (by decide +kernel))) (hU _ (qin 589 (by decide +kernel) (by decide +kernel))) (hU _ (qin 590 (by decide +kernel) (by decide +kernel))) rfl (by decide +kernel) ⟨Nat.le_of_ble_eq_true rfl, Nat.le_of_ble_eq_true rfl⟩) ⟨fun a U g mk q => by obtain ⟨q0, q1, qP, qK, qD⟩ := q; exact ⟨q0, q1, qP, va_K.moved (u := U) (U := U.calling g mk a) (Vm.Alike.refl U.vm) qK, qD⟩, fun U hU2 hW => ⟨rfl, by rw [hU2], by rw [hU2]; exact hPc, va_K.moved hW.alike hK, hDc.weaken (fun _ _ _ _ => trivial)⟩⟩ rfl rfl hl.1 rfl (lv_room (Nat.le_of_ble_eq_true rfl)) elaw_12 ⟨Nat.le_of_ble_eq_true rfl, Nat.le_of_ble_eq_true rfl⟩) hS (fun q _ h => hFc q h) hFc (fun v t H1 locs ht hvm hw hB hz1 hk1 hS => ?_)
  obtain ⟨hP1, hD1⟩ := hB
  rw [ht] at hP1
  obtain ⟨hP, hD⟩ := va_join (wr := [(x0, .inr (3, [.ref (u 0), .ref (u 2), .ref (u 4), .ref (u 7), .ref (u 10), .ref (u 13), .int 0, .int 0, .int 0])), (u 0, .inr (1, [.ref (u 1), .int 0])), (u 1, .inl (cI, 22, .inl (fun _ => 0))), (u 2, .inr (0, [.int 0, .int 0, .int 0, .int 0, .int 0, .int 0, .ref (u 3)])), (u 3, .inl (cI, 16, .inl (fun _ => 0))), (u 4, .inr (2, [.int 0, .int 0, .int 0, .int 0, .int 0, .ref (u 5), .ref (u 6), .int 0])), (u 5, .inl (cI, 4, .inl (fun _ => 0))), (u 6, .inl (cI, 6, .inl (fun _ => 0))), (u 7, .inr (2, [.int 0, .int 0, .int 0, .int 0, .int 0, .ref (u 8), .ref (u 9), .int 0])), (u 8, .inl (cI, 4, .inl (fun _ => 0))), (u 9, .inl (cI, 6, .inl (fun _ => 0))), (u 10, .inr (2, [.int 0, .int 0, .int 0, .int 0, .int 0, .ref (u 11), .ref (u 12), .int 0])), (u 11, .inl (cI, 4, .inl (fun _ => 0))), (u 12, .inl (cI, 6, .inl (fun _ => 0))), (u 13, .inl (cI, 3, .inl (fun _ => 0)))]) (w1 := [(m0, .inr (4, [.int 0, .int 0, .ref (v 0), .ref (v 1), .ref (v 2), .ref (v 3), .ref (v 4), .int 0, .int 0, .int 0, .int 0, .int 0, .ref (v 5), .ref (v 6), .ref (v 7), .int 0, .int 0, .ref (v 8), .int 0, .int 0, .ref (v 9), .long 0, .int 0, .int 0, .int 0, .int 0, .int 0, .int 0, .int 0, .ref (v 10), .ref (v 11), .ref (v 12), .ref (v 13), .ref (v 14), .long 0])), (v 0, .inl (cI, 4, .inl (fun _ => 0))), (v 1, .inl (cI, 4, .inl (fun _ => 0))), (v 2, .inl (cI, 4, .inl (fun _ => 0))), (v 3, .inl (cI, 4, .inl (fun _ => 0))), (v 4, .inl (cI, 4, .inl (fun _ => 0))), (v 5, .inl (cI, 6, .inl (fun _ => 0))), (v 6, .inl (cI, 6, .inl (fun _ => 0))), (v 7, .inl (cI, 6, .inl (fun _ => 0))), (v 8, .inl (cB, 22, .inl (fun _ => 0))), (v 9, .inl (cI, 4, .inl (fun _ => 0))), (v 10, .inl (cI, 4, .inl (fun _ => 0))), (v 11, .inl (cI, 4, .inl (fun _ => 0))), (v 12, .inl (cI, 6, .inl (fun _ => 0))), (v 13, .inl (cI, 6, .inl (fun _ => 0))), (v 14, .inl (cI, 6, .inl (fun _ => 0)))]) hP hD [15] [0, 1, 2, 3, 4, 5, 6, 7, 8, 9, 10, 11, 12, 13, 14] rfl rfl (by decide) (by decide) hk1 hFc hP1 hD1
  generalize H1 = H at hP hS ⊢
  have hP : va_P D vwCl [(x0, .inr (3, [.ref (u 0), .ref (u 2), .ref (u 4), .ref (u 7), .ref (u 10), .ref (u 13), .int 0, .int 0, .int 0])), (u 0, .inr (1, [.ref (u 1), .int 0])), (u 1, .inl (cI, 22, .inl (fun _ => 0))), (u 2, .inr (0, [.int 0, .int 0, .int 0, .int 0, .int 0, .int 0, .ref (u 3)])), (u 3, .inl (cI, 16, .inl (fun _ => 0))), (u 4, .inr (2, [.int 0, .int 0, .int 0, .int 0, .int 0, .ref (u 5), .ref (u 6), .int 0])), (u 5, .inl (cI, 4, .inl (fun _ => 0))), (u 6, .inl (cI, 6, .inl (fun _ => 0))), (u 7, .inr (2, [.int 0, .int 0, .int 0, .int 0, .int 0, .ref (u 8), .ref (u 9), .int 0])), (u 8, .inl (cI, 4, .inl (fun _ => 0))), (u 9, .inl (cI, 6, .inl (fun _ => 0))), (u 10, .inr (2, [.int 0, .int 0, .int 0, .int 0, .int 0, .ref (u 11), .ref (u 12), .int 0])), (u 11, .inl (cI, 4, .inl (fun _ => 0))), (u 12, .inl (cI, 6, .inl (fun _ => 0))), (u 13, .inl (cI, 3, .inl (fun _ => 0))), (m0, .inr (4, [.int 0, .int 0, .ref (v 0), .ref (v 1), .ref (v 2), .ref (v 3), .ref (v 4), .int 0, .int 0, .int 0, .int 0, .int 0, .ref (v 5), .ref (v 6), .ref (v 7), .int 0, .int 0, .ref (v 8), .int 0, .int 0, .ref (v 9), .long 0, .int 0, .int 0, .int 0, .int 0, .int 0, .int 0, .int 0, .ref (v 10), .ref (v 11), .ref (v 12), .ref (v 13), .ref (v 14), .long 0])), (v 0, .inl (cI, 4, .inl (fun _ => 0))), (v 1, .inl (cI, 4, .inl (fun _ => 0))), (v 2, .inl (cI, 4, .inl (fun _ => 0))), (v 3, .inl (cI, 4, .inl (fun _ => 0))), (v 4, .inl (cI, 4, .inl (fun _ => 0))), (v 5, .inl (cI, 6, .inl (fun _ => 0))), (v 6, .inl (cI, 6, .inl (fun _ => 0))), (v 7, .inl (cI, 6, .inl (fun _ => 0))), (v 8, .inl (cB, 22, .inl (fun _ => 0))), (v 9, .inl (cI, 4, .inl (fun _ => 0))), (v 10, .inl (cI, 4, .inl (fun _ => 0))), (v 11, .inl (cI, 4, .inl (fun _ => 0))), (v 12, .inl (cI, 6, .inl (fun _ => 0))), (v 13, .inl (cI, 6, .inl (fun _ => 0))), (v 14, .inl (cI, 6, .inl (fun _ => 0)))] H := hP
  have hD : va_D (fun q : Nat => s.heap.size ≤ q) [(x0, .inr (3, [.ref (u 0), .ref (u 2), .ref (u 4), .ref (u 7), .ref (u 10), .ref (u 13), .int 0, .int 0, .int 0])), (u 0, .inr (1, [.ref (u 1), .int 0])), (u 1, .inl (cI, 22, .inl (fun _ => 0))), (u 2, .inr (0, [.int 0, .int 0, .int 0, .int 0, .int 0, .int 0, .ref (u 3)])), (u 3, .inl (cI, 16, .inl (fun _ => 0))), (u 4, .inr (2, [.int 0, .int 0, .int 0, .int 0, .int 0, .ref (u 5), .ref (u 6), .int 0])), (u 5, .inl (cI, 4, .inl (fun _ => 0))), (u 6, .inl (cI, 6, .inl (fun _ => 0))), (u 7, .inr (2, [.int 0, .int 0, .int 0, .int 0, .int 0, .ref (u 8), .ref (u 9), .int 0])), (u 8, .inl (cI, 4, .inl (fun _ => 0))), (u 9, .inl (cI, 6, .inl (fun _ => 0))), (u 10, .inr (2, [.int 0, .int 0, .int 0, .int 0, .int 0, .ref (u 11), .ref (u 12), .int 0])), (u 11, .inl (cI, 4, .inl (fun _ => 0))), (u 12, .inl (cI, 6, .inl (fun _ => 0))), (u 13, .inl (cI, 3, .inl (fun _ => 0))), (m0, .inr (4, [.int 0, .int 0, .ref (v 0), .ref (v 1), .ref (v 2), .ref (v 3), .ref (v 4), .int 0, .int 0, .int 0, .int 0, .int 0, .ref (v 5), .ref (v 6), .ref (v 7), .int 0, .int 0, .ref (v 8), .int 0, .int 0, .ref (v 9), .long 0, .int 0, .int 0, .int 0, .int 0, .int 0, .int 0, .int 0, .ref (v 10), .ref (v 11), .ref (v 12), .ref (v 13), .ref (v 14), .long 0])), (v 0, .inl (cI, 4, .inl (fun _ => 0))), (v 1, .inl (cI, 4, .inl (fun _ => 0))), (v 2, .inl (cI, 4, .inl (fun _ => 0))), (v 3, .inl (cI, 4, .inl (fun _ => 0))), (v 4, .inl (cI, 4, .inl (fun _ => 0))), (v 5, .inl (cI, 6, .inl (fun _ => 0))), (v 6, .inl (cI, 6, .inl (fun _ => 0))), (v 7, .inl (cI, 6, .inl (fun _ => 0))), (v 8, .inl (cB, 22, .inl (fun _ => 0))), (v 9, .inl (cI, 4, .inl (fun _ => 0))), (v 10, .inl (cI, 4, .inl (fun _ => 0))), (v 11, .inl (cI, 4, .inl (fun _ => 0))), (v 12, .inl (cI, 6, .inl (fun _ => 0))), (v 13, .inl (cI, 6, .inl (fun _ => 0))), (v 14, .inl (cI, 6, .inl (fun _ => 0)))] := hD
  refine W.widen (k := 31) (n := 238) (Nat.le_of_ble_eq_true rfl) (Nat.le_of_ble_eq_true rfl) ?_
  refine lv_astore_n (lv' := [(2, .ref m0), (1, .ref x0), (0, .ref b)]) hx hb elaw_15 rfl hl (by decide) rfl (fun ls hl => ?_)
  obtain ⟨ad, had⟩ : ∃ ad : Nat → Nat, ad = fun r => if r = 97 then adK 0 else if r = 98 then adV 0 else if r = 99 then b else [x0, u 0, u 1, u 2, u 3, u 4, u 5, u 6, u 7, u 8, u 9, u 10, u 11, u 12, u 13, m0, v 0, v 1, v 2, v 3, v 4, v 5, v 6, v 7, v 8, v 9, v 10, v 11, v 12, v 13, v 14].getD r 0 := ⟨_, rfl⟩
  have hPw : va_P D vwCl (qW cI cB ad qh0) H := by rw [qW_0, had]; exact hP
  have hDw : va_D (fun q : Nat => s.heap.size ≤ q) (qW cI cB ad qh0) := by rw [qW_0, had]; exact hD
  have a97 : ad 97 = adK 0 := by rw [had]; rfl
  have a98 : ad 98 = adV 0 := by rw [had]; rfl
  have a99 : ad 99 = b := by rw [had]; rfl
  have a0 : ad 0 = x0 := by rw [had]; rfl
  have a15 : ad 15 = m0 := by rw [had]; rfl
  have hRO : qRO ad (fun q : Nat => s.heap.size ≤ q) s s.heap := by
    unfold qRO
    rw [a97, a98]
    refine ⟨⟨fun i hi => ?_, fun i j hi hj _ => by omega⟩, hvZ, hvR, fun q hq => va_Nw.of rfl (hts _ (List.mem_append_right _ (qNT_ok q hq)))⟩
    rcases (show i = 0 by omega) with rfl
    exact hvS.1 0 (by decide)
  have g0 := law_at (xs := xs) hL p l e room_1 s m #[Value.ref b] below meth c D cI cB ad (fun q : Nat => s.heap.size ≤ q) H locs 31 238 (lw_Z below #[Value.ref b] s)
    ⟨hx, hb, hml, hown, hU, hK, hA, hRO, ⟨Nat.le_of_ble_eq_true rfl, Nat.le_of_ble_eq_true rfl, Nat.le_of_ble_eq_true rfl, Nat.le_of_ble_eq_true rfl⟩, Or.inr (by rw [a99]; exact ⟨hX, hbl, hnA b hbl⟩), ?_⟩ hPw hDw hS ls ⟨Nat.le_of_ble_eq_true rfl, ?_⟩
  · have e16 : qpc (0 + 10, 138, some FieldType.boolean, (L + 1, xs), qKl).2.1 8 = 16 := show qpc 138 8 = 16 by decide +kernel
    rw [e16] at g0
    exact g0
  · intro v h' H' locs' lsM pc hv hret hP' hD' hS'
    have hv : v = some (.int 1) := hv
    subst hv
    refine va_forget hS'.2.2 ?_
    refine W.widen (k := 617439) (n := 7249932) (Nat.le_of_ble_eq_true rfl) (Nat.le_of_ble_eq_true rfl) ?_
    exact lw_ret hx hb hr hlocks hret.1
  · rw [qpr_law, a99, a0, a15]
    exact lv_sub hl [2, 1, 0] rfl
