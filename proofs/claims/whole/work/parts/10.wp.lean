/-! one step, many steps, a method's contract out of its steps -/
section QSTEP
variable {X : qX} {nx : Nat → qL → List Value → qH → Prop} {i : Nat} {ls : qL} {st : List Value} {h : qH}
set_option maxHeartbeats 4000000 in
theorem qstep_ok {a : Instr} (hj : X.2.1 < 139) (hnx : ∀ i ls st h, nx i ls st h → qAt X i ls st h) (hc : qnth (qCL.getD X.2.1 []) i = some a) (hs : qstep X.1 X.2.2.1 X.2.2.2.1 X.2.2.2.2 nx a i ls st h) : qAt X i ls st h := by
  obtain ⟨ins, len, hd, hm, hn⟩ := qcode hj hc
  have nxt : qend a = false → ∀ ls st h, nx (i + 1) ls st h → qAtP X (qpc X.2.1 i + len) ls st h := by
    intro he ls st h z
    rcases hn with e | e
    · rw [← e]
      exact hnx _ _ _ _ z
    · rw [he] at e
      cases e
  have jmp : ∀ (t : Int) ls st h, nx t.toNat ls st h → qAtP X ((qpcs (qRL.getD X.2.1 [])).getD t.toNat 0) ls st h := fun t ls st h z => hnx _ _ _ _ z
  unfold qAt
  cases a with
  | iload k =>
    obtain ⟨x, hv, hz⟩ := lI_ok hs
    rcases qm_iload hm with ⟨f, hf, rfl, rfl⟩ | ⟨rfl, rfl⟩
    · exact ok_iload_n hd hf hv (nxt rfl _ _ _ hz)
    · exact ok_iload hd hv (nxt rfl _ _ _ hz)
  | lload k =>
    obtain ⟨x, hv, hz⟩ := lL_ok hs
    rcases qm_lload hm with ⟨f, hf, rfl, rfl⟩ | ⟨rfl, rfl⟩
    · exact ok_lload_n hd hf hv (nxt rfl _ _ _ hz)
    · exact ok_lload hd hv (nxt rfl _ _ _ hz)
  | aload k =>
    obtain ⟨x, hv, hz⟩ := lR_ok hs
    rcases qm_aload hm with ⟨f, hf, rfl, rfl⟩ | ⟨rfl, rfl⟩
    · exact ok_aload_n hd hf hv (nxt rfl _ _ _ hz)
    · exact ok_aload hd hv (nxt rfl _ _ _ hz)
  | istore k =>
    obtain ⟨x, r, rfl, hz⟩ := eI_ok hs
    obtain ⟨hb, hz⟩ := eo_ok hz
    rw [Bool.and_eq_true] at hb
    rcases qm_istore hm with ⟨f, hf, rfl, rfl⟩ | ⟨rfl, rfl⟩
    · exact ok_istore_n hd hf (Nat.le_of_ble_eq_true hb.1) hb.2 (nxt rfl _ _ _ hz)
    · exact ok_istore hd (Nat.le_of_ble_eq_true hb.1) hb.2 (nxt rfl _ _ _ hz)
  | astore k =>
    obtain ⟨x, r, rfl, hz⟩ := eR_ok hs
    obtain ⟨hb, hz⟩ := eo_ok hz
    rw [Bool.and_eq_true] at hb
    rcases qm_astore hm with ⟨f, hf, rfl, rfl⟩ | ⟨rfl, rfl⟩
    · exact ok_astore_n hd hf (Nat.le_of_ble_eq_true hb.1) hb.2 (nxt rfl _ _ _ hz)
    · exact ok_astore hd (Nat.le_of_ble_eq_true hb.1) hb.2 (nxt rfl _ _ _ hz)
  | lstore k =>
    obtain ⟨x, r, rfl, hz⟩ := eL_ok hs
    obtain ⟨hb, hz⟩ := eo_ok hz
    rw [Bool.and_eq_true] at hb
    rcases qm_lstore hm with ⟨f, hf, rfl, rfl⟩ | ⟨rfl, rfl⟩
    · exact ok_lstore_n hd hf (Nat.le_of_ble_eq_true hb.1) hb.2 (nxt rfl _ _ _ hz)
    · exact ok_lstore hd (Nat.le_of_ble_eq_true hb.1) hb.2 (nxt rfl _ _ _ hz)
  | iinc k v =>
    obtain ⟨x, hv, hz⟩ := lI_ok hs
    obtain ⟨hb, hz⟩ := eo_ok hz
    rw [Bool.and_eq_true] at hb
    obtain ⟨rfl, rfl⟩ := qm_iinc hm
    exact ok_iinc hd hv (Nat.le_of_ble_eq_true hb.1) hb.2 (nxt rfl _ _ _ hz)
  | iconst v =>
    rcases qm_iconst hm with ⟨rfl, rfl⟩ | ⟨w, rfl, rfl, e⟩ | ⟨w, rfl, rfl, e⟩ | ⟨w, rfl, rfl, e⟩ | ⟨w, rfl, rfl, e⟩
    · exact ok_iconst hd (nxt rfl _ _ _ hs)
    · exact ok_bipush hd e (nxt rfl _ _ _ hs)
    · exact ok_sipush hd e (nxt rfl _ _ _ hs)
    · exact ok_ldcI hd e (nxt rfl _ _ _ hs)
    · exact ok_ldcW hd e (nxt rfl _ _ _ hs)
  | jsr v =>
    rcases qm_jsr hm with ⟨w, rfl, rfl, e⟩ | ⟨w, rfl, rfl, e⟩
    · exact ok_lconst hd e (nxt rfl _ _ _ hs)
    · exact ok_ldcJ hd e (nxt rfl _ _ _ hs)
  | ldc k =>
    obtain ⟨rfl, ho, rfl⟩ := qm_ldc hm
    exact ok_ldcS hd ho (nxt rfl _ _ _ hs)
  | iadd =>
    obtain ⟨y, x, r, rfl, hz⟩ := eII_ok hs
    obtain ⟨rfl, rfl⟩ := qone_ok (a := .iadd) hm
    exact ok_iadd hd (nxt rfl _ _ _ hz)
  | isub =>
    obtain ⟨y, x, r, rfl, hz⟩ := eII_ok hs
    obtain ⟨rfl, rfl⟩ := qone_ok (a := .isub) hm
    exact ok_isub hd (nxt rfl _ _ _ hz)
  | imul =>
    obtain ⟨y, x, r, rfl, hz⟩ := eII_ok hs
    obtain ⟨rfl, rfl⟩ := qone_ok (a := .imul) hm
    exact ok_imul hd (nxt rfl _ _ _ hz)
  | iand =>
    obtain ⟨y, x, r, rfl, hz⟩ := eII_ok hs
    obtain ⟨rfl, rfl⟩ := qone_ok (a := .iand) hm
    exact ok_iand hd (nxt rfl _ _ _ hz)
  | ior =>
    obtain ⟨y, x, r, rfl, hz⟩ := eII_ok hs
    obtain ⟨rfl, rfl⟩ := qone_ok (a := .ior) hm
    exact ok_ior hd (nxt rfl _ _ _ hz)
  | ixor =>
    obtain ⟨y, x, r, rfl, hz⟩ := eII_ok hs
    obtain ⟨rfl, rfl⟩ := qone_ok (a := .ixor) hm
    exact ok_ixor hd (nxt rfl _ _ _ hz)
  | ishl =>
    obtain ⟨y, x, r, rfl, hz⟩ := eII_ok hs
    obtain ⟨rfl, rfl⟩ := qone_ok (a := .ishl) hm
    exact ok_ishl hd (nxt rfl _ _ _ hz)
  | ishr =>
    obtain ⟨y, x, r, rfl, hz⟩ := eII_ok hs
    obtain ⟨rfl, rfl⟩ := qone_ok (a := .ishr) hm
    exact ok_ishr hd (nxt rfl _ _ _ hz)
  | iushr =>
    obtain ⟨y, x, r, rfl, hz⟩ := eII_ok hs
    obtain ⟨rfl, rfl⟩ := qone_ok (a := .iushr) hm
    exact ok_iushr hd (nxt rfl _ _ _ hz)
  | idiv =>
    obtain ⟨y, x, r, rfl, h0, hz⟩ := eII_ok hs
    obtain ⟨rfl, rfl⟩ := qone_ok (a := .idiv) hm
    exact ok_idiv hd h0 (nxt rfl _ _ _ hz)
  | irem =>
    obtain ⟨y, x, r, rfl, h0, hz⟩ := eII_ok hs
    obtain ⟨rfl, rfl⟩ := qone_ok (a := .irem) hm
    exact ok_irem hd h0 (nxt rfl _ _ _ hz)
  | ladd =>
    obtain ⟨y, x, r, rfl, hz⟩ := eLL_ok hs
    obtain ⟨rfl, rfl⟩ := qone_ok (a := .ladd) hm
    exact ok_ladd hd (nxt rfl _ _ _ hz)
  | lmul =>
    obtain ⟨y, x, r, rfl, hz⟩ := eLL_ok hs
    obtain ⟨rfl, rfl⟩ := qone_ok (a := .lmul) hm
    exact ok_lmul hd (nxt rfl _ _ _ hz)
  | land =>
    obtain ⟨y, x, r, rfl, hz⟩ := eLL_ok hs
    obtain ⟨rfl, rfl⟩ := qone_ok (a := .land) hm
    exact ok_land hd (nxt rfl _ _ _ hz)
  | lcmp =>
    obtain ⟨y, x, r, rfl, hz⟩ := eLL_ok hs
    obtain ⟨rfl, rfl⟩ := qone_ok (a := .lcmp) hm
    exact ok_lcmp hd (nxt rfl _ _ _ hz)
  | ldiv =>
    obtain ⟨y, x, r, rfl, h0, hz⟩ := eLL_ok hs
    obtain ⟨rfl, rfl⟩ := qone_ok (a := .ldiv) hm
    exact ok_ldiv hd h0 (nxt rfl _ _ _ hz)
  | lrem =>
    obtain ⟨y, x, r, rfl, h0, hz⟩ := eLL_ok hs
    obtain ⟨rfl, rfl⟩ := qone_ok (a := .lrem) hm
    exact ok_lrem hd h0 (nxt rfl _ _ _ hz)
  | i2l =>
    obtain ⟨x, r, rfl, hz⟩ := eI_ok hs
    obtain ⟨rfl, rfl⟩ := qone_ok (a := .i2l) hm
    exact ok_i2l hd (nxt rfl _ _ _ hz)
  | i2b =>
    obtain ⟨x, r, rfl, hz⟩ := eI_ok hs
    obtain ⟨rfl, rfl⟩ := qone_ok (a := .i2b) hm
    exact ok_i2b hd (nxt rfl _ _ _ hz)
  | i2c =>
    obtain ⟨x, r, rfl, hz⟩ := eI_ok hs
    obtain ⟨rfl, rfl⟩ := qone_ok (a := .i2c) hm
    exact ok_i2c hd (nxt rfl _ _ _ hz)
  | l2i =>
    obtain ⟨x, r, rfl, hz⟩ := eL_ok hs
    obtain ⟨rfl, rfl⟩ := qone_ok (a := .l2i) hm
    exact ok_l2i hd (nxt rfl _ _ _ hz)
  | dup =>
    obtain ⟨v, r, rfl, hv, hz⟩ := eV_ok hs
    obtain ⟨rfl, rfl⟩ := qone_ok (a := .dup) hm
    exact ok_dup hd hv (nxt rfl _ _ _ hz)
  | pop =>
    obtain ⟨v, r, rfl, hv, hz⟩ := eV_ok hs
    obtain ⟨rfl, rfl⟩ := qone_ok (a := .pop) hm
    exact ok_pop hd hv (nxt rfl _ _ _ hz)
  | dup2 =>
    obtain ⟨v, w, r, rfl, hv, hw, hz⟩ := eVV_ok hs
    obtain ⟨rfl, rfl⟩ := qone_ok (a := .dup2) hm
    exact ok_dup2 hd hv hw (nxt rfl _ _ _ hz)
  | fadd =>
    obtain ⟨y, x, r, rfl, hz⟩ := eII_ok hs
    obtain ⟨hb, hz⟩ := eo_ok hz
    rw [Bool.and_eq_true] at hb
    obtain ⟨k, rfl, rfl, e⟩ := qm_fadd hm
    exact ok_max hd e (Nat.le_of_ble_eq_true hb.1) (Nat.le_of_ble_eq_true hb.2) (nxt rfl _ _ _ hz)
  | fsub =>
    obtain ⟨y, x, r, rfl, hz⟩ := eII_ok hs
    obtain ⟨hb, hz⟩ := eo_ok hz
    rw [Bool.and_eq_true] at hb
    obtain ⟨k, rfl, rfl, e⟩ := qm_fsub hm
    exact ok_min hd e (Nat.le_of_ble_eq_true hb.1) (Nat.le_of_ble_eq_true hb.2) (nxt rfl _ _ _ hz)
  | goto t =>
    obtain ⟨o, rfl, rfl, e⟩ := qm_goto hm
    exact ok_goto hd (qtg_ok e) (jmp _ _ _ _ hs)
  | ifCond c t =>
    obtain ⟨x, r, rfl, hz⟩ := eI_ok hs
    obtain ⟨o, rfl, rfl, e⟩ := qm_ifCond hm
    cases c with
    | eq => exact ok_if_eq hd (qtg_ok e) (fun z => jmp _ _ _ _ (hz.1 z)) (fun z => nxt rfl _ _ _ (hz.2 z))
    | ne => exact ok_if_ne hd (qtg_ok e) (fun z => jmp _ _ _ _ (hz.2 z)) (fun z => nxt rfl _ _ _ (hz.1 z))
    | lt => exact ok_if_lt hd (qtg_ok e) (fun z => jmp _ _ _ _ (hz.1 z)) (fun z => nxt rfl _ _ _ (hz.2 z))
    | ge => exact ok_if_ge hd (qtg_ok e) (fun z => jmp _ _ _ _ (hz.1 z)) (fun z => nxt rfl _ _ _ (hz.2 z))
    | gt => exact ok_if_gt hd (qtg_ok e) (fun z => jmp _ _ _ _ (hz.1 z)) (fun z => nxt rfl _ _ _ (hz.2 z))
    | le => exact ok_if_le hd (qtg_ok e) (fun z => jmp _ _ _ _ (hz.1 z)) (fun z => nxt rfl _ _ _ (hz.2 z))
  | if_icmp c t =>
    obtain ⟨y, x, r, rfl, hz⟩ := eII_ok hs
    obtain ⟨o, rfl, rfl, e⟩ := qm_if_icmp hm
    cases c with
    | eq => exact ok_icmp_eq hd (qtg_ok e) (fun z => jmp _ _ _ _ (hz.1 z)) (fun z => nxt rfl _ _ _ (hz.2 z))
    | ne => exact ok_icmp_ne hd (qtg_ok e) (fun z => jmp _ _ _ _ (hz.2 z)) (fun z => nxt rfl _ _ _ (hz.1 z))
    | lt => exact ok_icmp_lt hd (qtg_ok e) (fun z => jmp _ _ _ _ (hz.1 z)) (fun z => nxt rfl _ _ _ (hz.2 z))
    | ge => exact ok_icmp_ge hd (qtg_ok e) (fun z => jmp _ _ _ _ (hz.1 z)) (fun z => nxt rfl _ _ _ (hz.2 z))
    | gt => exact ok_icmp_gt hd (qtg_ok e) (fun z => jmp _ _ _ _ (hz.1 z)) (fun z => nxt rfl _ _ _ (hz.2 z))
    | le => exact ok_icmp_le hd (qtg_ok e) (fun z => jmp _ _ _ _ (hz.1 z)) (fun z => nxt rfl _ _ _ (hz.2 z))
  | lookupswitch d ps =>
    obtain ⟨x, r, rfl, hz⟩ := eI_ok hs
    simp only [qmatch] at hm
    split at hm
    · simp only [Bool.and_eq_true, decide_eq_true_eq] at hm
      exact ok_tableswitch hd hm.1 hm.2.1 hm.2.2 hz (fun t z => hnx _ _ _ _ z)
    · simp only [Bool.and_eq_true] at hm
      exact ok_lookupswitch hd hm.1 hm.2.1 hm.2.2 hz (fun t z => hnx _ _ _ _ z)
    · cases hm
  | getfield f =>
    obtain ⟨a, r, rfl, hz⟩ := eR_ok hs
    obtain ⟨k, rfl, rfl, e⟩ := qm_getfield hm
    have hf : f = 64 * (f / 64) + f % 64 := by omega
    have hf64 : f % 64 < 64 := Nat.mod_lt _ (by decide)
    unfold qgf at hz
    split at hz
    · rename_i c' hk hlt
      obtain ⟨hb, hy⟩ := eo_ok hz
      clear hz
      have hb := eq_of_beq hb
      subst hb
      have hz := hy
      clear hy
      rw [hf] at e
      exact ok_getfield hd e hf64 hk (Nat.le_of_ble_eq_true hlt) (nxt rfl _ _ _ hz)
    · rename_i n0 hk
      obtain ⟨hb, hz⟩ := eo_ok hz
      rw [Bool.and_eq_true] at hb
      have hb1 := eq_of_beq hb.1
      have hb2 : f % 64 < 2 := Nat.le_of_ble_eq_true hb.2
      have hN : qNT.elem (qownL.getD X.2.1 0, k, f) = false := by
        cases hq : qNT.elem (qownL.getD X.2.1 0, k, f) with
        | false => rfl
        | true =>
          have hmem := List.mem_of_elem_eq_true hq
          have : ∀ q ∈ qNT, q.2.2 < 320 := by decide +kernel
          have h3 : f < 320 := this _ hmem
          omega
      unfold qlk at e
      rw [hN, Bool.or_false] at e
      rcases (show f % 64 = 0 ∨ f % 64 = 1 by omega) with h0 | h0
      · have hf2 : f = 320 := by omega
        subst hf2
        exact ok_sget0 hd hk e (nxt rfl _ _ _ hz)
      · have hf2 : f = 321 := by omega
        subst hf2
        exact ok_sget1 hd hk e (nxt rfl _ _ _ hz)
    · exact hz.elim
  | putfield f =>
    obtain ⟨v, a, r, rfl, hz⟩ := eVR_ok hs
    obtain ⟨k, rfl, rfl, e⟩ := qm_putfield hm
    have hf : f = 64 * (f / 64) + f % 64 := by omega
    have hf64 : f % 64 < 64 := Nat.mod_lt _ (by decide)
    unfold qpf at hz
    split at hz
    · rename_i c' hk hlt
      obtain ⟨hb, hy⟩ := eo_ok hz
      clear hz
      have hb := eq_of_beq hb
      subst hb
      have hz := hy
      clear hy
      rw [hf] at e
      have hkl : f % 64 < qnf (f / 64) := Nat.le_of_ble_eq_true hlt
      have hfk := qfk_ok _ (qkd_c hk) _ hkl
      split at hz
      · rename_i x hq
        unfold qfkB at hfk
        rw [hq] at hfk
        simp only [Bool.and_eq_true, decide_eq_true_eq] at hfk
        refine ok_put (h' := qI h a (f % 64) x) hd e hf64 hk hkl (eq_of_beq hfk.1) hfk.2 rfl rfl (fun _ => rfl) (fun ad j => ?_) (fun r hr => ⟨qI_ne hr, rfl⟩) (nxt rfl _ _ _ hz)
        by_cases hj : j = f % 64
        · subst hj
          rw [if_pos rfl]
          unfold qfv
          rw [hq]
          show Value.int (if a = a ∧ f % 64 = f % 64 then x else _) = _
          rw [if_pos ⟨rfl, rfl⟩]
        · rw [if_neg hj]
          have : (qI h a (f % 64) x).1 a j = h.1 a j := by
            show (if a = a ∧ j = f % 64 then x else _) = _
            rw [if_neg (fun z => hj z.2)]
          unfold qfv
          rw [this]
          rfl
      · rename_i x hq
        unfold qfkB at hfk
        rw [hq] at hfk
        simp only [Bool.and_eq_true, decide_eq_true_eq] at hfk
        refine ok_put (h' := qJ h a (f % 64) x) hd e hf64 hk hkl (eq_of_beq hfk.1) hfk.2 rfl rfl (fun _ => rfl) (fun ad j => ?_) (fun r hr => ⟨rfl, qJ_ne hr⟩) (nxt rfl _ _ _ hz)
        by_cases hj : j = f % 64
        · subst hj
          rw [if_pos rfl]
          unfold qfv
          rw [hq]
          show Value.long (if a = a ∧ f % 64 = f % 64 then x else _) = _
          rw [if_pos ⟨rfl, rfl⟩]
        · rw [if_neg hj]
          have : (qJ h a (f % 64) x).2 a j = h.2 a j := by
            show (if a = a ∧ j = f % 64 then x else _) = _
            rw [if_neg (fun z => hj z.2)]
          unfold qfv
          rw [this]
          rfl
      · rename_i x hq
        obtain ⟨h01, hz⟩ := hz
        unfold qfkB at hfk
        rw [hq] at hfk
        simp only [Bool.and_eq_true, decide_eq_true_eq] at hfk
        refine ok_put (h' := qI h a (f % 64) x) hd e hf64 hk hkl (eq_of_beq hfk.1) hfk.2 (by rcases h01 with h01 | h01 <;> rw [h01] <;> rfl) (by rcases h01 with h01 | h01 <;> rw [h01] <;> rfl) (fun _ => rfl) (fun ad j => ?_) (fun r hr => ⟨qI_ne hr, rfl⟩) (nxt rfl _ _ _ hz)
        by_cases hj : j = f % 64
        · subst hj
          rw [if_pos rfl]
          unfold qfv
          rw [hq]
          show Value.int (if a = a ∧ f % 64 = f % 64 then x else _) = _
          rw [if_pos ⟨rfl, rfl⟩]
        · rw [if_neg hj]
          have : (qI h a (f % 64) x).1 a j = h.1 a j := by
            show (if a = a ∧ j = f % 64 then x else _) = _
            rw [if_neg (fun z => hj z.2)]
          unfold qfv
          rw [this]
          rfl
      · exact hz.elim
    · exact hz.elim
  | getstatic f =>
    obtain ⟨k, rfl, rfl, e⟩ := qm_getstatic hm
    exact ok_gets hd e (nxt rfl _ _ _ hs)
  | iaload =>
    obtain ⟨j, a, r, rfl, hz⟩ := eIR_ok hs
    obtain ⟨rfl, rfl⟩ := qone_ok (a := .iaload) hm
    unfold qial at hz
    split at hz
    · rename_i N hk
      exact ok_iald hd hk hz.1 (nxt rfl _ _ _ hz.2)
    · rename_i N hk
      exact ok_sld hd hk hz.1 (nxt rfl _ _ _ hz.2)
    · exact hz.elim
  | baload =>
    obtain ⟨j, a, r, rfl, hz⟩ := eIR_ok hs
    obtain ⟨rfl, rfl⟩ := qone_ok (a := .baload) hm
    unfold qbal at hz
    split at hz
    · rename_i N hk
      exact ok_bald hd hk hz.1 (nxt rfl _ _ _ hz.2)
    · rename_i N hk
      exact ok_tbld hd hk hz.1 (nxt rfl _ _ _ hz.2)
    · exact hz.elim
  | iastore =>
    obtain ⟨v, j, a, r, rfl, hz⟩ := eIIR_ok hs
    obtain ⟨rfl, rfl⟩ := qone_ok (a := .iastore) hm
    unfold qias at hz
    split at hz
    · rename_i N hk
      exact ok_iast hd hk hz.1 (nxt rfl _ _ _ hz.2)
    · exact hz.elim
  | bastore =>
    obtain ⟨v, j, a, r, rfl, hz⟩ := eIIR_ok hs
    obtain ⟨rfl, rfl⟩ := qone_ok (a := .bastore) hm
    unfold qbas at hz
    split at hz
    · rename_i N hk
      exact ok_bast hd hk hz.1 (nxt rfl _ _ _ hz.2)
    · exact hz.elim
  | arraylength =>
    obtain ⟨a, r, rfl, hz⟩ := eR_ok hs
    obtain ⟨rfl, rfl⟩ := qone_ok (a := .arraylength) hm
    unfold qlen at hz
    split at hz
    · rename_i N hk
      exact ok_alen hd hk (Or.inl rfl) (nxt rfl _ _ _ hz)
    · rename_i N hk
      exact ok_alen hd hk (Or.inr rfl) (nxt rfl _ _ _ hz)
    · rename_i N hk
      exact ok_tlen hd hk (nxt rfl _ _ _ hz)
    · rename_i N hk
      exact ok_slen hd hk hz.1 (nxt rfl _ _ _ hz.2)
    · exact hz.elim
  | invokestatic f =>
    obtain ⟨hb, hz⟩ := eo_ok hs
    rw [Bool.and_eq_true] at hb
    obtain ⟨k, rfl, rfl, h1, h2, h3, h4⟩ := qm_static hm
    have hl : f % 16 ≤ st.length := Nat.le_of_ble_eq_true hb.1
    have e : st = ((st.take (f % 16)).reverse).reverse ++ st.drop (f % 16) := by rw [List.reverse_reverse, List.take_append_drop]
    rw [e]
    exact ok_static hd h1 h2 h3 (by rw [h4, List.length_reverse, List.length_take]; omega) (Nat.le_of_ble_eq_true hb.2) hz (fun v h' z => nxt rfl _ _ _ z)
  | invokevirtual f =>
    obtain ⟨hb, hz⟩ := eo_ok hs
    rw [Bool.and_eq_true, Bool.and_eq_true] at hb
    obtain ⟨k, rfl, rfl, h1, h2, h3, h4, h5⟩ := qm_virtual hm
    have hl : f / 16 % 16 ≤ st.length := Nat.le_of_ble_eq_true hb.1.1
    have e : st = ((st.take (f / 16 % 16)).reverse).reverse ++ st.drop (f / 16 % 16) := by rw [List.reverse_reverse, List.take_append_drop]
    have hlen : ((st.take (f / 16 % 16)).reverse).length = f / 16 % 16 := by rw [List.length_reverse, List.length_take]; omega
    rw [e]
    have hrv := hb.2
    generalize (st.take (f / 16 % 16)).reverse = As at hz hrv hlen ⊢
    match As, hz, hrv, hlen with
    | [], _, hrv, _ => cases hrv
    | .ref b :: As, hz, hrv, hlen => exact ok_virtual hd h1 h2 h3 (by simp at hlen; omega) h5 hrv (Nat.le_of_ble_eq_true hb.1.2) hz (fun v h' z => nxt rfl _ _ _ z)
    | .int _ :: _, _, hrv, _ => cases hrv
    | .long _ :: _, _, hrv, _ => cases hrv
    | .float _ :: _, _, hrv, _ => cases hrv
    | .double _ :: _, _, hrv, _ => cases hrv
    | .null :: _, _, hrv, _ => cases hrv
    | .retAddr _ :: _, _, hrv, _ => cases hrv
  | ireturn =>
    obtain ⟨x, r, rfl, hz⟩ := eI_ok hs
    obtain ⟨rfl, hz⟩ := eN_ok hz
    obtain ⟨rfl, rfl⟩ := qone_ok (a := .ireturn) hm
    intro p l e R s m args below meth c D cI cB ad A H locs k0 n Q M hP hD hS lsM hl
    split at hz
    · rename_i hr
      exact M.2.2.2.2.2.2.2.2.2.2 (some (.int x)) h H locs lsM _ hz ⟨hd, Or.inl hr⟩ hP hD hS
    · rename_i hr
      exact M.2.2.2.2.2.2.2.2.2.2 (some (.int x)) h H locs lsM _ hz.2 ⟨hd, Or.inr (Or.inl ⟨hr, hz.1⟩)⟩ hP hD hS
    · rename_i hr
      exact M.2.2.2.2.2.2.2.2.2.2 (some (.int x)) h H locs lsM _ hz.2 ⟨hd, Or.inr (Or.inr ⟨hr, hz.1⟩)⟩ hP hD hS
    · exact hz.elim
  | lreturn =>
    obtain ⟨x, r, rfl, hz⟩ := eL_ok hs
    obtain ⟨rfl, hz⟩ := eN_ok hz
    obtain ⟨rfl, rfl⟩ := qone_ok (a := .lreturn) hm
    intro p l e R s m args below meth c D cI cB ad A H locs k0 n Q M hP hD hS lsM hl
    split at hz
    · rename_i hr
      exact M.2.2.2.2.2.2.2.2.2.2 (some (.long x)) h H locs lsM _ hz ⟨hd, hr⟩ hP hD hS
    · exact hz.elim
  | return_ =>
    obtain ⟨rfl, hz⟩ := eN_ok hs
    obtain ⟨rfl, rfl⟩ := qone_ok (a := .return_) hm
    intro p l e R s m args below meth c D cI cB ad A H locs k0 n Q M hP hD hS lsM hl
    split at hz
    · rename_i hr
      exact M.2.2.2.2.2.2.2.2.2.2 none h H locs lsM _ hz ⟨hd, hr⟩ hP hD hS
    · exact hz.elim
  | _ => exact hs.elim
end QSTEP
theorem wp_at {X : qX} {C : List Instr} {cut : List Nat} (hj : X.2.1 < 139) (hC : qCL.getD X.2.1 [] = C) : ∀ (n i : Nat) (ls : qL) (st : List Value) (h : qH), wp X C cut n i ls st h → qAt X i ls st h := by
  intro n
  induction n with
  | zero => exact fun i ls st h z => z
  | succ n ih =>
    intro i ls st h hw
    unfold wp at hw
    split at hw
    · rename_i a ha
      refine qstep_ok hj ?_ (by rw [hC]; exact ha) hw
      intro i ls st h z
      split at z
      · exact z
      · exact ih _ _ _ _ z
    · exact hw.elim
/-- the locals at a method's entry -/
def qent : List Value → qL
  | [] => []
  | v :: vs => if v.category = 2 then some v :: none :: qent vs else some v :: qent vs
theorem qent_len (ad : Nat → Nat) : ∀ vs : List Value, (lg_sl (vs.map (qcv ad))).length = (qent vs).length
  | [] => rfl
  | v :: vs => by
    have ih := qent_len ad vs
    unfold lg_sl at ih ⊢
    rw [List.map_cons, List.flatMap_cons, List.length_append, ih, qent, qcv_cat]
    by_cases h : v.category = 2
    · rw [if_pos h, if_pos h]
      simp
      omega
    · rw [if_neg h, if_neg h]
      simp
      omega
theorem qent_args (ad : Nat → Nat) : ∀ (vs : List Value) (k i : Nat) (v : Value), (qent vs).getD i none = some v → (k + i, qcv ad v) ∈ lv_args k (vs.map (qcv ad))
  | [], k, i, v, h => by simp [qent] at h
  | w :: vs, k, i, v, h => by
    rw [List.map_cons, lv_args, qcv_cat]
    unfold qent at h
    by_cases hc : w.category = 2
    · rw [if_pos hc] at h ⊢
      match i, h with
      | 0, h =>
        cases h
        exact List.mem_cons_self
      | 1, h => cases h
      | i + 2, h =>
        have := qent_args ad vs (k + 2) i v h
        rw [show k + (i + 2) = k + 2 + i by omega]
        exact List.mem_cons_of_mem _ this
    · rw [if_neg hc] at h ⊢
      match i, h with
      | 0, h =>
        cases h
        exact List.mem_cons_self
      | i + 1, h =>
        have := qent_args ad vs (k + 1) i v h
        rw [show k + (i + 1) = k + 1 + i by omega]
        exact List.mem_cons_of_mem _ this
theorem qent_pad {As : List Value} {n i : Nat} {v : Value} (h : (qent As ++ List.replicate n none).getD i none = some v) : (qent As).getD i none = some v := by
  rw [List.getD_eq_getElem?_getD] at h ⊢
  rcases Nat.lt_or_ge i (qent As).length with q | q
  · rw [List.getElem?_append_left q] at h
    exact h
  · rw [List.getElem?_append_right q, List.getElem?_replicate] at h
    split at h <;> cases h
def q0 : Nat × (Nat → Int32) := (0, fun _ => 0)
theorem Sem_intro {d j : Nat} {As : List Value} {h : qH} {K : qK} {ls : qL} (hj : j < 136) (hlen : (qent As).length ≤ qnl j) (hls : qent As ++ List.replicate (qnl j - (qent As).length) none = ls) (hat : qAt (d, j, qrt j, q0, K) 0 ls [] h) : qSem d j As h K := by
  intro l D cI cB ad sz
  obtain ⟨y1, y2, y3, y4, y5, y6, y7⟩ := qyf_ok hj
  refine Met.ofW (cc := qb j) (maxL := qnl j) (ret := qrt j) y1 rfl ?_
  intro p e s m args below meth c s₁ B hml hv
  obtain ⟨rfl, hsz, hP, hK, hD0, hRO⟩ := hv
  have hx := B.exec
  have hb := B.bytes
  have hr := B.returns
  have hts := atoms_spec (ws := Cond.code (qy j) (qb j) (qnl j) (qrt j) :: qU) B.pre
  have hown : s.vm.findClass (qow j) = some m.cls := by rw [← y7]; exact findClass_of_methodNamed B.named
  have hlocks := B.notSynchronized
  subst hsz
  have hD := hD0.self (sz := s.heap.size)
  have hA : ∀ q : Nat, s.heap.size ≤ q → va_A (qW cI cB ad h) s.heap.size q := fun q h => Or.inr h
  have hS : va_S (va_A (qW cI cB ad h) s.heap.size) s.heap s.heap [] := va_S.rf
  have hl := lv_entry (As.map (qcv ad)) (n := qnl j) (by rw [qent_len]; exact hlen)
  rw [lg_entry_eq]
  generalize (lg_sl (As.map (qcv ad)) ++ List.replicate (qnl j - (lg_sl (As.map (qcv ad))).length) Slot.unset).toArray = lsM at hl ⊢
  have hat2 := hat p l e (headSpec (Cond.code (qy j) (qb j) (qnl j) (qrt j) :: qU) (qrm d)).room s m (As.map (qcv ad)).toArray below meth c D cI cB ad (va_A (qW cI cB ad h) s.heap.size) s.heap [] 0 0 (MQ below (fun _ st oc t => (∃ (v : Option Value) (h' : qH), oc = .returned v ∧ qpl v ∧ K v h' ∧ va_P D vwCl (qW cI cB ad h') t.heap) ∧ va_F (va_A (qW cI cB ad h) s.heap.size) st t) (As.map (qcv ad)).toArray s 0 0 (va_A (qW cI cB ad h) s.heap.size))
    ⟨hx, hb, hml, hown, fun w hw => hts w (List.mem_cons_of_mem _ hw), hK, hA, hRO, ⟨Nat.le_refl d, Nat.le_refl (300 * d), Nat.le_refl 0, Nat.le_refl 0⟩, Or.inl rfl, ?_⟩ hP hD hS lsM ⟨?_, ?_⟩
  · have e0 : qpc j 0 = 0 := y5
    show W _ _ _ _ _ _ _ _ _ _ _ _ _ _ _ (F0 m 0 lsM [])
    have e1 : qpc (d, j, qrt j, q0, K).2.1 0 = 0 := y5
    rw [e1] at hat2
    exact hat2
  · intro v h' H' locs' lsM' pc hKv hret hP' hD' hS'
    unfold qRet at hret
    split at hret
    · rename_i x
      obtain ⟨hd, hrt | ⟨hrt, h01⟩ | ⟨hrt, h0⟩⟩ := hret
      · exact W.iret hx hb (hr.trans hrt) (fun t ht hW => ⟨⟨some (.int x), h', rfl, trivial, hKv, by rw [ht]; exact hP'⟩, hS'.F ht⟩) hS'.2.2 hd
      · exact W.zret hx hb (hr.trans hrt) (by rcases h01 with rfl | rfl <;> rfl) (fun t ht hW => ⟨⟨some (.int x), h', rfl, trivial, hKv, by rw [ht]; exact hP'⟩, hS'.F ht⟩) hS'.2.2 hd
      · exact W.zret hx hb (hr.trans hrt) (by rw [h0]; rfl) (fun t ht hW => ⟨⟨some (.int x), h', rfl, trivial, hKv, by rw [ht]; exact hP'⟩, hS'.F ht⟩) hS'.2.2 hd
    · rename_i x
      exact W.lret hx hb (hr.trans hret.2) (fun t ht hW => ⟨⟨some (.long x), h', rfl, trivial, hKv, by rw [ht]; exact hP'⟩, hS'.F ht⟩) hS'.2.2 hret.1
    · exact W.vret hx hb (hr.trans hret.2) (fun t ht hW => ⟨⟨none, h', rfl, trivial, hKv, by rw [ht]; exact hP'⟩, hS'.F ht⟩) hS'.2.2 hret.1
    · exact hret.elim
  · rw [← hls, List.length_append, List.length_replicate]
    show _ ≤ qnl j
    omega
  · refine lv_into hl ?_
    rintro ⟨i, w⟩ hq
    obtain ⟨v, hv, rfl⟩ := qpr_mem.mp hq
    rw [← hls] at hv
    have := qent_args ad As 0 i v (qent_pad hv)
    rw [Nat.zero_add] at this
    exact this
/-- a contract out of steps -/
theorem call_wp {d j n : Nat} {As : List Value} {h : qH} {K : qK} {ls : qL} {C : List Instr} {cut : List Nat} {rt : Option FieldType} (d0 : Nat) (hj : j < 136) (hd : d0 < d) (hC : qCL.getD j [] = C) (hrt : qrt j = rt) (hlen : (qent As).length ≤ qnl j) (hls : qent As ++ List.replicate (qnl j - (qent As).length) none = ls) (hw : wp (d0, j, rt, q0, K) C cut n 0 ls [] h) : qCall d j As h K := by
  subst hrt
  exact ⟨d0, hd, Sem_intro hj hlen hls (wp_at (by show j < 139; omega) hC _ _ _ _ _ hw)⟩
