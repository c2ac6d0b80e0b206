/-! what the plain machine says of the machine itself -/
def qy (j : Nat) : MethodName := qyL.getD j yL_law
def qb (j : Nat) : ByteArray := qbL.getD j cL_law
def qnl (j : Nat) : Nat := qnLL.getD j 0
def qrt (j : Nat) : Option FieldType := qrTL.getD j none
def qow (j : Nat) : String := qOwn (qownL.getD j 0)
def qpc (j i : Nat) : Nat := (qpcs (qRL.getD j [])).getD i 0
def qcv (ad : Nat → Nat) : Value → Value
  | .ref a => .ref (ad a)
  | v => v
def qce (cI cB : ClassId) (ad : Nat → Nat) (h : qH) (r : Nat) : va_E := match qkd r with
  | (0, c) => .inr (c, (List.range (qnf c)).map (fun k => qcv ad (qfv h r c k)))
  | (1, n) => .inl (cI, n, .inl (h.1 r))
  | (_, n) => .inl (cB, n, .inl (h.1 r))
def qW (cI cB : ClassId) (ad : Nat → Nat) (h : qH) : va_W := (List.range 31).map (fun r => (ad r, qce cI cB ad h r))
def qnest (q : Nat × Nat × Nat) : Cond := Cond.fieldLinkNest (qOwn q.1) q.2.1 (qTf (q.2.2 / 64) (q.2.2 % 64)).1 (qTf (q.2.2 / 64) (q.2.2 % 64)).2.1 (qTf (q.2.2 / 64) (q.2.2 % 64)).2.2.1 "UnsaidHorse"
/-- what is never written: the text and its bytes, a static of String's, the nest mates' links -/
def qRO (ad : Nat → Nat) (A : Nat → Prop) (U : State) (H : Heap) : Prop :=
  vk_S 1 [5] [qstr] (fun _ => ad 97) (fun _ => ad 98) A U H ∧ va_Z "java/lang/String" "COMPACT_STRINGS" "Z" (.int 1) A U H ∧ vk_R RX2 23 "mkcnq" (ad 97) U ∧ ∀ q ∈ qNT, va_Nw (qnest q) U
def qRet (rt : Option FieldType) (cc : ByteArray) (pc : Nat) (v : Option Value) : Prop := match v with
  | some (.int x) => decode cc pc = .ok (.ireturn, 1) ∧ (rt = some .int ∨ (rt = some .boolean ∧ (x = 0 ∨ x = 1)) ∨ (rt = some .byte ∧ x = 0))
  | some (.long _) => decode cc pc = .ok (.lreturn, 1) ∧ rt = some .long
  | none => decode cc pc = .ok (.return_, 1) ∧ rt = none
  | _ => False
def qMach (X : qX) (p : Program) (l : Launch) (e : Env) (R : Room) (s : State) (m : MethodId) (args : Array Value) (below : List Frame) (meth : Method) (c : Code) (D : va_G) (cI cB : ClassId) (ad : Nat → Nat) (A : Nat → Prop) (k n : Nat) (Q : State → Prop) : Prop :=
  p.tables.exec = Jvm.exec ∧ c.code = qb X.2.1 ∧ c.maxLocals = qnl X.2.1 ∧ s.vm.findClass (qow X.2.1) = some m.cls ∧ (∀ w ∈ qU, w.before args s = true) ∧ va_K D vwCl [(cI, .int), (cB, .byte)] s ∧ (∀ q, s.heap.size ≤ q → A q) ∧ qRO ad A s s.heap ∧ (X.1 ≤ R.frames ∧ 300 * X.1 ≤ R.locals ∧ k ≤ R.cells ∧ n ≤ R.slots) ∧ (X.2.2.2.1.1 = 0 ∨ (va_X (ad 99) (X.2.2.2.1.1 - 1) X.2.2.2.1.2 s s.heap ∧ ad 99 < s.heap.size ∧ ¬ A (ad 99))) ∧
  ∀ (v : Option Value) (h' : qH) (H' : Heap) (locs' : List Loc) (lsM : Array Slot) (pc : Nat), X.2.2.2.2 v h' → qRet X.2.2.1 (qb X.2.1) pc v → va_P D vwCl (qW cI cB ad h') H' → va_D A (qW cI cB ad h') → va_S A s.heap H' locs' → W p l e R s m args below meth c H' locs' k n Q (F0 m pc lsM v.toList)
def qpr (ad : Nat → Nat) (ls : qL) : List (Nat × Value) := (List.range ls.length).filterMap (fun i => (ls.getD i none).map (fun v => (i, qcv ad v)))
/-- the machine stands in method X's code at the byte pc, its locals, stack and heap in these words: it comes to its end -/
def qAtP (X : qX) (pc : Nat) (ls : qL) (st : List Value) (h : qH) : Prop :=
  ∀ (p : Program) (l : Launch) (e : Env) (R : Room) (s : State) (m : MethodId) (args : Array Value) (below : List Frame) (meth : Method) (c : Code) (D : va_G) (cI cB : ClassId) (ad : Nat → Nat) (A : Nat → Prop) (H : Heap) (locs : List Loc) (k n : Nat) (Q : State → Prop),
    qMach X p l e R s m args below meth c D cI cB ad A k n Q → va_P D vwCl (qW cI cB ad h) H → va_D A (qW cI cB ad h) → va_S A s.heap H locs →
    ∀ lsM : Array Slot, (ls.length ≤ qnl X.2.1 ∧ lv_has lsM (qnl X.2.1) (qpr ad ls)) → W p l e R s m args below meth c H locs k n Q (F0 m pc lsM (st.map (qcv ad)))
def qAt (X : qX) (i : Nat) (ls : qL) (st : List Value) (h : qH) : Prop := qAtP X (qpc X.2.1 i) ls st h
def qpl (v : Option Value) : Prop := match v with
  | some (.ref _) => False
  | _ => True
def qrm (d : Nat) : Room := { frames := d, cells := 0, slots := 0, locals := 300 * d }
/-- a method's contract: from the heap h, with these arguments, it returns, and K holds of its answer and the heap then -/
def qSem (d j : Nat) (As : List Value) (h : qH) (K : qK) : Prop :=
  ∀ (l : Launch) (D : va_G) (cI cB : ClassId) (ad : Nat → Nat) (sz : Nat),
    Met l (qy j) (Cond.code (qy j) (qb j) (qnl j) (qrt j) :: qU) (qrm d)
      (va_Pc (As.map (qcv ad)) (fun U => U.heap.size = sz ∧ va_P D vwCl (qW cI cB ad h) U.heap ∧ va_K D vwCl [(cI, .int), (cB, .byte)] U ∧ va_D (fun _ => True) (qW cI cB ad h) ∧ qRO ad (va_A (qW cI cB ad h) sz) U U.heap))
      (fun _ st oc t => (∃ (v : Option Value) (h' : qH), oc = .returned v ∧ qpl v ∧ K v h' ∧ va_P D vwCl (qW cI cB ad h') t.heap) ∧ va_F (va_A (qW cI cB ad h) sz) st t)
      0 0 (va_A (qW cI cB ad h) sz)
def qCall (d j : Nat) (As : List Value) (h : qH) (K : qK) : Prop := ∃ e, e < d ∧ qSem e j As h K
/-- one step -/
def qstep (d : Nat) (rt : Option FieldType) (sc : Nat × (Nat → Int32)) (K : qK) (nx : Nat → qL → List Value → qH → Prop) (a : Instr) (i : Nat) (ls : qL) (st : List Value) (h : qH) : Prop := match a with
  | .aload k => lR ls k (fun x => nx (i + 1) ls (.ref x :: st) h)
  | .iload k => lI ls k (fun x => nx (i + 1) ls (.int x :: st) h)
  | .lload k => lL ls k (fun x => nx (i + 1) ls (.long x :: st) h)
  | .astore k => eR st (fun x r => eo (Nat.blt k ls.length && qso ls k) (nx (i + 1) (ls.set k (some (.ref x))) r h))
  | .istore k => eI st (fun x r => eo (Nat.blt k ls.length && qso ls k) (nx (i + 1) (ls.set k (some (.int x))) r h))
  | .lstore k => eL st (fun x r => eo (Nat.blt (k + 1) ls.length && qso ls k) (nx (i + 1) ((ls.set k (some (.long x))).set (k + 1) none) r h))
  | .iinc k v => lI ls k (fun x => eo (Nat.blt k ls.length && qso ls k) (nx (i + 1) (ls.set k (some (.int (x + Int32.ofInt v)))) st h))
  | .iconst v => nx (i + 1) ls (.int (Int32.ofInt v) :: st) h
  | .jsr v => nx (i + 1) ls (.long (Int64.ofInt v) :: st) h
  | .ldc _ => nx (i + 1) ls (.ref 97 :: st) h
  | .iadd => eII st (fun y x r => nx (i + 1) ls (.int (x + y) :: r) h)
  | .isub => eII st (fun y x r => nx (i + 1) ls (.int (x - y) :: r) h)
  | .imul => eII st (fun y x r => nx (i + 1) ls (.int (x * y) :: r) h)
  | .idiv => eII st (fun y x r => (¬ y = 0) ∧ nx (i + 1) ls (.int (x / y) :: r) h)
  | .irem => eII st (fun y x r => (¬ y = 0) ∧ nx (i + 1) ls (.int (x - x / y * y) :: r) h)
  | .iand => eII st (fun y x r => nx (i + 1) ls (.int (x &&& y) :: r) h)
  | .ior => eII st (fun y x r => nx (i + 1) ls (.int (x ||| y) :: r) h)
  | .ixor => eII st (fun y x r => nx (i + 1) ls (.int (x ^^^ y) :: r) h)
  | .ishl => eII st (fun y x r => nx (i + 1) ls (.int (x <<< (y &&& 31)) :: r) h)
  | .ishr => eII st (fun y x r => nx (i + 1) ls (.int (x >>> (y &&& 31)) :: r) h)
  | .iushr => eII st (fun y x r => nx (i + 1) ls (.int ((x.toUInt32 >>> (y.toUInt32 &&& Int32.toUInt32 31)).toInt32) :: r) h)
  | .ladd => eLL st (fun y x r => nx (i + 1) ls (.long (x + y) :: r) h)
  | .lmul => eLL st (fun y x r => nx (i + 1) ls (.long (x * y) :: r) h)
  | .land => eLL st (fun y x r => nx (i + 1) ls (.long (x &&& y) :: r) h)
  | .ldiv => eLL st (fun y x r => (¬ y = 0) ∧ nx (i + 1) ls (.long (x / y) :: r) h)
  | .lrem => eLL st (fun y x r => (¬ y = 0) ∧ nx (i + 1) ls (.long (x - x / y * y) :: r) h)
  | .lcmp => eLL st (fun y x r => nx (i + 1) ls (.int (lg_cmp x y) :: r) h)
  | .i2l => eI st (fun x r => nx (i + 1) ls (.long x.toInt64 :: r) h)
  | .l2i => eL st (fun x r => nx (i + 1) ls (.int x.toInt32 :: r) h)
  | .i2b => eI st (fun x r => nx (i + 1) ls (.int x.toInt8.toInt32 :: r) h)
  | .i2c => eI st (fun x r => nx (i + 1) ls (.int (x.toUInt32 % 65536).toInt32 :: r) h)
  | .dup => eV st (fun v r => nx (i + 1) ls (v :: v :: r) h)
  | .dup2 => eVV st (fun v w r => nx (i + 1) ls (v :: w :: v :: w :: r) h)
  | .pop => eV st (fun _ r => nx (i + 1) ls r h)
  | .fadd => eII st (fun y x r => eo (Nat.blt 0 d && Nat.ble (r.map Value.category).sum 8) (nx (i + 1) ls (.int (if x < y then y else x) :: r) h))
  | .fsub => eII st (fun y x r => eo (Nat.blt 0 d && Nat.ble (r.map Value.category).sum 8) (nx (i + 1) ls (.int (if y < x then y else x) :: r) h))
  | .goto t => nx t.toNat ls st h
  | .ifCond c t => eI st (fun x r => match c with
    | .eq => (x = 0 → nx t.toNat ls r h) ∧ (¬ x = 0 → nx (i + 1) ls r h)
    | .ne => (x = 0 → nx (i + 1) ls r h) ∧ (¬ x = 0 → nx t.toNat ls r h)
    | .lt => (x < 0 → nx t.toNat ls r h) ∧ (¬ x < 0 → nx (i + 1) ls r h)
    | .ge => (0 ≤ x → nx t.toNat ls r h) ∧ (¬ 0 ≤ x → nx (i + 1) ls r h)
    | .gt => (0 < x → nx t.toNat ls r h) ∧ (¬ 0 < x → nx (i + 1) ls r h)
    | .le => (x ≤ 0 → nx t.toNat ls r h) ∧ (¬ x ≤ 0 → nx (i + 1) ls r h))
  | .if_icmp c t => eII st (fun y x r => match c with
    | .eq => (x = y → nx t.toNat ls r h) ∧ (¬ x = y → nx (i + 1) ls r h)
    | .ne => (x = y → nx (i + 1) ls r h) ∧ (¬ x = y → nx t.toNat ls r h)
    | .lt => (x < y → nx t.toNat ls r h) ∧ (¬ x < y → nx (i + 1) ls r h)
    | .ge => (y ≤ x → nx t.toNat ls r h) ∧ (¬ y ≤ x → nx (i + 1) ls r h)
    | .gt => (y < x → nx t.toNat ls r h) ∧ (¬ y < x → nx (i + 1) ls r h)
    | .le => (x ≤ y → nx t.toNat ls r h) ∧ (¬ x ≤ y → nx (i + 1) ls r h))
  | .lookupswitch d ps => eI st (fun x r => qsw (fun t => nx t ls r h) x ps.toList d.toNat)
  | .getfield f => eR st (fun a r => qgf h a (f / 64) (f % 64) (fun v => nx (i + 1) ls (v :: r) h))
  | .putfield f => eVR st (fun v a r => qpf h a (f / 64) (f % 64) v (fun h' => nx (i + 1) ls r h'))
  | .iaload => eIR st (fun j a r => qial h sc a j (fun x => nx (i + 1) ls (.int x :: r) h))
  | .baload => eIR st (fun j a r => qbal h a j (fun x => nx (i + 1) ls (.int x :: r) h))
  | .iastore => eIIR st (fun v j a r => qias h a j v (fun h' => nx (i + 1) ls r h'))
  | .bastore => eIIR st (fun v j a r => qbas h a j v (fun h' => nx (i + 1) ls r h'))
  | .arraylength => eR st (fun a r => qlen sc a (fun x => nx (i + 1) ls (.int x :: r) h))
  | .getstatic _ => nx (i + 1) ls (.int 1 :: st) h
  | .invokestatic f => eo (Nat.ble (f % 16) st.length && Nat.ble ((st.drop (f % 16)).map Value.category).sum 8) (qCall d (f / 16) (st.take (f % 16)).reverse h (fun v h' => nx (i + 1) ls (v.toList ++ st.drop (f % 16)) h'))
  | .invokevirtual f => eo (Nat.ble (f / 16 % 16) st.length && Nat.ble ((st.drop (f / 16 % 16)).map Value.category).sum 8 && qrv (st.take (f / 16 % 16)).reverse (f % 16)) (qCall d (f / 256) (st.take (f / 16 % 16)).reverse h (fun v h' => nx (i + 1) ls (v.toList ++ st.drop (f / 16 % 16)) h'))
  | .ireturn => eI st (fun x r => eN r (match rt with
    | some .int => K (some (.int x)) h
    | some .boolean => (x = 0 ∨ x = 1) ∧ K (some (.int x)) h
    | some .byte => x = 0 ∧ K (some (.int x)) h
    | _ => False))
  | .lreturn => eL st (fun x r => eN r (match rt with
    | some .long => K (some (.long x)) h
    | _ => False))
  | .return_ => eN st (match rt with
    | none => K none h
    | _ => False)
  | _ => False
/-- n steps, or as far as a place of 'cut' -/
def wp (X : qX) (C : List Instr) (cut : List Nat) : Nat → Nat → qL → List Value → qH → Prop
  | 0, i, ls, st, h => qAt X i ls st h
  | n + 1, i, ls, st, h => match qnth C i with
    | some a => qstep X.1 X.2.2.1 X.2.2.2.1 X.2.2.2.2 (fun i ls st h => match cut.elem i with
      | true => qAt X i ls st h
      | false => wp X C cut n i ls st h) a i ls st h
    | none => False

/-! the rows of an instruction each, in these words -/
section QOK
variable {X : qX} {pc : Nat} {ls : qL} {r : List Value} {h : qH}
theorem ok_iadd {x y : Int32} (hd : decode (qb X.2.1) pc = .ok (.iadd, 1)) (kk : qAtP X (pc + 1) ls (.int (x + y) :: r) h) : qAtP X pc ls (.int y :: .int x :: r) h := by
  intro p l e R s m args below meth c D cI cB ad A H locs k0 n Q M hP hD hS lsM hl
  exact lv_iadd M.1 M.2.1 hd (kk p l e R s m args below meth c D cI cB ad A H locs k0 n Q M hP hD hS lsM hl)
theorem ok_isub {x y : Int32} (hd : decode (qb X.2.1) pc = .ok (.isub, 1)) (kk : qAtP X (pc + 1) ls (.int (x - y) :: r) h) : qAtP X pc ls (.int y :: .int x :: r) h := by
  intro p l e R s m args below meth c D cI cB ad A H locs k0 n Q M hP hD hS lsM hl
  exact lv_isub M.1 M.2.1 hd (kk p l e R s m args below meth c D cI cB ad A H locs k0 n Q M hP hD hS lsM hl)
theorem ok_imul {x y : Int32} (hd : decode (qb X.2.1) pc = .ok (.imul, 1)) (kk : qAtP X (pc + 1) ls (.int (x * y) :: r) h) : qAtP X pc ls (.int y :: .int x :: r) h := by
  intro p l e R s m args below meth c D cI cB ad A H locs k0 n Q M hP hD hS lsM hl
  exact lv_imul M.1 M.2.1 hd (kk p l e R s m args below meth c D cI cB ad A H locs k0 n Q M hP hD hS lsM hl)
theorem ok_iand {x y : Int32} (hd : decode (qb X.2.1) pc = .ok (.iand, 1)) (kk : qAtP X (pc + 1) ls (.int (x &&& y) :: r) h) : qAtP X pc ls (.int y :: .int x :: r) h := by
  intro p l e R s m args below meth c D cI cB ad A H locs k0 n Q M hP hD hS lsM hl
  exact lv_iand M.1 M.2.1 hd (kk p l e R s m args below meth c D cI cB ad A H locs k0 n Q M hP hD hS lsM hl)
theorem ok_ior {x y : Int32} (hd : decode (qb X.2.1) pc = .ok (.ior, 1)) (kk : qAtP X (pc + 1) ls (.int (x ||| y) :: r) h) : qAtP X pc ls (.int y :: .int x :: r) h := by
  intro p l e R s m args below meth c D cI cB ad A H locs k0 n Q M hP hD hS lsM hl
  exact lv_ior M.1 M.2.1 hd (kk p l e R s m args below meth c D cI cB ad A H locs k0 n Q M hP hD hS lsM hl)
theorem ok_ixor {x y : Int32} (hd : decode (qb X.2.1) pc = .ok (.ixor, 1)) (kk : qAtP X (pc + 1) ls (.int (x ^^^ y) :: r) h) : qAtP X pc ls (.int y :: .int x :: r) h := by
  intro p l e R s m args below meth c D cI cB ad A H locs k0 n Q M hP hD hS lsM hl
  exact lv_ixor M.1 M.2.1 hd (kk p l e R s m args below meth c D cI cB ad A H locs k0 n Q M hP hD hS lsM hl)
theorem ok_ishl {x y : Int32} (hd : decode (qb X.2.1) pc = .ok (.ishl, 1)) (kk : qAtP X (pc + 1) ls (.int (x <<< (y &&& 31)) :: r) h) : qAtP X pc ls (.int y :: .int x :: r) h := by
  intro p l e R s m args below meth c D cI cB ad A H locs k0 n Q M hP hD hS lsM hl
  exact lv_ishl M.1 M.2.1 hd (kk p l e R s m args below meth c D cI cB ad A H locs k0 n Q M hP hD hS lsM hl)
theorem ok_ishr {x y : Int32} (hd : decode (qb X.2.1) pc = .ok (.ishr, 1)) (kk : qAtP X (pc + 1) ls (.int (x >>> (y &&& 31)) :: r) h) : qAtP X pc ls (.int y :: .int x :: r) h := by
  intro p l e R s m args below meth c D cI cB ad A H locs k0 n Q M hP hD hS lsM hl
  exact lv_ishr M.1 M.2.1 hd (kk p l e R s m args below meth c D cI cB ad A H locs k0 n Q M hP hD hS lsM hl)
theorem ok_iushr {x y : Int32} (hd : decode (qb X.2.1) pc = .ok (.iushr, 1)) (kk : qAtP X (pc + 1) ls (.int ((x.toUInt32 >>> (y.toUInt32 &&& Int32.toUInt32 31)).toInt32) :: r) h) : qAtP X pc ls (.int y :: .int x :: r) h := by
  intro p l e R s m args below meth c D cI cB ad A H locs k0 n Q M hP hD hS lsM hl
  exact lv_iushr M.1 M.2.1 hd rfl (kk p l e R s m args below meth c D cI cB ad A H locs k0 n Q M hP hD hS lsM hl)
theorem ok_idiv {x y : Int32} (hd : decode (qb X.2.1) pc = .ok (.idiv, 1)) (hne : ¬ y = 0) (kk : qAtP X (pc + 1) ls (.int (x / y) :: r) h) : qAtP X pc ls (.int y :: .int x :: r) h := by
  intro p l e R s m args below meth c D cI cB ad A H locs k0 n Q M hP hD hS lsM hl
  exact lv_idiv M.1 M.2.1 hd hne (kk p l e R s m args below meth c D cI cB ad A H locs k0 n Q M hP hD hS lsM hl)
theorem ok_irem {x y : Int32} (hd : decode (qb X.2.1) pc = .ok (.irem, 1)) (hne : ¬ y = 0) (kk : qAtP X (pc + 1) ls (.int (x - x / y * y) :: r) h) : qAtP X pc ls (.int y :: .int x :: r) h := by
  intro p l e R s m args below meth c D cI cB ad A H locs k0 n Q M hP hD hS lsM hl
  exact lv_irem M.1 M.2.1 hd hne (kk p l e R s m args below meth c D cI cB ad A H locs k0 n Q M hP hD hS lsM hl)
theorem ok_ladd {x y : Int64} (hd : decode (qb X.2.1) pc = .ok (.ladd, 1)) (kk : qAtP X (pc + 1) ls (.long (x + y) :: r) h) : qAtP X pc ls (.long y :: .long x :: r) h := by
  intro p l e R s m args below meth c D cI cB ad A H locs k0 n Q M hP hD hS lsM hl
  exact lv_ladd M.1 M.2.1 hd (kk p l e R s m args below meth c D cI cB ad A H locs k0 n Q M hP hD hS lsM hl)
theorem ok_lmul {x y : Int64} (hd : decode (qb X.2.1) pc = .ok (.lmul, 1)) (kk : qAtP X (pc + 1) ls (.long (x * y) :: r) h) : qAtP X pc ls (.long y :: .long x :: r) h := by
  intro p l e R s m args below meth c D cI cB ad A H locs k0 n Q M hP hD hS lsM hl
  exact lv_lmul M.1 M.2.1 hd (kk p l e R s m args below meth c D cI cB ad A H locs k0 n Q M hP hD hS lsM hl)
theorem ok_land {x y : Int64} (hd : decode (qb X.2.1) pc = .ok (.land, 1)) (kk : qAtP X (pc + 1) ls (.long (x &&& y) :: r) h) : qAtP X pc ls (.long y :: .long x :: r) h := by
  intro p l e R s m args below meth c D cI cB ad A H locs k0 n Q M hP hD hS lsM hl
  exact lv_land M.1 M.2.1 hd (kk p l e R s m args below meth c D cI cB ad A H locs k0 n Q M hP hD hS lsM hl)
theorem ok_ldiv {x y : Int64} (hd : decode (qb X.2.1) pc = .ok (.ldiv, 1)) (hne : ¬ y = 0) (kk : qAtP X (pc + 1) ls (.long (x / y) :: r) h) : qAtP X pc ls (.long y :: .long x :: r) h := by
  intro p l e R s m args below meth c D cI cB ad A H locs k0 n Q M hP hD hS lsM hl
  exact lv_ldiv M.1 M.2.1 hd hne (kk p l e R s m args below meth c D cI cB ad A H locs k0 n Q M hP hD hS lsM hl)
theorem ok_lrem {x y : Int64} (hd : decode (qb X.2.1) pc = .ok (.lrem, 1)) (hne : ¬ y = 0) (kk : qAtP X (pc + 1) ls (.long (x - x / y * y) :: r) h) : qAtP X pc ls (.long y :: .long x :: r) h := by
  intro p l e R s m args below meth c D cI cB ad A H locs k0 n Q M hP hD hS lsM hl
  exact lv_lrem M.1 M.2.1 hd hne (kk p l e R s m args below meth c D cI cB ad A H locs k0 n Q M hP hD hS lsM hl)
theorem ok_lcmp {x y : Int64} (hd : decode (qb X.2.1) pc = .ok (.lcmp, 1)) (kk : qAtP X (pc + 1) ls (.int (lg_cmp x y) :: r) h) : qAtP X pc ls (.long y :: .long x :: r) h := by
  intro p l e R s m args below meth c D cI cB ad A H locs k0 n Q M hP hD hS lsM hl
  exact W.lcmp M.1 M.2.1 hd (kk p l e R s m args below meth c D cI cB ad A H locs k0 n Q M hP hD hS lsM hl)
theorem ok_i2l {x : Int32} (hd : decode (qb X.2.1) pc = .ok (.i2l, 1)) (kk : qAtP X (pc + 1) ls (.long x.toInt64 :: r) h) : qAtP X pc ls (.int x :: r) h := by
  intro p l e R s m args below meth c D cI cB ad A H locs k0 n Q M hP hD hS lsM hl
  exact lv_i2l M.1 M.2.1 hd rfl (kk p l e R s m args below meth c D cI cB ad A H locs k0 n Q M hP hD hS lsM hl)
theorem ok_l2i {x : Int64} (hd : decode (qb X.2.1) pc = .ok (.l2i, 1)) (kk : qAtP X (pc + 1) ls (.int x.toInt32 :: r) h) : qAtP X pc ls (.long x :: r) h := by
  intro p l e R s m args below meth c D cI cB ad A H locs k0 n Q M hP hD hS lsM hl
  exact lv_l2i M.1 M.2.1 hd rfl (kk p l e R s m args below meth c D cI cB ad A H locs k0 n Q M hP hD hS lsM hl)
theorem ok_i2b {x : Int32} (hd : decode (qb X.2.1) pc = .ok (.i2b, 1)) (kk : qAtP X (pc + 1) ls (.int x.toInt8.toInt32 :: r) h) : qAtP X pc ls (.int x :: r) h := by
  intro p l e R s m args below meth c D cI cB ad A H locs k0 n Q M hP hD hS lsM hl
  exact lv_i2b M.1 M.2.1 hd rfl (kk p l e R s m args below meth c D cI cB ad A H locs k0 n Q M hP hD hS lsM hl)
theorem ok_i2c {x : Int32} (hd : decode (qb X.2.1) pc = .ok (.i2c, 1)) (kk : qAtP X (pc + 1) ls (.int (x.toUInt32 % 65536).toInt32 :: r) h) : qAtP X pc ls (.int x :: r) h := by
  intro p l e R s m args below meth c D cI cB ad A H locs k0 n Q M hP hD hS lsM hl
  exact lv_i2c M.1 M.2.1 hd rfl (kk p l e R s m args below meth c D cI cB ad A H locs k0 n Q M hP hD hS lsM hl)
theorem ok_iconst {v : Int} (hd : decode (qb X.2.1) pc = .ok (.iconst v, 1)) (kk : qAtP X (pc + 1) ls (.int (Int32.ofInt v) :: r) h) : qAtP X pc ls (r) h := by
  intro p l e R s m args below meth c D cI cB ad A H locs k0 n Q M hP hD hS lsM hl
  exact lv_iconst M.1 M.2.1 hd rfl (kk p l e R s m args below meth c D cI cB ad A H locs k0 n Q M hP hD hS lsM hl)
theorem ok_bipush {v w : Int} (hd : decode (qb X.2.1) pc = .ok (.bipush w, 2)) (hv : (Int8.ofInt w).toInt32 = Int32.ofInt v) (kk : qAtP X (pc + 2) ls (.int (Int32.ofInt v) :: r) h) : qAtP X pc ls (r) h := by
  intro p l e R s m args below meth c D cI cB ad A H locs k0 n Q M hP hD hS lsM hl
  exact lv_bipush M.1 M.2.1 hd hv (kk p l e R s m args below meth c D cI cB ad A H locs k0 n Q M hP hD hS lsM hl)
theorem ok_sipush {v w : Int} (hd : decode (qb X.2.1) pc = .ok (.sipush w, 3)) (hv : (Int16.ofInt w).toInt32 = Int32.ofInt v) (kk : qAtP X (pc + 3) ls (.int (Int32.ofInt v) :: r) h) : qAtP X pc ls (r) h := by
  intro p l e R s m args below meth c D cI cB ad A H locs k0 n Q M hP hD hS lsM hl
  exact lv_sipush M.1 M.2.1 hd hv (kk p l e R s m args below meth c D cI cB ad A H locs k0 n Q M hP hD hS lsM hl)
theorem ok_lconst {v : Int} {w : Fin 2} (hd : decode (qb X.2.1) pc = .ok (.lconst w, 1)) (hv : Int64.ofNat w = Int64.ofInt v) (kk : qAtP X (pc + 1) ls (.long (Int64.ofInt v) :: r) h) : qAtP X pc ls (r) h := by
  intro p l e R s m args below meth c D cI cB ad A H locs k0 n Q M hP hD hS lsM hl
  exact lv_lconst M.1 M.2.1 hd hv (kk p l e R s m args below meth c D cI cB ad A H locs k0 n Q M hP hD hS lsM hl)
theorem qcv_cat (ad : Nat → Nat) (v : Value) : (qcv ad v).category = v.category := by cases v <;> rfl
theorem qpr_mem {ad : Nat → Nat} {ls : qL} {i : Nat} {w : Value} : (i, w) ∈ qpr ad ls ↔ ∃ v, ls.getD i none = some v ∧ w = qcv ad v := by
  unfold qpr
  constructor
  · intro h
    obtain ⟨j, hj, hm⟩ := List.mem_filterMap.mp h
    cases hv : ls.getD j none with
    | none => rw [hv] at hm; cases hm
    | some v =>
      rw [hv] at hm
      have := Option.some.inj hm
      cases this
      exact ⟨v, hv, rfl⟩
  · rintro ⟨v, hv, rfl⟩
    refine List.mem_filterMap.mpr ⟨i, List.mem_range.mpr ?_, by rw [hv]; rfl⟩
    rcases Nat.lt_or_ge i ls.length with q | q
    · exact q
    · rw [List.getD_eq_getElem?_getD, List.getElem?_eq_none q] at hv
      cases hv
theorem lv_into {lsM : Array Slot} {nL : Nat} {l l' : List (Nat × Value)} (h : lv_has lsM nL l) (hl : ∀ q ∈ l', q ∈ l) : lv_has lsM nL l' := ⟨h.1, h.2.1, fun q hq => h.2.2 q (hl q hq)⟩
theorem qpr_at {ad : Nat → Nat} {ls : qL} {lsM : Array Slot} {nL i : Nat} {v : Value} (hl : lv_has lsM nL (qpr ad ls)) (hv : ls.getD i none = some v) : lsM[i]? = some (.val (qcv ad v)) := hl.2.2 (i, qcv ad v) (qpr_mem.mpr ⟨v, hv, rfl⟩)
theorem qso_cat {ls : qL} {k : Nat} (h : qso ls k = true) {j : Nat} {v : Value} (hj : j + 1 = k) (hv : ls.getD j none = some v) : v.category = 1 := by
  subst hj
  simp only [qso, hv] at h
  exact eq_of_beq h
theorem getD_set_ne {ls : qL} {k i : Nat} {x : Option Value} (h : i ≠ k) : (ls.set k x).getD i none = ls.getD i none := by
  rw [List.getD_eq_getElem?_getD, List.getD_eq_getElem?_getD, List.getElem?_set_ne (Ne.symm h)]
theorem getD_set_eq {ls : qL} {k : Nat} {x : Option Value} (h : k < ls.length) : (ls.set k x).getD k none = x := by
  rw [List.getD_eq_getElem?_getD, List.getElem?_set_self h]
  rfl
theorem ok_iload_n {x : Int32} {k : Nat} {f : Fin 4} (hd : decode (qb X.2.1) pc = .ok (.iload_n f, 1)) (hf : f.val = k) (hv : ls.getD k none = some (.int x)) (kk : qAtP X (pc + 1) ls (.int x :: r) h) : qAtP X pc ls r h := by
  intro p l e R s m args below meth c D cI cB ad A H locs k0 n Q M hP hD hS lsM hl
  exact lv_iload_n M.1 M.2.1 hd hf (qpr_at hl.2 hv) (kk p l e R s m args below meth c D cI cB ad A H locs k0 n Q M hP hD hS lsM hl)
theorem ok_iload {x : Int32} {k : Nat} (hd : decode (qb X.2.1) pc = .ok (.iload k, 2)) (hv : ls.getD k none = some (.int x)) (kk : qAtP X (pc + 2) ls (.int x :: r) h) : qAtP X pc ls r h := by
  intro p l e R s m args below meth c D cI cB ad A H locs k0 n Q M hP hD hS lsM hl
  exact lv_iload M.1 M.2.1 hd (qpr_at hl.2 hv) (kk p l e R s m args below meth c D cI cB ad A H locs k0 n Q M hP hD hS lsM hl)
theorem ok_lload_n {x : Int64} {k : Nat} {f : Fin 4} (hd : decode (qb X.2.1) pc = .ok (.lload_n f, 1)) (hf : f.val = k) (hv : ls.getD k none = some (.long x)) (kk : qAtP X (pc + 1) ls (.long x :: r) h) : qAtP X pc ls r h := by
  intro p l e R s m args below meth c D cI cB ad A H locs k0 n Q M hP hD hS lsM hl
  exact lv_lload_n M.1 M.2.1 hd hf (qpr_at hl.2 hv) (kk p l e R s m args below meth c D cI cB ad A H locs k0 n Q M hP hD hS lsM hl)
theorem ok_lload {x : Int64} {k : Nat} (hd : decode (qb X.2.1) pc = .ok (.lload k, 2)) (hv : ls.getD k none = some (.long x)) (kk : qAtP X (pc + 2) ls (.long x :: r) h) : qAtP X pc ls r h := by
  intro p l e R s m args below meth c D cI cB ad A H locs k0 n Q M hP hD hS lsM hl
  exact lv_lload M.1 M.2.1 hd (qpr_at hl.2 hv) (kk p l e R s m args below meth c D cI cB ad A H locs k0 n Q M hP hD hS lsM hl)
theorem ok_aload_n {x : Nat} {k : Nat} {f : Fin 4} (hd : decode (qb X.2.1) pc = .ok (.aload_n f, 1)) (hf : f.val = k) (hv : ls.getD k none = some (.ref x)) (kk : qAtP X (pc + 1) ls (.ref x :: r) h) : qAtP X pc ls r h := by
  intro p l e R s m args below meth c D cI cB ad A H locs k0 n Q M hP hD hS lsM hl
  exact lv_aload_n M.1 M.2.1 hd hf (qpr_at hl.2 hv) (kk p l e R s m args below meth c D cI cB ad A H locs k0 n Q M hP hD hS lsM hl)
theorem ok_aload {x : Nat} {k : Nat} (hd : decode (qb X.2.1) pc = .ok (.aload k, 2)) (hv : ls.getD k none = some (.ref x)) (kk : qAtP X (pc + 2) ls (.ref x :: r) h) : qAtP X pc ls r h := by
  intro p l e R s m args below meth c D cI cB ad A H locs k0 n Q M hP hD hS lsM hl
  exact lv_aload M.1 M.2.1 hd (qpr_at hl.2 hv) (kk p l e R s m args below meth c D cI cB ad A H locs k0 n Q M hP hD hS lsM hl)
theorem qst1 {ls' : Array Slot} {nL k : Nat} {ad : Nat → Nat} {v : Value} (hlt : k < ls.length) (hs : qso ls k = true) (h1 : lv_has ls' nL ((k, qcv ad v) :: (qpr ad ls).filter (fun q => !(q.1 == k) && !(q.1 + 1 == k && q.2.category == 2)))) : lv_has ls' nL (qpr ad (ls.set k (some v))) := by
  refine lv_into h1 ?_
  rintro ⟨i, w⟩ hq
  obtain ⟨u, hu, rfl⟩ := qpr_mem.mp hq
  by_cases hik : i = k
  · subst hik
    rw [getD_set_eq hlt] at hu
    cases hu
    exact List.mem_cons_self
  · rw [getD_set_ne hik] at hu
    refine List.mem_cons_of_mem _ (List.mem_filter.mpr ⟨qpr_mem.mpr ⟨u, hu, rfl⟩, ?_⟩)
    have h2 : ¬ (i + 1 = k ∧ (qcv ad u).category = 2) := fun z => by
      have := qso_cat hs z.1 hu
      rw [qcv_cat, this] at z
      exact absurd z.2 (by decide)
    simp only [Bool.and_eq_true, Bool.not_eq_true', beq_eq_false_iff_ne, ne_eq, hik, not_false_eq_true, true_and, Bool.and_eq_false_iff]
    by_cases z : i + 1 = k
    · exact Or.inr (fun w => h2 ⟨z, w⟩)
    · exact Or.inl z
theorem qst2 {ls' : Array Slot} {nL k : Nat} {ad : Nat → Nat} {v : Value} (hlt : k + 1 < ls.length) (hs : qso ls k = true) (h1 : lv_has ls' nL ((k, qcv ad v) :: (qpr ad ls).filter (fun q => !(q.1 == k) && (!(q.1 == k + 1) && !(q.1 + 1 == k && q.2.category == 2))))) : lv_has ls' nL (qpr ad ((ls.set k (some v)).set (k + 1) none)) := by
  refine lv_into h1 ?_
  rintro ⟨i, w⟩ hq
  obtain ⟨u, hu, rfl⟩ := qpr_mem.mp hq
  by_cases hik1 : i = k + 1
  · subst hik1
    rw [getD_set_eq (by simpa using hlt)] at hu
    cases hu
  · rw [getD_set_ne hik1] at hu
    by_cases hik : i = k
    · subst hik
      rw [getD_set_eq (by omega)] at hu
      cases hu
      exact List.mem_cons_self
    · rw [getD_set_ne hik] at hu
      refine List.mem_cons_of_mem _ (List.mem_filter.mpr ⟨qpr_mem.mpr ⟨u, hu, rfl⟩, ?_⟩)
      have h2 : ¬ (i + 1 = k ∧ (qcv ad u).category = 2) := fun z => by
        have := qso_cat hs z.1 hu
        rw [qcv_cat, this] at z
        exact absurd z.2 (by decide)
      simp only [Bool.and_eq_true, Bool.not_eq_true', beq_eq_false_iff_ne, ne_eq, hik, hik1, not_false_eq_true, true_and, Bool.and_eq_false_iff]
      by_cases z : i + 1 = k
      · exact Or.inr (fun w => h2 ⟨z, w⟩)
      · exact Or.inl z
theorem ok_istore_n {x : Int32} {k : Nat} {f : Fin 4} (hd : decode (qb X.2.1) pc = .ok (.istore_n f, 1)) (hf : f.val = k) (hlt : k < ls.length) (hs : qso ls k = true) (kk : qAtP X (pc + 1) (ls.set k (some (.int x))) r h) : qAtP X pc ls (.int x :: r) h := by
  intro p l e R s m args below meth c D cI cB ad A H locs k0 n Q M hP hD hS lsM hl
  exact lv_istore_n M.1 M.2.1 hd hf hl.2 (by have := hl.1; omega) rfl (fun ls' hl' => kk p l e R s m args below meth c D cI cB ad A H locs k0 n Q M hP hD hS ls' ⟨by rw [List.length_set]; exact hl.1, qst1 (v := .int x) hlt hs hl'⟩)
theorem ok_istore {x : Int32} {k : Nat} (hd : decode (qb X.2.1) pc = .ok (.istore k, 2)) (hlt : k < ls.length) (hs : qso ls k = true) (kk : qAtP X (pc + 2) (ls.set k (some (.int x))) r h) : qAtP X pc ls (.int x :: r) h := by
  intro p l e R s m args below meth c D cI cB ad A H locs k0 n Q M hP hD hS lsM hl
  exact lv_istore M.1 M.2.1 hd hl.2 (by have := hl.1; omega) rfl (fun ls' hl' => kk p l e R s m args below meth c D cI cB ad A H locs k0 n Q M hP hD hS ls' ⟨by rw [List.length_set]; exact hl.1, qst1 (v := .int x) hlt hs hl'⟩)
theorem ok_astore_n {x : Nat} {k : Nat} {f : Fin 4} (hd : decode (qb X.2.1) pc = .ok (.astore_n f, 1)) (hf : f.val = k) (hlt : k < ls.length) (hs : qso ls k = true) (kk : qAtP X (pc + 1) (ls.set k (some (.ref x))) r h) : qAtP X pc ls (.ref x :: r) h := by
  intro p l e R s m args below meth c D cI cB ad A H locs k0 n Q M hP hD hS lsM hl
  exact lv_astore_n M.1 M.2.1 hd hf hl.2 (by have := hl.1; omega) rfl (fun ls' hl' => kk p l e R s m args below meth c D cI cB ad A H locs k0 n Q M hP hD hS ls' ⟨by rw [List.length_set]; exact hl.1, qst1 (v := .ref x) hlt hs hl'⟩)
theorem ok_astore {x : Nat} {k : Nat} (hd : decode (qb X.2.1) pc = .ok (.astore k, 2)) (hlt : k < ls.length) (hs : qso ls k = true) (kk : qAtP X (pc + 2) (ls.set k (some (.ref x))) r h) : qAtP X pc ls (.ref x :: r) h := by
  intro p l e R s m args below meth c D cI cB ad A H locs k0 n Q M hP hD hS lsM hl
  exact lv_astore M.1 M.2.1 hd hl.2 (by have := hl.1; omega) rfl (fun ls' hl' => kk p l e R s m args below meth c D cI cB ad A H locs k0 n Q M hP hD hS ls' ⟨by rw [List.length_set]; exact hl.1, qst1 (v := .ref x) hlt hs hl'⟩)
theorem ok_lstore_n {x : Int64} {k : Nat} {f : Fin 4} (hd : decode (qb X.2.1) pc = .ok (.lstore_n f, 1)) (hf : f.val = k) (hlt : k + 1 < ls.length) (hs : qso ls k = true) (kk : qAtP X (pc + 1) ((ls.set k (some (.long x))).set (k + 1) none) r h) : qAtP X pc ls (.long x :: r) h := by
  intro p l e R s m args below meth c D cI cB ad A H locs k0 n Q M hP hD hS lsM hl
  exact lv_lstore_n M.1 M.2.1 hd hf hl.2 (by have := hl.1; omega) rfl (fun ls' hl' => kk p l e R s m args below meth c D cI cB ad A H locs k0 n Q M hP hD hS ls' ⟨by rw [List.length_set, List.length_set]; exact hl.1, qst2 (v := .long x) hlt hs hl'⟩)
theorem ok_lstore {x : Int64} {k : Nat} (hd : decode (qb X.2.1) pc = .ok (.lstore k, 2)) (hlt : k + 1 < ls.length) (hs : qso ls k = true) (kk : qAtP X (pc + 2) ((ls.set k (some (.long x))).set (k + 1) none) r h) : qAtP X pc ls (.long x :: r) h := by
  intro p l e R s m args below meth c D cI cB ad A H locs k0 n Q M hP hD hS lsM hl
  exact lv_lstore M.1 M.2.1 hd hl.2 (by have := hl.1; omega) rfl (fun ls' hl' => kk p l e R s m args below meth c D cI cB ad A H locs k0 n Q M hP hD hS ls' ⟨by rw [List.length_set, List.length_set]; exact hl.1, qst2 (v := .long x) hlt hs hl'⟩)
theorem ok_iinc {x : Int32} {k : Nat} {v : Int} (hd : decode (qb X.2.1) pc = .ok (.iinc k v, 3)) (hv : ls.getD k none = some (.int x)) (hlt : k < ls.length) (hs : qso ls k = true) (kk : qAtP X (pc + 3) (ls.set k (some (.int (x + Int32.ofInt v)))) r h) : qAtP X pc ls r h := by
  intro p l e R s m args below meth c D cI cB ad A H locs k0 n Q M hP hD hS lsM hl
  obtain ⟨j, hj⟩ := List.getElem?_of_mem (qpr_mem (ad := ad).mpr ⟨_, hv, rfl⟩)
  exact lv_iinc M.1 M.2.1 hd hl.2 hj rfl (by have := hl.1; omega) rfl (fun ls' hl' => kk p l e R s m args below meth c D cI cB ad A H locs k0 n Q M hP hD hS ls' ⟨by rw [List.length_set]; exact hl.1, qst1 (v := .int (x + Int32.ofInt v)) hlt hs hl'⟩)
theorem ok_dup {v : Value} (hd : decode (qb X.2.1) pc = .ok (.dup, 1)) (hc : v.category = 1) (kk : qAtP X (pc + 1) ls (v :: v :: r) h) : qAtP X pc ls (v :: r) h := by
  intro p l e R s m args below meth c D cI cB ad A H locs k0 n Q M hP hD hS lsM hl
  exact lv_dup M.1 M.2.1 hd (by rw [qcv_cat]; exact hc) (kk p l e R s m args below meth c D cI cB ad A H locs k0 n Q M hP hD hS lsM hl)
theorem ok_dup2 {v w : Value} (hd : decode (qb X.2.1) pc = .ok (.dup2, 1)) (hc : v.category = 1) (hw : w.category = 1) (kk : qAtP X (pc + 1) ls (v :: w :: v :: w :: r) h) : qAtP X pc ls (v :: w :: r) h := by
  intro p l e R s m args below meth c D cI cB ad A H locs k0 n Q M hP hD hS lsM hl
  exact lv_dup2_11 M.1 M.2.1 hd (by rw [qcv_cat]; exact hc) (by rw [qcv_cat]; exact hw) (kk p l e R s m args below meth c D cI cB ad A H locs k0 n Q M hP hD hS lsM hl)
theorem ok_pop {v : Value} (hd : decode (qb X.2.1) pc = .ok (.pop, 1)) (hc : v.category = 1) (kk : qAtP X (pc + 1) ls r h) : qAtP X pc ls (v :: r) h := by
  intro p l e R s m args below meth c D cI cB ad A H locs k0 n Q M hP hD hS lsM hl
  exact lv_pop M.1 M.2.1 hd (by rw [qcv_cat]; exact hc) (kk p l e R s m args below meth c D cI cB ad A H locs k0 n Q M hP hD hS lsM hl)
theorem ok_goto {off : Int} {tgt : Nat} (hd : decode (qb X.2.1) pc = .ok (.goto off, 3)) (ht : (pc : Int) + off = (tgt : Int)) (kk : qAtP X tgt ls r h) : qAtP X pc ls r h := by
  intro p l e R s m args below meth c D cI cB ad A H locs k0 n Q M hP hD hS lsM hl
  exact lv_goto M.1 M.2.1 hd ht (kk p l e R s m args below meth c D cI cB ad A H locs k0 n Q M hP hD hS lsM hl)
theorem ok_if_eq {x : Int32} {off : Int} {tgt : Nat} (hd : decode (qb X.2.1) pc = .ok (.ifCond .eq off, 3)) (ht : (pc : Int) + off = (tgt : Int)) (kt : x = 0 → qAtP X tgt ls r h) (kf : ¬ x = 0 → qAtP X (pc + 3) ls r h) : qAtP X pc ls (.int x :: r) h := by
  intro p l e R s m args below meth c D cI cB ad A H locs k0 n Q M hP hD hS lsM hl
  exact lv_if_eq M.1 M.2.1 hd ht (fun z => kt z p l e R s m args below meth c D cI cB ad A H locs k0 n Q M hP hD hS lsM hl) (fun z => kf z p l e R s m args below meth c D cI cB ad A H locs k0 n Q M hP hD hS lsM hl)
theorem ok_icmp_eq {x y : Int32} {off : Int} {tgt : Nat} (hd : decode (qb X.2.1) pc = .ok (.if_icmp .eq off, 3)) (ht : (pc : Int) + off = (tgt : Int)) (kt : x = y → qAtP X tgt ls r h) (kf : ¬ x = y → qAtP X (pc + 3) ls r h) : qAtP X pc ls (.int y :: .int x :: r) h := by
  intro p l e R s m args below meth c D cI cB ad A H locs k0 n Q M hP hD hS lsM hl
  exact lv_icmp_eq M.1 M.2.1 hd ht (fun z => kt z p l e R s m args below meth c D cI cB ad A H locs k0 n Q M hP hD hS lsM hl) (fun z => kf z p l e R s m args below meth c D cI cB ad A H locs k0 n Q M hP hD hS lsM hl)
theorem ok_if_ne {x : Int32} {off : Int} {tgt : Nat} (hd : decode (qb X.2.1) pc = .ok (.ifCond .ne off, 3)) (ht : (pc : Int) + off = (tgt : Int)) (kt : ¬ x = 0 → qAtP X tgt ls r h) (kf : x = 0 → qAtP X (pc + 3) ls r h) : qAtP X pc ls (.int x :: r) h := by
  intro p l e R s m args below meth c D cI cB ad A H locs k0 n Q M hP hD hS lsM hl
  exact lv_if_ne M.1 M.2.1 hd ht (fun z => kt z p l e R s m args below meth c D cI cB ad A H locs k0 n Q M hP hD hS lsM hl) (fun z => kf z p l e R s m args below meth c D cI cB ad A H locs k0 n Q M hP hD hS lsM hl)
theorem ok_icmp_ne {x y : Int32} {off : Int} {tgt : Nat} (hd : decode (qb X.2.1) pc = .ok (.if_icmp .ne off, 3)) (ht : (pc : Int) + off = (tgt : Int)) (kt : ¬ x = y → qAtP X tgt ls r h) (kf : x = y → qAtP X (pc + 3) ls r h) : qAtP X pc ls (.int y :: .int x :: r) h := by
  intro p l e R s m args below meth c D cI cB ad A H locs k0 n Q M hP hD hS lsM hl
  exact lv_icmp_ne M.1 M.2.1 hd ht (fun z => kt z p l e R s m args below meth c D cI cB ad A H locs k0 n Q M hP hD hS lsM hl) (fun z => kf z p l e R s m args below meth c D cI cB ad A H locs k0 n Q M hP hD hS lsM hl)
theorem ok_if_lt {x : Int32} {off : Int} {tgt : Nat} (hd : decode (qb X.2.1) pc = .ok (.ifCond .lt off, 3)) (ht : (pc : Int) + off = (tgt : Int)) (kt : x < 0 → qAtP X tgt ls r h) (kf : ¬ x < 0 → qAtP X (pc + 3) ls r h) : qAtP X pc ls (.int x :: r) h := by
  intro p l e R s m args below meth c D cI cB ad A H locs k0 n Q M hP hD hS lsM hl
  exact lv_if_lt M.1 M.2.1 hd ht (fun z => kt z p l e R s m args below meth c D cI cB ad A H locs k0 n Q M hP hD hS lsM hl) (fun z => kf z p l e R s m args below meth c D cI cB ad A H locs k0 n Q M hP hD hS lsM hl)
theorem ok_icmp_lt {x y : Int32} {off : Int} {tgt : Nat} (hd : decode (qb X.2.1) pc = .ok (.if_icmp .lt off, 3)) (ht : (pc : Int) + off = (tgt : Int)) (kt : x < y → qAtP X tgt ls r h) (kf : ¬ x < y → qAtP X (pc + 3) ls r h) : qAtP X pc ls (.int y :: .int x :: r) h := by
  intro p l e R s m args below meth c D cI cB ad A H locs k0 n Q M hP hD hS lsM hl
  exact lv_icmp_lt M.1 M.2.1 hd ht (fun z => kt z p l e R s m args below meth c D cI cB ad A H locs k0 n Q M hP hD hS lsM hl) (fun z => kf z p l e R s m args below meth c D cI cB ad A H locs k0 n Q M hP hD hS lsM hl)
theorem ok_if_ge {x : Int32} {off : Int} {tgt : Nat} (hd : decode (qb X.2.1) pc = .ok (.ifCond .ge off, 3)) (ht : (pc : Int) + off = (tgt : Int)) (kt : 0 ≤ x → qAtP X tgt ls r h) (kf : ¬ 0 ≤ x → qAtP X (pc + 3) ls r h) : qAtP X pc ls (.int x :: r) h := by
  intro p l e R s m args below meth c D cI cB ad A H locs k0 n Q M hP hD hS lsM hl
  exact lv_if_ge M.1 M.2.1 hd ht (fun z => kt z p l e R s m args below meth c D cI cB ad A H locs k0 n Q M hP hD hS lsM hl) (fun z => kf z p l e R s m args below meth c D cI cB ad A H locs k0 n Q M hP hD hS lsM hl)
theorem ok_icmp_ge {x y : Int32} {off : Int} {tgt : Nat} (hd : decode (qb X.2.1) pc = .ok (.if_icmp .ge off, 3)) (ht : (pc : Int) + off = (tgt : Int)) (kt : y ≤ x → qAtP X tgt ls r h) (kf : ¬ y ≤ x → qAtP X (pc + 3) ls r h) : qAtP X pc ls (.int y :: .int x :: r) h := by
  intro p l e R s m args below meth c D cI cB ad A H locs k0 n Q M hP hD hS lsM hl
  exact lv_icmp_ge M.1 M.2.1 hd ht (fun z => kt z p l e R s m args below meth c D cI cB ad A H locs k0 n Q M hP hD hS lsM hl) (fun z => kf z p l e R s m args below meth c D cI cB ad A H locs k0 n Q M hP hD hS lsM hl)
theorem ok_if_gt {x : Int32} {off : Int} {tgt : Nat} (hd : decode (qb X.2.1) pc = .ok (.ifCond .gt off, 3)) (ht : (pc : Int) + off = (tgt : Int)) (kt : 0 < x → qAtP X tgt ls r h) (kf : ¬ 0 < x → qAtP X (pc + 3) ls r h) : qAtP X pc ls (.int x :: r) h := by
  intro p l e R s m args below meth c D cI cB ad A H locs k0 n Q M hP hD hS lsM hl
  exact lv_if_gt M.1 M.2.1 hd ht (fun z => kt z p l e R s m args below meth c D cI cB ad A H locs k0 n Q M hP hD hS lsM hl) (fun z => kf z p l e R s m args below meth c D cI cB ad A H locs k0 n Q M hP hD hS lsM hl)
theorem ok_icmp_gt {x y : Int32} {off : Int} {tgt : Nat} (hd : decode (qb X.2.1) pc = .ok (.if_icmp .gt off, 3)) (ht : (pc : Int) + off = (tgt : Int)) (kt : y < x → qAtP X tgt ls r h) (kf : ¬ y < x → qAtP X (pc + 3) ls r h) : qAtP X pc ls (.int y :: .int x :: r) h := by
  intro p l e R s m args below meth c D cI cB ad A H locs k0 n Q M hP hD hS lsM hl
  exact lv_icmp_gt M.1 M.2.1 hd ht (fun z => kt z p l e R s m args below meth c D cI cB ad A H locs k0 n Q M hP hD hS lsM hl) (fun z => kf z p l e R s m args below meth c D cI cB ad A H locs k0 n Q M hP hD hS lsM hl)
theorem ok_if_le {x : Int32} {off : Int} {tgt : Nat} (hd : decode (qb X.2.1) pc = .ok (.ifCond .le off, 3)) (ht : (pc : Int) + off = (tgt : Int)) (kt : x ≤ 0 → qAtP X tgt ls r h) (kf : ¬ x ≤ 0 → qAtP X (pc + 3) ls r h) : qAtP X pc ls (.int x :: r) h := by
  intro p l e R s m args below meth c D cI cB ad A H locs k0 n Q M hP hD hS lsM hl
  exact lv_if_le M.1 M.2.1 hd ht (fun z => kt z p l e R s m args below meth c D cI cB ad A H locs k0 n Q M hP hD hS lsM hl) (fun z => kf z p l e R s m args below meth c D cI cB ad A H locs k0 n Q M hP hD hS lsM hl)
theorem ok_icmp_le {x y : Int32} {off : Int} {tgt : Nat} (hd : decode (qb X.2.1) pc = .ok (.if_icmp .le off, 3)) (ht : (pc : Int) + off = (tgt : Int)) (kt : x ≤ y → qAtP X tgt ls r h) (kf : ¬ x ≤ y → qAtP X (pc + 3) ls r h) : qAtP X pc ls (.int y :: .int x :: r) h := by
  intro p l e R s m args below meth c D cI cB ad A H locs k0 n Q M hP hD hS lsM hl
  exact lv_icmp_le M.1 M.2.1 hd ht (fun z => kt z p l e R s m args below meth c D cI cB ad A H locs k0 n Q M hP hD hS lsM hl) (fun z => kf z p l e R s m args below meth c D cI cB ad A H locs k0 n Q M hP hD hS lsM hl)
end QOK
