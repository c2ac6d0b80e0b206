/-! THE PLAIN MACHINE: a method's code in its plain form over a heap of known shape (31 cells, addresses by number), its weakest precondition, and what it says of the machine itself -/
abbrev qH : Type := (Nat → Nat → Int32) × (Nat → Nat → Int64)
abbrev qL : Type := List (Option Value)
abbrev qK : Type := Option Value → qH → Prop
/-- depth, method, answer's type, the script, what is wanted at the end -/
abbrev qX : Type := Nat × Nat × Option FieldType × (Nat × (Nat → Int32)) × qK
def qI (h : qH) (r k : Nat) (v : Int32) : qH := (fun a b => if a = r ∧ b = k then v else h.1 a b, h.2)
def qJ (h : qH) (r k : Nat) (v : Int64) : qH := (h.1, fun a b => if a = r ∧ b = k then v else h.2 a b)
/-- a cell's kind: (0, class), (1, length) ints, (2, length) bytes; 97 the text, 98 its bytes, 99 the script -/
def qkdL : List (Nat × Nat) := [(0,3),(0,1),(1,22),(0,0),(1,16),(0,2),(1,4),(1,6),(0,2),(1,4),(1,6),(0,2),(1,4),(1,6),(1,3),(0,4),(1,4),(1,4),(1,4),(1,4),(1,4),(1,6),(1,6),(1,6),(2,22),(1,4),(1,4),(1,4),(1,6),(1,6),(1,6)]
def qkd (r : Nat) : Nat × Nat := qkdL.getD r (if r = 97 then (5, 0) else if r = 98 then (6, 5) else if r = 99 then (4, 0) else (9, 0))
/-- fields: 0 int, 1 long, 2 reference, 3 boolean -/
def qfkL : List (List Nat) := [[0,0,0,0,0,0,2],[2,0],[0,0,0,0,0,2,2,0],[2,2,2,2,2,2,3,0,0],[0,0,2,2,2,2,2,0,0,0,0,0,2,2,2,0,0,2,3,0,2,1,3,0,0,0,0,0,0,2,2,2,2,2,1]]
def qfk (c k : Nat) : Nat := (qfkL.getD c []).getD k 9
def qnf (c : Nat) : Nat := (qfkL.getD c []).length
def qrfL : List (Nat × List Nat) := [(0,[1,3,5,8,11,14]),(1,[2]),(3,[0,0,0,0,0,0,4]),(5,[0,0,0,0,0,6,7]),(8,[0,0,0,0,0,9,10]),(11,[0,0,0,0,0,12,13]),(15,[0,0,16,17,18,19,20,0,0,0,0,0,21,22,23,0,0,24,0,0,25,0,0,0,0,0,0,0,0,26,27,28,29,30,0])]
def qrfF : List (Nat × List Nat) → Nat → List Nat
  | [], _ => []
  | (a, l) :: t, r => bif a == r then l else qrfF t r
def qrf (r k : Nat) : Nat := (qrfF qrfL r).getD k 0
def qfv (h : qH) (r c k : Nat) : Value := match qfk c k with
  | 1 => .long (h.2 r k)
  | 2 => .ref (qrf r k)
  | _ => .int (h.1 r k)
def qstr : List Int32 := [109, 107, 99, 110, 113]
def qnth {α : Type} : List α → Nat → Option α
  | [], _ => none
  | a :: _, 0 => some a
  | _ :: l, n + 1 => qnth l n
/-! ## the shapes that an instruction wants -/
def eI (st : List Value) (f : Int32 → List Value → Prop) : Prop := match st with
  | .int x :: r => f x r
  | _ => False
def eII (st : List Value) (f : Int32 → Int32 → List Value → Prop) : Prop := match st with
  | .int y :: .int x :: r => f y x r
  | _ => False
def eL (st : List Value) (f : Int64 → List Value → Prop) : Prop := match st with
  | .long x :: r => f x r
  | _ => False
def eLL (st : List Value) (f : Int64 → Int64 → List Value → Prop) : Prop := match st with
  | .long y :: .long x :: r => f y x r
  | _ => False
def eR (st : List Value) (f : Nat → List Value → Prop) : Prop := match st with
  | .ref x :: r => f x r
  | _ => False
def eIR (st : List Value) (f : Int32 → Nat → List Value → Prop) : Prop := match st with
  | .int i :: .ref x :: r => f i x r
  | _ => False
def eIIR (st : List Value) (f : Int32 → Int32 → Nat → List Value → Prop) : Prop := match st with
  | .int v :: .int i :: .ref x :: r => f v i x r
  | _ => False
def eVR (st : List Value) (f : Value → Nat → List Value → Prop) : Prop := match st with
  | v :: .ref x :: r => f v x r
  | _ => False
def eV (st : List Value) (f : Value → List Value → Prop) : Prop := match st with
  | v :: r => bif v.category == 1 then f v r else False
  | _ => False
def eVV (st : List Value) (f : Value → Value → List Value → Prop) : Prop := match st with
  | v :: w :: r => bif v.category == 1 && w.category == 1 then f v w r else False
  | _ => False
def eN (st : List Value) (f : Prop) : Prop := match st with
  | [] => f
  | _ => False
def eo (b : Bool) (f : Prop) : Prop := match b with
  | true => f
  | false => False
def lI (ls : qL) (k : Nat) (f : Int32 → Prop) : Prop := match ls.getD k none with
  | some (.int x) => f x
  | _ => False
def lL (ls : qL) (k : Nat) (f : Int64 → Prop) : Prop := match ls.getD k none with
  | some (.long x) => f x
  | _ => False
def lR (ls : qL) (k : Nat) (f : Nat → Prop) : Prop := match ls.getD k none with
  | some (.ref x) => f x
  | _ => False
/-- no long ends in the place that is written -/
def qso (ls : qL) : Nat → Bool
  | 0 => true
  | k + 1 => match ls.getD k none with
    | some v => v.category == 1
    | none => true
def qsw (P : Nat → Prop) (x : Int32) : List (Int × Int) → Nat → Prop
  | [], d => P d
  | (k, t) :: l, d => (x = Int32.ofInt k → P t.toNat) ∧ (¬ x = Int32.ofInt k → qsw P x l d)
def qgf (h : qH) (a c k : Nat) (P : Value → Prop) : Prop :=
  match qkd a, Nat.blt k (qnf c) with
  | (0, c'), true => eo (c' == c) (P (qfv h a c k))
  | (5, _), _ => eo (c == 5 && Nat.blt k 2) (match k with | 0 => P (.ref 98) | _ => P (.int 0))
  | _, _ => False
def qpf (h : qH) (a c k : Nat) (v : Value) (P : qH → Prop) : Prop :=
  match qkd a, Nat.blt k (qnf c) with
  | (0, c'), true => eo (c' == c) (match qfk c k, v with
    | 0, .int x => P (qI h a k x)
    | 1, .long x => P (qJ h a k x)
    | 3, .int x => (x = 0 ∨ x = 1) ∧ P (qI h a k x)
    | _, _ => False)
  | _, _ => False
def qial (h : qH) (sc : Nat × (Nat → Int32)) (a : Nat) (i : Int32) (P : Int32 → Prop) : Prop := match qkd a with
  | (1, n) => vp_in i n ∧ P (h.1 a i.toNatClampNeg)
  | (4, _) => vp_in i (sc.1 - 1) ∧ P (sc.2 i.toNatClampNeg)
  | _ => False
def qbal (h : qH) (a : Nat) (i : Int32) (P : Int32 → Prop) : Prop := match qkd a with
  | (2, n) => vp_in i n ∧ P (h.1 a i.toNatClampNeg)
  | (6, n) => vp_in i n ∧ P (qstr.getD i.toNatClampNeg 0)
  | _ => False
def qias (h : qH) (a : Nat) (i v : Int32) (P : qH → Prop) : Prop := match qkd a with
  | (1, n) => vp_in i n ∧ P (qI h a i.toNatClampNeg v)
  | _ => False
def qbas (h : qH) (a : Nat) (i v : Int32) (P : qH → Prop) : Prop := match qkd a with
  | (2, n) => vp_in i n ∧ P (qI h a i.toNatClampNeg (vp_nar .byte v))
  | _ => False
def qlen (sc : Nat × (Nat → Int32)) (a : Nat) (P : Int32 → Prop) : Prop := match qkd a with
  | (1, n) => P (Int32.ofNat n)
  | (2, n) => P (Int32.ofNat n)
  | (6, n) => P (Int32.ofNat n)
  | (4, _) => sc.1 ≠ 0 ∧ P (Int32.ofNat (sc.1 - 1))
  | _ => False
def qrv (As : List Value) (c : Nat) : Bool := match As with
  | .ref b :: _ => match qkd b with
    | (0, c') => c' == c
    | (5, _) => c == 5
    | _ => false
  | _ => false
/-! ## the code's own form, held against the decoded rows -/
def qpcs (R : List (Nat × Instr × Nat)) : List Nat := R.map (fun q => q.1)
def qtg (pcs : List Nat) (pc : Nat) (off t : Int) : Bool := match pcs[t.toNat]? with
  | some g => decide ((pc : Int) + off = (g : Int))
  | none => false
def qtb (pcs : List Nat) (pc : Nat) : Int → List Int → List (Int × Int) → Bool
  | _, [], [] => true
  | lo, o :: os, (k, t) :: ps => decide (lo = k) && (decide ((Int32.ofInt k).toInt = k) && (qtg pcs pc o t && qtb pcs pc (lo + 1) os ps))
  | _, _, _ => false
def qlb (pcs : List Nat) (pc : Nat) : List (Int × Int) → List (Int × Int) → Bool
  | [], [] => true
  | (a, o) :: os, (k, t) :: ps => decide (a = k) && (decide ((Int32.ofInt k).toInt = k) && (qtg pcs pc o t && qlb pcs pc os ps))
  | _, _ => false
def qone (a : Instr) : Bool := match a with
  | .iadd | .isub | .imul | .idiv | .irem | .iand | .ior | .ixor | .ishl | .ishr | .iushr | .ladd | .lmul | .land | .ldiv | .lrem | .lcmp | .i2l | .l2i | .i2b | .i2c | .dup | .dup2 | .pop | .iaload | .baload | .iastore | .bastore | .arraylength | .ireturn | .lreturn | .return_ => true
  | _ => false
def qmatch (own : Nat) (pcs : List Nat) (pc len : Nat) (real a : Instr) : Bool := match a with
  | .aload k => match real with
    | .aload_n f => f.val == k && len == 1
    | .aload k' => k' == k && len == 2
    | _ => false
  | .iload k => match real with
    | .iload_n f => f.val == k && len == 1
    | .iload k' => k' == k && len == 2
    | _ => false
  | .lload k => match real with
    | .lload_n f => f.val == k && len == 1
    | .lload k' => k' == k && len == 2
    | _ => false
  | .astore k => match real with
    | .astore_n f => f.val == k && len == 1
    | .astore k' => k' == k && len == 2
    | _ => false
  | .istore k => match real with
    | .istore_n f => f.val == k && len == 1
    | .istore k' => k' == k && len == 2
    | _ => false
  | .lstore k => match real with
    | .lstore_n f => f.val == k && len == 1
    | .lstore k' => k' == k && len == 2
    | _ => false
  | .iinc k v => match real with
    | .iinc k' v' => k' == k && (decide (v' = v) && len == 3)
    | _ => false
  | .iconst v => match real with
    | .iconst w => decide (w = v) && len == 1
    | .bipush w => decide ((Int8.ofInt w).toInt32 = Int32.ofInt v) && len == 2
    | .sipush w => decide ((Int16.ofInt w).toInt32 = Int32.ofInt v) && len == 3
    | .ldc k => qIT.elem (own, k, v) && len == 2
    | .ldc_w k => qIT.elem (own, k, v) && len == 3
    | _ => false
  | .jsr v => match real with
    | .lconst n => decide (Int64.ofNat n = Int64.ofInt v) && len == 1
    | .ldc2_w k => qJT.elem (own, k, v) && len == 3
    | _ => false
  | .ldc _ => match real with
    | .ldc k => own == 2 && (k == 23 && len == 2)
    | _ => false
  | .getfield f => match real with
    | .getfield k => (qFT.elem (own, k, f) || qNT.elem (own, k, f)) && len == 3
    | _ => false
  | .putfield f => match real with
    | .putfield k => (qFT.elem (own, k, f) || qNT.elem (own, k, f)) && len == 3
    | _ => false
  | .getstatic _ => match real with
    | .getstatic k => qST.elem (own, k) && len == 3
    | _ => false
  | .goto t => match real with
    | .goto o => qtg pcs pc o t && len == 3
    | _ => false
  | .ifCond c t => match real with
    | .ifCond c' o => decide (c' = c) && (qtg pcs pc o t && len == 3)
    | _ => false
  | .if_icmp c t => match real with
    | .if_icmp c' o => decide (c' = c) && (qtg pcs pc o t && len == 3)
    | _ => false
  | .lookupswitch d ps => match real with
    | .tableswitch d' lo hi offs => qtg pcs pc d' d && (decide (hi + 1 = lo + (offs.toList.length : Int)) && qtb pcs pc lo offs.toList ps.toList)
    | .lookupswitch d' ps' => qtg pcs pc d' d && ((ps'.toList.zip (ps'.toList.drop 1)).all (fun (a, next) => a.1 < next.1) && qlb pcs pc ps'.toList ps.toList)
    | _ => false
  | .invokestatic f => match real with
    | .invokestatic k => qMT.elem (own, k, f / 16) && (Nat.blt (f / 16) 136 && (qstL.getD (f / 16) false == true && (qarL.getD (f / 16) 0 == f % 16 && len == 3)))
    | _ => false
  | .invokevirtual f => match real with
    | .invokevirtual k => qMT.elem (own, k, f / 256) && (Nat.blt (f / 256) 136 && (qstL.getD (f / 256) true == false && (qarL.getD (f / 256) 0 + 1 == f / 16 % 16 && (decide ((qyL.getD (f / 256) yL_law).cls = (vwCl.getD (f % 16) (RJ0, TX0, 0)).1) && len == 3))))
    | _ => false
  | .fadd => match real with
    | .invokestatic k => qMT.elem (own, k, 136) && len == 3
    | _ => false
  | .fsub => match real with
    | .invokestatic k => qMT.elem (own, k, 137) && len == 3
    | _ => false
  | .nop => true
  | a => qone a && (decide (real = a) && len == 1)
def qend (a : Instr) : Bool := match a with
  | .ireturn | .lreturn | .return_ | .goto _ | .nop => true
  | _ => false
def qchk (b : ByteArray) (own : Nat) (pcs : List Nat) : List (Nat × Instr × Nat) → List Instr → Bool
  | [], [] => true
  | (pc, ins, len) :: R, a :: C => decide (decode b pc = .ok (ins, len)) && ((match R with
      | [] => qend a
      | q :: _ => q.1 == pc + len) && (qmatch own pcs pc len ins a && qchk b own pcs R C))
  | _, _ => false
