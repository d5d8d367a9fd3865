/-! A machine of one's own, pure: memory by address and slot; what it answers is what the real one does (05). -/
/-- shapes (class or kind, length) by address; ints, longs, references by address and slot; the next address; the slots made so far -/
abbrev Mm : Type := (Nat → Nat × Nat) × (Nat → Nat → Int32) × (Nat → Nat → Int64) × (Nat → Nat → Option Nat) × Nat × Nat
def mT (M : Mm) (a : Nat) : Nat := (M.1 a).1
def mS (M : Mm) (a : Nat) : Nat := (M.1 a).2
def mI (M : Mm) : Nat → Nat → Int32 := M.2.1
def mL (M : Mm) : Nat → Nat → Int64 := M.2.2.1
def mR (M : Mm) : Nat → Nat → Option Nat := M.2.2.2.1
def mN (M : Mm) : Nat := M.2.2.2.2.1
def mU (M : Mm) : Nat := M.2.2.2.2.2
def up2 {α : Type} (f : Nat → Nat → α) (a k : Nat) (x : α) : Nat → Nat → α := fun b j => if b = a ∧ j = k then x else f b j
def sI (M : Mm) (a k : Nat) (x : Int32) : Mm := (M.1, up2 M.2.1 a k x, M.2.2)
def sL (M : Mm) (a k : Nat) (x : Int64) : Mm := (M.1, M.2.1, up2 M.2.2.1 a k x, M.2.2.2)
def sR (M : Mm) (a k : Nat) (x : Option Nat) : Mm := (M.1, M.2.1, M.2.2.1, up2 M.2.2.2.1 a k x, M.2.2.2.2)
def cp2 {α : Type} (f : Nat → Nat → α) (a sp b dp n : Nat) : Nat → Nat → α := fun c k => if c = b ∧ dp ≤ k ∧ k < dp + n then f a (sp + (k - dp)) else f c k
def cI (M : Mm) (a sp b dp n : Nat) : Mm := (M.1, cp2 M.2.1 a sp b dp n, M.2.2)
def cL (M : Mm) (a sp b dp n : Nat) : Mm := (M.1, M.2.1, cp2 M.2.2.1 a sp b dp n, M.2.2.2)
/-- a new cell -/
def nC (M : Mm) (t n : Nat) : Mm := (fun a => if a = M.2.2.2.2.1 then (t, n) else M.1 a, fun a k => if a = M.2.2.2.2.1 then 0 else M.2.1 a k, fun a k => if a = M.2.2.2.2.1 then 0 else M.2.2.1 a k, fun a k => if a = M.2.2.2.2.1 then none else M.2.2.2.1 a k, M.2.2.2.2.1 + 1, M.2.2.2.2.2 + n)
def lget : List Value → Nat → Option Value
  | [], _ => none
  | v :: _, 0 => some v
  | _ :: t, n + 1 => lget t n
def lset : List Value → Nat → Value → List Value
  | [], _, _ => []
  | _ :: t, 0, v => v :: t
  | a :: t, n + 1, v => a :: lset t n v
def isLg : Option Value → Bool
  | some (.long _) => true
  | some (.double _) => true
  | _ => false
/-- a place that an int or a reference may be put in -/
def okst (ls : List Value) : Nat → Bool
  | 0 => (lget ls 0).isSome
  | n + 1 => (lget ls (n + 1)).isSome && !isLg (lget ls n)
abbrev PR : Type := Option (Nat × List Value × List Value)
def ldI (nx : Nat) (ls st : List Value) (i : Nat) : PR := match lget ls i with
  | some (.int v) => some (nx, ls, .int v :: st)
  | _ => none
def ldL (nx : Nat) (ls st : List Value) (i : Nat) : PR := match lget ls i with
  | some (.long v) => some (nx, ls, .long v :: st)
  | _ => none
def ldA (nx : Nat) (ls st : List Value) (i : Nat) : PR := match lget ls i with
  | some (.ref v) => some (nx, ls, .ref v :: st)
  | some .null => some (nx, ls, .null :: st)
  | _ => none
def stI (nx : Nat) (ls st : List Value) (i : Nat) : PR := match st with
  | .int v :: r => bif okst ls i then some (nx, lset ls i (.int v), r) else none
  | _ => none
def stA (nx : Nat) (ls st : List Value) (i : Nat) : PR := match st with
  | .ref v :: r => bif okst ls i then some (nx, lset ls i (.ref v), r) else none
  | .null :: r => bif okst ls i then some (nx, lset ls i .null, r) else none
  | _ => none
def incI (nx : Nat) (ls st : List Value) (i : Nat) (v : Value) : PR := match v, lget ls i with
  | .int c, some (.int x) => bif okst ls i then some (nx, lset ls i (.int (x + c)), st) else none
  | _, _ => none
def op2 (nx : Nat) (ls st : List Value) (f : Int32 → Int32 → Int32) : PR := match st with
  | .int y :: .int x :: r => some (nx, ls, .int (f x y) :: r)
  | _ => none
def op1 (nx : Nat) (ls st : List Value) (f : Int32 → Int32) : PR := match st with
  | .int x :: r => some (nx, ls, .int (f x) :: r)
  | _ => none
def op2L (nx : Nat) (ls st : List Value) (f : Int64 → Int64 → Int64) : PR := match st with
  | .long y :: .long x :: r => some (nx, ls, .long (f x y) :: r)
  | _ => none
def opAdd (nx : Nat) (ls st : List Value) : PR := match st with
  | .int y :: .int x :: r => some (nx, ls, .int (x + y) :: r)
  | _ => none
theorem opAdd_eq (nx : Nat) (ls st : List Value) : opAdd nx ls st = op2 nx ls st (fun a b => a + b) := by
  unfold opAdd op2
  split <;> rfl
def opSub (nx : Nat) (ls st : List Value) : PR := match st with
  | .int y :: .int x :: r => some (nx, ls, .int (x - y) :: r)
  | _ => none
theorem opSub_eq (nx : Nat) (ls st : List Value) : opSub nx ls st = op2 nx ls st (fun a b => a - b) := by
  unfold opSub op2
  split <;> rfl
def opMul (nx : Nat) (ls st : List Value) : PR := match st with
  | .int y :: .int x :: r => some (nx, ls, .int (x * y) :: r)
  | _ => none
theorem opMul_eq (nx : Nat) (ls st : List Value) : opMul nx ls st = op2 nx ls st (fun a b => a * b) := by
  unfold opMul op2
  split <;> rfl
def opAnd (nx : Nat) (ls st : List Value) : PR := match st with
  | .int y :: .int x :: r => some (nx, ls, .int (x &&& y) :: r)
  | _ => none
theorem opAnd_eq (nx : Nat) (ls st : List Value) : opAnd nx ls st = op2 nx ls st (fun a b => a &&& b) := by
  unfold opAnd op2
  split <;> rfl
def opOr (nx : Nat) (ls st : List Value) : PR := match st with
  | .int y :: .int x :: r => some (nx, ls, .int (x ||| y) :: r)
  | _ => none
theorem opOr_eq (nx : Nat) (ls st : List Value) : opOr nx ls st = op2 nx ls st (fun a b => a ||| b) := by
  unfold opOr op2
  split <;> rfl
def opXor (nx : Nat) (ls st : List Value) : PR := match st with
  | .int y :: .int x :: r => some (nx, ls, .int (x ^^^ y) :: r)
  | _ => none
theorem opXor_eq (nx : Nat) (ls st : List Value) : opXor nx ls st = op2 nx ls st (fun a b => a ^^^ b) := by
  unfold opXor op2
  split <;> rfl
def opIShl (nx : Nat) (ls st : List Value) : PR := match st with
  | .int y :: .int x :: r => some (nx, ls, .int (x <<< (y &&& 31)) :: r)
  | _ => none
theorem opIShl_eq (nx : Nat) (ls st : List Value) : opIShl nx ls st = op2 nx ls st (fun a b => a <<< (b &&& 31)) := by
  unfold opIShl op2
  split <;> rfl
def opIShr (nx : Nat) (ls st : List Value) : PR := match st with
  | .int y :: .int x :: r => some (nx, ls, .int (x >>> (y &&& 31)) :: r)
  | _ => none
theorem opIShr_eq (nx : Nat) (ls st : List Value) : opIShr nx ls st = op2 nx ls st (fun a b => a >>> (b &&& 31)) := by
  unfold opIShr op2
  split <;> rfl
def opIUshr (nx : Nat) (ls st : List Value) : PR := match st with
  | .int y :: .int x :: r => some (nx, ls, .int ((x.toUInt32 >>> (y.toUInt32 &&& Int32.toUInt32 31)).toInt32) :: r)
  | _ => none
theorem opIUshr_eq (nx : Nat) (ls st : List Value) : opIUshr nx ls st = op2 nx ls st (fun a b => (a.toUInt32 >>> (b.toUInt32 &&& Int32.toUInt32 31)).toInt32) := by
  unfold opIUshr op2
  split <;> rfl
def opNeg (nx : Nat) (ls st : List Value) : PR := match st with
  | .int x :: r => some (nx, ls, .int (-x) :: r)
  | _ => none
theorem opNeg_eq (nx : Nat) (ls st : List Value) : opNeg nx ls st = op1 nx ls st (fun a => -a) := by
  unfold opNeg op1
  split <;> rfl
def opI2b (nx : Nat) (ls st : List Value) : PR := match st with
  | .int x :: r => some (nx, ls, .int (x.toInt8.toInt32) :: r)
  | _ => none
theorem opI2b_eq (nx : Nat) (ls st : List Value) : opI2b nx ls st = op1 nx ls st (fun a => a.toInt8.toInt32) := by
  unfold opI2b op1
  split <;> rfl
def opI2s (nx : Nat) (ls st : List Value) : PR := match st with
  | .int x :: r => some (nx, ls, .int (x.toInt16.toInt32) :: r)
  | _ => none
theorem opI2s_eq (nx : Nat) (ls st : List Value) : opI2s nx ls st = op1 nx ls st (fun a => a.toInt16.toInt32) := by
  unfold opI2s op1
  split <;> rfl
def opLand (nx : Nat) (ls st : List Value) : PR := match st with
  | .long y :: .long x :: r => some (nx, ls, .long (x &&& y) :: r)
  | _ => none
theorem opLand_eq (nx : Nat) (ls st : List Value) : opLand nx ls st = op2L nx ls st (fun a b => a &&& b) := by
  unfold opLand op2L
  split <;> rfl
def opLor (nx : Nat) (ls st : List Value) : PR := match st with
  | .long y :: .long x :: r => some (nx, ls, .long (x ||| y) :: r)
  | _ => none
theorem opLor_eq (nx : Nat) (ls st : List Value) : opLor nx ls st = op2L nx ls st (fun a b => a ||| b) := by
  unfold opLor op2L
  split <;> rfl
def opCmp (nx : Nat) (ls st : List Value) : PR := match st with
  | .long y :: .long x :: r => some (nx, ls, .int (lg_cmp x y) :: r)
  | _ => none
def opShl (nx : Nat) (ls st : List Value) : PR := match st with
  | .int y :: .long x :: r => some (nx, ls, .long (x <<< (y.toInt64 &&& 63)) :: r)
  | _ => none
def opI2L (nx : Nat) (ls st : List Value) : PR := match st with
  | .int x :: r => some (nx, ls, .long x.toInt64 :: r)
  | _ => none
def opL2I (nx : Nat) (ls st : List Value) : PR := match st with
  | .long x :: r => some (nx, ls, .int x.toInt32 :: r)
  | _ => none
def c1 : Value → Bool
  | .int _ => true
  | .ref _ => true
  | .null => true
  | _ => false
def opDup (nx : Nat) (ls st : List Value) : PR := match st with
  | v :: r => bif c1 v then some (nx, ls, v :: v :: r) else none
  | _ => none
def opDup2 (nx : Nat) (ls st : List Value) : PR := match st with
  | v :: w :: r => bif c1 v && c1 w then some (nx, ls, v :: w :: v :: w :: r) else none
  | _ => none
def opPop (nx : Nat) (ls st : List Value) : PR := match st with
  | v :: r => bif c1 v then some (nx, ls, r) else none
  | _ => none
/-- a step that touches neither memory nor another method and doesn't branch -/
def ps (e : En) (ls st : List Value) : PR := match e with
  | (i, nx, tg, x, _, v) => match i with
    | .aconst_null => some (nx, ls, .null :: st)
    | .iconst _ => some (nx, ls, v :: st)
    | .bipush _ => some (nx, ls, v :: st)
    | .sipush _ => some (nx, ls, v :: st)
    | .lconst _ => some (nx, ls, v :: st)
    | .ldc _ => some (nx, ls, v :: st)
    | .ldc_w _ => some (nx, ls, v :: st)
    | .ldc2_w _ => some (nx, ls, v :: st)
    | .iload _ => ldI nx ls st x
    | .iload_n _ => ldI nx ls st x
    | .lload _ => ldL nx ls st x
    | .lload_n _ => ldL nx ls st x
    | .aload _ => ldA nx ls st x
    | .aload_n _ => ldA nx ls st x
    | .istore _ => stI nx ls st x
    | .istore_n _ => stI nx ls st x
    | .astore _ => stA nx ls st x
    | .astore_n _ => stA nx ls st x
    | .iinc _ _ => incI nx ls st x v
    | .iadd => opAdd nx ls st
    | .isub => opSub nx ls st
    | .imul => opMul nx ls st
    | .iand => opAnd nx ls st
    | .ior => opOr nx ls st
    | .ixor => opXor nx ls st
    | .ishl => opIShl nx ls st
    | .ishr => opIShr nx ls st
    | .iushr => opIUshr nx ls st
    | .ineg => opNeg nx ls st
    | .i2b => opI2b nx ls st
    | .i2s => opI2s nx ls st
    | .i2l => opI2L nx ls st
    | .l2i => opL2I nx ls st
    | .land => opLand nx ls st
    | .lor => opLor nx ls st
    | .lshl => opShl nx ls st
    | .lcmp => opCmp nx ls st
    | .dup => opDup nx ls st
    | .dup2 => opDup2 nx ls st
    | .pop => opPop nx ls st
    | .goto _ => some (tg, ls, st)
    | _ => none
def icmp (c : Jvm.ClassFile.Cond) (x y : Int32) : Bool := match c with
  | .eq => decide (x = y)
  | .ne => !decide (x = y)
  | .lt => decide (x < y)
  | .ge => decide (y ≤ x)
  | .gt => decide (y < x)
  | .le => decide (x ≤ y)
def br (e : En) (st : List Value) : Option (Bool × List Value) := match e with
  | (i, _) => match i with
    | .if_icmp c _ => match st with
      | .int y :: .int x :: r => some (icmp c x y, r)
      | _ => none
    | .ifCond c _ => match st with
      | .int x :: r => some (icmp c x 0, r)
      | _ => none
    | .ifnull _ => match st with
      | .null :: r => some (true, r)
      | .ref _ :: r => some (false, r)
      | _ => none
    | .ifnonnull _ => match st with
      | .null :: r => some (false, r)
      | .ref _ :: r => some (true, r)
      | _ => none
    | _ => none
def swt (pc : Nat) (d lo hi : Int) (offs : Array Int) (x : Int32) : Nat := if x.toInt < lo ∨ hi < x.toInt then ((pc : Int) + d).toNat else ((pc : Int) + offs.getD (x.toInt - lo).toNat 0).toNat
def sw (pc : Nat) (e : En) (st : List Value) : Option (Nat × List Value) := match e with
  | (i, _) => match i with
    | .tableswitch d lo hi offs => match st with
      | .int x :: r => some (swt pc d lo hi offs x, r)
      | _ => none
    | _ => none
abbrev MR : Type := Option (List Value × Mm)
def gF (M : Mm) (x y : Nat) (v : Value) (st : List Value) : MR := match st with
  | .ref a :: r => if mT M a = x then some ((match v with
    | .int _ => .int (mI M a y)
    | _ => va_rf (mR M a y)) :: r, M) else none
  | _ => none
def pF (M : Mm) (x y : Nat) (v : Value) (st : List Value) : MR := match v with
  | .int k => match st with
    | .int z :: .ref a :: r => if mT M a = x ∧ (k = 0 ∨ z = 0 ∨ z = 1) then some (r, sI M a y z) else none
    | _ => none
  | _ => match st with
    | .ref b :: .ref a :: r => if mT M a = x then some (r, sR M a y (some b)) else none
    | .null :: .ref a :: r => if mT M a = x then some (r, sR M a y none) else none
    | _ => none
def iLd (M : Mm) (st : List Value) : MR := match st with
  | .int j :: .ref a :: r => if (mT M a = 20 ∨ mT M a = 19) ∧ ¬ (j < 0 ∨ mS M a ≤ j.toNatClampNeg) then some (.int (mI M a j.toNatClampNeg) :: r, M) else none
  | _ => none
def lLd (M : Mm) (st : List Value) : MR := match st with
  | .int j :: .ref a :: r => if mT M a = 21 ∧ ¬ (j < 0 ∨ mS M a ≤ j.toNatClampNeg) then some (.long (mL M a j.toNatClampNeg) :: r, M) else none
  | _ => none
def rLd (M : Mm) (st : List Value) : MR := match st with
  | .int j :: .ref a :: r => if aR (mT M a) = true ∧ ¬ (j < 0 ∨ mS M a ≤ j.toNatClampNeg) then some (va_rf (mR M a j.toNatClampNeg) :: r, M) else none
  | _ => none
def aSt (M : Mm) (st : List Value) : MR := match st with
  | .int z :: .int j :: .ref a :: r => if mT M a = 20 ∧ ¬ (j < 0 ∨ mS M a ≤ j.toNatClampNeg) then some (r, sI M a j.toNatClampNeg z) else none
  | _ => none
def lSt (M : Mm) (st : List Value) : MR := match st with
  | .long z :: .int j :: .ref a :: r => if mT M a = 21 ∧ ¬ (j < 0 ∨ mS M a ≤ j.toNatClampNeg) then some (r, sL M a j.toNatClampNeg z) else none
  | _ => none
def rSt (M : Mm) (st : List Value) : MR := match st with
  | .ref b :: .int j :: .ref a :: r => if aR (mT M a) = true ∧ mT M b + 22 = mT M a ∧ ¬ (j < 0 ∨ mS M a ≤ j.toNatClampNeg) then some (r, sR M a j.toNatClampNeg (some b)) else none
  | _ => none
def aLen (M : Mm) (st : List Value) : MR := match st with
  | .ref a :: r => if mT M a = 19 ∨ mT M a = 20 ∨ mT M a = 21 ∨ aR (mT M a) = true then some (.int (nI (mS M a)) :: r, M) else none
  | _ => none
def nwA (M : Mm) (t : Nat) (st : List Value) : MR := match st with
  | .int n :: r => if ¬ n < 0 ∧ n.toNatClampNeg ≤ 1000000 then some (.ref (mN M) :: r, nC M t n.toNatClampNeg) else none
  | _ => none
def rem2 (M : Mm) (st : List Value) : MR := match st with
  | .int y :: .int x :: r => if ¬ y = 0 then some (.int (x - x / y * y) :: r, M) else none
  | _ => none
def oIn (M : Mm) (st : List Value) : MR := match st with
  | .ref _ :: r => bif Nat.ble ((r.map fun v => v.category).sum) 8 then some (r, M) else none
  | _ => none
def aCp (M : Mm) (st : List Value) : MR := match st with
  | .int n :: .int dp :: .ref b :: .int sp :: .ref a :: r =>
    if ¬ sp < 0 ∧ ¬ dp < 0 ∧ ¬ n < 0 ∧ sp.toNatClampNeg + n.toNatClampNeg ≤ mS M a ∧ dp.toNatClampNeg + n.toNatClampNeg ≤ mS M b ∧ mT M a = mT M b ∧ (r.map fun v => v.category).sum ≤ 8 then
      (if mT M b = 20 then some (r, cI M a sp.toNatClampNeg b dp.toNatClampNeg n.toNatClampNeg) else if mT M b = 21 then some (r, cL M a sp.toNatClampNeg b dp.toNatClampNeg n.toNatClampNeg) else none) else none
  | _ => none
def mm2 (M : Mm) (x : Nat) (st : List Value) : MR := match st with
  | .int b :: .int a :: r => bif Nat.ble ((r.map fun v => v.category).sum) 8 then some (.int (if x = 902 then (if a < b then b else a) else (if b < a then b else a)) :: r, M) else none
  | _ => none
/-- a step in memory -/
def ms (E : Nat × Nat) (e : En) (st : List Value) (M : Mm) : MR := match e with
  | (i, _, _, x, y, v) => match i with
    | .getfield _ => gF M x y v st
    | .putfield _ => pF M x y v st
    | .getstatic _ => some (.ref (bif Nat.beq x 0 then E.1 else E.2) :: st, M)
    | .arraylength => aLen M st
    | .iaload => iLd M st
    | .laload => lLd M st
    | .aaload => rLd M st
    | .iastore => aSt M st
    | .lastore => lSt M st
    | .aastore => rSt M st
    | .new _ => some (.ref (mN M) :: st, nC M x y)
    | .newarray _ => nwA M x st
    | .anewarray _ => nwA M x st
    | .irem => rem2 M st
    | .invokespecial _ => oIn M st
    | .invokestatic _ => bif Nat.beq x 901 then aCp M st else mm2 M x st
    | _ => none
def spl : Nat → List Value → List Value → Option (List Value × List Value)
  | 0, as, st => some (as, st)
  | n + 1, as, v :: st => spl n (v :: as) st
  | _ + 1, _, [] => none
def pad : Nat → List Value → List Value
  | 0, _ => []
  | n + 1, [] => U0 :: pad n []
  | n + 1, a :: t => a :: pad n t
def xp : List Value → List Value
  | [] => []
  | .long x :: t => .long x :: U0 :: xp t
  | .double x :: t => .double x :: U0 :: xp t
  | a :: t => a :: xp t
/-- a method's first locals -/
def mkL (mj : Nat) (as : List Value) : List Value := pad (mt mj).2.2.1 (xp as)
def rcv (M : Mm) (mj : Nat) (i : Instr) (as : List Value) : Bool := match i with
  | .invokevirtual _ => match as with
    | .ref a :: _ => decide (mT M a = (mt mj).1)
    | _ => false
  | .invokespecial _ => match as with
    | .ref _ :: _ => true
    | _ => false
  | _ => true
/-- a call: the method, its arguments, what stays on the stack -/
def cs (mi : Nat) (e : En) (st : List Value) : Option (Nat × List Value × List Value) :=
  bif Nat.blt (mt e.2.2.2.1).2.2.2.1 (mt mi).2.2.2.1 then
    match spl (mt e.2.2.2.1).2.1 [] st with
    | some (as, r) => bif Nat.ble ((r.map fun v => v.category).sum) 8 && Nat.ble (xp as).length (mt e.2.2.2.1).2.2.1 then some (e.2.2.2.1, as, r) else none
    | none => none
  else none
def rs (e : En) (st : List Value) : Option (Option Value) := match e with
  | (i, _, _, _, y, _) => match i with
    | .ireturn => match st with
      | [.int v] => if y = 0 ∨ v = 0 ∨ v = 1 then some (some (.int v)) else none
      | _ => none
    | .lreturn => match st with
      | [.long v] => some (some (.long v))
      | _ => none
    | .areturn => match st with
      | [.ref v] => some (some (.ref v))
      | [.null] => some (some .null)
      | _ => none
    | .return_ => match st with
      | [] => some none
      | _ => none
    | _ => none
/-- which kind of step: 0 alone, 1 a branch, 2 a switch, 3 in memory, 4 a call, 5 a return -/
def kd (e : En) : Nat := match e with
  | (i, _, _, x, _, _) => match i with
    | .if_icmp _ _ => 1
    | .ifCond _ _ => 1
    | .ifnull _ => 1
    | .ifnonnull _ => 1
    | .tableswitch _ _ _ _ => 2
    | .getfield _ => 3
    | .putfield _ => 3
    | .getstatic _ => 3
    | .arraylength => 3
    | .iaload => 3
    | .laload => 3
    | .aaload => 3
    | .iastore => 3
    | .lastore => 3
    | .aastore => 3
    | .new _ => 3
    | .newarray _ => 3
    | .anewarray _ => 3
    | .irem => 3
    | .invokespecial _ => bif Nat.ble 900 x then 3 else 4
    | .invokestatic _ => bif Nat.ble 900 x then 3 else 4
    | .invokevirtual _ => 4
    | .ireturn => 5
    | .lreturn => 5
    | .areturn => 5
    | .return_ => 5
    | _ => 0
def ev (E : Nat × Nat) : Nat → Nat → Nat → List Value → List Value → Mm → Option (Option Value × Mm)
  | 0, _, _, _, _, _ => none
  | n + 1, mi, pc, ls, st, M => match tb mi pc with
    | none => none
    | some e => match kd e with
      | 0 => match ps e ls st with
        | some (pc', ls', st') => ev E n mi pc' ls' st' M
        | none => none
      | 1 => match br e st with
        | some (b, r) => ev E n mi (bif b then e.2.2.1 else e.2.1) ls r M
        | none => none
      | 2 => match sw pc e st with
        | some (pc', r) => ev E n mi pc' ls r M
        | none => none
      | 3 => match ms E e st M with
        | some (st', M') => ev E n mi e.2.1 ls st' M'
        | none => none
      | 4 => match cs mi e st with
        | some (mj, as, r) => bif rcv M mj e.1 as then
          match ev E n mj 0 (mkL mj as) [] M with
            | some (v, M') => ev E n mi e.2.1 ls (v.toList ++ r) M'
            | none => none
          else none
        | none => none
      | _ => match rs e st with
        | some v => some (v, M)
        | none => none
