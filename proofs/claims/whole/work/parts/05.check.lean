/-- the kinds of rows of references that are there -/
def aR (t : Nat) : Bool := [23, 24, 25, 28, 29].contains t
abbrev U0 : Value := .retAddr 0
def ilen (i : Instr) : Nat := match i with
  | .bipush _ => 2
  | .iload _ => 2
  | .lload _ => 2
  | .aload _ => 2
  | .istore _ => 2
  | .astore _ => 2
  | .ldc _ => 2
  | .newarray _ => 2
  | .sipush _ => 3
  | .ldc_w _ => 3
  | .ldc2_w _ => 3
  | .iinc _ _ => 3
  | .goto _ => 3
  | .if_icmp _ _ => 3
  | .ifCond _ _ => 3
  | .ifnull _ => 3
  | .ifnonnull _ => 3
  | .getfield _ => 3
  | .putfield _ => 3
  | .getstatic _ => 3
  | .invokevirtual _ => 3
  | .invokestatic _ => 3
  | .invokespecial _ => 3
  | .new _ => 3
  | .anewarray _ => 3
  | _ => 1
def fnm (ci k : Nat) : String × String × String × Bool := (clT ci).2.1 k
/-- the kind of a field: an int, a boolean, a reference -/
def fkd (ci k : Nat) : Value := match parseFieldDescriptor (fnm ci k).2.2.1 with
  | some .int => .int 0
  | some .boolean => .int 1
  | some (.object _) => .null
  | some (.array _) => .null
  | _ => U0
def fOk (c idx ci k : Nat) (v : Value) : Bool := FLs.contains (c, idx, ci, k) && Nat.blt k (clT ci).2.2 && Nat.blt ci 12 && decide (fkd ci k = v) && decide (v ≠ U0)
def toff (pc : Nat) (off : Int) (tg : Nat) : Bool := decide ((pc : Int) + off = (tg : Int))
def rkp (mi : Nat) : Bool := Nat.blt 0 (mt mi).2.2.2.1
def chk1 (mi pc : Nat) (i : Instr) (tg x y : Nat) (v : Value) : Bool := match i with
  | .aconst_null => true
  | .iconst n => decide (v = .int (Int32.ofInt n))
  | .bipush n => decide (v = .int (Int8.ofInt n).toInt32)
  | .sipush n => decide (v = .int (Int16.ofInt n).toInt32)
  | .lconst n => decide (v = .long (Int64.ofNat n.val))
  | .ldc idx => match v with
    | .int c => KIs.contains ((mt mi).1, idx, c)
    | _ => false
  | .ldc_w idx => match v with
    | .int c => KIs.contains ((mt mi).1, idx, c)
    | _ => false
  | .ldc2_w idx => match v with
    | .long c => KLs.contains ((mt mi).1, idx, c)
    | _ => false
  | .iload k => Nat.beq x k
  | .lload k => Nat.beq x k
  | .aload k => Nat.beq x k
  | .istore k => Nat.beq x k
  | .astore k => Nat.beq x k
  | .iload_n k => Nat.beq x k.val
  | .lload_n k => Nat.beq x k.val
  | .aload_n k => Nat.beq x k.val
  | .istore_n k => Nat.beq x k.val
  | .astore_n k => Nat.beq x k.val
  | .iinc k n => Nat.beq x k && decide (v = .int (Int32.ofInt n))
  | .iadd => true
  | .isub => true
  | .imul => true
  | .iand => true
  | .ior => true
  | .ixor => true
  | .ishl => true
  | .ishr => true
  | .iushr => true
  | .ineg => true
  | .i2b => true
  | .i2s => true
  | .i2l => true
  | .l2i => true
  | .land => true
  | .lor => true
  | .lshl => true
  | .lcmp => true
  | .irem => true
  | .dup => true
  | .dup2 => true
  | .pop => true
  | .goto off => toff pc off tg
  | .if_icmp _ off => toff pc off tg
  | .ifCond _ off => toff pc off tg
  | .ifnull off => toff pc off tg
  | .ifnonnull off => toff pc off tg
  | .tableswitch d lo hi offs => decide (0 ≤ (pc : Int) + d) && offs.all (fun o => decide (0 ≤ (pc : Int) + o)) && decide ((offs.size : Int) = hi - lo + 1)
  | .getfield idx => fOk (mt mi).1 idx x y v
  | .putfield idx => fOk (mt mi).1 idx x y v && (!(fnm x y).2.2.2 || (decide ((my mi).name = "<init>") && decide ((fnm x y).1 = ownS (mt mi).1)))
  | .getstatic idx => (GSn.contains ((mt mi).1, idx, x) || GSp.contains ((mt mi).1, idx, x)) && Nat.blt x 2
  | .arraylength => true
  | .iaload => true
  | .laload => true
  | .aaload => true
  | .iastore => true
  | .lastore => true
  | .aastore => true
  | .new idx => CLs.contains ((mt mi).1, idx, x) && Nat.blt x 12 && Nat.beq y (clT x).2.2
  | .newarray a => match a with
    | .int => Nat.beq x 20
    | .long => Nat.beq x 21
    | _ => false
  | .anewarray idx => aR x && CLs.contains ((mt mi).1, idx, x - 22)
  | .invokevirtual idx => (MLs.contains ((mt mi).1, idx, x) || MNs.contains ((mt mi).1, idx, x)) && Nat.blt x 254 && vms.contains x && !(mt x).2.2.2.2.1 && Nat.blt (mt x).1 12
  | .invokestatic idx => ((Nat.beq x 901 || Nat.beq x 902 || Nat.beq x 903) && rkp mi && MLs.contains ((mt mi).1, idx, x)) || ((MLs.contains ((mt mi).1, idx, x) || MNs.contains ((mt mi).1, idx, x)) && Nat.blt x 254 && (mt x).2.2.2.2.1)
  | .invokespecial idx => (Nat.beq x 900 && rkp mi && MLs.contains ((mt mi).1, idx, x)) || ((MLs.contains ((mt mi).1, idx, x) || MNs.contains ((mt mi).1, idx, x)) && Nat.blt x 254 && !(mt x).2.2.2.2.1 && decide ((my x).name = "<init>") && decide (mr x = none))
  | .ireturn => (decide (mr mi = some .int) && Nat.beq y 0) || (decide (mr mi = some .boolean) && Nat.beq y 1)
  | .lreturn => decide (mr mi = some .long)
  | .areturn => match mr mi with
    | some (.object _) => true
    | some (.array _) => true
    | _ => false
  | .return_ => decide (mr mi = none)
  | _ => false
def isTS (i : Instr) : Bool := match i with
  | .tableswitch _ _ _ _ => true
  | _ => false
def chk (mi : Nat) (q : Nat × En) : Bool := match q with
  | (pc, i, nx, tg, x, y, v) => (bif isTS i then decide (decode (mc mi) pc = .ok (i, nx - pc)) else (decide (decode (mc mi) pc = .ok (i, ilen i)) && Nat.beq nx (pc + ilen i))) && chk1 mi pc i tg x y v
def okM (j : Nat) : Bool := decide ((my j).cls = ownS (mt j).1) && Nat.blt (mt j).1 14 && decide ((my j).cls ≠ "java/lang/invoke/MethodHandle") && decide ((my j).cls ≠ "java/lang/invoke/VarHandle") && decide ((parseMethodDescriptor (my j).desc).map (fun d => d.parameters.length + (bif (mt j).2.2.2.2.1 then 0 else 1)) = some (mt j).2.1) && plainName (my j).cls && Nat.ble (mt j).2.2.1 27
theorem okM_all : ∀ j, j < 255 → okM j = true := by decide +kernel
