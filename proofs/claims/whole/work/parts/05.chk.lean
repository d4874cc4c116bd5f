/-! ===== the code is what the small machine's rows say: decided by the kernel, method by method ===== -/
def zw (p : Nat) (w : Jvm.Cond) : Bool := decide (lw_tbl[p]? = some w)
def zcnd (c : Jvm.ClassFile.Cond) : Nat := match c with
  | .eq => 0
  | .ne => 1
  | .lt => 2
  | .ge => 3
  | .gt => 4
  | .le => 5
def zok1 (y op : Nat) (a : Int) (b nx pc : Nat) (ins : Instr) (len : Nat) : Bool := decide (nx = pc + len) && match op, ins with
  | 0, .iconst n => decide (Int32.ofInt n = Int32.ofInt a ∧ len = 1 ∧ rgI a)
  | 0, .bipush n => decide ((Int8.ofInt n).toInt32 = Int32.ofInt a ∧ len = 2 ∧ rgI a)
  | 0, .sipush n => decide ((Int16.ofInt n).toInt32 = Int32.ofInt a ∧ len = 3 ∧ rgI a)
  | 41, .ldc i => decide (len = 2 ∧ rgI a) && zco.any (fun q => decide (q.1 = zO y ∧ q.2.1 = i ∧ q.2.2.1 = a))
  | 41, .ldc_w i => decide (len = 3 ∧ rgI a) && zco.any (fun q => decide (q.1 = zO y ∧ q.2.1 = i ∧ q.2.2.1 = a))
  | 38, .lconst n => decide (Int64.ofNat (n : Nat) = Int64.ofInt a ∧ len = 1 ∧ rgI a)
  | 33, .aconst_null => decide (len = 1)
  | 1, .iload_n k => decide ((k : Nat) = b ∧ len = 1)
  | 1, .iload k => decide (k = b ∧ len = 2)
  | 42, .aload_n k => decide ((k : Nat) = b ∧ len = 1)
  | 42, .aload k => decide (k = b ∧ len = 2)
  | 2, .istore_n k => decide ((k : Nat) = b ∧ len = 1)
  | 2, .istore k => decide (k = b ∧ len = 2)
  | 43, .astore_n k => decide ((k : Nat) = b ∧ len = 1)
  | 43, .astore k => decide (k = b ∧ len = 2)
  | 3, .iinc k n => decide (k = b ∧ n = a ∧ len = 3)
  | 27, .dup => decide (len = 1)
  | 28, .dup2 => decide (len = 1)
  | 29, .pop => decide (len = 1)
  | 36, .i2l => decide (len = 1)
  | 37, .lcmp => decide (len = 1)
  | 40, .invokespecial i => decide (len = 3 ∧ 1 ≤ zFr y ∧ 20 ≤ zLo y) && (match zob[a.toNat]? with
    | some q => decide (q.1 = zO y ∧ q.2.1 = i)
    | none => false)
  | _, _ => false
def zok2 (y op b c nx pc : Nat) (ins : Instr) (len : Nat) : Bool := match op, ins with
  | 12, .ifCond k o => decide (zcnd k = b ∧ (pc : Int) + o = (zPc y c : Int) ∧ len = 3 ∧ nx = pc + 3)
  | 13, .if_icmp k o => decide (zcnd k = b ∧ (pc : Int) + o = (zPc y c : Int) ∧ len = 3 ∧ nx = pc + 3)
  | 14, .goto o => decide ((pc : Int) + o = (zPc y c : Int) ∧ len = 3)
  | 15, .tableswitch d lo hi os => decide ((pc : Int) + d = (zPc y c : Int) ∧ lo = 0 ∧ hi + 1 = ((zsw.getD b []).length : Int) ∧ os.toList.map (fun o => (pc : Int) + o) = (zsw.getD b []).map (fun t => (zPc y t : Int)))
  | 34, .ifnull o => decide ((pc : Int) + o = (zPc y c : Int) ∧ len = 3 ∧ nx = pc + 3)
  | 35, .ifnonnull o => decide ((pc : Int) + o = (zPc y c : Int) ∧ len = 3 ∧ nx = pc + 3)
  | _, _ => false
def zat (t : ArrayType) : Nat := match t with
  | .int => 0
  | .boolean => 1
  | .long => 2
  | _ => 9
def zok3 (y op : Nat) (a : Int) (b c nx pc : Nat) (ins : Instr) (len : Nat) : Bool := decide (nx = pc + len) && match op, ins with
  | 16, .getfield i => decide (len = 3 ∧ b < 12 ∧ c < zNF b) && (match zfl[a.toNat]? with
    | some q => decide (q.1 = zO y ∧ q.2.1 = i ∧ q.2.2.1 = b ∧ q.2.2.2.1 = c)
    | none => false)
  | 17, .putfield i => decide (len = 3 ∧ b < 12 ∧ c < zNF b ∧ ((zTT b c).2.2.2 = false ∨ zKd y = 2 ∧ (zTT b c).1 = zcn (zO y))) && (match zfl[a.toNat]? with
    | some q => decide (q.1 = zO y ∧ q.2.1 = i ∧ q.2.2.1 = b ∧ q.2.2.2.1 = c)
    | none => false)
  | 19, .new i => decide (len = 3 ∧ b < 12) && (match znw[a.toNat]? with
    | some q => decide (q.1 = zO y ∧ q.2.1 = i ∧ q.2.2.1 = b)
    | none => false)
  | 20, .newarray t => decide (len = 2 ∧ b < 3 ∧ zat t = b)
  | 21, .anewarray i => decide (len = 3 ∧ (b = 3 ∨ b = 4)) && (match zan[a.toNat]? with
    | some q => decide (q.1 = zO y ∧ q.2.1 = i ∧ q.2.2.1 = b)
    | none => false)
  | 22, .arraylength => decide (len = 1)
  | 23, .iaload => decide (len = 1 ∧ b = 0)
  | 23, .baload => decide (len = 1 ∧ b = 1)
  | 23, .laload => decide (len = 1 ∧ b = 2)
  | 24, .iastore => decide (len = 1 ∧ b = 0)
  | 24, .bastore => decide (len = 1 ∧ b = 1)
  | 24, .lastore => decide (len = 1 ∧ b = 2)
  | 25, .aaload => decide (len = 1)
  | 26, .aastore => decide (len = 1)
  | _, _ => false
def zok4 (y op b c pc : Nat) (ins : Instr) (len : Nat) : Bool := match op, ins with
  | 30, .ireturn => decide (len = 1 ∧ (zRs y = 0 ∧ zR y = some .int ∨ zRs y = 1 ∧ zR y = some .boolean))
  | 39, .areturn => decide (len = 1) && (match zR y with
    | some (.object _) => true
    | _ => false)
  | 31, .return_ => decide (len = 1 ∧ zR y = none)
  | 32, .new ik => (match zth[c]? with
    | none => false
    | some (o, ik', is, ic, e, wd, _, _, _, _) => decide (o = zO y ∧ ik' = ik ∧ e = b ∧ zH y = [] ∧ 6 ≤ zFr y ∧ 90 ≤ zLo y ∧ decode (zB y) pc = .ok (.new ik, 3) ∧ decode (zB y) (pc + 3) = .ok (.dup, 1)) &&
      (if wd = 0 then decide (decode (zB y) (pc + 4) = .ok (.ldc is, 2) ∧ decode (zB y) (pc + 6) = .ok (.invokespecial ic, 3) ∧ decode (zB y) (pc + 9) = .ok (.athrow, 1))
       else decide (decode (zB y) (pc + 4) = .ok (.ldc_w is, 3) ∧ decode (zB y) (pc + 7) = .ok (.invokespecial ic, 3) ∧ decode (zB y) (pc + 10) = .ok (.athrow, 1))))
  | _, _ => false
def zok5 (op nx pc : Nat) (ins : Instr) (len : Nat) : Bool := decide (nx = pc + 1 ∧ len = 1) && match op, ins with
  | 4, .iadd => true
  | 5, .isub => true
  | 6, .imul => true
  | 7, .idiv => true
  | 8, .irem => true
  | 9, .ishr => true
  | 10, .iand => true
  | 11, .ior => true
  | _, _ => false
def zok0 (y : Nat) (a : Int) (b c nx pc : Nat) (ins : Instr) (len : Nat) : Bool := decide (nx = pc + 3 ∧ len = 3 ∧ zFr b + 1 ≤ zFr y ∧ 8 + (zL b + 11) + zLo b ≤ zLo y ∧ b < 315) && match c, ins with
  | 0, .invokevirtual i => decide (zKd b = 0) && (match zme[a.toNat]? with
    | some q => decide (q.1 = zO y ∧ q.2.1 = i ∧ q.2.2.1 = b ∧ q.2.2.2.1 = 0)
    | none => false)
  | 1, .invokestatic i => decide (zKd b = 1) && (match zme[a.toNat]? with
    | some q => decide (q.1 = zO y ∧ q.2.1 = i ∧ q.2.2.1 = b ∧ q.2.2.2.1 = 1)
    | none => false)
  | 2, .invokespecial i => decide (zKd b = 2) && (match zme[a.toNat]? with
    | some q => decide (q.1 = zO y ∧ q.2.1 = i ∧ q.2.2.1 = b ∧ q.2.2.2.1 = 2)
    | none => false)
  | 3, .invokespecial i => decide (zKd b = 2) && (match zme[a.toNat]? with
    | some q => decide (q.1 = zO y ∧ q.2.1 = i ∧ q.2.2.1 = b ∧ q.2.2.2.1 = 3)
    | none => false)
  | _, _ => false
def zokI (y ip : Nat) : Bool := match (zK y)[ip]? with
  | none => true
  | some v => match decode (zB y) (qpc v) with
    | .error _ => false
    | .ok (ins, len) => if qop v = 18 then zok0 y (qa v) (qb v) (qc v) (zPc y (ip + 1)) (qpc v) ins len else match zfam (qop v) with
      | 1 => zok1 y (qop v) (qa v) (qb v) (zPc y (ip + 1)) (qpc v) ins len
      | 2 => zok2 y (qop v) (qb v) (qc v) (zPc y (ip + 1)) (qpc v) ins len
      | 3 => zok3 y (qop v) (qa v) (qb v) (qc v) (zPc y (ip + 1)) (qpc v) ins len
      | 4 => zok4 y (qop v) (qb v) (qc v) (qpc v) ins len
      | 5 => zok5 (qop v) (zPc y (ip + 1)) (qpc v) ins len
      | _ => false
/-- what is said of a method: its words by their places, its descriptor -/
def zokM (y : Nat) : Bool := decide ((zY y).cls = zcn (zO y) ∧ plainName (zY y).cls = true ∧ (zY y).cls ≠ "java/lang/invoke/MethodHandle" ∧ (zY y).cls ≠ "java/lang/invoke/VarHandle" ∧ zPc y 0 = 0 ∧ zNa y ≤ zL y ∧ (zKd y = 1 ∨ 1 ≤ zNa y) ∧ zKd y ≤ 2) &&
  decide ((parseMethodDescriptor (zY y).desc).map (fun d => d.parameters.length) = some (zNa y - if zKd y = 1 then 0 else 1)) &&
  zw (zn y).2.2.2.2.2.1 (match zH y with
    | [] => .code (zY y) (zB y) (zL y) (zR y)
    | hh => .codeWith (zY y) (zB y) (zL y) (zR y) hh) &&
  zw (zn y).2.2.2.2.2.2.2.2.1 (.initialized (zY y).cls) &&
  (match zKd y with
    | 0 => zw (zn y).2.2.2.2.2.2.1 (.instanceMethod (zY y)) && zw (zn y).2.2.2.2.2.2.2.1 (.selects (zY y).cls (zY y) (zY y))
    | 1 => zw (zn y).2.2.2.2.2.2.1 (.static (zY y))
    | _ => zw (zn y).2.2.2.2.2.2.1 (.instanceMethod (zY y)) && decide ((zY y).name = "<init>") && decide (zR y = none)) && (decide (zKd y = 2) || decide ((zY y).name ≠ "<init>"))
