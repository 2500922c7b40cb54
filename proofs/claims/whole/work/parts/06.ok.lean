/-! what the code tables must keep to: each row is what its bytes decode to -/
def ok_hp (t : List En) : Nat := match t with
  | [] => 0
  | e :: _ => e.1
def ok_1 (pc : Nat) (raw : Instr) (len npc : Nat) (r : Instr) : Bool := decide (raw = r) && len == 1 && npc == pc + 1
def ok_ss : List (Nat × Nat × Nat) := [(5, 7, 1000), (1, 7, 1001), (0, 7, 1002), (6, 7, 1003), (4, 7, 1004), (3, 7, 1005), (9, 35, 1006), (9, 44, 1007)]
def ok_ds (own i na : Nat) (ds : List Nat) : Bool := match ds with
  | [] => true
  | [_] => false
  | c :: y :: t => (decide ((own, i, c, y) ∈ lk_v) || lk_d.any (fun q => decide (q.1 = own) && decide (q.2.1 = i) && decide (q.2.2.1 = c) && decide (q.2.2.2.1 = y))) && na == sv_n y + 1 && decide (am_acc y = (0, 0)) && ok_ds own i na t
def ok_ty (ty : Nat) (t : FieldType) : Bool := match ty, t with
  | 0, .int => true
  | 1, .boolean => true
  | 2, .object _ => true
  | 2, .array _ => true
  | _, _ => false
def ok_in (own nL rt : Nat) (ini : Bool) (pc : Nat) (raw : Instr) (len npc : Nat) (r : Instr) (inf : List Nat) (v : Value) (cs : List (Int32 × Nat)) : Bool := match r with
  | .aconst_null => npc == pc + len && (match raw with
    | .iconst i => decide (v = .int (Int32.ofInt i)) && len == 1
    | .bipush i => decide (v = .int (Int8.ofInt i).toInt32) && len == 2
    | .sipush i => decide (v = .int (Int16.ofInt i).toInt32) && len == 3
    | .lconst i => decide (v = .long (Int64.ofNat (i : Nat))) && len == 1
    | .ldc i => len == 2 && (match v with
      | .int x => decide ((own, i, x) ∈ lk_k)
      | .ref a => decide ((own, i, a) ∈ ok_ss)
      | _ => false)
    | .ldc_w i => len == 3 && (match v with
      | .int x => decide ((own, i, x) ∈ lk_k)
      | _ => false)
    | .ldc2_w i => len == 3 && (match v with
      | .long x => decide ((own, i, x) ∈ lk_l)
      | _ => false)
    | _ => false)
  | .iload i => npc == pc + len && decide (i < nL) && (match raw with
    | .iload j => j == i && len == 2
    | .iload_n j => (j : Nat) == i && len == 1
    | _ => false)
  | .lload i => npc == pc + len && decide (i < nL) && (match raw with
    | .lload j => j == i && len == 2
    | .lload_n j => (j : Nat) == i && len == 1
    | _ => false)
  | .aload i => npc == pc + len && decide (i < nL) && (match raw with
    | .aload j => j == i && len == 2
    | .aload_n j => (j : Nat) == i && len == 1
    | _ => false)
  | .istore i => npc == pc + len && decide (i < nL) && (match raw with
    | .istore j => j == i && len == 2
    | .istore_n j => (j : Nat) == i && len == 1
    | _ => false)
  | .astore i => npc == pc + len && decide (i < nL) && (match raw with
    | .astore j => j == i && len == 2
    | .astore_n j => (j : Nat) == i && len == 1
    | _ => false)
  | .lstore i => npc == pc + len && decide (i + 1 < nL) && (match raw with
    | .lstore j => j == i && len == 2
    | .lstore_n j => (j : Nat) == i && len == 1
    | _ => false)
  | .iinc i b => decide (raw = .iinc i b) && len == 3 && npc == pc + 3 && decide (i < nL) && decide (v = .int (Int32.ofInt b))
  | .iadd => ok_1 pc raw len npc .iadd
  | .isub => ok_1 pc raw len npc .isub
  | .imul => ok_1 pc raw len npc .imul
  | .idiv => ok_1 pc raw len npc .idiv
  | .irem => ok_1 pc raw len npc .irem
  | .iand => ok_1 pc raw len npc .iand
  | .ior => ok_1 pc raw len npc .ior
  | .ixor => ok_1 pc raw len npc .ixor
  | .ishl => ok_1 pc raw len npc .ishl
  | .ishr => ok_1 pc raw len npc .ishr
  | .iushr => ok_1 pc raw len npc .iushr
  | .ladd => ok_1 pc raw len npc .ladd
  | .lmul => ok_1 pc raw len npc .lmul
  | .land => ok_1 pc raw len npc .land
  | .lor => ok_1 pc raw len npc .lor
  | .lshl => ok_1 pc raw len npc .lshl
  | .lcmp => ok_1 pc raw len npc .lcmp
  | .i2l => ok_1 pc raw len npc .i2l
  | .l2i => ok_1 pc raw len npc .l2i
  | .i2b => ok_1 pc raw len npc .i2b
  | .i2s => ok_1 pc raw len npc .i2s
  | .dup => ok_1 pc raw len npc .dup
  | .dup2 => ok_1 pc raw len npc .dup2
  | .pop => ok_1 pc raw len npc .pop
  | .iaload => ok_1 pc raw len npc .iaload
  | .iastore => ok_1 pc raw len npc .iastore
  | .laload => ok_1 pc raw len npc .laload
  | .lastore => ok_1 pc raw len npc .lastore
  | .aaload => ok_1 pc raw len npc .aaload
  | .aastore => ok_1 pc raw len npc .aastore
  | .arraylength => ok_1 pc raw len npc .arraylength
  | .ifCond cd off => decide (raw = .ifCond cd off) && len == 3 && npc == pc + 3 && (match inf with
    | [tg] => decide ((pc : Int) + off = (tg : Int))
    | _ => false)
  | .if_icmp cd off => decide (raw = .if_icmp cd off) && len == 3 && npc == pc + 3 && (match inf with
    | [tg] => decide ((pc : Int) + off = (tg : Int))
    | _ => false)
  | .goto off => decide (raw = .goto off) && len == 3 && (match inf with
    | [tg] => decide ((pc : Int) + off = (tg : Int))
    | _ => false)
  | .lookupswitch d ps => decide (raw = .lookupswitch d ps) && (ps.toList.zip (ps.toList.drop 1)).all (fun (a, next) => a.1 < next.1) && decide (cs.map (fun q => (q.1.toInt, (q.2 : Int))) = ps.toList.map (fun q => (q.1, (pc : Int) + q.2))) && (match inf with
    | [tg] => decide ((pc : Int) + d = (tg : Int))
    | _ => false)
  | .tableswitch d lo hi offs => decide (raw = .tableswitch d lo hi offs) && decide (cs.map (fun q => (q.1.toInt, (q.2 : Int))) = offs.toList.zipIdx.map (fun q => (lo + (q.2 : Int), (pc : Int) + q.1))) && decide (hi = lo + offs.toList.length - 1) && (match inf with
    | [tg] => decide ((pc : Int) + d = (tg : Int))
    | _ => false)
  | .getfield i => decide (raw = .getfield i) && len == 3 && npc == pc + 3 && (match inf with
    | [ci, k] => decide ((own, i, ci, k) ∈ lk_f)
    | _ => false)
  | .putfield i => decide (raw = .putfield i) && len == 3 && npc == pc + 3 && (match inf with
    | [ci, k, ty] => decide ((own, i, ci, k) ∈ lk_f) && ok_ty ty (sv_cy ci k) && (!(sv_cT ci k).2.2.2 || (ini && own == ci))
    | _ => false)
  | .new i => decide (raw = .new i) && len == 3 && npc == pc + 3 && (match inf with
    | [ci, N] => decide ((own, i, ci) ∈ lk_c) && N == sv_cN ci
    | _ => false)
  | .newarray a => decide (raw = .newarray a) && len == 2 && npc == pc + 2
  | .anewarray i => decide (raw = .anewarray i) && len == 3 && npc == pc + 3 && (match inf with
    | [ty] => (ty == 2 && decide ((own, i, 5) ∈ lk_c)) || (ty == 3 && decide ((own, i, 7) ∈ lk_c))
    | _ => false)
  | .instanceof i => decide (raw = .instanceof i) && len == 3 && npc == pc + 3 && ((decide ((own, i, 1) ∈ lk_c) && decide (inf = [1, 4])) || (decide ((own, i, 0) ∈ lk_c) && decide (inf = [0, 3])) || (decide ((own, i, 6) ∈ lk_c) && decide (inf = [6])) || (decide ((own, i, 4) ∈ lk_c) && decide (inf = [4])) || (decide ((own, i, 3) ∈ lk_c) && decide (inf = [3])))
  | .invokestatic i => decide (raw = .invokestatic i) && len == 3 && npc == pc + 3 && (match inf with
    | [y, na] => decide ((own, i, y) ∈ lk_s) && na == sv_n y && decide (am_acc y = (0, 0))
    | _ => false)
  | .invokespecial i => decide (raw = .invokespecial i) && len == 3 && npc == pc + 3 && (match inf with
    | [y, na] => na == sv_n y + 1 && (decide ((own, i, y) ∈ lk_i) || decide ((own, i, y) ∈ lk_n) || (decide ((own, i, y) ∈ lk_u) && decide (am_acc y = (0, 0))) || (decide ((own, i, y) ∈ lk_w) && decide (am_acc y = (0, 0))))
    | _ => false)
  | .invokevirtual i => decide (raw = .invokevirtual i) && len == 3 && npc == pc + 3 && (match inf with
    | na :: ds => ok_ds own i na ds
    | _ => false)
  | .invokeinterface i _ => decide (raw = .invokevirtual i) && len == 3 && npc == pc + 3 && (match inf with
    | [y, na] => decide ((own, i, y) ∈ lk_t) && na == sv_n y + 1
    | _ => false)
  | .invokedynamic i => decide (raw = .invokestatic i) && len == 3 && npc == pc + 3 && decide ((own, i) ∈ lk_y)
  | .multianewarray i _ => decide (raw = .invokestatic i) && len == 3 && npc == pc + 3 && decide ((own, i) ∈ lk_m)
  | .monitorexit => len == 3 && npc == pc + 3 && (match inf with
    | [i] => decide (raw = .invokespecial i) && decide ((own, i) ∈ lk_o)
    | _ => false)
  | .ireturn => decide (raw = .ireturn) && len == 1 && decide (inf = [rt]) && (rt == 0 || rt == 1)
  | .lreturn => decide (raw = .lreturn) && len == 1 && rt == 2
  | .areturn => decide (raw = .areturn) && len == 1 && rt == 3
  | .return_ => decide (raw = .return_) && len == 1 && rt == 4
  | _ => false
def ok_e (own nL rt : Nat) (ini : Bool) (cc : ByteArray) (e : En) (npc : Nat) : Bool := if e.2.1 = .nop then decide (e.2.2.1 = [e.1]) else match decode cc e.1 with
  | .ok q => ok_in own nL rt ini e.1 q.1 q.2 npc e.2.1 e.2.2.1 e.2.2.2.1 e.2.2.2.2
  | .error _ => false
def ok_cs (own nL rt : Nat) (ini : Bool) (cc : ByteArray) (l : List En) : Bool := match l with
  | [] => true
  | e :: t => ok_e own nL rt ini cc e (ok_hp t) && ok_cs own nL rt ini cc t
def ok_b (own nL rt : Nat) (ini : Bool) (cc : ByteArray) (L : Nat) (l : List En) : Bool := match l with
  | [] => true
  | e :: _ => e.1 == L && ok_cs own nL rt ini cc l
/-- the constructors -/
def sv_i (y : Nat) : Bool := decide (y ∈ [0, 4, 9, 12, 16, 21, 28, 35, 40, 66, 80, 131])
