/-! AN ABSTRACT MACHINE for the methods that this claim reaches: locals, stack and heap as lists and functions, cells by their number.
Cells: .inl (tag, length, contents) an array (tag 0 int, 1 long, 2 Mole, 3 Sheet, 9 the script), .inr (class, fields) an object. -/
abbrev AC : Type := (Nat × vp_A) ⊕ (Nat × List Value)
abbrev AH : Type := Nat → Option AC
abbrev AQ : Type := Option Value → Nat → AH → Prop
abbrev AN : Type := Nat → List Value → Nat → AH → AQ → Prop
/-- an instruction: its place, what it does, its numbers, its constant, a switch's cases -/
abbrev En : Type := Nat × Instr × List Nat × Value × List (Int32 × Nat)
abbrev AL : Type := List (Option Value)
abbrev KT : Type := List En → AL → List Value → Nat → AH → Nat → Nat → Prop
def am_ia (n : Nat) (f : Nat → Int32) : Option AC := some (.inl (0, n, .inl f))
def am_la (n : Nat) (f : Nat → Int64) : Option AC := some (.inl (1, n, .inr (.inl f)))
def am_ra (t n : Nat) (f : Nat → Option Nat) : Option AC := some (.inl (t, n, .inr (.inr (.inr (.inr f)))))
def am_sa (n : Nat) (f : Nat → Int32) : Option AC := some (.inl (9, n, .inl f))
def am_ob (c : Nat) (fs : List Value) : Option AC := some (.inr (c, fs))
/-- a store of one word at i: the place ahead of it holds no long -/
def am_ok (ls : AL) (i : Nat) : Prop := match ls.getD (i - 1) none with
  | some (.long _) => False
  | some (.double _) => False
  | _ => True
def am_ov (o : Option Value) (K : Value → Prop) : Prop := match o with
  | some v => K v
  | none => False
def am_on (o : Option Nat) (K : Nat → Prop) : Prop := match o with
  | some v => K v
  | none => False
def am_get (o : Option AC) (ci k : Nat) (K : Value → Prop) : Prop := match o with
  | some (.inr (c, fs)) => c = ci ∧ am_ov fs[k]? K
  | _ => False
/-- what may be stored in a field: 0 an int, 1 a truth value, 2 a reference -/
def am_fit (t : Nat) (v : Value) : Prop := match t, v with
  | 0, .int _ => True
  | 1, .int x => x = 0 ∨ x = 1
  | 2, .ref _ => True
  | _, _ => False
def am_put (o : Option AC) (ci k t : Nat) (v : Value) (K : Option AC → Prop) : Prop := match o with
  | some (.inr (c, fs)) => c = ci ∧ k < fs.length ∧ am_fit t v ∧ K (am_ob c (fs.set k v))
  | _ => False
def am_ild (o : Option AC) (i : Int32) (K : Int32 → Prop) : Prop := match o with
  | some (.inl (0, n, .inl f)) => vp_in i n ∧ K (f i.toNatClampNeg)
  | some (.inl (9, n, .inl f)) => vp_in i n ∧ K (f i.toNatClampNeg)
  | _ => False
def am_ist (o : Option AC) (i x : Int32) (K : Option AC → Prop) : Prop := match o with
  | some (.inl (0, n, .inl f)) => vp_in i n ∧ K (am_ia n (upd f i.toNatClampNeg x))
  | _ => False
def am_lld (o : Option AC) (i : Int32) (K : Int64 → Prop) : Prop := match o with
  | some (.inl (1, n, .inr (.inl f))) => vp_in i n ∧ K (f i.toNatClampNeg)
  | _ => False
def am_lst (o : Option AC) (i : Int32) (x : Int64) (K : Option AC → Prop) : Prop := match o with
  | some (.inl (1, n, .inr (.inl f))) => vp_in i n ∧ K (am_la n (vp_updL f i.toNatClampNeg x))
  | _ => False
def am_ald (o : Option AC) (i : Int32) (K : Nat → Prop) : Prop := match o with
  | some (.inl (2, n, .inr (.inr (.inr (.inr f))))) => vp_in i n ∧ am_on (f i.toNatClampNeg) K
  | some (.inl (3, n, .inr (.inr (.inr (.inr f))))) => vp_in i n ∧ am_on (f i.toNatClampNeg) K
  | _ => False
/-- which classes an array of references takes -/
def am_may (t c : Nat) : Prop := (t = 2 ∧ (c = 0 ∨ c = 1 ∨ c = 3 ∨ c = 4 ∨ c = 5 ∨ c = 6)) ∨ (t = 3 ∧ c = 7)
def am_ast (o ov : Option AC) (i : Int32) (j : Nat) (K : Option AC → Prop) : Prop := match o with
  | some (.inl (t, n, .inr (.inr (.inr (.inr f))))) => match ov with
    | some (.inr (c, _)) => am_may t c ∧ vp_in i n ∧ K (am_ra t n (va_up f i.toNatClampNeg (some j)))
    | _ => False
  | _ => False
def am_len (o : Option AC) (K : Int32 → Prop) : Prop := match o with
  | some (.inl (_, n, _)) => K (Int32.ofNat n)
  | _ => False
/-- System.arraycopy of ints, of longs -/
def am_cpy (o1 o2 : Option AC) (sp dp n : Int32) (K : Option AC → Prop) : Prop := match o1 with
  | some (.inl (0, n1, .inl f)) => (match o2 with
    | some (.inl (0, n2, .inl g)) => (¬ sp < 0 ∧ ¬ dp < 0 ∧ ¬ n < 0 ∧ sp.toNatClampNeg + n.toNatClampNeg ≤ n1 ∧ dp.toNatClampNeg + n.toNatClampNeg ≤ n2) ∧ K (am_ia n2 (va_cpy f g sp.toNatClampNeg dp.toNatClampNeg n.toNatClampNeg))
    | _ => False)
  | some (.inl (1, n1, .inr (.inl f))) => (match o2 with
    | some (.inl (1, n2, .inr (.inl g))) => (¬ sp < 0 ∧ ¬ dp < 0 ∧ ¬ n < 0 ∧ sp.toNatClampNeg + n.toNatClampNeg ≤ n1 ∧ dp.toNatClampNeg + n.toNatClampNeg ≤ n2) ∧ K (am_la n2 (va_cpy f g sp.toNatClampNeg dp.toNatClampNeg n.toNatClampNeg))
    | _ => False)
  | _ => False
def am_cls (o : Option AC) (K : Nat → Prop) : Prop := match o with
  | some (.inr (c, _)) => K c
  | _ => False
def am_dsp (c : Nat) (l : List Nat) (K : Nat → Prop) : Prop := match l with
  | [] => False
  | [_] => False
  | a :: y :: t => if c = a then K y else am_dsp c t K
def am_sw (x : Int32) (cs : List (Int32 × Nat)) (d : Nat) (K : Nat → Prop) : Prop := match cs with
  | [] => K d
  | (a, t) :: r => if x = a then K t else am_sw x r d K
def am_rs (r : Option Value) (s : List Value) : List Value := match r with
  | some v => v :: s
  | none => s
def am_c0 (k : Jvm.ClassFile.Cond) (x : Int32) (A B : Prop) : Prop := match k with
  | .eq => if x = 0 then A else B
  | .ne => if x = 0 then B else A
  | .lt => if x < 0 then A else B
  | .ge => if 0 ≤ x then A else B
  | .gt => if 0 < x then A else B
  | .le => if x ≤ 0 then A else B
def am_c2 (k : Jvm.ClassFile.Cond) (x y : Int32) (A B : Prop) : Prop := match k with
  | .eq => if x = y then A else B
  | .ne => if x = y then B else A
  | .lt => if x < y then A else B
  | .ge => if y ≤ x then A else B
  | .gt => if y < x then A else B
  | .le => if x ≤ y then A else B
/-- what a class's fields hold at first -/
def am_def (c : Nat) : List Value := match c with
  | 2 => [.null]
  | 7 => [.int 0, .int 0, .null]
  | 8 => [.null, .int 0, .int 0, .int 0, .null, .null, .null, .null, .null, .null, .null, .null, .null]
  | 9 => [.null, .int 0, .int 0, .int 0, .int 0, .int 0]
  | 10 => [.null, .null, .null, .int 0, .null, .null, .null]
  | 11 => [.null, .null, .null, .null, .null, .int 0, .int 0, .null, .int 0, .int 0, .int 0, .int 0, .int 0, .null, .null, .null, .null]
  | _ => []
/-- a call's arguments, and the rest of the stack -/
def am_sp (n : Nat) (acc st : List Value) (K : List Value → List Value → Prop) : Prop := match n with
  | 0 => K acc st
  | n + 1 => match st with
    | [] => False
    | v :: s => am_sp n (v :: acc) s K
def am_wd (st : List Value) : Nat := match st with
  | [] => 0
  | .long _ :: s => am_wd s + 2
  | .double _ :: s => am_wd s + 2
  | _ :: s => am_wd s + 1
def am_ret (inf : List Nat) (x : Int32) : Prop := match inf with
  | [0] => True
  | [1] => x = 0 ∨ x = 1
  | _ => False
section AM
variable (E : AN) (ac : Nat → Nat × Nat) (M : Nat → List En) (mc ms : Nat) (Q : AQ) (K G : KT)
/-- one instruction -/
def am_in (r : Instr) (inf : List Nat) (v : Value) (cs : List (Int32 × Nat)) (t : List En) (ls : AL) (st : List Value) (n : Nat) (w : AH) (c k : Nat) : Prop := match r with
  | .aconst_null => K t ls (v :: st) n w c k
  | .iload i => (match ls.getD i none with
    | some (.int x) => K t ls (.int x :: st) n w c k
    | _ => False)
  | .lload i => (match ls.getD i none with
    | some (.long x) => K t ls (.long x :: st) n w c k
    | _ => False)
  | .aload i => (match ls.getD i none with
    | some (.ref a) => K t ls (.ref a :: st) n w c k
    | _ => False)
  | .istore i => (match st with
    | .int x :: s => am_ok ls i ∧ K t (ls.set i (some (.int x))) s n w c k
    | _ => False)
  | .astore i => (match st with
    | .ref a :: s => am_ok ls i ∧ K t (ls.set i (some (.ref a))) s n w c k
    | _ => False)
  | .lstore i => (match st with
    | .long x :: s => am_ok ls i ∧ K t ((ls.set i (some (.long x))).set (i + 1) none) s n w c k
    | _ => False)
  | .iinc i _ => (match ls.getD i none, v with
    | some (.int x), .int d => am_ok ls i ∧ K t (ls.set i (some (.int (x + d)))) st n w c k
    | _, _ => False)
  | .iadd => (match st with
    | .int y :: .int x :: s => K t ls (.int (x + y) :: s) n w c k
    | _ => False)
  | .isub => (match st with
    | .int y :: .int x :: s => K t ls (.int (x - y) :: s) n w c k
    | _ => False)
  | .imul => (match st with
    | .int y :: .int x :: s => K t ls (.int (x * y) :: s) n w c k
    | _ => False)
  | .idiv => (match st with
    | .int y :: .int x :: s => ¬ y = 0 ∧ K t ls (.int (x / y) :: s) n w c k
    | _ => False)
  | .irem => (match st with
    | .int y :: .int x :: s => ¬ y = 0 ∧ K t ls (.int (x - x / y * y) :: s) n w c k
    | _ => False)
  | .iand => (match st with
    | .int y :: .int x :: s => K t ls (.int (x &&& y) :: s) n w c k
    | _ => False)
  | .ior => (match st with
    | .int y :: .int x :: s => K t ls (.int (x ||| y) :: s) n w c k
    | _ => False)
  | .ixor => (match st with
    | .int y :: .int x :: s => K t ls (.int (x ^^^ y) :: s) n w c k
    | _ => False)
  | .ishl => (match st with
    | .int y :: .int x :: s => K t ls (.int (x <<< (y &&& 31)) :: s) n w c k
    | _ => False)
  | .ishr => (match st with
    | .int y :: .int x :: s => K t ls (.int (x >>> (y &&& 31)) :: s) n w c k
    | _ => False)
  | .iushr => (match st with
    | .int y :: .int x :: s => K t ls (.int (x.toUInt32 >>> (y.toUInt32 &&& Int32.toUInt32 31)).toInt32 :: s) n w c k
    | _ => False)
  | .ladd => (match st with
    | .long y :: .long x :: s => K t ls (.long (x + y) :: s) n w c k
    | _ => False)
  | .lmul => (match st with
    | .long y :: .long x :: s => K t ls (.long (x * y) :: s) n w c k
    | _ => False)
  | .land => (match st with
    | .long y :: .long x :: s => K t ls (.long (x &&& y) :: s) n w c k
    | _ => False)
  | .lor => (match st with
    | .long y :: .long x :: s => K t ls (.long (x ||| y) :: s) n w c k
    | _ => False)
  | .lshl => (match st with
    | .int y :: .long x :: s => K t ls (.long (x <<< (y.toInt64 &&& 63)) :: s) n w c k
    | _ => False)
  | .lcmp => (match st with
    | .long y :: .long x :: s => K t ls (.int (lg_cmp x y) :: s) n w c k
    | _ => False)
  | .i2l => (match st with
    | .int x :: s => K t ls (.long x.toInt64 :: s) n w c k
    | _ => False)
  | .l2i => (match st with
    | .long x :: s => K t ls (.int x.toInt32 :: s) n w c k
    | _ => False)
  | .i2b => (match st with
    | .int x :: s => K t ls (.int x.toInt8.toInt32 :: s) n w c k
    | _ => False)
  | .i2s => (match st with
    | .int x :: s => K t ls (.int x.toInt16.toInt32 :: s) n w c k
    | _ => False)
  | .dup => (match st with
    | .int x :: s => K t ls (.int x :: .int x :: s) n w c k
    | .ref x :: s => K t ls (.ref x :: .ref x :: s) n w c k
    | _ => False)
  | .dup2 => (match st with
    | .int x :: .ref y :: s => K t ls (.int x :: .ref y :: .int x :: .ref y :: s) n w c k
    | _ => False)
  | .pop => (match st with
    | .int _ :: s => K t ls s n w c k
    | _ => False)
  | .ifCond cd _ => (match st, inf with
    | .int x :: s, [tg] => am_c0 cd x (K (M tg) ls s n w c k) (K t ls s n w c k)
    | _, _ => False)
  | .if_icmp cd _ => (match st, inf with
    | .int y :: .int x :: s, [tg] => am_c2 cd x y (K (M tg) ls s n w c k) (K t ls s n w c k)
    | _, _ => False)
  | .goto _ => (match inf with
    | [tg] => K (M tg) ls st n w c k
    | _ => False)
  | .nop => (match inf with
    | [tg] => K (M tg) ls st n w c k
    | _ => False)
  | .lookupswitch _ _ => (match st, inf with
    | .int x :: s, [d] => am_sw x cs d (fun tg => K (M tg) ls s n w c k)
    | _, _ => False)
  | .tableswitch _ _ _ _ => (match st, inf with
    | .int x :: s, [d] => am_sw x cs d (fun tg => K (M tg) ls s n w c k)
    | _, _ => False)
  | .getfield _ => (match st, inf with
    | .ref a :: s, [ci, f] => am_get (w a) ci f (fun v => K t ls (v :: s) n w c k)
    | _, _ => False)
  | .putfield _ => (match st, inf with
    | v :: .ref a :: s, [ci, f, ty] => am_put (w a) ci f ty v (fun o => K t ls s n (va_up w a o) c k)
    | _, _ => False)
  | .iaload => (match st with
    | .int i :: .ref a :: s => am_ild (w a) i (fun x => K t ls (.int x :: s) n w c k)
    | _ => False)
  | .iastore => (match st with
    | .int x :: .int i :: .ref a :: s => am_ist (w a) i x (fun o => K t ls s n (va_up w a o) c k)
    | _ => False)
  | .laload => (match st with
    | .int i :: .ref a :: s => am_lld (w a) i (fun x => K t ls (.long x :: s) n w c k)
    | _ => False)
  | .lastore => (match st with
    | .long x :: .int i :: .ref a :: s => am_lst (w a) i x (fun o => K t ls s n (va_up w a o) c k)
    | _ => False)
  | .aaload => (match st with
    | .int i :: .ref a :: s => am_ald (w a) i (fun j => K t ls (.ref j :: s) n w c k)
    | _ => False)
  | .aastore => (match st with
    | .ref j :: .int i :: .ref a :: s => am_ast (w a) (w j) i j (fun o => K t ls s n (va_up w a o) c k)
    | _ => False)
  | .arraylength => (match st with
    | .ref a :: s => am_len (w a) (fun x => K t ls (.int x :: s) n w c k)
    | _ => False)
  | .instanceof _ => (match st with
    | .ref a :: s => am_cls (w a) (fun ci => ci ∈ [0, 1, 3, 4, 5, 6] ∧ K t ls (.int (if ci ∈ inf then 1 else 0) :: s) n w c k)
    | _ => False)
  | .new _ => (match inf with
    | [ci, N] => n < 900 ∧ c + 1 ≤ mc ∧ k + N ≤ ms ∧ K t ls (.ref n :: st) (n + 1) (va_up w n (am_ob ci (am_def ci))) (c + 1) (k + N)
    | _ => False)
  | .newarray .int => (match st with
    | .int m :: s => n < 900 ∧ ¬ m < 0 ∧ m.toNatClampNeg ≤ 1000 ∧ c + 1 ≤ mc ∧ k + m.toNatClampNeg ≤ ms ∧ K t ls (.ref n :: s) (n + 1) (va_up w n (am_ia m.toNatClampNeg (fun _ => 0))) (c + 1) (k + m.toNatClampNeg)
    | _ => False)
  | .newarray .long => (match st with
    | .int m :: s => n < 900 ∧ ¬ m < 0 ∧ m.toNatClampNeg ≤ 1000 ∧ c + 1 ≤ mc ∧ k + m.toNatClampNeg ≤ ms ∧ K t ls (.ref n :: s) (n + 1) (va_up w n (am_la m.toNatClampNeg (fun _ => 0))) (c + 1) (k + m.toNatClampNeg)
    | _ => False)
  | .anewarray _ => (match st, inf with
    | .int m :: s, [ty] => n < 900 ∧ ¬ m < 0 ∧ m.toNatClampNeg ≤ 1000 ∧ c + 1 ≤ mc ∧ k + m.toNatClampNeg ≤ ms ∧ K t ls (.ref n :: s) (n + 1) (va_up w n (am_ra ty m.toNatClampNeg (fun _ => none))) (c + 1) (k + m.toNatClampNeg)
    | _, _ => False)
  | .invokestatic _ => (match inf with
    | [y, na] => am_sp na [] st (fun as s => am_wd s ≤ 8 ∧ E y as n w (fun r n' w' => G t ls (am_rs r s) n' w' c k))
    | _ => False)
  | .invokespecial _ => (match inf with
    | [y, na] => am_sp na [] st (fun as s => am_wd s ≤ 8 ∧ c + (ac y).1 ≤ mc ∧ k + (ac y).2 ≤ ms ∧ (match as with
      | .ref a :: _ => am_cls (w a) (fun ci => ci < 12 ∧ E y as n w (fun r n' w' => G t ls (am_rs r s) n' w' (c + (ac y).1) (k + (ac y).2)))
      | _ => False))
    | _ => False)
  | .invokevirtual _ => (match inf with
    | na :: ds => am_sp na [] st (fun as s => am_wd s ≤ 8 ∧ (match as with
      | .ref a :: _ => am_cls (w a) (fun ci => am_dsp ci ds (fun y => E y as n w (fun r n' w' => G t ls (am_rs r s) n' w' c k)))
      | _ => False))
    | _ => False)
  | .invokeinterface _ _ => (match inf with
    | [y, na] => am_sp na [] st (fun as s => am_wd s ≤ 8 ∧ E y as n w (fun r n' w' => G t ls (am_rs r s) n' w' c k))
    | _ => False)
  | .invokedynamic _ => (match st with
    | .int m :: .int dp :: .ref b :: .int sp :: .ref a :: s => am_wd s ≤ 8 ∧ E 502 [] n w (fun _ _ _ => True) ∧ am_cpy (w a) (w b) sp dp m (fun o => K t ls s n (va_up w b o) c k)
    | _ => False)
  | .multianewarray _ _ => (match st with
    | .int y :: .int x :: s => am_wd s ≤ 8 ∧ E 502 [] n w (fun _ _ _ => True) ∧ K t ls (.int (if y < x then y else x) :: s) n w c k
    | _ => False)
  | .monitorexit => (match st with
    | .ref _ :: s => am_wd s ≤ 8 ∧ E 502 [] n w (fun _ _ _ => True) ∧ K t ls s n w c k
    | _ => False)
  | .ireturn => (match st with
    | [.int x] => am_ret inf x ∧ c = mc ∧ k = ms ∧ Q (some (.int x)) n w
    | _ => False)
  | .lreturn => (match st with
    | [.long x] => c = mc ∧ k = ms ∧ Q (some (.long x)) n w
    | _ => False)
  | .areturn => (match st with
    | [.ref a] => c = mc ∧ k = ms ∧ Q (some (.ref a)) n w
    | _ => False)
  | .return_ => (match st with
    | [] => c = mc ∧ k = ms ∧ Q none n w
    | _ => False)
  | _ => False
def am_st (cs : List En) (ls : AL) (st : List Value) (n : Nat) (w : AH) (c k : Nat) : Prop := match cs with
  | [] => False
  | e :: t => am_in E ac M mc ms Q K G e.2.1 e.2.2.1 e.2.2.2.1 e.2.2.2.2 t ls st n w c k
end AM
/-- the machine comes to an end with Q -/
def am_go (E : AN) (ac : Nat → Nat × Nat) (M : Nat → List En) (mc ms : Nat) (Q : AQ) : KT := fun cs ls st n w c k =>
  ∀ P : KT, (∀ (K G : KT) (cs : List En) (ls : AL) (st : List Value) (n : Nat) (w : AH) (c k : Nat), (∀ cs ls st n w c k, K cs ls st n w c k → P cs ls st n w c k) → (∀ cs ls st n w c k, G cs ls st n w c k → P cs ls st n w c k) → am_st E ac M mc ms Q K G cs ls st n w c k → P cs ls st n w c k) → P cs ls st n w c k
def am_ex (E : AN) (ac : Nat → Nat × Nat) (M : Nat → List En) (mc ms : Nat) (Q : AQ) : Nat → KT
  | 0 => am_go E ac M mc ms Q
  | f + 1 => am_st E ac M mc ms Q (am_ex E ac M mc ms Q f) (am_go E ac M mc ms Q)
theorem am_go_of {E : AN} {ac : Nat → Nat × Nat} {M : Nat → List En} {mc ms : Nat} {Q : AQ} : ∀ (f : Nat) {cs : List En} {ls : AL} {st : List Value} {n : Nat} {w : AH} {c k : Nat}, am_ex E ac M mc ms Q f cs ls st n w c k → am_go E ac M mc ms Q cs ls st n w c k
  | 0, _, _, _, _, _, _, _, h => h
  | f + 1, _, _, _, _, _, _, _, h => fun P hP => hP (am_ex E ac M mc ms Q f) (am_go E ac M mc ms Q) _ _ _ _ _ _ _ (fun _ _ _ _ _ _ _ z => am_go_of f z P hP) (fun _ _ _ _ _ _ _ z => z P hP) h
/-- the locals at a method's entry -/
def am_sl (vs : List Value) : AL := match vs with
  | [] => []
  | .long x :: s => some (.long x) :: none :: am_sl s
  | .double x :: s => some (.double x) :: none :: am_sl s
  | v :: s => some v :: am_sl s
def am_pad (n : Nat) (l : AL) : AL := match n, l with
  | 0, l => l
  | n + 1, [] => none :: am_pad n []
  | n + 1, x :: l => x :: am_pad n l
