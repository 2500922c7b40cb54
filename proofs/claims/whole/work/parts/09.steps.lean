section SW
variable {p : Program} {l : Launch} {e : Env} {R : Room} {s : State} {m : MethodId} {args : Array Value} {below : List Frame} {meth : Method} {c : Code} {Z : State → Prop}
variable {g : sG} {own nL n0 : Nat} {ini : Bool} {cc : ByteArray}
/-- what is fixed in a method's walk -/
def FX (p : Program) (s : State) (m : MethodId) (args : Array Value) (meth : Method) (c : Code) (g : sG) (own nL n0 : Nat) (ini : Bool) (cc : ByteArray) : Prop :=
  p.tables.exec = Jvm.exec ∧ c.code = cc ∧ c.maxLocals = nL ∧ s.vm.findClass (sv_cn own) = some m.cls ∧ (∀ w ∈ lw_tbl, goodWord w = true → w.before args s = true) ∧ VF g s ∧ s.heap.size = gz g + n0 ∧ (ini = true → meth.name = "<init>")
/-- the machine at a place, for every heap that the abstract one tells -/
def WX (p : Program) (l : Launch) (e : Env) (R : Room) (s : State) (m : MethodId) (args : Array Value) (below : List Frame) (meth : Method) (c : Code) (Z : State → Prop) (g : sG) (nL n0 pc : Nat) (ls : AL) (st : List Value) (n : Nat) (w : AH) (k1 k2 : Nat) : Prop :=
  ∀ (H : Heap) (locs : List Loc) (A : Array Slot), AR g n w H → va_S (sv_A g) s.heap H locs → LR g nL ls A → (n = n0 + k1 ∧ k1 ≤ R.cells ∧ k2 ≤ R.slots) → W p l e R s m args below meth c H locs k1 k2 Z (F0 m pc A (st.map (sv_v g)))
variable {pc : Nat} {ls : AL} {st : List Value} {n : Nat} {w : AH} {k1 k2 : Nat}
theorem sd_iadd {x y : Int32} (fx : FX p s m args meth c g own nL n0 ini cc) (hd : decode cc pc = .ok (.iadd, 1))  (k : WX p l e R s m args below meth c Z g nL n0 (pc + 1) ls (.int (x + y) :: st) n w k1 k2) : WX p l e R s m args below meth c Z g nL n0 pc ls (.int y :: .int x :: st) n w k1 k2 := by
  intro H locs A hR hS hl hn
  obtain ⟨hx, hb, hml, hown, hts, hV, hsz, hini⟩ := fx
  exact lv_iadd hx hb hd  (k H locs A hR hS hl hn)
theorem sd_isub {x y : Int32} (fx : FX p s m args meth c g own nL n0 ini cc) (hd : decode cc pc = .ok (.isub, 1))  (k : WX p l e R s m args below meth c Z g nL n0 (pc + 1) ls (.int (x - y) :: st) n w k1 k2) : WX p l e R s m args below meth c Z g nL n0 pc ls (.int y :: .int x :: st) n w k1 k2 := by
  intro H locs A hR hS hl hn
  obtain ⟨hx, hb, hml, hown, hts, hV, hsz, hini⟩ := fx
  exact lv_isub hx hb hd  (k H locs A hR hS hl hn)
theorem sd_imul {x y : Int32} (fx : FX p s m args meth c g own nL n0 ini cc) (hd : decode cc pc = .ok (.imul, 1))  (k : WX p l e R s m args below meth c Z g nL n0 (pc + 1) ls (.int (x * y) :: st) n w k1 k2) : WX p l e R s m args below meth c Z g nL n0 pc ls (.int y :: .int x :: st) n w k1 k2 := by
  intro H locs A hR hS hl hn
  obtain ⟨hx, hb, hml, hown, hts, hV, hsz, hini⟩ := fx
  exact lv_imul hx hb hd  (k H locs A hR hS hl hn)
theorem sd_iand {x y : Int32} (fx : FX p s m args meth c g own nL n0 ini cc) (hd : decode cc pc = .ok (.iand, 1))  (k : WX p l e R s m args below meth c Z g nL n0 (pc + 1) ls (.int (x &&& y) :: st) n w k1 k2) : WX p l e R s m args below meth c Z g nL n0 pc ls (.int y :: .int x :: st) n w k1 k2 := by
  intro H locs A hR hS hl hn
  obtain ⟨hx, hb, hml, hown, hts, hV, hsz, hini⟩ := fx
  exact lv_iand hx hb hd  (k H locs A hR hS hl hn)
theorem sd_ior {x y : Int32} (fx : FX p s m args meth c g own nL n0 ini cc) (hd : decode cc pc = .ok (.ior, 1))  (k : WX p l e R s m args below meth c Z g nL n0 (pc + 1) ls (.int (x ||| y) :: st) n w k1 k2) : WX p l e R s m args below meth c Z g nL n0 pc ls (.int y :: .int x :: st) n w k1 k2 := by
  intro H locs A hR hS hl hn
  obtain ⟨hx, hb, hml, hown, hts, hV, hsz, hini⟩ := fx
  exact lv_ior hx hb hd  (k H locs A hR hS hl hn)
theorem sd_ixor {x y : Int32} (fx : FX p s m args meth c g own nL n0 ini cc) (hd : decode cc pc = .ok (.ixor, 1))  (k : WX p l e R s m args below meth c Z g nL n0 (pc + 1) ls (.int (x ^^^ y) :: st) n w k1 k2) : WX p l e R s m args below meth c Z g nL n0 pc ls (.int y :: .int x :: st) n w k1 k2 := by
  intro H locs A hR hS hl hn
  obtain ⟨hx, hb, hml, hown, hts, hV, hsz, hini⟩ := fx
  exact lv_ixor hx hb hd  (k H locs A hR hS hl hn)
theorem sd_ishl {x y : Int32} (fx : FX p s m args meth c g own nL n0 ini cc) (hd : decode cc pc = .ok (.ishl, 1))  (k : WX p l e R s m args below meth c Z g nL n0 (pc + 1) ls (.int (x <<< (y &&& 31)) :: st) n w k1 k2) : WX p l e R s m args below meth c Z g nL n0 pc ls (.int y :: .int x :: st) n w k1 k2 := by
  intro H locs A hR hS hl hn
  obtain ⟨hx, hb, hml, hown, hts, hV, hsz, hini⟩ := fx
  exact lv_ishl hx hb hd  (k H locs A hR hS hl hn)
theorem sd_ishr {x y : Int32} (fx : FX p s m args meth c g own nL n0 ini cc) (hd : decode cc pc = .ok (.ishr, 1))  (k : WX p l e R s m args below meth c Z g nL n0 (pc + 1) ls (.int (x >>> (y &&& 31)) :: st) n w k1 k2) : WX p l e R s m args below meth c Z g nL n0 pc ls (.int y :: .int x :: st) n w k1 k2 := by
  intro H locs A hR hS hl hn
  obtain ⟨hx, hb, hml, hown, hts, hV, hsz, hini⟩ := fx
  exact lv_ishr hx hb hd  (k H locs A hR hS hl hn)
theorem sd_idiv {x y : Int32} (fx : FX p s m args meth c g own nL n0 ini cc) (hd : decode cc pc = .ok (.idiv, 1)) (h0 : ¬ y = 0) (k : WX p l e R s m args below meth c Z g nL n0 (pc + 1) ls (.int (x / y) :: st) n w k1 k2) : WX p l e R s m args below meth c Z g nL n0 pc ls (.int y :: .int x :: st) n w k1 k2 := by
  intro H locs A hR hS hl hn
  obtain ⟨hx, hb, hml, hown, hts, hV, hsz, hini⟩ := fx
  exact lv_idiv hx hb hd h0 (k H locs A hR hS hl hn)
theorem sd_irem {x y : Int32} (fx : FX p s m args meth c g own nL n0 ini cc) (hd : decode cc pc = .ok (.irem, 1)) (h0 : ¬ y = 0) (k : WX p l e R s m args below meth c Z g nL n0 (pc + 1) ls (.int (x - x / y * y) :: st) n w k1 k2) : WX p l e R s m args below meth c Z g nL n0 pc ls (.int y :: .int x :: st) n w k1 k2 := by
  intro H locs A hR hS hl hn
  obtain ⟨hx, hb, hml, hown, hts, hV, hsz, hini⟩ := fx
  exact lv_irem hx hb hd h0 (k H locs A hR hS hl hn)
theorem sd_ladd {x y : Int64} (fx : FX p s m args meth c g own nL n0 ini cc) (hd : decode cc pc = .ok (.ladd, 1))  (k : WX p l e R s m args below meth c Z g nL n0 (pc + 1) ls (.long (x + y) :: st) n w k1 k2) : WX p l e R s m args below meth c Z g nL n0 pc ls (.long y :: .long x :: st) n w k1 k2 := by
  intro H locs A hR hS hl hn
  obtain ⟨hx, hb, hml, hown, hts, hV, hsz, hini⟩ := fx
  exact lv_ladd hx hb hd  (k H locs A hR hS hl hn)
theorem sd_lmul {x y : Int64} (fx : FX p s m args meth c g own nL n0 ini cc) (hd : decode cc pc = .ok (.lmul, 1))  (k : WX p l e R s m args below meth c Z g nL n0 (pc + 1) ls (.long (x * y) :: st) n w k1 k2) : WX p l e R s m args below meth c Z g nL n0 pc ls (.long y :: .long x :: st) n w k1 k2 := by
  intro H locs A hR hS hl hn
  obtain ⟨hx, hb, hml, hown, hts, hV, hsz, hini⟩ := fx
  exact lv_lmul hx hb hd  (k H locs A hR hS hl hn)
theorem sd_land {x y : Int64} (fx : FX p s m args meth c g own nL n0 ini cc) (hd : decode cc pc = .ok (.land, 1))  (k : WX p l e R s m args below meth c Z g nL n0 (pc + 1) ls (.long (x &&& y) :: st) n w k1 k2) : WX p l e R s m args below meth c Z g nL n0 pc ls (.long y :: .long x :: st) n w k1 k2 := by
  intro H locs A hR hS hl hn
  obtain ⟨hx, hb, hml, hown, hts, hV, hsz, hini⟩ := fx
  exact lv_land hx hb hd  (k H locs A hR hS hl hn)
theorem sd_lor {x y : Int64} (fx : FX p s m args meth c g own nL n0 ini cc) (hd : decode cc pc = .ok (.lor, 1))  (k : WX p l e R s m args below meth c Z g nL n0 (pc + 1) ls (.long (x ||| y) :: st) n w k1 k2) : WX p l e R s m args below meth c Z g nL n0 pc ls (.long y :: .long x :: st) n w k1 k2 := by
  intro H locs A hR hS hl hn
  obtain ⟨hx, hb, hml, hown, hts, hV, hsz, hini⟩ := fx
  exact lv_lor hx hb hd  (k H locs A hR hS hl hn)
theorem sd_iushr {x y : Int32} (fx : FX p s m args meth c g own nL n0 ini cc) (hd : decode cc pc = .ok (.iushr, 1)) (k : WX p l e R s m args below meth c Z g nL n0 (pc + 1) ls (.int (x.toUInt32 >>> (y.toUInt32 &&& Int32.toUInt32 31)).toInt32 :: st) n w k1 k2) : WX p l e R s m args below meth c Z g nL n0 pc ls (.int y :: .int x :: st) n w k1 k2 := by
  intro H locs A hR hS hl hn
  obtain ⟨hx, hb, hml, hown, hts, hV, hsz, hini⟩ := fx
  exact lv_iushr hx hb hd rfl (k H locs A hR hS hl hn)
theorem sd_lshl {x : Int64} {y : Int32} (fx : FX p s m args meth c g own nL n0 ini cc) (hd : decode cc pc = .ok (.lshl, 1)) (k : WX p l e R s m args below meth c Z g nL n0 (pc + 1) ls (.long (x <<< (y.toInt64 &&& 63)) :: st) n w k1 k2) : WX p l e R s m args below meth c Z g nL n0 pc ls (.int y :: .long x :: st) n w k1 k2 := by
  intro H locs A hR hS hl hn
  obtain ⟨hx, hb, hml, hown, hts, hV, hsz, hini⟩ := fx
  exact lv_lshl hx hb hd rfl (k H locs A hR hS hl hn)
theorem sd_i2l {x : Int32} (fx : FX p s m args meth c g own nL n0 ini cc) (hd : decode cc pc = .ok (.i2l, 1)) (k : WX p l e R s m args below meth c Z g nL n0 (pc + 1) ls (.long x.toInt64 :: st) n w k1 k2) : WX p l e R s m args below meth c Z g nL n0 pc ls (.int x :: st) n w k1 k2 := by
  intro H locs A hR hS hl hn
  obtain ⟨hx, hb, hml, hown, hts, hV, hsz, hini⟩ := fx
  exact lv_i2l hx hb hd rfl (k H locs A hR hS hl hn)
theorem sd_l2i {x : Int64} (fx : FX p s m args meth c g own nL n0 ini cc) (hd : decode cc pc = .ok (.l2i, 1)) (k : WX p l e R s m args below meth c Z g nL n0 (pc + 1) ls (.int x.toInt32 :: st) n w k1 k2) : WX p l e R s m args below meth c Z g nL n0 pc ls (.long x :: st) n w k1 k2 := by
  intro H locs A hR hS hl hn
  obtain ⟨hx, hb, hml, hown, hts, hV, hsz, hini⟩ := fx
  exact lv_l2i hx hb hd rfl (k H locs A hR hS hl hn)
theorem sd_i2b {x : Int32} (fx : FX p s m args meth c g own nL n0 ini cc) (hd : decode cc pc = .ok (.i2b, 1)) (k : WX p l e R s m args below meth c Z g nL n0 (pc + 1) ls (.int x.toInt8.toInt32 :: st) n w k1 k2) : WX p l e R s m args below meth c Z g nL n0 pc ls (.int x :: st) n w k1 k2 := by
  intro H locs A hR hS hl hn
  obtain ⟨hx, hb, hml, hown, hts, hV, hsz, hini⟩ := fx
  exact lv_i2b hx hb hd rfl (k H locs A hR hS hl hn)
theorem sd_i2s {x : Int32} (fx : FX p s m args meth c g own nL n0 ini cc) (hd : decode cc pc = .ok (.i2s, 1)) (k : WX p l e R s m args below meth c Z g nL n0 (pc + 1) ls (.int x.toInt16.toInt32 :: st) n w k1 k2) : WX p l e R s m args below meth c Z g nL n0 pc ls (.int x :: st) n w k1 k2 := by
  intro H locs A hR hS hl hn
  obtain ⟨hx, hb, hml, hown, hts, hV, hsz, hini⟩ := fx
  exact lv_i2s hx hb hd rfl (k H locs A hR hS hl hn)
theorem sd_lcmp {x y : Int64} (fx : FX p s m args meth c g own nL n0 ini cc) (hd : decode cc pc = .ok (.lcmp, 1)) (k : WX p l e R s m args below meth c Z g nL n0 (pc + 1) ls (.int (lg_cmp x y) :: st) n w k1 k2) : WX p l e R s m args below meth c Z g nL n0 pc ls (.long y :: .long x :: st) n w k1 k2 := by
  intro H locs A hR hS hl hn
  obtain ⟨hx, hb, hml, hown, hts, hV, hsz, hini⟩ := fx
  exact W.lcmp hx hb hd (k H locs A hR hS hl hn)
theorem sd_dupi {x : Int32} (fx : FX p s m args meth c g own nL n0 ini cc) (hd : decode cc pc = .ok (.dup, 1)) (k : WX p l e R s m args below meth c Z g nL n0 (pc + 1) ls (.int x :: .int x :: st) n w k1 k2) : WX p l e R s m args below meth c Z g nL n0 pc ls (.int x :: st) n w k1 k2 := by
  intro H locs A hR hS hl hn
  obtain ⟨hx, hb, hml, hown, hts, hV, hsz, hini⟩ := fx
  exact lv_dup hx hb hd rfl (k H locs A hR hS hl hn)
theorem sd_dupr {x : Nat} (fx : FX p s m args meth c g own nL n0 ini cc) (hd : decode cc pc = .ok (.dup, 1)) (k : WX p l e R s m args below meth c Z g nL n0 (pc + 1) ls (.ref x :: .ref x :: st) n w k1 k2) : WX p l e R s m args below meth c Z g nL n0 pc ls (.ref x :: st) n w k1 k2 := by
  intro H locs A hR hS hl hn
  obtain ⟨hx, hb, hml, hown, hts, hV, hsz, hini⟩ := fx
  exact lv_dup hx hb hd rfl (k H locs A hR hS hl hn)
theorem sd_dup2 {x : Int32} {y : Nat} (fx : FX p s m args meth c g own nL n0 ini cc) (hd : decode cc pc = .ok (.dup2, 1)) (k : WX p l e R s m args below meth c Z g nL n0 (pc + 1) ls (.int x :: .ref y :: .int x :: .ref y :: st) n w k1 k2) : WX p l e R s m args below meth c Z g nL n0 pc ls (.int x :: .ref y :: st) n w k1 k2 := by
  intro H locs A hR hS hl hn
  obtain ⟨hx, hb, hml, hown, hts, hV, hsz, hini⟩ := fx
  exact lv_dup2_11 hx hb hd rfl rfl (k H locs A hR hS hl hn)
theorem sd_pop {x : Int32} (fx : FX p s m args meth c g own nL n0 ini cc) (hd : decode cc pc = .ok (.pop, 1)) (k : WX p l e R s m args below meth c Z g nL n0 (pc + 1) ls st n w k1 k2) : WX p l e R s m args below meth c Z g nL n0 pc ls (.int x :: st) n w k1 k2 := by
  intro H locs A hR hS hl hn
  obtain ⟨hx, hb, hml, hown, hts, hV, hsz, hini⟩ := fx
  exact lv_pop (va := .int x) hx hb hd rfl (k H locs A hR hS hl hn)
theorem sd_iconst {i : Int} (fx : FX p s m args meth c g own nL n0 ini cc) (hd : decode cc pc = .ok (.iconst i, 1)) (k : WX p l e R s m args below meth c Z g nL n0 (pc + 1) ls (.int (Int32.ofInt i) :: st) n w k1 k2) : WX p l e R s m args below meth c Z g nL n0 pc ls st n w k1 k2 := by
  intro H locs A hR hS hl hn
  obtain ⟨hx, hb, hml, hown, hts, hV, hsz, hini⟩ := fx
  exact lv_iconst hx hb hd rfl (k H locs A hR hS hl hn)
theorem sd_bipush {i : Int} (fx : FX p s m args meth c g own nL n0 ini cc) (hd : decode cc pc = .ok (.bipush i, 2)) (k : WX p l e R s m args below meth c Z g nL n0 (pc + 2) ls (.int ((Int8.ofInt i).toInt32) :: st) n w k1 k2) : WX p l e R s m args below meth c Z g nL n0 pc ls st n w k1 k2 := by
  intro H locs A hR hS hl hn
  obtain ⟨hx, hb, hml, hown, hts, hV, hsz, hini⟩ := fx
  exact lv_bipush hx hb hd rfl (k H locs A hR hS hl hn)
theorem sd_sipush {i : Int} (fx : FX p s m args meth c g own nL n0 ini cc) (hd : decode cc pc = .ok (.sipush i, 3)) (k : WX p l e R s m args below meth c Z g nL n0 (pc + 3) ls (.int ((Int16.ofInt i).toInt32) :: st) n w k1 k2) : WX p l e R s m args below meth c Z g nL n0 pc ls st n w k1 k2 := by
  intro H locs A hR hS hl hn
  obtain ⟨hx, hb, hml, hown, hts, hV, hsz, hini⟩ := fx
  exact lv_sipush hx hb hd rfl (k H locs A hR hS hl hn)
theorem sd_lconst {i : Fin 2} (fx : FX p s m args meth c g own nL n0 ini cc) (hd : decode cc pc = .ok (.lconst i, 1)) (k : WX p l e R s m args below meth c Z g nL n0 (pc + 1) ls (.long (Int64.ofNat (i : Nat)) :: st) n w k1 k2) : WX p l e R s m args below meth c Z g nL n0 pc ls st n w k1 k2 := by
  intro H locs A hR hS hl hn
  obtain ⟨hx, hb, hml, hown, hts, hV, hsz, hini⟩ := fx
  exact lv_lconst hx hb hd rfl (k H locs A hR hS hl hn)
theorem sd_ldc {i : Nat} {x : Int32} (fx : FX p s m args meth c g own nL n0 ini cc) (hd : decode cc pc = .ok (.ldc i, 2)) (hk : (own, i, x) ∈ lk_k) (k : WX p l e R s m args below meth c Z g nL n0 (pc + 2) ls (.int x :: st) n w k1 k2) : WX p l e R s m args below meth c Z g nL n0 pc ls st n w k1 k2 := by
  intro H locs A hR hS hl hn
  obtain ⟨hx, hb, hml, hown, hts, hV, hsz, hini⟩ := fx
  exact lv_ldc hx hb hown (hts _ (lk_k_ok _ hk) rfl) hd (k H locs A hR hS hl hn)
theorem sd_ldcw {i : Nat} {x : Int32} (fx : FX p s m args meth c g own nL n0 ini cc) (hd : decode cc pc = .ok (.ldc_w i, 3)) (hk : (own, i, x) ∈ lk_k) (k : WX p l e R s m args below meth c Z g nL n0 (pc + 3) ls (.int x :: st) n w k1 k2) : WX p l e R s m args below meth c Z g nL n0 pc ls st n w k1 k2 := by
  intro H locs A hR hS hl hn
  obtain ⟨hx, hb, hml, hown, hts, hV, hsz, hini⟩ := fx
  exact lv_ldcw hx hb hown (hts _ (lk_k_ok _ hk) rfl) hd (k H locs A hR hS hl hn)
theorem sd_ldc2 {i : Nat} {x : Int64} (fx : FX p s m args meth c g own nL n0 ini cc) (hd : decode cc pc = .ok (.ldc2_w i, 3)) (hk : (own, i, x) ∈ lk_l) (k : WX p l e R s m args below meth c Z g nL n0 (pc + 3) ls (.long x :: st) n w k1 k2) : WX p l e R s m args below meth c Z g nL n0 pc ls st n w k1 k2 := by
  intro H locs A hR hS hl hn
  obtain ⟨hx, hb, hml, hown, hts, hV, hsz, hini⟩ := fx
  exact lv_ldc2 hx hb hown (hts _ (lk_l_ok _ hk) rfl) hd (k H locs A hR hS hl hn)
theorem sd_ldcs {i a : Nat} (fx : FX p s m args meth c g own nL n0 ini cc) (hd : decode cc pc = .ok (.ldc i, 2)) (hk : (own, i, a) ∈ ok_ss) (k : WX p l e R s m args below meth c Z g nL n0 (pc + 2) ls (.ref a :: st) n w k1 k2) : WX p l e R s m args below meth c Z g nL n0 pc ls st n w k1 k2 := by
  intro H locs A hR hS hl hn
  obtain ⟨hx, hb, hml, hown, hts, hV, hsz, hini⟩ := fx
  obtain ⟨tx, hq⟩ : ∃ tx, (own, i, a, tx) ∈ sv_ss := by
    simp only [ok_ss, List.mem_cons, Prod.mk.injEq, List.not_mem_nil, or_false] at hk
    rcases hk with ⟨rfl, rfl, rfl⟩ | ⟨rfl, rfl, rfl⟩ | ⟨rfl, rfl, rfl⟩ | ⟨rfl, rfl, rfl⟩ | ⟨rfl, rfl, rfl⟩ | ⟨rfl, rfl, rfl⟩ | ⟨rfl, rfl, rfl⟩ | ⟨rfl, rfl, rfl⟩
    · exact ⟨"mole", List.mem_of_getElem? (i := 0) rfl⟩
    · exact ⟨"digger", List.mem_of_getElem? (i := 1) rfl⟩
    · exact ⟨"carrier", List.mem_of_getElem? (i := 2) rfl⟩
    · exact ⟨"retired", List.mem_of_getElem? (i := 3) rfl⟩
    · exact ⟨"master", List.mem_of_getElem? (i := 4) rfl⟩
    · exact ⟨"hurrier", List.mem_of_getElem? (i := 5) rfl⟩
    · exact ⟨"dug", List.mem_of_getElem? (i := 6) rfl⟩
    · exact ⟨"secret", List.mem_of_getElem? (i := 7) rfl⟩
  have ha : 1000 ≤ a := by
    simp only [ok_ss, List.mem_cons, Prod.mk.injEq, List.not_mem_nil, or_false] at hk
    omega
  have h7 := hV.2.2.2.2.2.2.1 _ hq
  have e1 : sv_ad g a = gK g (a - 1000) := by unfold sv_ad; rw [if_neg (by omega), if_neg (by omega)]
  refine va_ldcS hx hb hown (q := sv_ad g a) (by rw [e1]; exact h7) hd (k H locs A hR hS hl hn)
theorem sd_iload {i : Nat} {x : Int32} (fx : FX p s m args meth c g own nL n0 ini cc) (hd : decode cc pc = .ok (.iload i, 2)) (hi : ls.getD i none = some (.int x)) (k : WX p l e R s m args below meth c Z g nL n0 (pc + 2) ls (.int x :: st) n w k1 k2) : WX p l e R s m args below meth c Z g nL n0 pc ls st n w k1 k2 := by
  intro H locs A hR hS hl hn
  obtain ⟨hx, hb, hml, hown, hts, hV, hsz, hini⟩ := fx
  exact lv_iload hx hb hd (hl.at hi) (k H locs A hR hS hl hn)
theorem sd_iload_n {i : Nat} {x : Int32} {j : Fin 4} (fx : FX p s m args meth c g own nL n0 ini cc) (hd : decode cc pc = .ok (.iload_n j, 1)) (hj : (j : Nat) = i) (hi : ls.getD i none = some (.int x)) (k : WX p l e R s m args below meth c Z g nL n0 (pc + 1) ls (.int x :: st) n w k1 k2) : WX p l e R s m args below meth c Z g nL n0 pc ls st n w k1 k2 := by
  intro H locs A hR hS hl hn
  obtain ⟨hx, hb, hml, hown, hts, hV, hsz, hini⟩ := fx
  exact lv_iload_n hx hb hd hj (hl.at hi) (k H locs A hR hS hl hn)
theorem sd_istore {i : Nat} {x : Int32} (fx : FX p s m args meth c g own nL n0 ini cc) (hd : decode cc pc = .ok (.istore i, 2)) (hi : i < nL) (hok : am_ok ls i) (k : WX p l e R s m args below meth c Z g nL n0 (pc + 2) (ls.set i (some (.int x))) st n w k1 k2) : WX p l e R s m args below meth c Z g nL n0 pc ls (.int x :: st) n w k1 k2 := by
  intro H locs A hR hS hl hn
  obtain ⟨hx, hb, hml, hown, hts, hV, hsz, hini⟩ := fx
  obtain ⟨hl0, lv, h1, h2⟩ := hl
  obtain ⟨h3, h4⟩ := LR.st1 (x := .int x) hl0 h2 hi hok
  exact lv_istore hx hb hd h1 hi rfl (fun A' hA' => k H locs A' hR hS ⟨h3, _, hA', h4⟩ hn)
theorem sd_istore_n {i : Nat} {x : Int32} {j : Fin 4} (fx : FX p s m args meth c g own nL n0 ini cc) (hd : decode cc pc = .ok (.istore_n j, 1)) (hj : (j : Nat) = i) (hi : i < nL) (hok : am_ok ls i) (k : WX p l e R s m args below meth c Z g nL n0 (pc + 1) (ls.set i (some (.int x))) st n w k1 k2) : WX p l e R s m args below meth c Z g nL n0 pc ls (.int x :: st) n w k1 k2 := by
  intro H locs A hR hS hl hn
  obtain ⟨hx, hb, hml, hown, hts, hV, hsz, hini⟩ := fx
  obtain ⟨hl0, lv, h1, h2⟩ := hl
  obtain ⟨h3, h4⟩ := LR.st1 (x := .int x) hl0 h2 hi hok
  exact lv_istore_n hx hb hd hj h1 hi rfl (fun A' hA' => k H locs A' hR hS ⟨h3, _, hA', h4⟩ hn)
theorem sd_lload {i : Nat} {x : Int64} (fx : FX p s m args meth c g own nL n0 ini cc) (hd : decode cc pc = .ok (.lload i, 2)) (hi : ls.getD i none = some (.long x)) (k : WX p l e R s m args below meth c Z g nL n0 (pc + 2) ls (.long x :: st) n w k1 k2) : WX p l e R s m args below meth c Z g nL n0 pc ls st n w k1 k2 := by
  intro H locs A hR hS hl hn
  obtain ⟨hx, hb, hml, hown, hts, hV, hsz, hini⟩ := fx
  exact lv_lload hx hb hd (hl.at hi) (k H locs A hR hS hl hn)
theorem sd_lload_n {i : Nat} {x : Int64} {j : Fin 4} (fx : FX p s m args meth c g own nL n0 ini cc) (hd : decode cc pc = .ok (.lload_n j, 1)) (hj : (j : Nat) = i) (hi : ls.getD i none = some (.long x)) (k : WX p l e R s m args below meth c Z g nL n0 (pc + 1) ls (.long x :: st) n w k1 k2) : WX p l e R s m args below meth c Z g nL n0 pc ls st n w k1 k2 := by
  intro H locs A hR hS hl hn
  obtain ⟨hx, hb, hml, hown, hts, hV, hsz, hini⟩ := fx
  exact lv_lload_n hx hb hd hj (hl.at hi) (k H locs A hR hS hl hn)
theorem sd_lstore {i : Nat} {x : Int64} (fx : FX p s m args meth c g own nL n0 ini cc) (hd : decode cc pc = .ok (.lstore i, 2)) (hi : i + 1 < nL) (hok : am_ok ls i) (k : WX p l e R s m args below meth c Z g nL n0 (pc + 2) ((ls.set i (some (.long x))).set (i + 1) none) st n w k1 k2) : WX p l e R s m args below meth c Z g nL n0 pc ls (.long x :: st) n w k1 k2 := by
  intro H locs A hR hS hl hn
  obtain ⟨hx, hb, hml, hown, hts, hV, hsz, hini⟩ := fx
  obtain ⟨hl0, lv, h1, h2⟩ := hl
  obtain ⟨h3, h4⟩ := LR.st2 (x := .long x) hl0 h2 hi hok
  exact lv_lstore hx hb hd h1 hi rfl (fun A' hA' => k H locs A' hR hS ⟨h3, _, hA', h4⟩ hn)
theorem sd_lstore_n {i : Nat} {x : Int64} {j : Fin 4} (fx : FX p s m args meth c g own nL n0 ini cc) (hd : decode cc pc = .ok (.lstore_n j, 1)) (hj : (j : Nat) = i) (hi : i + 1 < nL) (hok : am_ok ls i) (k : WX p l e R s m args below meth c Z g nL n0 (pc + 1) ((ls.set i (some (.long x))).set (i + 1) none) st n w k1 k2) : WX p l e R s m args below meth c Z g nL n0 pc ls (.long x :: st) n w k1 k2 := by
  intro H locs A hR hS hl hn
  obtain ⟨hx, hb, hml, hown, hts, hV, hsz, hini⟩ := fx
  obtain ⟨hl0, lv, h1, h2⟩ := hl
  obtain ⟨h3, h4⟩ := LR.st2 (x := .long x) hl0 h2 hi hok
  exact lv_lstore_n hx hb hd hj h1 hi rfl (fun A' hA' => k H locs A' hR hS ⟨h3, _, hA', h4⟩ hn)
theorem sd_aload {i : Nat} {x : Nat} (fx : FX p s m args meth c g own nL n0 ini cc) (hd : decode cc pc = .ok (.aload i, 2)) (hi : ls.getD i none = some (.ref x)) (k : WX p l e R s m args below meth c Z g nL n0 (pc + 2) ls (.ref x :: st) n w k1 k2) : WX p l e R s m args below meth c Z g nL n0 pc ls st n w k1 k2 := by
  intro H locs A hR hS hl hn
  obtain ⟨hx, hb, hml, hown, hts, hV, hsz, hini⟩ := fx
  exact lv_aload hx hb hd (hl.at hi) (k H locs A hR hS hl hn)
theorem sd_aload_n {i : Nat} {x : Nat} {j : Fin 4} (fx : FX p s m args meth c g own nL n0 ini cc) (hd : decode cc pc = .ok (.aload_n j, 1)) (hj : (j : Nat) = i) (hi : ls.getD i none = some (.ref x)) (k : WX p l e R s m args below meth c Z g nL n0 (pc + 1) ls (.ref x :: st) n w k1 k2) : WX p l e R s m args below meth c Z g nL n0 pc ls st n w k1 k2 := by
  intro H locs A hR hS hl hn
  obtain ⟨hx, hb, hml, hown, hts, hV, hsz, hini⟩ := fx
  exact lv_aload_n hx hb hd hj (hl.at hi) (k H locs A hR hS hl hn)
theorem sd_astore {i : Nat} {x : Nat} (fx : FX p s m args meth c g own nL n0 ini cc) (hd : decode cc pc = .ok (.astore i, 2)) (hi : i < nL) (hok : am_ok ls i) (k : WX p l e R s m args below meth c Z g nL n0 (pc + 2) (ls.set i (some (.ref x))) st n w k1 k2) : WX p l e R s m args below meth c Z g nL n0 pc ls (.ref x :: st) n w k1 k2 := by
  intro H locs A hR hS hl hn
  obtain ⟨hx, hb, hml, hown, hts, hV, hsz, hini⟩ := fx
  obtain ⟨hl0, lv, h1, h2⟩ := hl
  obtain ⟨h3, h4⟩ := LR.st1 (x := .ref x) hl0 h2 hi hok
  exact lv_astore hx hb hd h1 hi rfl (fun A' hA' => k H locs A' hR hS ⟨h3, _, hA', h4⟩ hn)
theorem sd_astore_n {i : Nat} {x : Nat} {j : Fin 4} (fx : FX p s m args meth c g own nL n0 ini cc) (hd : decode cc pc = .ok (.astore_n j, 1)) (hj : (j : Nat) = i) (hi : i < nL) (hok : am_ok ls i) (k : WX p l e R s m args below meth c Z g nL n0 (pc + 1) (ls.set i (some (.ref x))) st n w k1 k2) : WX p l e R s m args below meth c Z g nL n0 pc ls (.ref x :: st) n w k1 k2 := by
  intro H locs A hR hS hl hn
  obtain ⟨hx, hb, hml, hown, hts, hV, hsz, hini⟩ := fx
  obtain ⟨hl0, lv, h1, h2⟩ := hl
  obtain ⟨h3, h4⟩ := LR.st1 (x := .ref x) hl0 h2 hi hok
  exact lv_astore_n hx hb hd hj h1 hi rfl (fun A' hA' => k H locs A' hR hS ⟨h3, _, hA', h4⟩ hn)
theorem sd_iinc {i : Nat} {b : Int} {x : Int32} (fx : FX p s m args meth c g own nL n0 ini cc) (hd : decode cc pc = .ok (.iinc i b, 3)) (hi : i < nL) (hok : am_ok ls i) (hx0 : ls.getD i none = some (.int x)) (k : WX p l e R s m args below meth c Z g nL n0 (pc + 3) (ls.set i (some (.int (x + Int32.ofInt b)))) st n w k1 k2) : WX p l e R s m args below meth c Z g nL n0 pc ls st n w k1 k2 := by
  intro H locs A hR hS hl hn
  obtain ⟨hx, hb, hml, hown, hts, hV, hsz, hini⟩ := fx
  obtain ⟨hl0, lv, h1, h2⟩ := hl
  obtain ⟨h3, h4⟩ := LR.st1 (x := .int (x + Int32.ofInt b)) hl0 h2 hi hok
  have hm : (i, Value.int x) ∈ lv := by
    refine h2 i (.int x) ?_
    rw [List.getD_eq_getElem?_getD] at hx0
    cases hx : ls[i]? with
    | none => rw [hx] at hx0; cases hx0
    | some y => rw [hx] at hx0; simp at hx0; rw [hx0]
  obtain ⟨q, hq⟩ := List.getElem?_of_mem hm
  exact lv_iinc hx hb hd h1 hq rfl hi rfl (fun A' hA' => k H locs A' hR hS ⟨h3, _, hA', h4⟩ hn)
theorem sd_if_eq {x : Int32} {b : Int} {tg : Nat} (fx : FX p s m args meth c g own nL n0 ini cc) (hd : decode cc pc = .ok (.ifCond .eq b, 3)) (ht : (pc : Int) + b = (tg : Int)) (kt : x = 0 → WX p l e R s m args below meth c Z g nL n0 tg ls st n w k1 k2) (kf : ¬ x = 0 → WX p l e R s m args below meth c Z g nL n0 (pc + 3) ls st n w k1 k2)  : WX p l e R s m args below meth c Z g nL n0 pc ls (.int x :: st) n w k1 k2 := by
  intro H locs A hR hS hl hn
  obtain ⟨hx, hb, hml, hown, hts, hV, hsz, hini⟩ := fx
  exact lv_if_eq hx hb hd ht (fun h => kt h H locs A hR hS hl hn) (fun h => kf h H locs A hR hS hl hn)
theorem sd_ic_eq {x y : Int32} {b : Int} {tg : Nat} (fx : FX p s m args meth c g own nL n0 ini cc) (hd : decode cc pc = .ok (.if_icmp .eq b, 3)) (ht : (pc : Int) + b = (tg : Int)) (kt : x = y → WX p l e R s m args below meth c Z g nL n0 tg ls st n w k1 k2) (kf : ¬ x = y → WX p l e R s m args below meth c Z g nL n0 (pc + 3) ls st n w k1 k2)  : WX p l e R s m args below meth c Z g nL n0 pc ls (.int y :: .int x :: st) n w k1 k2 := by
  intro H locs A hR hS hl hn
  obtain ⟨hx, hb, hml, hown, hts, hV, hsz, hini⟩ := fx
  exact lv_icmp_eq hx hb hd ht (fun h => kt h H locs A hR hS hl hn) (fun h => kf h H locs A hR hS hl hn)
theorem sd_if_ne {x : Int32} {b : Int} {tg : Nat} (fx : FX p s m args meth c g own nL n0 ini cc) (hd : decode cc pc = .ok (.ifCond .ne b, 3)) (ht : (pc : Int) + b = (tg : Int)) (kt : ¬ x = 0 → WX p l e R s m args below meth c Z g nL n0 tg ls st n w k1 k2) (kf : x = 0 → WX p l e R s m args below meth c Z g nL n0 (pc + 3) ls st n w k1 k2)  : WX p l e R s m args below meth c Z g nL n0 pc ls (.int x :: st) n w k1 k2 := by
  intro H locs A hR hS hl hn
  obtain ⟨hx, hb, hml, hown, hts, hV, hsz, hini⟩ := fx
  exact lv_if_ne hx hb hd ht (fun h => kt h H locs A hR hS hl hn) (fun h => kf h H locs A hR hS hl hn)
theorem sd_ic_ne {x y : Int32} {b : Int} {tg : Nat} (fx : FX p s m args meth c g own nL n0 ini cc) (hd : decode cc pc = .ok (.if_icmp .ne b, 3)) (ht : (pc : Int) + b = (tg : Int)) (kt : ¬ x = y → WX p l e R s m args below meth c Z g nL n0 tg ls st n w k1 k2) (kf : x = y → WX p l e R s m args below meth c Z g nL n0 (pc + 3) ls st n w k1 k2)  : WX p l e R s m args below meth c Z g nL n0 pc ls (.int y :: .int x :: st) n w k1 k2 := by
  intro H locs A hR hS hl hn
  obtain ⟨hx, hb, hml, hown, hts, hV, hsz, hini⟩ := fx
  exact lv_icmp_ne hx hb hd ht (fun h => kt h H locs A hR hS hl hn) (fun h => kf h H locs A hR hS hl hn)
theorem sd_if_lt {x : Int32} {b : Int} {tg : Nat} (fx : FX p s m args meth c g own nL n0 ini cc) (hd : decode cc pc = .ok (.ifCond .lt b, 3)) (ht : (pc : Int) + b = (tg : Int)) (kt : x < 0 → WX p l e R s m args below meth c Z g nL n0 tg ls st n w k1 k2) (kf : ¬ x < 0 → WX p l e R s m args below meth c Z g nL n0 (pc + 3) ls st n w k1 k2)  : WX p l e R s m args below meth c Z g nL n0 pc ls (.int x :: st) n w k1 k2 := by
  intro H locs A hR hS hl hn
  obtain ⟨hx, hb, hml, hown, hts, hV, hsz, hini⟩ := fx
  exact lv_if_lt hx hb hd ht (fun h => kt h H locs A hR hS hl hn) (fun h => kf h H locs A hR hS hl hn)
theorem sd_ic_lt {x y : Int32} {b : Int} {tg : Nat} (fx : FX p s m args meth c g own nL n0 ini cc) (hd : decode cc pc = .ok (.if_icmp .lt b, 3)) (ht : (pc : Int) + b = (tg : Int)) (kt : x < y → WX p l e R s m args below meth c Z g nL n0 tg ls st n w k1 k2) (kf : ¬ x < y → WX p l e R s m args below meth c Z g nL n0 (pc + 3) ls st n w k1 k2)  : WX p l e R s m args below meth c Z g nL n0 pc ls (.int y :: .int x :: st) n w k1 k2 := by
  intro H locs A hR hS hl hn
  obtain ⟨hx, hb, hml, hown, hts, hV, hsz, hini⟩ := fx
  exact lv_icmp_lt hx hb hd ht (fun h => kt h H locs A hR hS hl hn) (fun h => kf h H locs A hR hS hl hn)
theorem sd_if_ge {x : Int32} {b : Int} {tg : Nat} (fx : FX p s m args meth c g own nL n0 ini cc) (hd : decode cc pc = .ok (.ifCond .ge b, 3)) (ht : (pc : Int) + b = (tg : Int)) (kt : 0 ≤ x → WX p l e R s m args below meth c Z g nL n0 tg ls st n w k1 k2) (kf : ¬ 0 ≤ x → WX p l e R s m args below meth c Z g nL n0 (pc + 3) ls st n w k1 k2)  : WX p l e R s m args below meth c Z g nL n0 pc ls (.int x :: st) n w k1 k2 := by
  intro H locs A hR hS hl hn
  obtain ⟨hx, hb, hml, hown, hts, hV, hsz, hini⟩ := fx
  exact lv_if_ge hx hb hd ht (fun h => kt h H locs A hR hS hl hn) (fun h => kf h H locs A hR hS hl hn)
theorem sd_ic_ge {x y : Int32} {b : Int} {tg : Nat} (fx : FX p s m args meth c g own nL n0 ini cc) (hd : decode cc pc = .ok (.if_icmp .ge b, 3)) (ht : (pc : Int) + b = (tg : Int)) (kt : y ≤ x → WX p l e R s m args below meth c Z g nL n0 tg ls st n w k1 k2) (kf : ¬ y ≤ x → WX p l e R s m args below meth c Z g nL n0 (pc + 3) ls st n w k1 k2)  : WX p l e R s m args below meth c Z g nL n0 pc ls (.int y :: .int x :: st) n w k1 k2 := by
  intro H locs A hR hS hl hn
  obtain ⟨hx, hb, hml, hown, hts, hV, hsz, hini⟩ := fx
  exact lv_icmp_ge hx hb hd ht (fun h => kt h H locs A hR hS hl hn) (fun h => kf h H locs A hR hS hl hn)
theorem sd_if_gt {x : Int32} {b : Int} {tg : Nat} (fx : FX p s m args meth c g own nL n0 ini cc) (hd : decode cc pc = .ok (.ifCond .gt b, 3)) (ht : (pc : Int) + b = (tg : Int)) (kt : 0 < x → WX p l e R s m args below meth c Z g nL n0 tg ls st n w k1 k2) (kf : ¬ 0 < x → WX p l e R s m args below meth c Z g nL n0 (pc + 3) ls st n w k1 k2)  : WX p l e R s m args below meth c Z g nL n0 pc ls (.int x :: st) n w k1 k2 := by
  intro H locs A hR hS hl hn
  obtain ⟨hx, hb, hml, hown, hts, hV, hsz, hini⟩ := fx
  exact lv_if_gt hx hb hd ht (fun h => kt h H locs A hR hS hl hn) (fun h => kf h H locs A hR hS hl hn)
theorem sd_ic_gt {x y : Int32} {b : Int} {tg : Nat} (fx : FX p s m args meth c g own nL n0 ini cc) (hd : decode cc pc = .ok (.if_icmp .gt b, 3)) (ht : (pc : Int) + b = (tg : Int)) (kt : y < x → WX p l e R s m args below meth c Z g nL n0 tg ls st n w k1 k2) (kf : ¬ y < x → WX p l e R s m args below meth c Z g nL n0 (pc + 3) ls st n w k1 k2)  : WX p l e R s m args below meth c Z g nL n0 pc ls (.int y :: .int x :: st) n w k1 k2 := by
  intro H locs A hR hS hl hn
  obtain ⟨hx, hb, hml, hown, hts, hV, hsz, hini⟩ := fx
  exact lv_icmp_gt hx hb hd ht (fun h => kt h H locs A hR hS hl hn) (fun h => kf h H locs A hR hS hl hn)
theorem sd_if_le {x : Int32} {b : Int} {tg : Nat} (fx : FX p s m args meth c g own nL n0 ini cc) (hd : decode cc pc = .ok (.ifCond .le b, 3)) (ht : (pc : Int) + b = (tg : Int)) (kt : x ≤ 0 → WX p l e R s m args below meth c Z g nL n0 tg ls st n w k1 k2) (kf : ¬ x ≤ 0 → WX p l e R s m args below meth c Z g nL n0 (pc + 3) ls st n w k1 k2)  : WX p l e R s m args below meth c Z g nL n0 pc ls (.int x :: st) n w k1 k2 := by
  intro H locs A hR hS hl hn
  obtain ⟨hx, hb, hml, hown, hts, hV, hsz, hini⟩ := fx
  exact lv_if_le hx hb hd ht (fun h => kt h H locs A hR hS hl hn) (fun h => kf h H locs A hR hS hl hn)
theorem sd_ic_le {x y : Int32} {b : Int} {tg : Nat} (fx : FX p s m args meth c g own nL n0 ini cc) (hd : decode cc pc = .ok (.if_icmp .le b, 3)) (ht : (pc : Int) + b = (tg : Int)) (kt : x ≤ y → WX p l e R s m args below meth c Z g nL n0 tg ls st n w k1 k2) (kf : ¬ x ≤ y → WX p l e R s m args below meth c Z g nL n0 (pc + 3) ls st n w k1 k2)  : WX p l e R s m args below meth c Z g nL n0 pc ls (.int y :: .int x :: st) n w k1 k2 := by
  intro H locs A hR hS hl hn
  obtain ⟨hx, hb, hml, hown, hts, hV, hsz, hini⟩ := fx
  exact lv_icmp_le hx hb hd ht (fun h => kt h H locs A hR hS hl hn) (fun h => kf h H locs A hR hS hl hn)
theorem sd_goto {b : Int} {tg : Nat} (fx : FX p s m args meth c g own nL n0 ini cc) (hd : decode cc pc = .ok (.goto b, 3)) (ht : (pc : Int) + b = (tg : Int)) (k : WX p l e R s m args below meth c Z g nL n0 tg ls st n w k1 k2) : WX p l e R s m args below meth c Z g nL n0 pc ls st n w k1 k2 := by
  intro H locs A hR hS hl hn
  obtain ⟨hx, hb, hml, hown, hts, hV, hsz, hini⟩ := fx
  exact lv_goto hx hb hd ht (k H locs A hR hS hl hn)
/-- where a switch goes -/
theorem am_sw_at {x : Int32} {d : Nat} {K : Nat → Prop} : ∀ {cs : List (Int32 × Nat)}, am_sw x cs d K → (∃ t, (x, t) ∈ cs ∧ (∃ i : Nat, cs[i]? = some (x, t) ∧ ∀ (j : Nat) (q : Int32 × Nat), j < i → cs[j]? = some q → q.1 ≠ x) ∧ K t) ∨ ((∀ q ∈ cs, q.1 ≠ x) ∧ K d)
  | [], h => Or.inr ⟨fun q hq => absurd hq List.not_mem_nil, h⟩
  | (a, t) :: r, h => by
    unfold am_sw at h
    by_cases hx : x = a
    · rw [if_pos hx] at h
      subst hx
      exact Or.inl ⟨t, List.mem_cons_self, ⟨0, rfl, fun j q hj => absurd hj (Nat.not_lt_zero _)⟩, h⟩
    · rw [if_neg hx] at h
      rcases am_sw_at h with ⟨t', h1, ⟨i, h2, h3⟩, h4⟩ | ⟨h1, h2⟩
      · refine Or.inl ⟨t', List.mem_cons_of_mem _ h1, ⟨i + 1, h2, fun j q hj hq => ?_⟩, h4⟩
        cases j with
        | zero => cases hq; exact fun z => hx z.symm
        | succ j => exact h3 j q (by omega) hq
      · refine Or.inr ⟨fun q hq => ?_, h2⟩
        rcases List.mem_cons.mp hq with rfl | h5
        · exact fun z => hx z.symm
        · exact h1 q h5
theorem sw_off {x : Int32} {d : Int} : ∀ {ps : List (Int × Int)} {cs : List (Int32 × Nat)} {pc : Nat}, cs.map (fun q => (q.1.toInt, (q.2 : Int))) = ps.map (fun q => (q.1, (pc : Int) + q.2)) →
    (∀ (t i : Nat), cs[i]? = some (x, t) → (∀ (j : Nat) (q : Int32 × Nat), j < i → cs[j]? = some q → q.1 ≠ x) → (pc : Int) + Op.lookupswitch.offset ps d x.toInt = (t : Int)) ∧ ((∀ q ∈ cs, q.1 ≠ x) → Op.lookupswitch.offset ps d x.toInt = d)
  | [], [], pc, h => ⟨fun t i hi => by simp at hi, fun _ => rfl⟩
  | [], _ :: _, pc, h => by simp at h
  | _ :: _, [], pc, h => by simp at h
  | (a, o) :: ps, (k, t0) :: cs, pc, h => by
    simp only [List.map_cons, List.cons.injEq, Prod.mk.injEq] at h
    obtain ⟨⟨h1, h2⟩, h3⟩ := h
    obtain ⟨ih1, ih2⟩ := sw_off (x := x) (d := d) h3
    refine ⟨fun t i hi hj => ?_, fun hq => ?_⟩
    · rw [Op.lookupswitch.offset_cons]
      cases i with
      | zero =>
        simp at hi
        obtain ⟨rfl, rfl⟩ := hi
        rw [if_pos h1.symm]
        exact h2.symm
      | succ i =>
        have hk : k ≠ x := hj 0 (k, t0) (by omega) rfl
        rw [if_neg (fun z => hk (Int32.toInt_inj.mp (by rw [h1]; exact z)))]
        exact ih1 t i (by simpa using hi) (fun j q hj1 hq => hj (j + 1) q (by omega) (by simpa using hq))
    · rw [Op.lookupswitch.offset_cons]
      have hk : k ≠ x := hq (k, t0) List.mem_cons_self
      rw [if_neg (fun z => hk (Int32.toInt_inj.mp (by rw [h1]; exact z)))]
      exact ih2 (fun q hq1 => hq q (List.mem_cons_of_mem _ hq1))
theorem sd_lsw {x : Int32} {d : Int} {ps : Array (Int × Int)} {len tg : Nat} {cs : List (Int32 × Nat)} (fx : FX p s m args meth c g own nL n0 ini cc) (hd : decode cc pc = .ok (.lookupswitch d ps, len)) (hp : (ps.toList.zip (ps.toList.drop 1)).all (fun (a, next) => a.1 < next.1) = true) (hc : cs.map (fun q => (q.1.toInt, (q.2 : Int))) = ps.toList.map (fun q => (q.1, (pc : Int) + q.2))) (ht : (pc : Int) + d = (tg : Int)) (k : am_sw x cs tg (fun t => WX p l e R s m args below meth c Z g nL n0 t ls st n w k1 k2))  : WX p l e R s m args below meth c Z g nL n0 pc ls (.int x :: st) n w k1 k2 := by
  intro H locs A hR hS hl hn
  obtain ⟨hx, hb, hml, hown, hts, hV, hsz, hini⟩ := fx
  obtain ⟨h1, h2⟩ := sw_off (x := x) (d := d) hc
  rcases am_sw_at k with ⟨t, -, ⟨i, h3, h4⟩, h5⟩ | ⟨h3, h5⟩
  · exact lv_lookup hx hb hd hp rfl (h1 t i h3 h4) (h5 H locs A hR hS hl hn)
  · exact lv_lookup hx hb hd hp rfl (by rw [h2 h3]; exact ht) (h5 H locs A hR hS hl hn)
theorem sd_tsw {x : Int32} {d lo hi : Int} {offs : Array Int} {len tg : Nat} {cs : List (Int32 × Nat)} (fx : FX p s m args meth c g own nL n0 ini cc) (hd : decode cc pc = .ok (.tableswitch d lo hi offs, len)) (hc : cs.map (fun q => (q.1.toInt, (q.2 : Int))) = offs.toList.zipIdx.map (fun q => (lo + (q.2 : Int), (pc : Int) + q.1))) (hh : hi = lo + offs.toList.length - 1) (ht : (pc : Int) + d = (tg : Int)) (k : am_sw x cs tg (fun t => WX p l e R s m args below meth c Z g nL n0 t ls st n w k1 k2))  : WX p l e R s m args below meth c Z g nL n0 pc ls (.int x :: st) n w k1 k2 := by
  intro H locs A hR hS hl hn
  obtain ⟨hx, hb, hml, hown, hts, hV, hsz, hini⟩ := fx
  have key : ∀ i : Nat, (cs.map (fun q => (q.1.toInt, (q.2 : Int))))[i]? = (offs.toList.zipIdx.map (fun q => (lo + (q.2 : Int), (pc : Int) + q.1)))[i]? := fun i => by rw [hc]
  rcases am_sw_at k with ⟨t, -, ⟨i, h3, h4⟩, h5⟩ | ⟨h3, h5⟩
  · have h6 := key i
    simp only [List.getElem?_map, h3, List.getElem?_zipIdx, Option.map_some] at h6
    cases h7 : offs.toList[i]? with
    | none => rw [h7] at h6; simp at h6
    | some o =>
      rw [h7] at h6
      simp at h6
      have hlt := (List.getElem?_eq_some_iff.mp h7).1
      refine lv_tableIn hx hb hd (by omega) (by omega) (off := o) ?_ (by omega) (h5 H locs A hR hS hl hn)
      rw [show (x.toInt - lo).toNat = i by omega, ← Array.getElem?_toList]
      exact h7
  · refine lv_tableOut hx hb hd ?_ ht (h5 H locs A hR hS hl hn)
    rcases Int.lt_or_le x.toInt lo with h6 | h6
    · exact Or.inl h6
    · rcases Int.lt_or_le hi x.toInt with h7 | h7
      · exact Or.inr h7
      · exfalso
        have hlt : (x.toInt - lo).toNat < offs.toList.length := by omega
        have h8 := key (x.toInt - lo).toNat
        simp only [List.getElem?_map, List.getElem?_zipIdx, List.getElem?_eq_getElem hlt, Option.map_some] at h8
        cases h9 : cs[(x.toInt - lo).toNat]? with
        | none => rw [h9] at h8; simp at h8
        | some q =>
          rw [h9] at h8
          simp at h8
          exact h3 q (List.mem_of_getElem? h9) (Int32.toInt_inj.mp (by omega))
end SW
