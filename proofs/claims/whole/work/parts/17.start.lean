/-! THE CLAIM OUT OF ONE WALK OF THE LAW'S BODY. Your part is whole_start (and what it stands on); all else here is the same for every law, but numbers. -/
def R_law : String := "MoleSecretsLaw"
def lw_P (b : Addr) (xs : List Int32) (args : Array Value) (s : State) : Prop := args = #[.ref b] ∧ s.IntsAt b xs ∧ xs.length ≤ 3072 ∧ (Jvm.Cond.and given_1 narrow_1).before args s = true
def lw_Q (_ : Array Value) (s : State) (o : Outcome) (t : State) : Prop := o = .returned (some (.int 1)) ∧ Framed s o t [] 62 1388
def lw_Z (below : List Frame) (a : Array Value) (s : State) : State → Prop := fun t => ∃ o, t.status = .running ∧ Ended t below o ∧ lw_Q a s o t
/-- the law's own end, with 1 on the stack, nothing written that was there before, its room as the claim has it -/
theorem lw_ret {p : Program} {l : Launch} {e : Env} {s : State} {m : MethodId} {below : List Frame} {meth : Method} {c : Code} {b : Nat} (hx : p.tables.exec = Jvm.exec) (hb : c.code = code) (hr : meth.sig.returnType = ret) (hlocks : meth.locks = false) {pc : Nat} {H : Heap} {ls : Array Slot} (hdg : decode code pc = .ok (.ireturn, 1)) : W p l e room_1 s m #[Value.ref b] below meth c H [] 62 1388 (lw_Z below #[Value.ref b] s) (F0 m pc ls [.int 1]) := by
  intro T hT X
  obtain ⟨fs, hret, hrun, hended, hW, hframe⟩ := X.leave (v := some (.int 1)) (hlocks := hlocks) (fun h => by rw [hr] at h; cases h)
  have hmeth' : T.vm.method? m = some meth := X.method'
  refine ⟨T.setFrames fs, ?_, .returned (some (.int 1)), hrun, hended, rfl, ⟨_, rfl⟩, hW, hframe⟩
  jvm_step X.here [X.here.top, hx, hb, hdg, hmeth', hr, ret, narrow_b1]
  (try refine ⟨rfl, ?_⟩); (try refine ⟨rfl, ?_⟩)
  first | (intro acts; rw [hret _ acts rfl rfl rfl]) | rw [hret _ _ rfl rfl rfl]
  exact Steps.refl _
/-- what holds at the law's entry: the machine, the code, the tables' words (any of lw_tbl by 'hts w (by decide +kernel)'), the script of L ints xs at the cell b, what the Statement gives of the start (any of its parts by flat_of_before) -/
def lw_At (p : Program) (s : State) (m : MethodId) (meth : Method) (c : Code) (b L : Nat) (xs : Nat → Int32) : Prop :=
  p.tables.exec = Jvm.exec ∧ c.code = code ∧ meth.sig.returnType = ret ∧ c.maxLocals = 4 ∧ s.vm.findClass R_law = some m.cls ∧ (∀ w ∈ lw_tbl, w.before #[Value.ref b] s = true) ∧ va_X b L xs s s.heap ∧ b < s.heap.size ∧ meth.locks = false ∧ (Jvm.Cond.and given_1 narrow_1).before #[Value.ref b] s = true

def sv_tm : Nat → Term := fun i => match i with
  | 0 => .string RX5 7
  | 1 => .string RX1 7
  | 2 => .string RX0 7
  | 3 => .string RX6 7
  | 4 => .string RX4 7
  | 5 => .string RX3 7
  | 6 => .string RX9 35
  | _ => .string RX9 44
set_option maxRecDepth 100000 in
theorem st_ex {args : Array Value} {s : State} (hs : ∀ c ∈ flatC (Jvm.Cond.and given_1 narrow_1), c.before args s = true) : ∀ i ∈ [0, 1, 2, 3, 4, 5, 6, 7], (Cond.exactly (sv_tm i) "java/lang/String").before args s = true := List.forall_mem_cons.mpr ⟨hs _ (List.mem_of_getElem? (i := 202) rfl), List.forall_mem_cons.mpr ⟨hs _ (List.mem_of_getElem? (i := 142) rfl), List.forall_mem_cons.mpr ⟨hs _ (List.mem_of_getElem? (i := 129) rfl), List.forall_mem_cons.mpr ⟨hs _ (List.mem_of_getElem? (i := 185) rfl), List.forall_mem_cons.mpr ⟨hs _ (List.mem_of_getElem? (i := 170) rfl), List.forall_mem_cons.mpr ⟨hs _ (List.mem_of_getElem? (i := 155) rfl), List.forall_mem_cons.mpr ⟨hs _ (List.mem_of_getElem? (i := 111) rfl), List.forall_mem_cons.mpr ⟨hs _ (List.mem_of_getElem? (i := 118) rfl), fun _ h => absurd h List.not_mem_nil⟩⟩⟩⟩⟩⟩⟩⟩
set_option maxRecDepth 100000 in
theorem st_co {args : Array Value} {s : State} (hs : ∀ c ∈ flatC (Jvm.Cond.and given_1 narrow_1), c.before args s = true) : ∀ i ∈ [0, 1, 2, 3, 4, 5, 6, 7], (Cond.eq (.field (sv_tm i) "java/lang/String" "coder" "B") (.int 0)).before args s = true := List.forall_mem_cons.mpr ⟨hs _ (List.mem_of_getElem? (i := 203) rfl), List.forall_mem_cons.mpr ⟨hs _ (List.mem_of_getElem? (i := 143) rfl), List.forall_mem_cons.mpr ⟨hs _ (List.mem_of_getElem? (i := 130) rfl), List.forall_mem_cons.mpr ⟨hs _ (List.mem_of_getElem? (i := 186) rfl), List.forall_mem_cons.mpr ⟨hs _ (List.mem_of_getElem? (i := 171) rfl), List.forall_mem_cons.mpr ⟨hs _ (List.mem_of_getElem? (i := 156) rfl), List.forall_mem_cons.mpr ⟨hs _ (List.mem_of_getElem? (i := 112) rfl), List.forall_mem_cons.mpr ⟨hs _ (List.mem_of_getElem? (i := 119) rfl), fun _ h => absurd h List.not_mem_nil⟩⟩⟩⟩⟩⟩⟩⟩
set_option maxRecDepth 100000 in
theorem st_ar {args : Array Value} {s : State} (hs : ∀ c ∈ flatC (Jvm.Cond.and given_1 narrow_1), c.before args s = true) : ∀ i ∈ [0, 1, 2, 3, 4, 5, 6, 7], (Cond.arrayOf (.field (sv_tm i) "java/lang/String" "value" "[B") .byte).before args s = true := List.forall_mem_cons.mpr ⟨hs _ (List.mem_of_getElem? (i := 204) rfl), List.forall_mem_cons.mpr ⟨hs _ (List.mem_of_getElem? (i := 144) rfl), List.forall_mem_cons.mpr ⟨hs _ (List.mem_of_getElem? (i := 131) rfl), List.forall_mem_cons.mpr ⟨hs _ (List.mem_of_getElem? (i := 187) rfl), List.forall_mem_cons.mpr ⟨hs _ (List.mem_of_getElem? (i := 172) rfl), List.forall_mem_cons.mpr ⟨hs _ (List.mem_of_getElem? (i := 157) rfl), List.forall_mem_cons.mpr ⟨hs _ (List.mem_of_getElem? (i := 113) rfl), List.forall_mem_cons.mpr ⟨hs _ (List.mem_of_getElem? (i := 120) rfl), fun _ h => absurd h List.not_mem_nil⟩⟩⟩⟩⟩⟩⟩⟩
set_option maxRecDepth 100000 in
theorem st_le {args : Array Value} {s : State} (hs : ∀ c ∈ flatC (Jvm.Cond.and given_1 narrow_1), c.before args s = true) : ∀ i ∈ [0, 1, 2, 3, 4, 5, 6, 7], (Cond.eq (.length (.field (sv_tm i) "java/lang/String" "value" "[B")) (.int (Int32.ofNat (sv_sl.getD i 0)))).before args s = true := List.forall_mem_cons.mpr ⟨hs _ (List.mem_of_getElem? (i := 205) rfl), List.forall_mem_cons.mpr ⟨hs _ (List.mem_of_getElem? (i := 145) rfl), List.forall_mem_cons.mpr ⟨hs _ (List.mem_of_getElem? (i := 132) rfl), List.forall_mem_cons.mpr ⟨hs _ (List.mem_of_getElem? (i := 188) rfl), List.forall_mem_cons.mpr ⟨hs _ (List.mem_of_getElem? (i := 173) rfl), List.forall_mem_cons.mpr ⟨hs _ (List.mem_of_getElem? (i := 158) rfl), List.forall_mem_cons.mpr ⟨hs _ (List.mem_of_getElem? (i := 114) rfl), List.forall_mem_cons.mpr ⟨hs _ (List.mem_of_getElem? (i := 121) rfl), fun _ h => absurd h List.not_mem_nil⟩⟩⟩⟩⟩⟩⟩⟩
def st_ell : List (Nat × Nat) := [(0, 0), (0, 1), (0, 2), (0, 3), (1, 0), (1, 1), (1, 2), (1, 3), (1, 4), (1, 5), (2, 0), (2, 1), (2, 2), (2, 3), (2, 4), (2, 5), (2, 6), (3, 0), (3, 1), (3, 2), (3, 3), (3, 4), (3, 5), (3, 6), (4, 0), (4, 1), (4, 2), (4, 3), (4, 4), (4, 5), (5, 0), (5, 1), (5, 2), (5, 3), (5, 4), (5, 5), (5, 6), (6, 0), (6, 1), (6, 2), (7, 0), (7, 1), (7, 2), (7, 3), (7, 4), (7, 5)]
def st_nel : List (Nat × Nat) := [(0, 1), (0, 2), (0, 3), (0, 4), (0, 5), (0, 6), (0, 7), (1, 0), (1, 2), (1, 3), (1, 4), (1, 5), (1, 6), (1, 7), (2, 0), (2, 1), (2, 3), (2, 4), (2, 5), (2, 6), (2, 7), (3, 0), (3, 1), (3, 2), (3, 4), (3, 5), (3, 6), (3, 7), (4, 0), (4, 1), (4, 2), (4, 3), (4, 5), (4, 6), (4, 7), (5, 0), (5, 1), (5, 2), (5, 3), (5, 4), (5, 6), (5, 7), (6, 0), (6, 1), (6, 2), (6, 3), (6, 4), (6, 5), (6, 7), (7, 0), (7, 1), (7, 2), (7, 3), (7, 4), (7, 5), (7, 6)]
set_option maxRecDepth 100000 in
theorem st_el {args : Array Value} {s : State} (hs : ∀ c ∈ flatC (Jvm.Cond.and given_1 narrow_1), c.before args s = true) : ∀ q ∈ st_ell, (Cond.eq (.elem (.field (sv_tm q.1) "java/lang/String" "value" "[B") (.int (Int32.ofNat q.2))) (.int ((am_str.getD q.1 []).getD q.2 0))).before args s = true := List.forall_mem_cons.mpr ⟨hs _ (List.mem_of_getElem? (i := 206) rfl), List.forall_mem_cons.mpr ⟨hs _ (List.mem_of_getElem? (i := 207) rfl), List.forall_mem_cons.mpr ⟨hs _ (List.mem_of_getElem? (i := 208) rfl), List.forall_mem_cons.mpr ⟨hs _ (List.mem_of_getElem? (i := 209) rfl), List.forall_mem_cons.mpr ⟨hs _ (List.mem_of_getElem? (i := 146) rfl), List.forall_mem_cons.mpr ⟨hs _ (List.mem_of_getElem? (i := 147) rfl), List.forall_mem_cons.mpr ⟨hs _ (List.mem_of_getElem? (i := 148) rfl), List.forall_mem_cons.mpr ⟨hs _ (List.mem_of_getElem? (i := 149) rfl), List.forall_mem_cons.mpr ⟨hs _ (List.mem_of_getElem? (i := 150) rfl), List.forall_mem_cons.mpr ⟨hs _ (List.mem_of_getElem? (i := 151) rfl), List.forall_mem_cons.mpr ⟨hs _ (List.mem_of_getElem? (i := 133) rfl), List.forall_mem_cons.mpr ⟨hs _ (List.mem_of_getElem? (i := 134) rfl), List.forall_mem_cons.mpr ⟨hs _ (List.mem_of_getElem? (i := 135) rfl), List.forall_mem_cons.mpr ⟨hs _ (List.mem_of_getElem? (i := 136) rfl), List.forall_mem_cons.mpr ⟨hs _ (List.mem_of_getElem? (i := 137) rfl), List.forall_mem_cons.mpr ⟨hs _ (List.mem_of_getElem? (i := 138) rfl), List.forall_mem_cons.mpr ⟨hs _ (List.mem_of_getElem? (i := 139) rfl), List.forall_mem_cons.mpr ⟨hs _ (List.mem_of_getElem? (i := 189) rfl), List.forall_mem_cons.mpr ⟨hs _ (List.mem_of_getElem? (i := 190) rfl), List.forall_mem_cons.mpr ⟨hs _ (List.mem_of_getElem? (i := 191) rfl), List.forall_mem_cons.mpr ⟨hs _ (List.mem_of_getElem? (i := 192) rfl), List.forall_mem_cons.mpr ⟨hs _ (List.mem_of_getElem? (i := 193) rfl), List.forall_mem_cons.mpr ⟨hs _ (List.mem_of_getElem? (i := 194) rfl), List.forall_mem_cons.mpr ⟨hs _ (List.mem_of_getElem? (i := 195) rfl), List.forall_mem_cons.mpr ⟨hs _ (List.mem_of_getElem? (i := 174) rfl), List.forall_mem_cons.mpr ⟨hs _ (List.mem_of_getElem? (i := 175) rfl), List.forall_mem_cons.mpr ⟨hs _ (List.mem_of_getElem? (i := 176) rfl), List.forall_mem_cons.mpr ⟨hs _ (List.mem_of_getElem? (i := 177) rfl), List.forall_mem_cons.mpr ⟨hs _ (List.mem_of_getElem? (i := 178) rfl), List.forall_mem_cons.mpr ⟨hs _ (List.mem_of_getElem? (i := 179) rfl), List.forall_mem_cons.mpr ⟨hs _ (List.mem_of_getElem? (i := 159) rfl), List.forall_mem_cons.mpr ⟨hs _ (List.mem_of_getElem? (i := 160) rfl), List.forall_mem_cons.mpr ⟨hs _ (List.mem_of_getElem? (i := 161) rfl), List.forall_mem_cons.mpr ⟨hs _ (List.mem_of_getElem? (i := 162) rfl), List.forall_mem_cons.mpr ⟨hs _ (List.mem_of_getElem? (i := 163) rfl), List.forall_mem_cons.mpr ⟨hs _ (List.mem_of_getElem? (i := 164) rfl), List.forall_mem_cons.mpr ⟨hs _ (List.mem_of_getElem? (i := 165) rfl), List.forall_mem_cons.mpr ⟨hs _ (List.mem_of_getElem? (i := 115) rfl), List.forall_mem_cons.mpr ⟨hs _ (List.mem_of_getElem? (i := 116) rfl), List.forall_mem_cons.mpr ⟨hs _ (List.mem_of_getElem? (i := 117) rfl), List.forall_mem_cons.mpr ⟨hs _ (List.mem_of_getElem? (i := 122) rfl), List.forall_mem_cons.mpr ⟨hs _ (List.mem_of_getElem? (i := 123) rfl), List.forall_mem_cons.mpr ⟨hs _ (List.mem_of_getElem? (i := 124) rfl), List.forall_mem_cons.mpr ⟨hs _ (List.mem_of_getElem? (i := 125) rfl), List.forall_mem_cons.mpr ⟨hs _ (List.mem_of_getElem? (i := 126) rfl), List.forall_mem_cons.mpr ⟨hs _ (List.mem_of_getElem? (i := 127) rfl), fun _ h => absurd h List.not_mem_nil⟩⟩⟩⟩⟩⟩⟩⟩⟩⟩⟩⟩⟩⟩⟩⟩⟩⟩⟩⟩⟩⟩⟩⟩⟩⟩⟩⟩⟩⟩⟩⟩⟩⟩⟩⟩⟩⟩⟩⟩⟩⟩⟩⟩⟩⟩
set_option maxRecDepth 100000 in
theorem st_ne {args : Array Value} {s : State} (hs : ∀ c ∈ flatC (Jvm.Cond.and given_1 narrow_1), c.before args s = true) : ∀ q ∈ st_nel, (Cond.not (Cond.eq (sv_tm q.1) (sv_tm q.2))).before args s = true ∨ (Cond.not (Cond.eq (sv_tm q.2) (sv_tm q.1))).before args s = true := List.forall_mem_cons.mpr ⟨Or.inr (hs _ (List.mem_of_getElem? (i := 213) rfl)), List.forall_mem_cons.mpr ⟨Or.inr (hs _ (List.mem_of_getElem? (i := 212) rfl)), List.forall_mem_cons.mpr ⟨Or.inr (hs _ (List.mem_of_getElem? (i := 216) rfl)), List.forall_mem_cons.mpr ⟨Or.inr (hs _ (List.mem_of_getElem? (i := 215) rfl)), List.forall_mem_cons.mpr ⟨Or.inr (hs _ (List.mem_of_getElem? (i := 214) rfl)), List.forall_mem_cons.mpr ⟨Or.inr (hs _ (List.mem_of_getElem? (i := 210) rfl)), List.forall_mem_cons.mpr ⟨Or.inr (hs _ (List.mem_of_getElem? (i := 211) rfl)), List.forall_mem_cons.mpr ⟨Or.inl (hs _ (List.mem_of_getElem? (i := 213) rfl)), List.forall_mem_cons.mpr ⟨Or.inr (hs _ (List.mem_of_getElem? (i := 154) rfl)), List.forall_mem_cons.mpr ⟨Or.inl (hs _ (List.mem_of_getElem? (i := 199) rfl)), List.forall_mem_cons.mpr ⟨Or.inl (hs _ (List.mem_of_getElem? (i := 183) rfl)), List.forall_mem_cons.mpr ⟨Or.inl (hs _ (List.mem_of_getElem? (i := 169) rfl)), List.forall_mem_cons.mpr ⟨Or.inr (hs _ (List.mem_of_getElem? (i := 152) rfl)), List.forall_mem_cons.mpr ⟨Or.inr (hs _ (List.mem_of_getElem? (i := 153) rfl)), List.forall_mem_cons.mpr ⟨Or.inl (hs _ (List.mem_of_getElem? (i := 212) rfl)), List.forall_mem_cons.mpr ⟨Or.inl (hs _ (List.mem_of_getElem? (i := 154) rfl)), List.forall_mem_cons.mpr ⟨Or.inl (hs _ (List.mem_of_getElem? (i := 198) rfl)), List.forall_mem_cons.mpr ⟨Or.inl (hs _ (List.mem_of_getElem? (i := 182) rfl)), List.forall_mem_cons.mpr ⟨Or.inl (hs _ (List.mem_of_getElem? (i := 168) rfl)), List.forall_mem_cons.mpr ⟨Or.inr (hs _ (List.mem_of_getElem? (i := 140) rfl)), List.forall_mem_cons.mpr ⟨Or.inr (hs _ (List.mem_of_getElem? (i := 141) rfl)), List.forall_mem_cons.mpr ⟨Or.inl (hs _ (List.mem_of_getElem? (i := 216) rfl)), List.forall_mem_cons.mpr ⟨Or.inr (hs _ (List.mem_of_getElem? (i := 199) rfl)), List.forall_mem_cons.mpr ⟨Or.inr (hs _ (List.mem_of_getElem? (i := 198) rfl)), List.forall_mem_cons.mpr ⟨Or.inr (hs _ (List.mem_of_getElem? (i := 201) rfl)), List.forall_mem_cons.mpr ⟨Or.inr (hs _ (List.mem_of_getElem? (i := 200) rfl)), List.forall_mem_cons.mpr ⟨Or.inr (hs _ (List.mem_of_getElem? (i := 196) rfl)), List.forall_mem_cons.mpr ⟨Or.inr (hs _ (List.mem_of_getElem? (i := 197) rfl)), List.forall_mem_cons.mpr ⟨Or.inl (hs _ (List.mem_of_getElem? (i := 215) rfl)), List.forall_mem_cons.mpr ⟨Or.inr (hs _ (List.mem_of_getElem? (i := 183) rfl)), List.forall_mem_cons.mpr ⟨Or.inr (hs _ (List.mem_of_getElem? (i := 182) rfl)), List.forall_mem_cons.mpr ⟨Or.inl (hs _ (List.mem_of_getElem? (i := 201) rfl)), List.forall_mem_cons.mpr ⟨Or.inr (hs _ (List.mem_of_getElem? (i := 184) rfl)), List.forall_mem_cons.mpr ⟨Or.inr (hs _ (List.mem_of_getElem? (i := 180) rfl)), List.forall_mem_cons.mpr ⟨Or.inr (hs _ (List.mem_of_getElem? (i := 181) rfl)), List.forall_mem_cons.mpr ⟨Or.inl (hs _ (List.mem_of_getElem? (i := 214) rfl)), List.forall_mem_cons.mpr ⟨Or.inr (hs _ (List.mem_of_getElem? (i := 169) rfl)), List.forall_mem_cons.mpr ⟨Or.inr (hs _ (List.mem_of_getElem? (i := 168) rfl)), List.forall_mem_cons.mpr ⟨Or.inl (hs _ (List.mem_of_getElem? (i := 200) rfl)), List.forall_mem_cons.mpr ⟨Or.inl (hs _ (List.mem_of_getElem? (i := 184) rfl)), List.forall_mem_cons.mpr ⟨Or.inr (hs _ (List.mem_of_getElem? (i := 166) rfl)), List.forall_mem_cons.mpr ⟨Or.inr (hs _ (List.mem_of_getElem? (i := 167) rfl)), List.forall_mem_cons.mpr ⟨Or.inl (hs _ (List.mem_of_getElem? (i := 210) rfl)), List.forall_mem_cons.mpr ⟨Or.inl (hs _ (List.mem_of_getElem? (i := 152) rfl)), List.forall_mem_cons.mpr ⟨Or.inl (hs _ (List.mem_of_getElem? (i := 140) rfl)), List.forall_mem_cons.mpr ⟨Or.inl (hs _ (List.mem_of_getElem? (i := 196) rfl)), List.forall_mem_cons.mpr ⟨Or.inl (hs _ (List.mem_of_getElem? (i := 180) rfl)), List.forall_mem_cons.mpr ⟨Or.inl (hs _ (List.mem_of_getElem? (i := 166) rfl)), List.forall_mem_cons.mpr ⟨Or.inl (hs _ (List.mem_of_getElem? (i := 128) rfl)), List.forall_mem_cons.mpr ⟨Or.inl (hs _ (List.mem_of_getElem? (i := 211) rfl)), List.forall_mem_cons.mpr ⟨Or.inl (hs _ (List.mem_of_getElem? (i := 153) rfl)), List.forall_mem_cons.mpr ⟨Or.inl (hs _ (List.mem_of_getElem? (i := 141) rfl)), List.forall_mem_cons.mpr ⟨Or.inl (hs _ (List.mem_of_getElem? (i := 197) rfl)), List.forall_mem_cons.mpr ⟨Or.inl (hs _ (List.mem_of_getElem? (i := 181) rfl)), List.forall_mem_cons.mpr ⟨Or.inl (hs _ (List.mem_of_getElem? (i := 167) rfl)), List.forall_mem_cons.mpr ⟨Or.inr (hs _ (List.mem_of_getElem? (i := 128) rfl)), fun _ h => absurd h List.not_mem_nil⟩⟩⟩⟩⟩⟩⟩⟩⟩⟩⟩⟩⟩⟩⟩⟩⟩⟩⟩⟩⟩⟩⟩⟩⟩⟩⟩⟩⟩⟩⟩⟩⟩⟩⟩⟩⟩⟩⟩⟩⟩⟩⟩⟩⟩⟩⟩⟩⟩⟩⟩⟩⟩⟩⟩⟩
set_option maxRecDepth 100000 in
theorem st_nc {args : Array Value} {s : State} (hs : ∀ c ∈ flatC (Jvm.Cond.and given_1 narrow_1), c.before args s = true) : ∀ q ∈ sv_nc, (Cond.not (.castable (sv_cn q.1) (sv_cn q.2))).before args s = true := List.forall_mem_cons.mpr ⟨hs _ (List.mem_of_getElem? (i := 10) rfl), List.forall_mem_cons.mpr ⟨hs _ (List.mem_of_getElem? (i := 11) rfl), List.forall_mem_cons.mpr ⟨hs _ (List.mem_of_getElem? (i := 12) rfl), List.forall_mem_cons.mpr ⟨hs _ (List.mem_of_getElem? (i := 13) rfl), List.forall_mem_cons.mpr ⟨hs _ (List.mem_of_getElem? (i := 20) rfl), List.forall_mem_cons.mpr ⟨hs _ (List.mem_of_getElem? (i := 21) rfl), List.forall_mem_cons.mpr ⟨hs _ (List.mem_of_getElem? (i := 22) rfl), List.forall_mem_cons.mpr ⟨hs _ (List.mem_of_getElem? (i := 23) rfl), List.forall_mem_cons.mpr ⟨hs _ (List.mem_of_getElem? (i := 30) rfl), List.forall_mem_cons.mpr ⟨hs _ (List.mem_of_getElem? (i := 31) rfl), List.forall_mem_cons.mpr ⟨hs _ (List.mem_of_getElem? (i := 32) rfl), List.forall_mem_cons.mpr ⟨hs _ (List.mem_of_getElem? (i := 33) rfl), List.forall_mem_cons.mpr ⟨hs _ (List.mem_of_getElem? (i := 34) rfl), List.forall_mem_cons.mpr ⟨hs _ (List.mem_of_getElem? (i := 41) rfl), List.forall_mem_cons.mpr ⟨hs _ (List.mem_of_getElem? (i := 42) rfl), List.forall_mem_cons.mpr ⟨hs _ (List.mem_of_getElem? (i := 43) rfl), List.forall_mem_cons.mpr ⟨hs _ (List.mem_of_getElem? (i := 44) rfl), List.forall_mem_cons.mpr ⟨hs _ (List.mem_of_getElem? (i := 45) rfl), List.forall_mem_cons.mpr ⟨hs _ (List.mem_of_getElem? (i := 52) rfl), List.forall_mem_cons.mpr ⟨hs _ (List.mem_of_getElem? (i := 53) rfl), List.forall_mem_cons.mpr ⟨hs _ (List.mem_of_getElem? (i := 54) rfl), List.forall_mem_cons.mpr ⟨hs _ (List.mem_of_getElem? (i := 55) rfl), List.forall_mem_cons.mpr ⟨hs _ (List.mem_of_getElem? (i := 56) rfl), fun _ h => absurd h List.not_mem_nil⟩⟩⟩⟩⟩⟩⟩⟩⟩⟩⟩⟩⟩⟩⟩⟩⟩⟩⟩⟩⟩⟩⟩
theorem st_cs {args : Array Value} {s : State} (hs : ∀ c ∈ flatC (Jvm.Cond.and given_1 narrow_1), c.before args s = true) : (Cond.eq (.static "java/lang/String" "COMPACT_STRINGS" "Z") (.int 1)).before args s = true := hs _ (List.mem_of_getElem? (i := 4) rfl)
theorem st_sf {args : Array Value} {s : State} (hs : ∀ c ∈ flatC (Jvm.Cond.and given_1 narrow_1), c.before args s = true) : (Cond.isRef (.static "jdk/internal/util/Preconditions" "SIOOBE_FORMATTER" "Ljava/util/function/BiFunction;")).before args s = true := hs _ (List.mem_of_getElem? (i := 5) rfl)
theorem st_ca : ∀ q ∈ sv_ca, Cond.castable (sv_cn q.1) (sv_cn q.2) ∈ lw_tbl := List.forall_mem_cons.mpr ⟨tb_6 (List.mem_of_getElem? (i := 69) rfl), List.forall_mem_cons.mpr ⟨tb_6 (List.mem_of_getElem? (i := 70) rfl), List.forall_mem_cons.mpr ⟨tb_6 (List.mem_of_getElem? (i := 71) rfl), List.forall_mem_cons.mpr ⟨tb_6 (List.mem_of_getElem? (i := 72) rfl), List.forall_mem_cons.mpr ⟨tb_6 (List.mem_of_getElem? (i := 73) rfl), List.forall_mem_cons.mpr ⟨tb_6 (List.mem_of_getElem? (i := 74) rfl), List.forall_mem_cons.mpr ⟨tb_6 (List.mem_of_getElem? (i := 75) rfl), fun _ h => absurd h List.not_mem_nil⟩⟩⟩⟩⟩⟩⟩
theorem st_sr : ∀ q ∈ sv_ss, Cond.stringRef (sv_cn q.1) q.2.1 q.2.2.2 ∈ lw_tbl := List.forall_mem_cons.mpr ⟨tb_3 (List.mem_of_getElem? (i := 219) rfl), List.forall_mem_cons.mpr ⟨tb_3 (List.mem_of_getElem? (i := 205) rfl), List.forall_mem_cons.mpr ⟨tb_3 (List.mem_of_getElem? (i := 201) rfl), List.forall_mem_cons.mpr ⟨tb_3 (List.mem_of_getElem? (i := 217) rfl), List.forall_mem_cons.mpr ⟨tb_3 (List.mem_of_getElem? (i := 213) rfl), List.forall_mem_cons.mpr ⟨tb_3 (List.mem_of_getElem? (i := 209) rfl), List.forall_mem_cons.mpr ⟨tb_3 (List.mem_of_getElem? (i := 126) rfl), List.forall_mem_cons.mpr ⟨tb_3 (List.mem_of_getElem? (i := 188) rfl), fun _ h => absurd h List.not_mem_nil⟩⟩⟩⟩⟩⟩⟩⟩
theorem st_ao : Cond.arrayOver (.object RX5) ∈ lw_tbl ∧ Cond.arrayOver (.object RX7) ∈ lw_tbl := ⟨tb_1 (List.mem_of_getElem? (i := 30) rfl), tb_1 (List.mem_of_getElem? (i := 162) rfl)⟩
theorem st_lst : Cond.laysStatic "java/lang/String" "COMPACT_STRINGS" "Z" ∈ lw_tbl ∧ Cond.laysStatic "jdk/internal/util/Preconditions" "SIOOBE_FORMATTER" "Ljava/util/function/BiFunction;" ∈ lw_tbl ∧ Cond.initialized "java/lang/String" ∈ lw_tbl ∧ Cond.initialized "jdk/internal/util/Preconditions" ∈ lw_tbl := ⟨tb_3 (List.mem_of_getElem? (i := 140) rfl), tb_3 (List.mem_of_getElem? (i := 156) rfl), tb_1 (List.mem_of_getElem? (i := 17) rfl), tb_1 (List.mem_of_getElem? (i := 19) rfl)⟩
theorem st_8 {i : Nat} (h : i < 8) : i ∈ [0, 1, 2, 3, 4, 5, 6, 7] := by simp only [List.mem_cons, List.not_mem_nil, or_false]; omega
theorem st_elm : ∀ i, i < 8 → ∀ j, j < sv_sl.getD i 0 → (i, j) ∈ st_ell := by decide +kernel
theorem st_nem0 : ∀ i, i < 8 → ∀ j, j < 8 → i = j ∨ (i, j) ∈ st_nel := by decide +kernel
theorem st_nem (i : Nat) (hi : i < 8) (j : Nat) (hj : j < 8) (h : i ≠ j) : (i, j) ∈ st_nel := (st_nem0 i hi j hj).resolve_left h
/-- the law's start gives what the abstract machine stands on -/
theorem sv_start {p : Program} {s : State} {m : MethodId} {meth : Method} {c : Code} {b L : Nat} {xs : Nat → Int32} (C0 : lw_At p s m meth c b L xs) : ∃ g : sG, VF g s ∧ gz g = s.heap.size ∧ gb g = b ∧ gL g = L ∧ gx g = xs := by
  obtain ⟨hx, hb, hr, hml, hown, hts, hX, hbl, hlocks, hgv⟩ := C0
  have hs := flat_of_before _ hgv
  have hA : ∀ a : Nat, a < s.heap.size → ¬ (fun q : Nat => s.heap.size ≤ q) a := fun a h => Nat.not_le.mpr h
  have h1 : ∀ ci : Nat, ∃ q : ClassId × (Nat → Nat), ci < 12 → u_Kn s (sv_cn ci) (sv_cT ci) (sv_cN ci) q.1 q.2 := by
    intro ci
    by_cases h : ci < 12
    · obtain ⟨f1, f2, f3, f4, f5, f6, f7, f8⟩ := f_cl_at h
      obtain ⟨cC, iS, hK⟩ := u_known (ws := lw_tbl) hts (fun w hw => (f2 w hw).1) (hts _ f5)
      exact ⟨(cC, iS), fun _ => hK⟩
    · exact ⟨(0, fun _ => 0), fun h2 => absurd h2 h⟩
  obtain ⟨dd, hdd⟩ := Classical.axiomOfChoice h1
  obtain ⟨cI, kI, pI, i1, i2, i3⟩ := Cond.arrayClass_spec (hts _ lk_x4.1)
  obtain ⟨cJ, kJ, pJ, j1, j2, j3⟩ := Cond.arrayClass_spec (hts _ lk_x4.2)
  obtain ⟨pM, cM, kM, m1, m2, m3, m4, m5⟩ := Cond.arrayOver_spec (hts _ st_ao.1)
  obtain ⟨pS, cS, kS, s1, s2, s3, s4, s5⟩ := Cond.arrayOver_spec (hts _ st_ao.2)
  obtain ⟨adK, adV, hStr, hTm⟩ := vk_Sof (args := #[Value.ref b]) (N := 8) (tm := sv_tm) (len := sv_sl) (byt := am_str) (A := fun q : Nat => s.heap.size ≤ q) (by decide +kernel) (fun i hi => st_ex hs i (st_8 hi)) (fun i hi => st_co hs i (st_8 hi)) (fun i hi => st_ar hs i (st_8 hi)) (fun i hi => st_le hs i (st_8 hi)) (fun i hi j hj => st_el hs (i, j) (st_elm i hi j hj)) (fun i j hi hj hne => st_ne hs (i, j) (st_nem i hi j hj hne)) hA
  refine ⟨((fun ci => (dd ci).1, fun ci => (dd ci).2), (fun t => match t with | 0 => cI | 1 => cJ | 2 => cM | _ => cS), s.heap.size, b, L, xs, adK, adV), ?_, rfl, rfl, rfl, rfl⟩
  refine ⟨⟨fun ci q hq => ?_, fun k q hk => ?_⟩, va_AO.of (hts _ st_ao.1), va_AO.of (hts _ st_ao.2), fun q hq => va_Nw.of rfl (hts _ (lk_n_ok q hq).1), fun q hq => va_Nw.of rfl (hts _ (st_ca q hq)), fun q hq => va_Nc.of (st_nc hs q hq), fun q hq => vk_R.of (hts _ (st_sr q hq)) ?_, hbl, Nat.le_refl _, hX, hStr, ?_, ?_⟩
  · have hc : ci < 12 := (List.getElem?_eq_some_iff.mp hq).1
    have e : q = (sv_cn ci, sv_cT ci, sv_cN ci) := Option.some.inj (hq.symm.trans (f_cl_at hc).1)
    rw [e]
    exact hdd ci hc
  · have hk4 : k < 4 := (List.getElem?_eq_some_iff.mp hk).1
    rcases (by omega : k = 0 ∨ k = 1 ∨ k = 2 ∨ k = 3) with rfl | rfl | rfl | rfl
    · cases hk
      exact ⟨fun n z => ⟨fun k h => (by cases h), kI, i2, pI, i3⟩, i1⟩
    · cases hk
      exact ⟨fun n z => ⟨fun k h => (by cases h), kJ, j2, pJ, j3⟩, j1⟩
    · cases hk
      exact ⟨fun n z => ⟨fun k h => (by cases h), kM, m3, pM, m4⟩, kM, pM, m3, m4, m1, m5⟩
    · cases hk
      exact ⟨fun n z => ⟨fun k h => (by cases h), kS, s3, pS, s4⟩, kS, pS, s3, s4, s1, s5⟩
  · simp only [sv_ss, List.mem_cons, List.not_mem_nil, or_false] at hq
    rcases hq with rfl | rfl | rfl | rfl | rfl | rfl | rfl | rfl
    · exact hTm 0 (by decide)
    · exact hTm 1 (by decide)
    · exact hTm 2 (by decide)
    · exact hTm 3 (by decide)
    · exact hTm 4 (by decide)
    · exact hTm 5 (by decide)
    · exact hTm 6 (by decide)
    · exact hTm 7 (by decide)
  · exact va_Zof (hts _ st_lst.1) (hts _ st_lst.2.2.1) (va_eqt (st_cs hs)) hA
  · exact va_Zqof (hts _ st_lst.2.1) (hts _ st_lst.2.2.2) (st_sf hs) hA
/-- the abstract heap at the law's entry: the script alone -/
def am_w0 (L : Nat) (xs : Nat → Int32) : AH := fun i => if i = 999 then am_sa L xs else none
set_option maxHeartbeats 4000000 in
/-- THE LAW: what the abstract machine comes to, the machine does -/
theorem law_of_pure {p : Program} {e : Env} {s : State} {m : MethodId} {below : List Frame} {meth : Method} {c : Code} (l : Launch) {b L : Nat} {xs : Nat → Int32} (C0 : lw_At p s m meth c b L xs) (hpure : am_go (am_mok 11) am_acc am_bL 62 1388 (fun r _ _ => r = some (.int 1)) (am_bL 0) [some (.ref 999), none, none, none] [] 0 (am_w0 L xs) 0 0) : W p l e room_1 s m #[Value.ref b] below meth c s.heap [] 0 0 (lw_Z below #[Value.ref b] s) (entryFrame m ([Value.ref b] : List Value).toArray 4) := by
  obtain ⟨g, hV, hgz, hgb, hgL, hgx⟩ := sv_start C0
  obtain ⟨hx, hb, hr, hml, hown, hts, hX, hbl, hlocks, hgv⟩ := id C0
  have fx : FX p s m #[Value.ref b] meth c g 12 4 0 false code := ⟨hx, hb, hml, hown, fun w h1 _ => hts w h1, hV, by rw [hgz]; rfl, fun h => by cases h⟩
  have hRT : RT p l e room_1 s m #[Value.ref b] below meth c (lw_Z below #[Value.ref b] s) g 1 0 code 62 1388 (fun r _ _ => r = some (.int 1)) := by
    refine ⟨fun x n' w' H locs A pc hk hd hq hR' hS' hn' => ?_, fun x n' w' H locs A pc hk => absurd hk (by decide), fun x n' w' H locs A pc hk => absurd hk (by decide), fun n' w' H locs A pc hk => absurd hk (by decide)⟩
    have e1 : x = 1 := Value.int.inj (Option.some.inj hq)
    subst e1
    refine va_forget (fun q hq => ?_) (lw_ret hx hb hr hlocks hd)
    have h9 := hS'.2.2 q hq
    unfold sv_A at h9
    rw [hgz] at h9
    exact h9
  have hE : EN l room_1 g (am_mok 11) := by
    intro y' as' n' w' Q' h'
    obtain ⟨i1, i2⟩ := mok_sound l g 10 y' as' n' w' Q' h'
    exact ⟨10, Nat.le_of_ble_eq_true rfl, Nat.le_of_ble_eq_true rfl, i1, i2⟩
  have key := (st_sound (mc := 62) (ms := 1388) fx hRT hE okc_L rfl rfl hpure).br okc_L
  have hl := lv_entry ([.ref b]) (n := 4) (Nat.le_of_ble_eq_true rfl)
  have hAR : AR g 0 (am_w0 L xs) s.heap := by
    refine ⟨by decide, fun i hi => absurd hi (Nat.not_lt_zero _), fun i ei hi => ?_, fun k q h => by simp [sv_w] at h⟩
    unfold am_w0 at hi
    by_cases h9 : i = 999
    · rw [if_pos h9] at hi
      rw [hgL, hgx]
      exact Or.inr ⟨h9, (Option.some.inj hi).symm⟩
    · rw [if_neg h9] at hi
      cases hi
  rw [lg_entry_eq]
  refine key s.heap [] _ hAR va_S.rf ⟨rfl, _, hl, fun i v hi => ?_⟩ ⟨rfl, Nat.zero_le _, Nat.zero_le _⟩
  have e999 : sv_ad g 999 = b := by unfold sv_ad; rw [if_neg (by decide), if_pos rfl, hgb]
  rcases i with _ | _ | _ | _ | i
  · simp at hi
    subst hi
    show (0, Value.ref (sv_ad g 999)) ∈ _
    rw [e999]
    exact List.mem_cons_self
  · simp at hi
  · simp at hi
  · simp at hi
  · simp at hi
