/-! texts: String.length and charAt of the claim's constants -/
section SR
variable {p : Program} {l : Launch} {e : Env} {R : Room} {s : State} {m : MethodId} {args : Array Value} {below : List Frame} {meth : Method} {c : Code} {Z : State → Prop} {H : Heap} {locs : List Loc} {g : sG}
def rd_ws (y : MethodName) (b : ByteArray) (n : Nat) (r : Option FieldType) : List Cond := Cond.code y b n r :: lw_tbl.filter goodWord
def rd_Q (v : Option Value) : Array Value → State → Outcome → State → Prop := fun _ st o t => o = .returned v ∧ t.heap = st.heap
def rd_rm (f k : Nat) : Room := { frames := f, cells := 0, slots := 0, locals := k }
theorem rd_hts {y : MethodName} {b : ByteArray} {n : Nat} {r : Option FieldType} {args : Array Value} (h : ∀ w ∈ rd_ws y b n r, w.before args s = true) : ∀ w ∈ lw_tbl, goodWord w = true → w.before args s = true := fun w h1 h2 => h w (List.mem_cons_of_mem _ (List.mem_filter.mpr ⟨h1, h2⟩))
theorem rd_cb {own : String} {i n maxL : Nat} {y : MethodName} {b : ByteArray} {r : Option FieldType} {rm : Room} (hts : ∀ w ∈ lw_tbl, goodWord w = true → w.before args s = true) (h1 : Cond.code y b maxL r ∈ lw_tbl) (h2 : Cond.initialized y.cls ∈ lw_tbl) (h3 : Cond.methodLink own i y ∈ lw_tbl) (h4 : y.cls ≠ "java/lang/invoke/MethodHandle" ∧ y.cls ≠ "java/lang/invoke/VarHandle") (h5 : (parseMethodDescriptor y.desc).map (fun d => d.parameters.length) = some n) (h6 : rm.cells = 0) (h7 : rm.slots = 0) (h8 : rm.frames + 1 ≤ R.frames) (h9 : 8 + (maxL + 11) + rm.locals ≤ R.locals) :
    CallB R s args own i y b maxL r (rd_ws y b maxL r) rm 0 0 n := by
  refine ⟨h6, h7, h8, h9, fun w hw a' U hW => ?_, List.mem_cons_self, hts _ h1 rfl, hts _ h2 rfl, h4, fun sig hs => ?_, hts _ h3 rfl⟩
  · have h10 : w ∈ lw_tbl ∧ goodWord w = true := by
      rcases List.mem_cons.mp hw with rfl | h
      · exact ⟨h1, rfl⟩
      · exact List.mem_filter.mp h
    exact word_at hW (good_of_word h10.2) (hts w h10.1 h10.2)
  · rw [hs] at h5
    exact (Option.some.inj h5).symm
theorem rd_call {pc k1 k2 : Nat} {A : Array Slot} {st0 rest : List Value} {v : Option Value} {a : Array Value} (hr : va_Run p l e R s m args below meth c H locs k1 k2 0 0 (F0 m pc A st0) rest (rd_Q v a) (fun _ => False)) (kk : W p l e R s m args below meth c H locs k1 k2 Z (F0 m (pc + 3) A (v.toList ++ rest))) : W p l e R s m args below meth c H locs k1 k2 Z (F0 m pc A st0) := by
  intro T hT X
  obtain ⟨v', st₀, t, T', L, h0, X', hL, e1, -, ⟨hv, hh⟩, stp⟩ := hr T hT X
  cases hv
  obtain ⟨t2, a1, b1⟩ := kk T' (by rw [e1, hh, h0]) (Stand.forget X' (fun q h => (hL q h).elim))
  exact ⟨t2, stp t2 a1, b1⟩
theorem rd_blind {av : List Value} : FrameBlind (va_Pc av (fun U => VF g U)) := by
  intro a U fr mk h
  exact ⟨h.1, VF.same (u := U) (U := U.calling fr mk a) rfl rfl h.2⟩
theorem rd_pre {av : List Value} (hV : VF g s) (hH : H = s.heap) : PreS s H (va_Pc av (fun U => VF g U)) av := ⟨rd_blind, fun U hU hW => ⟨rfl, VF.warm (H := H) (locs := []) (by rw [hH]; exact va_S.rf) hU hW hV⟩⟩
theorem rd_recv {i : Nat} (hV : VF g s) (hi : i < 8) : ∃ cell : Cell, s.heap[gK g i]? = some cell ∧ cell.vm.isStatics = false ∧ s.vm.findClass "java/lang/String" = some cell.cls := vk_recv hV.2.2.2.2.2.2.2.2.2.2.1 hi (va_S.rf (A := sv_A g))
end SR
set_option maxHeartbeats 4000000 in
set_option maxRecDepth 100000 in
theorem c_pchk (l : Launch) (g : sG) (a b : Int32) (v : Value) (hv0 : v.category = 1) (h0 : ¬ a < 0) (h1 : a < b) : Met l yJ3_checkIndex_8e157 (rd_ws yJ3_checkIndex_8e157 cJ3_checkIndex_8e157 3 (some .int)) (rd_rm 0 0) (va_Pc [.int a, .int b, v] (fun U => VF g U)) (rd_Q (some (.int a))) 0 0 (fun _ => False) := by
  refine Met.ofW (cc := cJ3_checkIndex_8e157) (maxL := 3) (ret := (some .int)) (by decide +kernel) rfl ?_
  intro p e s m args below meth c s₁ B hml hv
  obtain ⟨rfl, hV⟩ := hv
  have hx := B.exec
  have hb := B.bytes
  have hr := B.returns
  have hts := rd_hts (atoms_spec (ws := rd_ws yJ3_checkIndex_8e157 cJ3_checkIndex_8e157 3 (some .int)) B.pre)
  have hown : s.vm.findClass RJ3 = some m.cls := findClass_of_methodNamed B.named
  have hlocks := B.notSynchronized
  have hS : va_S (sv_A g) s.heap s.heap [] := va_S.rf
  have hl := lv_entry ([.int a, .int b, v]) (n := 3) (by cases v <;> first | exact Nat.le_of_ble_eq_true rfl | cases hv0)
  rw [lg_entry_eq]
  generalize (lg_sl ([.int a, .int b, v]) ++ List.replicate (3 - (lg_sl ([.int a, .int b, v])).length) Slot.unset).toArray = ls at hl ⊢
  have hl : lv_has ls 3 (lv_args 0 [.int a, .int b, v]) := hl
  have l0 : ls[0]? = some (.val (.int a)) := lv_at hl 0 rfl
  have l1 : ls[1]? = some (.val (.int b)) := lv_at hl 1 rfl
  refine lv_iload_n hx hb (show decode cJ3_checkIndex_8e157 0 = .ok (.iload_n 0, 1) by decide +kernel) rfl l0 ?_
  refine lv_if_lt (tgt := 9) hx hb (show decode cJ3_checkIndex_8e157 1 = .ok (.ifCond .lt 8, 3) by decide +kernel) (by decide) (fun q => absurd q h0) (fun _ => ?_)
  refine lv_iload_n hx hb (show decode cJ3_checkIndex_8e157 4 = .ok (.iload_n 0, 1) by decide +kernel) rfl l0 ?_
  refine lv_iload_n hx hb (show decode cJ3_checkIndex_8e157 5 = .ok (.iload_n 1, 1) by decide +kernel) rfl l1 ?_
  refine lv_icmp_lt (tgt := 16) hx hb (show decode cJ3_checkIndex_8e157 6 = .ok (.if_icmp .lt 10, 3) by decide +kernel) (by decide) (fun _ => ?_) (fun q => absurd h1 q)
  refine lv_iload_n hx hb (show decode cJ3_checkIndex_8e157 16 = .ok (.iload_n 0, 1) by decide +kernel) rfl l0 ?_
  exact W.iret (v := a) hx hb hr (fun t ht hW => ⟨rfl, by rw [ht]⟩) (fun q h => by cases h) (show decode cJ3_checkIndex_8e157 17 = .ok (.ireturn, 1) by decide +kernel)
set_option maxHeartbeats 4000000 in
set_option maxRecDepth 100000 in
theorem c_schk (l : Launch) (g : sG) (a b : Int32) (h0 : ¬ a < 0) (h1 : a < b) : Met l yJ0_checkIndex_df160 (rd_ws yJ0_checkIndex_df160 cJ0_checkIndex_df160 2 none) (rd_rm 1 28) (va_Pc [.int a, .int b] (fun U => VF g U)) (rd_Q none) 0 0 (fun _ => False) := by
  refine Met.ofW (cc := cJ0_checkIndex_df160) (maxL := 2) (ret := none) (by decide +kernel) rfl ?_
  intro p e s m args below meth c s₁ B hml hv
  obtain ⟨rfl, hV⟩ := hv
  have hx := B.exec
  have hb := B.bytes
  have hr := B.returns
  have hts := rd_hts (atoms_spec (ws := rd_ws yJ0_checkIndex_df160 cJ0_checkIndex_df160 2 none) B.pre)
  have hown : s.vm.findClass RJ0 = some m.cls := findClass_of_methodNamed B.named
  have hlocks := B.notSynchronized
  have hS : va_S (sv_A g) s.heap s.heap [] := va_S.rf
  have hl := lv_entry ([.int a, .int b]) (n := 2) (Nat.le_of_ble_eq_true rfl)
  rw [lg_entry_eq]
  generalize (lg_sl ([.int a, .int b]) ++ List.replicate (2 - (lg_sl ([.int a, .int b])).length) Slot.unset).toArray = ls at hl ⊢
  have hl : lv_has ls 2 [(0, .int a), (1, .int b)] := hl
  refine lv_iload_n hx hb (show decode cJ0_checkIndex_df160 0 = .ok (.iload_n 0, 1) by decide +kernel) rfl (lv_at hl 0 rfl) ?_
  refine lv_iload_n hx hb (show decode cJ0_checkIndex_df160 1 = .ok (.iload_n 1, 1) by decide +kernel) rfl (lv_at hl 1 rfl) ?_
  have key : ∀ v : Value, v.category = 1 → va_Z "jdk/internal/util/Preconditions" "SIOOBE_FORMATTER" "Ljava/util/function/BiFunction;" v (sv_A g) s s.heap → W p l e (rd_rm 1 28) s m ([.int a, .int b] : List Value).toArray below meth c s.heap [] 0 0 (MQ below (rd_Q none) ([.int a, .int b] : List Value).toArray s 0 0 (fun _ => False)) (F0 m 2 ls [.int b, .int a]) := by
    intro v hv0 hZ
    refine va_gets (own := RJ0) (ref := "jdk/internal/util/Preconditions") hx hb hZ hS hown (hts _ (tb_3 (List.mem_of_getElem? (i := 155) rfl)) rfl) (fun _ h => h) (show decode cJ0_checkIndex_df160 2 = .ok (.getstatic 1053, 3) by decide +kernel) ?_
    refine rd_call (v := some (.int a)) (va_runS (cc := cJ0_checkIndex_df160) (nL := 2) (As := [.int a, .int b, v]) (rest := []) (Ts := []) (own := RJ0) ⟨hx, hb, hml, hown, fun _ h => absurd h List.not_mem_nil⟩ (c_pchk l g a b v hv0 h0 h1) ⟨rd_cb (n := 3) hts (tb_3 (List.mem_of_getElem? (i := 159) rfl)) (tb_1 (List.mem_of_getElem? (i := 19) rfl)) (tb_3 (List.mem_of_getElem? (i := 157) rfl)) (by decide +kernel) (by decide +kernel) rfl rfl (Nat.le_refl 1) (Nat.le_of_ble_eq_true rfl), hts _ (tb_3 (List.mem_of_getElem? (i := 158) rfl)) rfl⟩ (rd_pre hV rfl) rfl rfl hl.1 rfl (lv_room (Nat.zero_le _)) (show decode cJ0_checkIndex_df160 5 = .ok (.invokestatic 1059, 3) by decide +kernel) ⟨Nat.le_refl 0, Nat.le_refl 0⟩) ?_
    refine lv_pop (va := .int a) hx hb (show decode cJ0_checkIndex_df160 8 = .ok (.pop, 1) by decide +kernel) rfl ?_
    exact W.vret hx hb hr (fun t ht hW => ⟨rfl, by rw [ht]⟩) (fun q h => by cases h) (show decode cJ0_checkIndex_df160 9 = .ok (.return_, 1) by decide +kernel)
  rcases hV.2.2.2.2.2.2.2.2.2.2.2.2 with hZ | ⟨t0, hZ⟩
  · exact key .null rfl hZ
  · exact key (.ref t0) rfl hZ
theorem sc_ch8 : ∀ i, i < 8 → ∀ j, j < (am_str.getD i []).length → (((am_str.getD i []).getD j 0 &&& 255).toUInt32 % 65536).toInt32 = (am_str.getD i []).getD j 0 ∧ narrow .char (.int ((am_str.getD i []).getD j 0)) = .int ((am_str.getD i []).getD j 0) := by decide +kernel
theorem sc_len8 : ∀ i, i < 8 → sv_sl.getD i 0 = (am_str.getD i []).length ∧ (am_str.getD i []).length < 100 := by decide +kernel
set_option maxHeartbeats 4000000 in
set_option maxRecDepth 100000 in
theorem c_l1ch (l : Launch) (g : sG) (i j : Nat) (hi : i < 8) (hj : j < (am_str.getD i []).length) : Met l yJ1_charAt_3b067 (rd_ws yJ1_charAt_3b067 cJ1_charAt_3b067 2 (some .char)) (rd_rm 2 56) (va_Pc [.ref (gV g i), .int (nI j)] (fun U => VF g U)) (rd_Q (some (.int ((am_str.getD i []).getD j 0)))) 0 0 (fun _ => False) := by
  refine Met.ofW (cc := cJ1_charAt_3b067) (maxL := 2) (ret := (some .char)) (by decide +kernel) rfl ?_
  intro p e s m args below meth c s₁ B hml hv
  obtain ⟨rfl, hV⟩ := hv
  have hx := B.exec
  have hb := B.bytes
  have hr := B.returns
  have hts := rd_hts (atoms_spec (ws := rd_ws yJ1_charAt_3b067 cJ1_charAt_3b067 2 (some .char)) B.pre)
  have hown : s.vm.findClass RJ1 = some m.cls := findClass_of_methodNamed B.named
  have hlocks := B.notSynchronized
  have hS : va_S (sv_A g) s.heap s.heap [] := va_S.rf
  have hl := lv_entry ([.ref (gV g i), .int (nI j)]) (n := 2) (Nat.le_of_ble_eq_true rfl)
  rw [lg_entry_eq]
  generalize (lg_sl ([.ref (gV g i), .int (nI j)]) ++ List.replicate (2 - (lg_sl ([.ref (gV g i), .int (nI j)])).length) Slot.unset).toArray = ls at hl ⊢
  have hl : lv_has ls 2 [(0, .ref (gV g i)), (1, .int (nI j))] := hl
  obtain ⟨s1, s2⟩ := sc_len8 i hi
  obtain ⟨s3, s4⟩ := sc_ch8 i hi j hj
  obtain ⟨-, -, -, cell, t1, t2, t3, t4, t5, t6, t7⟩ := hV.2.2.2.2.2.2.2.2.2.2.1.1 i hi
  rw [s1] at t4 t5 t6
  have hjl : (nI j).toNatClampNeg = j := nI_clamp (by omega)
  refine lv_iload_n hx hb (show decode cJ1_charAt_3b067 0 = .ok (.iload_n 1, 1) by decide +kernel) rfl (lv_at hl 1 rfl) ?_
  refine lv_aload_n hx hb (show decode cJ1_charAt_3b067 1 = .ok (.aload_n 0, 1) by decide +kernel) rfl (lv_at hl 0 rfl) ?_
  refine W.alen (n := nI (am_str.getD i []).length) hx hb t1 t2 t5 rfl rfl (show decode cJ1_charAt_3b067 2 = .ok (.arraylength, 1) by decide +kernel) ?_
  refine rd_call (v := none) (va_runS (cc := cJ1_charAt_3b067) (nL := 2) (As := [.int (nI j), .int (nI (am_str.getD i []).length)]) (rest := []) (Ts := []) (own := RJ1) ⟨hx, hb, hml, hown, fun _ h => absurd h List.not_mem_nil⟩ (c_schk l g (nI j) (nI (am_str.getD i []).length) (nI_pos (by omega)) (nI_lt hj (by omega))) ⟨rd_cb (n := 2) hts (tb_3 (List.mem_of_getElem? (i := 154) rfl)) (tb_1 (List.mem_of_getElem? (i := 17) rfl)) (tb_3 (List.mem_of_getElem? (i := 152) rfl)) (by decide +kernel) (by decide +kernel) rfl rfl (Nat.le_refl 2) (Nat.le_of_ble_eq_true rfl), hts _ (tb_3 (List.mem_of_getElem? (i := 153) rfl)) rfl⟩ (rd_pre hV rfl) rfl rfl hl.1 rfl (lv_room (Nat.zero_le _)) (show decode cJ1_charAt_3b067 3 = .ok (.invokestatic 9, 3) by decide +kernel) ⟨Nat.le_refl 0, Nat.le_refl 0⟩) ?_
  refine lv_aload_n hx hb (show decode cJ1_charAt_3b067 6 = .ok (.aload_n 0, 1) by decide +kernel) rfl (lv_at hl 0 rfl) ?_
  refine lv_iload_n hx hb (show decode cJ1_charAt_3b067 7 = .ok (.iload_n 1, 1) by decide +kernel) rfl (lv_at hl 1 rfl) ?_
  refine W.bald (v := .int ((am_str.getD i []).getD j 0)) hx hb t1 t2 t3 ?_ (by rw [hjl]; exact t6 j hj) rfl rfl (show decode cJ1_charAt_3b067 8 = .ok (.baload, 1) by decide +kernel) ?_
  · intro h
    rcases h with h | h
    · exact nI_pos (n := j) (by omega) h
    · rw [hjl] at h; omega
  refine lv_sipush (v := 255) hx hb (show decode cJ1_charAt_3b067 9 = .ok (.sipush 255, 3) by decide +kernel) (by decide +kernel) ?_
  refine lv_iand hx hb (show decode cJ1_charAt_3b067 12 = .ok (.iand, 1) by decide +kernel) ?_
  refine lv_i2c hx hb (show decode cJ1_charAt_3b067 13 = .ok (.i2c, 1) by decide +kernel) s3 ?_
  exact W.zret (v := (am_str.getD i []).getD j 0) (ty := .char) hx hb hr s4 (fun t ht hW => ⟨rfl, by rw [ht]⟩) (fun q h => by cases h) (show decode cJ1_charAt_3b067 14 = .ok (.ireturn, 1) by decide +kernel)
set_option maxHeartbeats 4000000 in
set_option maxRecDepth 100000 in
theorem c_coder (l : Launch) (g : sG) (i : Nat) (hi : i < 8) : Met l yJ0_coder_7d493 (rd_ws yJ0_coder_7d493 cJ0_coder_7d493 1 (some .byte)) (rd_rm 0 0) (va_Pc [.ref (gK g i)] (fun U => VF g U)) (rd_Q (some (.int 0))) 0 0 (fun _ => False) := by
  refine Met.ofW (cc := cJ0_coder_7d493) (maxL := 1) (ret := (some .byte)) (by decide +kernel) rfl ?_
  intro p e s m args below meth c s₁ B hml hv
  obtain ⟨rfl, hV⟩ := hv
  have hx := B.exec
  have hb := B.bytes
  have hr := B.returns
  have hts := rd_hts (atoms_spec (ws := rd_ws yJ0_coder_7d493 cJ0_coder_7d493 1 (some .byte)) B.pre)
  have hown : s.vm.findClass RJ0 = some m.cls := findClass_of_methodNamed B.named
  have hlocks := B.notSynchronized
  have hS : va_S (sv_A g) s.heap s.heap [] := va_S.rf
  have hl := lv_entry ([.ref (gK g i)]) (n := 1) (Nat.le_of_ble_eq_true rfl)
  rw [lg_entry_eq]
  generalize (lg_sl ([.ref (gK g i)]) ++ List.replicate (1 - (lg_sl ([.ref (gK g i)])).length) Slot.unset).toArray = ls at hl ⊢
  have hl : lv_has ls 1 [(0, .ref (gK g i))] := hl
  refine va_gets (own := RJ0) (ref := "java/lang/String") hx hb hV.2.2.2.2.2.2.2.2.2.2.2.1 hS hown (hts _ (tb_3 (List.mem_of_getElem? (i := 139) rfl)) rfl) (fun _ h => h) (show decode cJ0_coder_7d493 0 = .ok (.getstatic 38, 3) by decide +kernel) ?_
  refine lv_if_eq (tgt := 13) hx hb (show decode cJ0_coder_7d493 3 = .ok (.ifCond .eq 10, 3) by decide +kernel) (by decide) (fun q => absurd q (by decide)) (fun _ => ?_)
  refine lv_aload_n hx hb (show decode cJ0_coder_7d493 6 = .ok (.aload_n 0, 1) by decide +kernel) rfl (lv_at hl 0 rfl) ?_
  refine vk_getf (own := RJ0) (ref := "java/lang/String") hx hb (hV.2.2.2.2.2.2.2.2.2.2.1.1 i hi).2.1 hS hown (hts _ (tb_6 (List.mem_of_getElem? (i := 77) rfl)) rfl) (fun _ h => h) (show decode cJ0_coder_7d493 7 = .ok (.getfield 15, 3) by decide +kernel) ?_
  refine lv_goto (tgt := 14) hx hb (show decode cJ0_coder_7d493 10 = .ok (.goto 4, 3) by decide +kernel) (by decide) ?_
  exact W.zret (v := 0) (ty := .byte) hx hb hr (by decide +kernel) (fun t ht hW => ⟨rfl, by rw [ht]⟩) (fun q h => by cases h) (show decode cJ0_coder_7d493 14 = .ok (.ireturn, 1) by decide +kernel)
set_option maxHeartbeats 4000000 in
set_option maxRecDepth 100000 in
theorem c_islat (l : Launch) (g : sG) (i : Nat) (hi : i < 8) : Met l yJ0_isLatin1_aae02 (rd_ws yJ0_isLatin1_aae02 cJ0_isLatin1_aae02 1 (some .boolean)) (rd_rm 0 0) (va_Pc [.ref (gK g i)] (fun U => VF g U)) (rd_Q (some (.int 1))) 0 0 (fun _ => False) := by
  refine Met.ofW (cc := cJ0_isLatin1_aae02) (maxL := 1) (ret := (some .boolean)) (by decide +kernel) rfl ?_
  intro p e s m args below meth c s₁ B hml hv
  obtain ⟨rfl, hV⟩ := hv
  have hx := B.exec
  have hb := B.bytes
  have hr := B.returns
  have hts := rd_hts (atoms_spec (ws := rd_ws yJ0_isLatin1_aae02 cJ0_isLatin1_aae02 1 (some .boolean)) B.pre)
  have hown : s.vm.findClass RJ0 = some m.cls := findClass_of_methodNamed B.named
  have hlocks := B.notSynchronized
  have hS : va_S (sv_A g) s.heap s.heap [] := va_S.rf
  have hl := lv_entry ([.ref (gK g i)]) (n := 1) (Nat.le_of_ble_eq_true rfl)
  rw [lg_entry_eq]
  generalize (lg_sl ([.ref (gK g i)]) ++ List.replicate (1 - (lg_sl ([.ref (gK g i)])).length) Slot.unset).toArray = ls at hl ⊢
  have hl : lv_has ls 1 [(0, .ref (gK g i))] := hl
  refine va_gets (own := RJ0) (ref := "java/lang/String") hx hb hV.2.2.2.2.2.2.2.2.2.2.2.1 hS hown (hts _ (tb_3 (List.mem_of_getElem? (i := 139) rfl)) rfl) (fun _ h => h) (show decode cJ0_isLatin1_aae02 0 = .ok (.getstatic 38, 3) by decide +kernel) ?_
  refine lv_if_eq (tgt := 17) hx hb (show decode cJ0_isLatin1_aae02 3 = .ok (.ifCond .eq 14, 3) by decide +kernel) (by decide) (fun q => absurd q (by decide)) (fun _ => ?_)
  refine lv_aload_n hx hb (show decode cJ0_isLatin1_aae02 6 = .ok (.aload_n 0, 1) by decide +kernel) rfl (lv_at hl 0 rfl) ?_
  refine vk_getf (own := RJ0) (ref := "java/lang/String") hx hb (hV.2.2.2.2.2.2.2.2.2.2.1.1 i hi).2.1 hS hown (hts _ (tb_6 (List.mem_of_getElem? (i := 77) rfl)) rfl) (fun _ h => h) (show decode cJ0_isLatin1_aae02 7 = .ok (.getfield 15, 3) by decide +kernel) ?_
  refine lv_if_ne (tgt := 17) hx hb (show decode cJ0_isLatin1_aae02 10 = .ok (.ifCond .ne 7, 3) by decide +kernel) (by decide) (fun q => absurd rfl q) (fun _ => ?_)
  refine lv_iconst (v := 1) hx hb (show decode cJ0_isLatin1_aae02 13 = .ok (.iconst 1, 1) by decide +kernel) (by decide) ?_
  refine lv_goto (tgt := 18) hx hb (show decode cJ0_isLatin1_aae02 14 = .ok (.goto 4, 3) by decide +kernel) (by decide) ?_
  exact W.zret (v := 1) (ty := .boolean) hx hb hr (by decide +kernel) (fun t ht hW => ⟨rfl, by rw [ht]⟩) (fun q h => by cases h) (show decode cJ0_isLatin1_aae02 18 = .ok (.ireturn, 1) by decide +kernel)
set_option maxHeartbeats 4000000 in
set_option maxRecDepth 100000 in
theorem c_len (l : Launch) (g : sG) (d n i : Nat) (w : AH) (Q : AQ) (hd : 1 ≤ d) (hi : i < 8) (hq : Q (some (.int (nI (am_str.getD i []).length))) n w) : MT l g d 500 [.ref (1000 + i)] n w Q := by
  refine Met.ofW (cc := cJ0_length_8abf5) (maxL := 1) (ret := (some .int)) (by decide +kernel) rfl ?_
  intro p e s m args below meth c s₁ B hml hv
  obtain ⟨rfl, hsz, hR, hV⟩ := hv
  have hx := B.exec
  have hb := B.bytes
  have hr := B.returns
  have hts := rd_hts (y := sv_y 500) (b := sv_c 500) (n := sv_l 500) (r := sv_r 500) (atoms_spec (ws := sv_ws 500) B.pre)
  have hown : s.vm.findClass RJ0 = some m.cls := findClass_of_methodNamed B.named
  have hlocks := B.notSynchronized
  have hS : va_S (sv_A g) s.heap s.heap [] := va_S.rf
  have hl := lv_entry ([.ref (gK g i)]) (n := 1) (Nat.le_of_ble_eq_true rfl)
  have e0 : (([.ref (1000 + i)] : List Value).map (sv_v g)) = [.ref (gK g i)] := by
    simp only [List.map_cons, List.map_nil, sv_v, sv_ad]
    rw [if_neg (by omega), if_neg (by omega), show 1000 + i - 1000 = i by omega]
  rw [e0] at hts ⊢
  rw [lg_entry_eq]
  generalize (lg_sl ([.ref (gK g i)]) ++ List.replicate (1 - (lg_sl ([.ref (gK g i)])).length) Slot.unset).toArray = ls at hl ⊢
  have hl : lv_has ls 1 [(0, .ref (gK g i))] := hl
  obtain ⟨s1, s2⟩ := sc_len8 i hi
  obtain ⟨-, -, -, cell, t1, t2, t3, t4, t5, t6, t7⟩ := hV.2.2.2.2.2.2.2.2.2.2.1.1 i hi
  rw [s1] at t5
  refine lv_aload_n hx hb (show decode cJ0_length_8abf5 0 = .ok (.aload_n 0, 1) by decide +kernel) rfl (lv_at hl 0 rfl) ?_
  refine vk_getf (own := RJ0) (ref := "java/lang/String") hx hb (hV.2.2.2.2.2.2.2.2.2.2.1.1 i hi).2.2.1 hS hown (hts _ (tb_6 (List.mem_of_getElem? (i := 76) rfl)) rfl) (fun _ h => h) (show decode cJ0_length_8abf5 1 = .ok (.getfield 9, 3) by decide +kernel) ?_
  refine W.alen (n := nI (am_str.getD i []).length) hx hb t1 t2 t5 rfl rfl (show decode cJ0_length_8abf5 4 = .ok (.arraylength, 1) by decide +kernel) ?_
  refine lv_aload_n hx hb (show decode cJ0_length_8abf5 5 = .ok (.aload_n 0, 1) by decide +kernel) rfl (lv_at hl 0 rfl) ?_
  refine rd_call (v := some (.int 0)) (va_runV (cc := cJ0_length_8abf5) (nL := 1) (C := "java/lang/String") (As := []) (rest := [.int (nI (am_str.getD i []).length)]) (Ts := []) (own := RJ0) ⟨hx, hb, hml, hown, fun _ h => absurd h List.not_mem_nil⟩ (c_coder l g i hi) ⟨rd_cb (n := 0) hts (tb_3 (List.mem_of_getElem? (i := 138) rfl)) (tb_1 (List.mem_of_getElem? (i := 17) rfl)) (tb_3 (List.mem_of_getElem? (i := 135) rfl)) (by decide +kernel) (by decide +kernel) rfl rfl hd (by show 8 + (1 + 11) + 0 ≤ 28 * d; omega), hts _ (tb_3 (List.mem_of_getElem? (i := 136) rfl)) rfl, hts _ (tb_3 (List.mem_of_getElem? (i := 137) rfl)) rfl⟩ ⟨rd_blind, rd_recv hV hi, (rd_pre hV rfl).2⟩ rfl rfl hl.1 rfl (lv_room (Nat.le_of_ble_eq_true rfl)) (show decode cJ0_length_8abf5 6 = .ok (.invokevirtual 335, 3) by decide +kernel) ⟨Nat.le_refl 0, Nat.le_refl 0⟩) ?_
  refine lv_ishr hx hb (show decode cJ0_length_8abf5 9 = .ok (.ishr, 1) by decide +kernel) ?_
  refine W.iret (v := nI (am_str.getD i []).length >>> ((0 : Int32) &&& 31)) hx hb hr (fun t ht hW => ⟨⟨some (.int (nI (am_str.getD i []).length)), n, w, ?_, hq, rfl, by rw [ht]; exact hR⟩, hS.F ht⟩) (fun q h => by cases h) (show decode cJ0_length_8abf5 10 = .ok (.ireturn, 1) by decide +kernel)
  rw [sb_shr0]
  rfl
set_option maxHeartbeats 4000000 in
set_option maxRecDepth 100000 in
theorem c_char (l : Launch) (g : sG) (d n i j : Nat) (w : AH) (Q : AQ) (hd : 3 ≤ d) (hi : i < 8) (hj : j < (am_str.getD i []).length) (hq : Q (some (.int ((am_str.getD i []).getD j 0))) n w) : MT l g d 501 [.ref (1000 + i), .int (nI j)] n w Q := by
  refine Met.ofW (cc := cJ0_charAt_5068e) (maxL := 2) (ret := (some .char)) (by decide +kernel) rfl ?_
  intro p e s m args below meth c s₁ B hml hv
  obtain ⟨rfl, hsz, hR, hV⟩ := hv
  have hx := B.exec
  have hb := B.bytes
  have hr := B.returns
  have hts := rd_hts (y := sv_y 501) (b := sv_c 501) (n := sv_l 501) (r := sv_r 501) (atoms_spec (ws := sv_ws 501) B.pre)
  have hown : s.vm.findClass RJ0 = some m.cls := findClass_of_methodNamed B.named
  have hlocks := B.notSynchronized
  have hS : va_S (sv_A g) s.heap s.heap [] := va_S.rf
  have hl := lv_entry ([.ref (gK g i), .int (nI j)]) (n := 2) (Nat.le_of_ble_eq_true rfl)
  have e0 : (([.ref (1000 + i), .int (nI j)] : List Value).map (sv_v g)) = [.ref (gK g i), .int (nI j)] := by
    simp only [List.map_cons, List.map_nil, sv_v, sv_ad]
    rw [if_neg (by omega), if_neg (by omega), show 1000 + i - 1000 = i by omega]
  rw [e0] at hts ⊢
  rw [lg_entry_eq]
  generalize (lg_sl ([.ref (gK g i), .int (nI j)]) ++ List.replicate (2 - (lg_sl ([.ref (gK g i), .int (nI j)])).length) Slot.unset).toArray = ls at hl ⊢
  have hl : lv_has ls 2 [(0, .ref (gK g i)), (1, .int (nI j))] := hl
  obtain ⟨s3, s4⟩ := sc_ch8 i hi j hj
  refine lv_aload_n hx hb (show decode cJ0_charAt_5068e 0 = .ok (.aload_n 0, 1) by decide +kernel) rfl (lv_at hl 0 rfl) ?_
  refine rd_call (v := some (.int 1)) (va_runV (cc := cJ0_charAt_5068e) (nL := 2) (C := "java/lang/String") (As := []) (rest := []) (Ts := []) (own := RJ0) ⟨hx, hb, hml, hown, fun _ h => absurd h List.not_mem_nil⟩ (c_islat l g i hi) ⟨rd_cb (n := 0) hts (tb_3 (List.mem_of_getElem? (i := 148) rfl)) (tb_1 (List.mem_of_getElem? (i := 17) rfl)) (tb_3 (List.mem_of_getElem? (i := 145) rfl)) (by decide +kernel) (by decide +kernel) rfl rfl (by show 0 + 1 ≤ d; omega) (by show 8 + (1 + 11) + 0 ≤ 28 * d; omega), hts _ (tb_3 (List.mem_of_getElem? (i := 146) rfl)) rfl, hts _ (tb_3 (List.mem_of_getElem? (i := 147) rfl)) rfl⟩ ⟨rd_blind, rd_recv hV hi, (rd_pre hV rfl).2⟩ rfl rfl hl.1 rfl (lv_room (Nat.zero_le _)) (show decode cJ0_charAt_5068e 1 = .ok (.invokevirtual 492, 3) by decide +kernel) ⟨Nat.le_refl 0, Nat.le_refl 0⟩) ?_
  refine lv_if_eq (tgt := 16) hx hb (show decode cJ0_charAt_5068e 4 = .ok (.ifCond .eq 12, 3) by decide +kernel) (by decide) (fun q => absurd q (by decide)) (fun _ => ?_)
  refine lv_aload_n hx hb (show decode cJ0_charAt_5068e 7 = .ok (.aload_n 0, 1) by decide +kernel) rfl (lv_at hl 0 rfl) ?_
  refine vk_getf (own := RJ0) (ref := "java/lang/String") hx hb (hV.2.2.2.2.2.2.2.2.2.2.1.1 i hi).2.2.1 hS hown (hts _ (tb_6 (List.mem_of_getElem? (i := 76) rfl)) rfl) (fun _ h => h) (show decode cJ0_charAt_5068e 8 = .ok (.getfield 9, 3) by decide +kernel) ?_
  refine lv_iload_n hx hb (show decode cJ0_charAt_5068e 11 = .ok (.iload_n 1, 1) by decide +kernel) rfl (lv_at hl 1 rfl) ?_
  refine rd_call (v := some (.int ((am_str.getD i []).getD j 0))) (va_runS (cc := cJ0_charAt_5068e) (nL := 2) (As := [.ref (gV g i), .int (nI j)]) (rest := []) (Ts := []) (own := RJ0) ⟨hx, hb, hml, hown, fun _ h => absurd h List.not_mem_nil⟩ (c_l1ch l g i j hi hj) ⟨rd_cb (n := 2) hts (tb_3 (List.mem_of_getElem? (i := 151) rfl)) (tb_1 (List.mem_of_getElem? (i := 18) rfl)) (tb_3 (List.mem_of_getElem? (i := 149) rfl)) (by decide +kernel) (by decide +kernel) rfl rfl (by show 2 + 1 ≤ d; omega) (by show 8 + (2 + 11) + 56 ≤ 28 * d; omega), hts _ (tb_3 (List.mem_of_getElem? (i := 150) rfl)) rfl⟩ (rd_pre hV rfl) rfl rfl hl.1 rfl (lv_room (Nat.zero_le _)) (show decode cJ0_charAt_5068e 12 = .ok (.invokestatic 495, 3) by decide +kernel) ⟨Nat.le_refl 0, Nat.le_refl 0⟩) ?_
  exact W.zret (v := (am_str.getD i []).getD j 0) (ty := .char) hx hb hr s4 (fun t ht hW => ⟨⟨some (.int ((am_str.getD i []).getD j 0)), n, w, rfl, hq, rfl, by rw [ht]; exact hR⟩, hS.F ht⟩) (fun q h => by cases h) (show decode cJ0_charAt_5068e 15 = .ok (.ireturn, 1) by decide +kernel)
theorem f_st {y : Nat} (h : y = 500 ∨ y = 501) : Cond.code (sv_y y) (sv_c y) (sv_l y) (sv_r y) ∈ lw_tbl ∧ (sv_y y).cls = "java/lang/String" ∧ Cond.instanceMethod (sv_y y) ∈ lw_tbl ∧ Cond.selects "java/lang/String" (sv_y y) (sv_y y) ∈ lw_tbl ∧ (parseMethodDescriptor (sv_y y).desc).map (fun d => d.parameters.length) = some (sv_n y) ∧ sv_l y ≤ 9 ∧ am_acc y = (0, 0) := by
  rcases h with rfl | rfl
  · exact ⟨tb_3 (List.mem_of_getElem? (i := 134) rfl), rfl, tb_3 (List.mem_of_getElem? (i := 132) rfl), tb_3 (List.mem_of_getElem? (i := 133) rfl), by decide +kernel, by decide, rfl⟩
  · exact ⟨tb_3 (List.mem_of_getElem? (i := 144) rfl), rfl, tb_3 (List.mem_of_getElem? (i := 142) rfl), tb_3 (List.mem_of_getElem? (i := 143) rfl), by decide +kernel, by decide, rfl⟩
section SR2
variable {p : Program} {l : Launch} {e : Env} {R : Room} {s : State} {m : MethodId} {args : Array Value} {below : List Frame} {meth : Method} {c : Code} {Z : State → Prop}
variable {g : sG} {own nL n0 : Nat} {ini : Bool} {cc : ByteArray} {pc : Nat} {ls : AL} {st : List Value} {n : Nat} {w : AH} {k1 k2 : Nat}
theorem sd_strc {d i y i8 : Nat} {as : List Value} {Q : AQ} (fx : FX p s m args meth c g own nL n0 ini cc) (hd : decode cc pc = .ok (.invokevirtual i, 3)) (hk : (own, i, y) ∈ lk_t) (hi : i8 < 8) (hna : as.length = sv_n y) (hwd : am_wd st ≤ 8) (hM : MT l g d y (.ref (1000 + i8) :: as) n w Q) (hfr : d + 1 ≤ R.frames) (hlo : 28 * (d + 1) ≤ R.locals)
    (k : ∀ r n' w', Q r n' w' → WX p l e R s m args below meth c Z g nL n0 (pc + 3) ls (am_rs r st) n' w' k1 k2) : WX p l e R s m args below meth c Z g nL n0 pc ls ((.ref (1000 + i8) :: as).reverse ++ st) n w k1 k2 := by
  intro H locs A hR hS hl hn
  refine sd_sz fx hR hS hn.1 (fun hsz => ?_)
  obtain ⟨hx, hb, hml, hown, hts, hV, hsz0, hini⟩ := fx
  obtain ⟨q1, q2⟩ := lk_t_ok _ hk
  dsimp only at q1 q2
  obtain ⟨f1, f2, f3, f4, f5, f6, f7⟩ := f_st q2
  have hA : A.size = nL := by obtain ⟨_, _, h1, _⟩ := hl; exact h1.1
  have ead : sv_ad g (1000 + i8) = gK g i8 := by
    unfold sv_ad
    rw [if_neg (by omega), if_neg (by omega), show 1000 + i8 - 1000 = i8 by omega]
  unfold MT at hM
  rw [f7] at hM
  have hcb : CallB R s args (sv_cn own) i (sv_y y) (sv_c y) (sv_l y) (sv_r y) (sv_ws y) (sv_rm d 0 0) 0 0 (sv_n y) :=
    rd_cb hts f1 (by rw [f2]; exact tb_1 (List.mem_of_getElem? (i := 17) rfl)) q1 (by rw [f2]; exact ⟨by decide +kernel, by decide +kernel⟩) f5 rfl rfl hfr (by show 8 + (sv_l y + 11) + 28 * d ≤ R.locals; omega)
  have hp : PreV s H "java/lang/String" (sv_ad g (1000 + i8)) (sv_P g (.ref (1000 + i8) :: as) n w) (as.map (sv_v g)) :=
    ⟨sv_blind, by rw [ead]; exact vk_recv hV.2.2.2.2.2.2.2.2.2.2.1 hi hS, (sv_pre (as := .ref (1000 + i8) :: as) hV hR hS hsz).2⟩
  have hr := va_runV (e := e) (below := below) (meth := meth) (R := R) (H := H) (locs := locs) (cells := k1) (slots := k2) (g := F0 m pc A (((Value.ref (1000 + i8) :: as).reverse ++ st).map (sv_v g))) (As := as.map (sv_v g)) (rest := st.map (sv_v g)) (Ts := []) ⟨hx, hb, hml, hown, fun _ h => absurd h List.not_mem_nil⟩ hM ⟨hcb, hts _ f3 rfl, hts _ f4 rfl⟩ hp rfl (by rw [List.length_map]; exact hna) hA sv_stk (lv_room (by rw [am_wd_sum]; exact hwd)) hd hn.2
  refine sd_call hr hS (fun r n' w' H1 locs1 hq hn' hR1 hS1 => ?_)
  rw [sv_rs]
  exact k r n' w' hq H1 locs1 A hR1 hS1 hl ⟨by rw [hn']; exact hn.1, hn.2⟩
end SR2
