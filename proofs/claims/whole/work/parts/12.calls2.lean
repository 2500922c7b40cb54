section SC2
variable {p : Program} {l : Launch} {e : Env} {R : Room} {s : State} {m : MethodId} {args : Array Value} {below : List Frame} {meth : Method} {c : Code} {Z : State → Prop}
variable {g : sG} {own nL n0 : Nat} {ini : Bool} {cc : ByteArray} {pc : Nat} {ls : AL} {st : List Value} {n : Nat} {w : AH} {k1 k2 : Nat}
theorem sv_preV {as : List Value} {a ci : Nat} {fs : List Value} {H : Heap} {locs : List Loc} (hV : VF g s) (hR : AR g n w H) (hS : va_S (sv_A g) s.heap H locs) (hsz : H.size = gz g + n) (hw : w a = some (.inr (ci, fs))) (hci : ci < 12) : PreV s H (sv_cn ci) (sv_ad g a) (sv_P g (.ref a :: as) n w) (as.map (sv_v g)) :=
  ⟨sv_blind, va_recv hV.1 hR.2.2.2 (f_cl_at hci).1 (hR.at hw (hR.ob hw)), (sv_pre (as := .ref a :: as) hV hR hS hsz).2⟩
theorem sv_stk {as : List Value} {a : Nat} : (((Value.ref a :: as).reverse ++ st).map (sv_v g)) = (as.map (sv_v g)).reverse ++ Value.ref (sv_ad g a) :: st.map (sv_v g) := by
  simp [List.map_reverse, sv_v]
theorem sd_virt {d i y a ci : Nat} {as fs : List Value} {Q : AQ} (fx : FX p s m args meth c g own nL n0 ini cc) (hd : decode cc pc = .ok (.invokevirtual i, 3)) (hk : (own, i, ci, y) ∈ lk_v) (hna : as.length = sv_n y) (hac : am_acc y = (0, 0)) (hwd : am_wd st ≤ 8) (hw : w a = some (.inr (ci, fs))) (hM : MT l g d y (.ref a :: as) n w Q) (hfr : d + 1 ≤ R.frames) (hlo : 8 + (sv_l y + 11) + 28 * d ≤ R.locals)
    (k : ∀ r n' w', Q r n' w' → WX p l e R s m args below meth c Z g nL n0 (pc + 3) ls (am_rs r st) n' w' k1 k2) : WX p l e R s m args below meth c Z g nL n0 pc ls ((.ref a :: as).reverse ++ st) n w k1 k2 := by
  intro H locs A hR hS hl hn
  refine sd_sz fx hR hS hn.1 (fun hsz => ?_)
  obtain ⟨hx, hb, hml, hown, hts, hV, hsz0, hini⟩ := fx
  obtain ⟨q1, q2, q3, q4, q5, q6⟩ := lk_v_ok _ hk
  dsimp only at q1 q2 q3 q4 q5 q6
  have hy := f_me y q6
  have hA : A.size = nL := by obtain ⟨_, _, h1, _⟩ := hl; exact h1.1
  unfold MT at hM
  rw [hac] at hM
  have hr := va_runV (e := e) (below := below) (meth := meth) (R := R) (H := H) (locs := locs) (cells := k1) (slots := k2) (g := F0 m pc A (((Value.ref a :: as).reverse ++ st).map (sv_v g))) (As := as.map (sv_v g)) (rest := st.map (sv_v g)) (Ts := []) ⟨hx, hb, hml, hown, fun _ h => absurd h List.not_mem_nil⟩ hM ⟨sv_cb hts hy (hts _ q1 rfl) hfr hlo, hts _ q2 rfl, hts _ q3 rfl⟩ (sv_preV hV hR hS hsz hw q4) rfl (by rw [List.length_map]; exact hna) hA sv_stk (lv_room (by rw [am_wd_sum]; exact hwd)) hd hn.2
  refine sd_call hr hS (fun r n' w' H1 locs1 hq hn' hR1 hS1 => ?_)
  rw [sv_rs]
  exact k r n' w' hq H1 locs1 A hR1 hS1 hl ⟨by rw [hn']; exact hn.1, hn.2⟩
theorem sd_dsp {d i y x a ci : Nat} {as fs : List Value} {Q : AQ} (fx : FX p s m args meth c g own nL n0 ini cc) (hd : decode cc pc = .ok (.invokevirtual i, 3)) (hk : (own, i, ci, y, x) ∈ lk_d) (hna : as.length = sv_n y) (hac : am_acc y = (0, 0)) (hwd : am_wd st ≤ 8) (hw : w a = some (.inr (ci, fs))) (hM : MT l g d y (.ref a :: as) n w Q) (hfr : d + 1 ≤ R.frames) (hlo : 8 + (sv_l y + 11) + 28 * d ≤ R.locals)
    (k : ∀ r n' w', Q r n' w' → WX p l e R s m args below meth c Z g nL n0 (pc + 3) ls (am_rs r st) n' w' k1 k2) : WX p l e R s m args below meth c Z g nL n0 pc ls ((.ref a :: as).reverse ++ st) n w k1 k2 := by
  intro H locs A hR hS hl hn
  refine sd_sz fx hR hS hn.1 (fun hsz => ?_)
  obtain ⟨hx, hb, hml, hown, hts, hV, hsz0, hini⟩ := fx
  obtain ⟨q1, q2, q3, q4, q5, q6, q7, q8, q9⟩ := lk_d_ok _ hk
  dsimp only at q1 q2 q3 q4 q5 q6 q7 q8 q9
  have hy := f_me y q7
  have hxm := f_me x q8
  have hA : A.size = nL := by obtain ⟨_, _, h1, _⟩ := hl; exact h1.1
  unfold MT at hM
  rw [hac] at hM
  have e0 : ∀ q : MethodName, (⟨q.cls, q.name, q.desc⟩ : MethodName) = q := fun q => rfl
  have hde : va_Decl s ⟨(sv_y x).cls, (sv_y x).name, (sv_y x).desc⟩ := by
    rw [e0]
    exact va_Decl.of (hts _ q5 rfl) (hts _ hxm.1 rfl)
  have hcu : va_CU R s args (sv_cn own) (sv_cn ci) (sv_y x).cls i (sv_y x) (sv_y y) (sv_c y) (sv_l y) (sv_r y) (sv_ws y) (sv_rm d 0 0) 0 0 (sv_n y) :=
    ⟨⟨rfl, rfl, hfr, hlo, sv_hws hts hy, List.mem_cons_self⟩, hts _ hy.1 rfl, by rw [hy.2.1]; exact hts _ hy.2.2.1 rfl, by rw [hxm.2.1]; exact sv_nMH _, sv_len hxm q9, hts _ q1 rfl, hts _ q2 rfl, hde, hts _ q3 rfl, hts _ q4 rfl⟩
  have hr := va_runU (e := e) (below := below) (meth := meth) (R := R) (H := H) (locs := locs) (cells := k1) (slots := k2) (g := F0 m pc A (((Value.ref a :: as).reverse ++ st).map (sv_v g))) (As := as.map (sv_v g)) (rest := st.map (sv_v g)) (Ts := []) ⟨hx, hb, hml, hown, fun _ h => absurd h List.not_mem_nil⟩ hM hcu (sv_preV hV hR hS hsz hw q6) rfl (by rw [List.length_map]; exact hna) hA sv_stk (lv_room (by rw [am_wd_sum]; exact hwd)) hd hn.2
  refine sd_call hr hS (fun r n' w' H1 locs1 hq hn' hR1 hS1 => ?_)
  rw [sv_rs]
  exact k r n' w' hq H1 locs1 A hR1 hS1 hl ⟨by rw [hn']; exact hn.1, hn.2⟩
theorem sd_init {d i y a : Nat} {as : List Value} {Q : AQ} (fx : FX p s m args meth c g own nL n0 ini cc) (hd : decode cc pc = .ok (.invokespecial i, 3)) (hk : (own, i, y) ∈ lk_i) (hna : as.length = sv_n y) (hwd : am_wd st ≤ 8) (hc1 : k1 + (am_acc y).1 ≤ R.cells) (hc2 : k2 + (am_acc y).2 ≤ R.slots) (hM : MT l g d y (.ref a :: as) n w Q) (hfr : d + 1 ≤ R.frames) (hlo : 8 + (sv_l y + 11) + 28 * d ≤ R.locals)
    (k : ∀ r n' w', Q r n' w' → WX p l e R s m args below meth c Z g nL n0 (pc + 3) ls (am_rs r st) n' w' (k1 + (am_acc y).1) (k2 + (am_acc y).2)) : WX p l e R s m args below meth c Z g nL n0 pc ls ((.ref a :: as).reverse ++ st) n w k1 k2 := by
  intro H locs A hR hS hl hn
  refine sd_sz fx hR hS hn.1 (fun hsz => ?_)
  obtain ⟨hx, hb, hml, hown, hts, hV, hsz0, hini⟩ := fx
  obtain ⟨q1, q2, q3, q4, q5⟩ := lk_i_ok _ hk
  dsimp only at q1 q2 q3 q4 q5
  have hy := f_me y q5
  have hA : A.size = nL := by obtain ⟨_, _, h1, _⟩ := hl; exact h1.1
  have hcb := sv_cb (R := R) (own := own) (d := d) (mc := (am_acc y).1) (ms := (am_acc y).2) hts hy (hts _ q1 rfl) hfr hlo
  rw [q4] at hcb
  have hr := va_runI (e := e) (below := below) (meth := meth) (R := R) (H := H) (locs := locs) (cells := k1) (slots := k2) (g := F0 m pc A (((Value.ref a :: as).reverse ++ st).map (sv_v g))) (As := as.map (sv_v g)) (b := sv_ad g a) (rest := st.map (sv_v g)) (Ts := []) ⟨hx, hb, hml, hown, fun _ h => absurd h List.not_mem_nil⟩ hM ⟨hcb, q3, hts _ q2 rfl⟩ (sv_pre (as := .ref a :: as) hV hR hS hsz) rfl (by rw [List.length_map]; exact hna) hA sv_stk (lv_room (by rw [am_wd_sum]; exact hwd)) hd ⟨hc1, hc2⟩
  refine sd_call hr hS (fun r n' w' H1 locs1 hq hn' hR1 hS1 => ?_)
  rw [sv_rs]
  exact k r n' w' hq H1 locs1 A hR1 hS1 hl ⟨by have := hn.1; omega, hc1, hc2⟩
theorem sd_nest {d i y a : Nat} {as : List Value} {Q : AQ} (fx : FX p s m args meth c g own nL n0 ini cc) (hd : decode cc pc = .ok (.invokespecial i, 3)) (hk : (own, i, y) ∈ lk_n) (hna : as.length = sv_n y) (hwd : am_wd st ≤ 8) (hc1 : k1 + (am_acc y).1 ≤ R.cells) (hc2 : k2 + (am_acc y).2 ≤ R.slots) (hM : MT l g d y (.ref a :: as) n w Q) (hfr : d + 1 ≤ R.frames) (hlo : 8 + (sv_l y + 11) + 28 * d ≤ R.locals)
    (k : ∀ r n' w', Q r n' w' → WX p l e R s m args below meth c Z g nL n0 (pc + 3) ls (am_rs r st) n' w' (k1 + (am_acc y).1) (k2 + (am_acc y).2)) : WX p l e R s m args below meth c Z g nL n0 pc ls ((.ref a :: as).reverse ++ st) n w k1 k2 := by
  intro H locs A hR hS hl hn
  refine sd_sz fx hR hS hn.1 (fun hsz => ?_)
  obtain ⟨hx, hb, hml, hown, hts, hV, hsz0, hini⟩ := fx
  obtain ⟨q1, q2, q3, q4, q5⟩ := lk_n_ok _ hk
  dsimp only at q1 q2 q3 q4 q5
  have hy := f_me y q5
  have hA : A.size = nL := by obtain ⟨_, _, h1, _⟩ := hl; exact h1.1
  have hcn : va_CN R s args (sv_cn own) i (sv_y y) "MoleSecrets" (sv_c y) (sv_l y) none (sv_ws y) (sv_rm d (am_acc y).1 (am_acc y).2) (am_acc y).1 (am_acc y).2 (sv_n y) := by
    refine ⟨⟨rfl, rfl, hfr, hlo, sv_hws hts hy, ?_⟩, ?_, by rw [hy.2.1]; exact hts _ hy.2.2.1 rfl, by rw [hy.2.1]; exact sv_nMH _, sv_len hy rfl, va_Nw.use rfl (hV.2.2.2.1 _ hk)⟩
    · rw [← q4]; exact List.mem_cons_self
    · rw [← q4]; exact hts _ hy.1 rfl
  have hr := va_runIN (e := e) (below := below) (meth := meth) (R := R) (H := H) (locs := locs) (cells := k1) (slots := k2) (g := F0 m pc A (((Value.ref a :: as).reverse ++ st).map (sv_v g))) (As := as.map (sv_v g)) (b := sv_ad g a) (rest := st.map (sv_v g)) (Ts := []) ⟨hx, hb, hml, hown, fun _ h => absurd h List.not_mem_nil⟩ hM ⟨hcn, q3, hts _ q2 rfl⟩ (sv_pre (as := .ref a :: as) hV hR hS hsz) rfl (by rw [List.length_map]; exact hna) hA sv_stk (lv_room (by rw [am_wd_sum]; exact hwd)) hd ⟨hc1, hc2⟩
  refine sd_call hr hS (fun r n' w' H1 locs1 hq hn' hR1 hS1 => ?_)
  rw [sv_rs]
  exact k r n' w' hq H1 locs1 A hR1 hS1 hl ⟨by have := hn.1; omega, hc1, hc2⟩
theorem sd_super {d i y a ci : Nat} {as fs : List Value} {Q : AQ} (fx : FX p s m args meth c g own nL n0 ini cc) (hd : decode cc pc = .ok (.invokespecial i, 3)) (hk : (own, i, y) ∈ lk_u) (hna : as.length = sv_n y) (hac : am_acc y = (0, 0)) (hwd : am_wd st ≤ 8) (hw : w a = some (.inr (ci, fs))) (hci : ci < 12) (hM : MT l g d y (.ref a :: as) n w Q) (hfr : d + 1 ≤ R.frames) (hlo : 8 + (sv_l y + 11) + 28 * d ≤ R.locals)
    (k : ∀ r n' w', Q r n' w' → WX p l e R s m args below meth c Z g nL n0 (pc + 3) ls (am_rs r st) n' w' k1 k2) : WX p l e R s m args below meth c Z g nL n0 pc ls ((.ref a :: as).reverse ++ st) n w k1 k2 := by
  intro H locs A hR hS hl hn
  refine sd_sz fx hR hS hn.1 (fun hsz => ?_)
  obtain ⟨hx, hb, hml, hown, hts, hV, hsz0, hini⟩ := fx
  obtain ⟨q1, q2, q3, q4, q5, q6⟩ := lk_u_ok _ hk
  dsimp only at q1 q2 q3 q4 q5 q6
  have hy := f_me y q6
  have hA : A.size = nL := by obtain ⟨_, _, h1, _⟩ := hl; exact h1.1
  unfold MT at hM
  rw [hac] at hM
  have hcs : va_CS R s args (sv_cn own) i (sv_y y) (sv_c y) (sv_l y) (sv_r y) (sv_ws y) (sv_rm d 0 0) 0 0 (sv_n y) :=
    ⟨⟨rfl, rfl, hfr, hlo, sv_hws hts hy, List.mem_cons_self⟩, hts _ q1 rfl, hts _ q2 rfl, hts _ q3 rfl, hts _ q4 rfl, by rw [hy.2.1]; exact hts _ hy.2.2.1 rfl, hts _ hy.1 rfl, q5, sv_len hy rfl⟩
  have hr := va_runSU (e := e) (below := below) (meth := meth) (R := R) (H := H) (locs := locs) (cells := k1) (slots := k2) (g := F0 m pc A (((Value.ref a :: as).reverse ++ st).map (sv_v g))) (As := as.map (sv_v g)) (rest := st.map (sv_v g)) (Ts := []) (hV.1.1 ci _ (f_cl_at hci).1).2 ⟨hx, hb, hml, hown, fun _ h => absurd h List.not_mem_nil⟩ hM hcs (sv_preV hV hR hS hsz hw hci) rfl (by rw [List.length_map]; exact hna) hA sv_stk (lv_room (by rw [am_wd_sum]; exact hwd)) hd hn.2
  refine sd_call hr hS (fun r n' w' H1 locs1 hq hn' hR1 hS1 => ?_)
  rw [sv_rs]
  exact k r n' w' hq H1 locs1 A hR1 hS1 hl ⟨by rw [hn']; exact hn.1, hn.2⟩
/-- super.m(..) where the superclass has it from its own superclass (Master: Digger: Mole) -/
theorem sd_super2 {d i y a ci : Nat} {as fs : List Value} {Q : AQ} (fx : FX p s m args meth c g own nL n0 ini cc) (hd : decode cc pc = .ok (.invokespecial i, 3)) (hk : (own, i, y) ∈ lk_w) (hna : as.length = sv_n y) (hac : am_acc y = (0, 0)) (hwd : am_wd st ≤ 8) (hw : w a = some (.inr (ci, fs))) (hci : ci < 12) (hM : MT l g d y (.ref a :: as) n w Q) (hfr : d + 1 ≤ R.frames) (hlo : 8 + (sv_l y + 11) + 28 * d ≤ R.locals)
    (k : ∀ r n' w', Q r n' w' → WX p l e R s m args below meth c Z g nL n0 (pc + 3) ls (am_rs r st) n' w' k1 k2) : WX p l e R s m args below meth c Z g nL n0 pc ls ((.ref a :: as).reverse ++ st) n w k1 k2 := by
  intro H locs A hR hS hl hn
  refine sd_sz fx hR hS hn.1 (fun hsz => ?_)
  obtain ⟨hx, hb, hml, hown, hts, hV, hsz0, hini⟩ := fx
  obtain ⟨q0, q1, q2, q3, q4, q5, q6, q7, q8⟩ := lk_w_ok _ hk
  dsimp only at q0 q1 q2 q3 q4 q5 q6 q7 q8
  subst q0
  have hy := f_me y q8
  have hA : A.size = nL := by obtain ⟨_, _, h1, _⟩ := hl; exact h1.1
  unfold MT at hM
  rw [hac] at hM
  have hlen := sv_len hy rfl
  obtain ⟨-, ⟨cellB, hcB, hoB, hclB⟩, hPc⟩ := sv_preV (as := as) hV hR hS hsz hw hci
  obtain ⟨kB, hkB, -⟩ := (hV.1.1 ci _ (f_cl_at hci).1).2.2
  have e9 := Option.some.inj ((hV.1.1 ci _ (f_cl_at hci).1).2.1.symm.trans hclB)
  rw [e9] at hkB
  have hcode := hts _ hy.1 rfl
  have hK : Back l R p e below s args (sv_y y) 3 8 (PreOf R 0 0 (sv_P g (.ref a :: as) n w)) (PostOf (sv_Q g n 0 Q) 0 0 (sv_A g)) := back_of (bytes := sv_c y) (maxL := sv_l y) (ret := sv_r y) hM sv_blind rfl rfl hfr hlo (sv_hws hts hy) List.mem_cons_self (fun a' U hW => word_at hW (Or.inl (by first | rfl | simp [Cond.onTables, Cond.keeps, Cond.steady])) (by rw [hy.2.1]; exact hts _ hy.2.2.1 rfl))
  have hr : va_Run p l e R s m args below meth c H locs k1 k2 0 0 (F0 m pc A (((Value.ref a :: as).reverse ++ st).map (sv_v g))) (st.map (sv_v g)) (sv_Q g n 0 Q (Value.ref (sv_ad g a) :: as.map (sv_v g)).toArray) (sv_A g) := by
    intro T hT X
    have e0 : ∀ q : MethodName, (⟨q.cls, q.name, q.desc⟩ : MethodName) = q := fun q => rfl
    obtain ⟨mk, methM, hnamed, hmethM, hstM, habM⟩ := Cond.instanceMethod_spec (hts _ q5 rfl)
    obtain ⟨methM', cM, hmethM', -, -, -, -, -, -, hsigM⟩ := Cond.code_spec hnamed hcode
    cases hmethM.symm.trans hmethM'
    obtain ⟨ps, dk, kp, hps, hdk, hkp, hsuper, -, -, hnid⟩ := Cond.superclass_spec hown (hts _ q3 rfl)
    obtain ⟨ps2, dk2, kp2, hps2, hdk2, hkp2, hsuper2, -⟩ := Cond.superclass_spec hps (hts _ q4 rfl)
    have hn2 : s.methodNamed? ⟨sv_cn 5, (sv_y y).name, (sv_y y).desc⟩ = some mk := by rw [← q7, e0]; exact hnamed
    have hmc : ps2 = mk.cls := Option.some.inj (hps2.symm.trans (by rw [← q7]; exact findClass_of_methodNamed hnamed))
    have hsub : s.vm.isSubclass ps mk.cls = true := by
      rw [← hmc]
      cases hdk2.symm.trans hkp
      obtain ⟨k9, hk9⟩ := Nat.exists_eq_succ_of_ne_zero (n := s.vm.classes.size) (by have := (Array.getElem?_eq_some_iff.mp hkp2).1; omega)
      simp [Vm.isSubclass, Vm.isSubclassAux, hkp, hsuper2, hk9]
    obtain ⟨vm₁, X₁, hstep₁⟩ := X.invokespecialUp hx hown (x := ⟨sv_cn 1, (sv_y y).name, (sv_y y).desc⟩) (owner := sv_cn 5) (hts _ q1 rfl) (hts _ q2 rfl) hn2 hmethM hstM habM q6 hdk hnid hps hsuper hsub (a := sv_ad g a) (cell := cellB) (by rw [hT]; exact hcB)
      (fun z h => by rw [h] at hoB; cases hoB) hkB (g := F0 m pc A (((Value.ref a :: as).reverse ++ st).map (sv_v g))) rfl (argsL := as.map (sv_v g)) (rest := st.map (sv_v g)) (by rw [List.length_map, hna]; exact hlen _ hsigM) sv_stk (by rw [hb]; exact hd)
    obtain ⟨v, ⟨U', l2, c2, s2⟩, X', ⟨g', mk', t, L, e1, e2, hq, h1, hL, h2, h3⟩, hsteps⟩ := hK m meth c ⟨T.setVm vm₁, locs, k1, k2⟩ { (F0 m pc A (((Value.ref a :: as).reverse ++ st).map (sv_v g))) with stack := st.map (sv_v g) } (.invokespecial i) mk (Value.ref (sv_ad g a) :: as.map (sv_v g)).toArray X₁ rfl (by show A.size = c.maxLocals; rw [hA, hml]) (by rw [hb]; exact hd) (lv_room (by rw [am_wd_sum]; exact hwd)) (X₁.named hnamed) ⟨hn.2.1, hn.2.2, hPc (T.setVm vm₁) hT X₁.warmed⟩
    dsimp only [Pt.U, Pt.locs, Pt.cells, Pt.slots] at X' e1 e2 h1 h2 h3 hsteps
    subst h1; subst h2; subst h3
    exact ⟨v, (T.setVm vm₁).calling g' mk' (Value.ref (sv_ad g a) :: as.map (sv_v g)).toArray, t, U', L, hT, X', hL, e1, e2, hq, fun target h => hstep₁ _ (by rw [doInvoke_state]; exact hsteps.trans h)⟩
  refine sd_call hr hS (fun r n' w' H1 locs1 hq hn' hR1 hS1 => ?_)
  rw [sv_rs]
  exact k r n' w' hq H1 locs1 A hR1 hS1 hl ⟨by rw [hn']; exact hn.1, hn.2⟩
end SC2
