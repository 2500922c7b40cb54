section SC
variable {p : Program} {l : Launch} {e : Env} {R : Room} {s : State} {m : MethodId} {args : Array Value} {below : List Frame} {meth : Method} {c : Code} {Z : State → Prop}
variable {g : sG} {own nL n0 : Nat} {ini : Bool} {cc : ByteArray} {pc : Nat} {ls : AL} {st : List Value} {n : Nat} {w : AH} {k1 k2 : Nat}
theorem sv_adn {n : Nat} (h : n < 900) : sv_ad g n = gz g + n := by unfold sv_ad; rw [if_pos (by omega)]
/-- a new array's cell comes -/
theorem sd_pushA {t N : Nat} {x : vp_A} {cA : ClassId} {f : Nat → Value} {H H1 : Heap} {locs : List Loc} (hR : AR g n w H) (hS : va_S (sv_A g) s.heap H locs) (hn9 : n < 900) (ht : t < 4) (hsz : H.size = gz g + n) (e1 : H1[gz g + n]? = some (arrV cA N f)) (z1 : H1.size = gz g + n + 1) (o1 : ∀ q, q < gz g + n → H1[q]? = H[q]?) (hA : cA = gC g t) (hx : vp_cell cA (sv_a g x) = arrV cA N f) :
    AR g (n + 1) (va_up w n (some (.inl (t, x)))) H1 ∧ va_S (sv_A g) s.heap H1 locs := by
  have hk : ∀ (j : Nat) (x : Nat × va_E), (sv_w g n w)[j]? = some x → H1[x.1]? = H[x.1]? := fun j x hx => o1 x.1 (by rw [← hsz]; exact (hR.2.2.2 j x hx).lt)
  refine ⟨hR.push hn9 ht ((hR.2.2.2.kept hk).app (fun j y hy => ?_)), ⟨Nat.le_trans hS.1 (by omega), fun x h1 h2 => (o1 x (by rw [← hsz]; exact Nat.lt_of_lt_of_le h1 hS.1)).trans (hS.2.1 x h1 h2), hS.2.2⟩⟩
  have hz : j < 1 := (List.getElem?_eq_some_iff.mp hy).1
  rw [show j = 0 by omega] at hy
  cases hy
  show H1[gz g + n]? = some (vp_cell (gC g t) (sv_a g x))
  rw [← hA, hx]
  exact e1
theorem sd_newai {q : Int32} (fx : FX p s m args meth c g own nL n0 ini cc) (hd : decode cc pc = .ok (.newarray .int, 2)) (hn9 : n < 900) (h0 : ¬ q < 0) (h1 : q.toNatClampNeg ≤ 1000) (hc1 : k1 + 1 ≤ R.cells) (hc2 : k2 + q.toNatClampNeg ≤ R.slots) (k : WX p l e R s m args below meth c Z g nL n0 (pc + 2) ls (.ref n :: st) (n + 1) (va_up w n (am_ia q.toNatClampNeg (fun _ => 0))) (k1 + 1) (k2 + q.toNatClampNeg)) : WX p l e R s m args below meth c Z g nL n0 pc ls (.int q :: st) n w k1 k2 := by
  intro H locs A hR hS hl hn
  refine sd_sz fx hR hS hn.1 (fun hsz => ?_)
  obtain ⟨hx, hb, hml, hown, hts, hV, hsz0, hini⟩ := fx
  refine va_newaK (atype := .int) hx hb (hts _ lk_x4.1 rfl) rfl hd rfl h0 rfl (by show q.toNatClampNeg * 4 ≤ _; omega) hc1 hc2 hsz fun H1 cA e1 z1 o1 hAr hNm => ?_
  have hA : cA = gC g 0 := Option.some.inj (hNm.symm.trans (hV.1.2 0 _ rfl).2)
  obtain ⟨r1, r2⟩ := sd_pushA (t := 0) (x := (q.toNatClampNeg, .inl (fun _ => 0))) hR hS hn9 (by decide) hsz e1 z1 o1 hA rfl
  refine W.eq (g2 := F0 m (pc + 2) A ((Value.ref n :: st).map (sv_v g))) ?_ (k H1 locs A r1 r2 hl ⟨by omega, hc1, hc2⟩)
  show F0 m (pc + 2) A (Value.ref (gz g + n) :: st.map (sv_v g)) = F0 m (pc + 2) A (Value.ref (sv_ad g n) :: st.map (sv_v g))
  rw [sv_adn hn9]
theorem sd_newal {q : Int32} (fx : FX p s m args meth c g own nL n0 ini cc) (hd : decode cc pc = .ok (.newarray .long, 2)) (hn9 : n < 900) (h0 : ¬ q < 0) (h1 : q.toNatClampNeg ≤ 1000) (hc1 : k1 + 1 ≤ R.cells) (hc2 : k2 + q.toNatClampNeg ≤ R.slots) (k : WX p l e R s m args below meth c Z g nL n0 (pc + 2) ls (.ref n :: st) (n + 1) (va_up w n (am_la q.toNatClampNeg (fun _ => 0))) (k1 + 1) (k2 + q.toNatClampNeg)) : WX p l e R s m args below meth c Z g nL n0 pc ls (.int q :: st) n w k1 k2 := by
  intro H locs A hR hS hl hn
  refine sd_sz fx hR hS hn.1 (fun hsz => ?_)
  obtain ⟨hx, hb, hml, hown, hts, hV, hsz0, hini⟩ := fx
  refine va_newaK (atype := .long) hx hb (hts _ lk_x4.2 rfl) rfl hd rfl h0 rfl (by show q.toNatClampNeg * 8 ≤ _; omega) hc1 hc2 hsz fun H1 cA e1 z1 o1 hAr hNm => ?_
  have hA : cA = gC g 1 := Option.some.inj (hNm.symm.trans (hV.1.2 1 _ rfl).2)
  obtain ⟨r1, r2⟩ := sd_pushA (t := 1) (x := (q.toNatClampNeg, .inr (.inl (fun _ => 0)))) hR hS hn9 (by decide) hsz e1 z1 o1 hA rfl
  refine W.eq (g2 := F0 m (pc + 2) A ((Value.ref n :: st).map (sv_v g))) ?_ (k H1 locs A r1 r2 hl ⟨by omega, hc1, hc2⟩)
  show F0 m (pc + 2) A (Value.ref (gz g + n) :: st.map (sv_v g)) = F0 m (pc + 2) A (Value.ref (sv_ad g n) :: st.map (sv_v g))
  rw [sv_adn hn9]
theorem sd_anew {q : Int32} {i ty : Nat} (fx : FX p s m args meth c g own nL n0 ini cc) (hd : decode cc pc = .ok (.anewarray i, 3)) (hty : (ty = 2 ∧ (own, i, 5) ∈ lk_c) ∨ (ty = 3 ∧ (own, i, 7) ∈ lk_c)) (hn9 : n < 900) (h0 : ¬ q < 0) (h1 : q.toNatClampNeg ≤ 1000) (hc1 : k1 + 1 ≤ R.cells) (hc2 : k2 + q.toNatClampNeg ≤ R.slots) (k : WX p l e R s m args below meth c Z g nL n0 (pc + 3) ls (.ref n :: st) (n + 1) (va_up w n (am_ra ty q.toNatClampNeg (fun _ => none))) (k1 + 1) (k2 + q.toNatClampNeg)) : WX p l e R s m args below meth c Z g nL n0 pc ls (.int q :: st) n w k1 k2 := by
  intro H locs A hR hS hl hn
  refine sd_sz fx hR hS hn.1 (fun hsz => ?_)
  obtain ⟨hx, hb, hml, hown, hts, hV, hsz0, hini⟩ := fx
  have key : ∀ C : String, (Cond.classLink (sv_cn own) i C).before args s = true → va_AO C s → (ht : ty < 4) → (∀ cA : ClassId, s.vm.findClass ("[" ++ (FieldType.object C).toString) = some cA → cA = gC g ty) → W p l e R s m args below meth c H locs k1 k2 Z (F0 m pc A ((Value.int q :: st).map (sv_v g))) := by
    intro C hC hO ht hu
    refine W.anew hx hb hown hC (va_AO.use hO) rfl hd rfl h0 (by omega) hc1 hc2 fun cA kA comp f1 f2 f3 f4 => ?_
    generalize hH1 : H.push ({ cls := cA, slots := Array.replicate q.toNatClampNeg .null, vm := .none } : Cell) = H1
    have z1 : H1.size = gz g + n + 1 := by rw [← hH1, Array.size_push, hsz]
    have e1 : H1[gz g + n]? = some (arrV cA q.toNatClampNeg (fun _ => .null)) := by rw [← hH1, ← hsz, Array.getElem?_push_size, ← arrV_new]
    have o1 : ∀ x : Nat, x < gz g + n → H1[x]? = H[x]? := fun x hx => by rw [← hH1, Array.getElem?_push, if_neg (by omega)]
    obtain ⟨r1, r2⟩ := sd_pushA (t := ty) (x := (q.toNatClampNeg, .inr (.inr (.inr (.inr (fun _ => none)))))) hR hS hn9 ht hsz e1 z1 o1 (hu cA f1) rfl
    refine W.eq (g2 := F0 m (pc + 3) A ((Value.ref n :: st).map (sv_v g))) ?_ (k H1 locs A r1 r2 hl ⟨by omega, hc1, hc2⟩)
    show F0 m (pc + 3) A (Value.ref H.size :: st.map (sv_v g)) = F0 m (pc + 3) A (Value.ref (sv_ad g n) :: st.map (sv_v g))
    rw [sv_adn hn9, hsz]
  rcases hty with ⟨rfl, hk⟩ | ⟨rfl, hk⟩
  · refine key RX5 (hts _ (lk_c_ok _ hk).2 rfl) hV.2.1 (by decide) (fun cA h => ?_)
    obtain ⟨kA, comp, k1', k2', k3', k4'⟩ := (hV.1.2 2 _ rfl).2
    exact Option.some.inj (h.symm.trans k4')
  · refine key RX7 (hts _ (lk_c_ok _ hk).2 rfl) hV.2.2.1 (by decide) (fun cA h => ?_)
    obtain ⟨kA, comp, k1', k2', k3', k4'⟩ := (hV.1.2 3 _ rfl).2
    exact Option.some.inj (h.symm.trans k4')
theorem sd_inst {i a ci : Nat} {inf : List Nat} {fs : List Value} (fx : FX p s m args meth c g own nL n0 ini cc) (hd : decode cc pc = .ok (.instanceof i, 3)) (hT : ((own, i, 1) ∈ lk_c ∧ inf = [1, 4]) ∨ ((own, i, 0) ∈ lk_c ∧ inf = [0, 3]) ∨ ((own, i, 6) ∈ lk_c ∧ inf = [6]) ∨ ((own, i, 4) ∈ lk_c ∧ inf = [4]) ∨ ((own, i, 3) ∈ lk_c ∧ inf = [3])) (hci : ci ∈ [0, 1, 3, 4, 5, 6]) (hw : w a = some (.inr (ci, fs))) (k : WX p l e R s m args below meth c Z g nL n0 (pc + 3) ls (.int (if ci ∈ inf then 1 else 0) :: st) n w k1 k2) : WX p l e R s m args below meth c Z g nL n0 pc ls (.ref a :: st) n w k1 k2 := by
  intro H locs A hR hS hl hn
  obtain ⟨hx, hb, hml, hown, hts, hV, hsz0, hini⟩ := fx
  have hc12 : ci < 12 := by
    simp only [List.mem_cons, List.not_mem_nil, or_false] at hci
    omega
  have hr := va_recv hV.1 hR.2.2.2 (f_cl_at hc12).1 (hR.at hw (hR.ob hw))
  have h := k H locs A hR hS hl hn
  have self : ∀ T : Nat, T < 12 → (own, i, T) ∈ lk_c → ci = T → ci ∈ inf → W p l e R s m args below meth c H locs k1 k2 Z (F0 m pc A ((Value.ref a :: st).map (sv_v g))) := by
    intro T hT12 hk hcT hin
    subst hcT
    rw [if_pos hin] at h
    exact va_instS (nm := sv_cn ci) hx hb hown (hts _ (lk_c_ok _ hk).2 rfl) (hV.1.1 ci _ (f_cl_at hT12).1).2 hr hd h
  have yes : ∀ T : Nat, (own, i, T) ∈ lk_c → (ci, T) ∈ sv_ca → ci ∈ inf → W p l e R s m args below meth c H locs k1 k2 Z (F0 m pc A ((Value.ref a :: st).map (sv_v g))) := by
    intro T hk hq hin
    rw [if_pos hin] at h
    exact va_instY (nm := sv_cn T) hx hb hown (hts _ (lk_c_ok _ hk).2 rfl) (hV.2.2.2.2.1 _ hq) hr hd h
  have no : ∀ T : Nat, (own, i, T) ∈ lk_c → (ci, T) ∈ sv_nc → ¬ ci ∈ inf → W p l e R s m args below meth c H locs k1 k2 Z (F0 m pc A ((Value.ref a :: st).map (sv_v g))) := by
    intro T hk hq hin
    rw [if_neg hin] at h
    exact va_instNo (nm := sv_cn T) hx hb hown (hts _ (lk_c_ok _ hk).2 rfl) (hV.2.2.2.2.2.1 _ hq) hr hd h
  simp only [List.mem_cons, List.not_mem_nil, or_false] at hci
  rcases hT with ⟨hk, rfl⟩ | ⟨hk, rfl⟩ | ⟨hk, rfl⟩ | ⟨hk, rfl⟩ | ⟨hk, rfl⟩ <;> rcases hci with rfl | rfl | rfl | rfl | rfl | rfl <;>
    first
      | exact self _ (by decide) hk rfl (by decide)
      | exact yes _ hk (by decide) (by decide)
      | exact no _ hk (by decide) (by decide)
theorem sd_oinit {i a : Nat} (fx : FX p s m args meth c g own nL n0 ini cc) (hd : decode cc pc = .ok (.invokespecial i, 3)) (hk : (own, i) ∈ lk_o) (hwd : am_wd st ≤ 8) (hf : 1 ≤ R.frames) (hlo : 28 ≤ R.locals) (k : WX p l e R s m args below meth c Z g nL n0 (pc + 3) ls st n w k1 k2) : WX p l e R s m args below meth c Z g nL n0 pc ls (.ref a :: st) n w k1 k2 := by
  intro H locs A hR hS hl hn
  obtain ⟨hx, hb, hml, hown, hts, hV, hsz0, hini⟩ := fx
  obtain ⟨hl0, lv, h1, h2⟩ := hl
  refine W.objInit hx hb hown (hts _ (lk_o_ok _ hk) rfl) (hts _ lk_x1 rfl) (hts _ lk_x2 rfl) rfl (by rw [hml]; exact h1.1) rfl hd hf ?_ (k H locs A hR hS ⟨hl0, lv, h1, h2⟩ hn)
  rw [am_wd_sum]
  show 2 * 0 + am_wd st + 12 ≤ R.locals
  omega
theorem sd_min {i : Nat} {x y : Int32} (fx : FX p s m args meth c g own nL n0 ini cc) (hd : decode cc pc = .ok (.invokestatic i, 3)) (hk : (own, i) ∈ lk_m) (hwd : am_wd st ≤ 8) (hf : 1 ≤ R.frames) (hlo : 28 ≤ R.locals) (k : WX p l e R s m args below meth c Z g nL n0 (pc + 3) ls (.int (if y < x then y else x) :: st) n w k1 k2) : WX p l e R s m args below meth c Z g nL n0 pc ls (.int y :: .int x :: st) n w k1 k2 := by
  intro H locs A hR hS hl hn
  obtain ⟨hx, hb, hml, hown, hts, hV, hsz0, hini⟩ := fx
  have hsz : c.maxLocals = A.size := by obtain ⟨_, _, h1, _⟩ := hl; rw [hml, h1.1]
  exact va_mmin hx hb hsz hown (hts _ (lk_m_ok _ hk) rfl) (hts _ lk_x5.1 rfl) (hts _ lk_x5.2.1 rfl) (hts _ lk_x5.2.2 rfl) hf (by rw [am_wd_sum]; omega) hn.2.1 hn.2.2 hd (k H locs A hR hS hl hn)
theorem sd_cpy {i a b : Nat} {q dp sp : Int32} (fx : FX p s m args meth c g own nL n0 ini cc) (hd : decode cc pc = .ok (.invokestatic i, 3)) (hk : (own, i) ∈ lk_y) (hwd : am_wd st ≤ 8) (hf : 1 ≤ R.frames) (hlo : 28 ≤ R.locals) (k : am_cpy (w a) (w b) sp dp q (fun o => WX p l e R s m args below meth c Z g nL n0 (pc + 3) ls st n (va_up w b o) k1 k2)) : WX p l e R s m args below meth c Z g nL n0 pc ls (.int q :: .int dp :: .ref b :: .int sp :: .ref a :: st) n w k1 k2 := by
  intro H locs A hR hS hl hn
  obtain ⟨hx, hb, hml, hown, hts, hV, hsz0, hini⟩ := fx
  have hsz : c.maxLocals = A.size := by obtain ⟨_, _, h1, _⟩ := hl; rw [hml, h1.1]
  have hlo2 : ((st.map (sv_v g)).map fun v => v.category).sum + (nativeFrameWords "java/lang/System" "arraycopy" 5 + 11) ≤ R.locals := by
    rw [am_wd_sum]
    have e1 : nativeFrameWords "java/lang/System" "arraycopy" 5 = 7 := by decide +kernel
    rw [e1]
    omega
  unfold am_cpy at k
  split at k
  · rename_i n1 f ha
    split at k
    · rename_i n2 f2 hb2
      obtain ⟨⟨c1, c2, c3, c4, c5⟩, k⟩ := k
      have hb9 := hR.ar hb2 (show 0 < 4 by decide)
      exact va_copyi hx hb hsz hown (hts _ (lk_y_ok _ hk) rfl) (hts _ lk_x3.1 rfl) (hts _ lk_x3.2.1 rfl) (hts _ lk_x3.2.2 rfl) hV.1 hR.2.2.2 sv_w_D hS a b 0 0 (hR.at ha (hR.ar ha (show 0 < 4 by decide))) (hR.at hb2 hb9) rfl rfl rfl c1 c2 c3 c4 c5 (fun _ _ => rfl) hf hlo2 hd (fun H1 locs1 hP1 _ hS1 => k H1 locs1 A (hR.set (e1 := .inl (0, n2, .inl (va_cpy f f2 sp.toNatClampNeg dp.toNatClampNeg q.toNatClampNeg))) hb2 hb9 (show 0 < 4 by decide) hP1) hS1 hl hn)
    · exact k.elim
  · rename_i n1 f ha
    split at k
    · rename_i n2 f2 hb2
      obtain ⟨⟨c1, c2, c3, c4, c5⟩, k⟩ := k
      have hb9 := hR.ar hb2 (show 1 < 4 by decide)
      exact va_copyl hx hb hsz hown (hts _ (lk_y_ok _ hk) rfl) (hts _ lk_x3.1 rfl) (hts _ lk_x3.2.1 rfl) (hts _ lk_x3.2.2 rfl) hV.1 hR.2.2.2 sv_w_D hS a b 1 1 (hR.at ha (hR.ar ha (show 1 < 4 by decide))) (hR.at hb2 hb9) rfl rfl rfl c1 c2 c3 c4 c5 (fun _ _ => rfl) hf hlo2 hd (fun H1 locs1 hP1 _ hS1 => k H1 locs1 A (hR.set (e1 := .inl (1, n2, .inr (.inl (va_cpy f f2 sp.toNatClampNeg dp.toNatClampNeg q.toNatClampNeg)))) hb2 hb9 (show 1 < 4 by decide) hP1) hS1 hl hn)
    · exact k.elim
  · exact k.elim
/-! calls: the callee's contract over the whole abstract heap -/
/-- the words that go with a method -/
def sv_ws (y : Nat) : List Cond := Cond.code (sv_y y) (sv_c y) (sv_l y) (sv_r y) :: lw_tbl.filter goodWord
def sv_P (g : sG) (as : List Value) (n : Nat) (w : AH) : Array Value → State → Prop := va_Pc (as.map (sv_v g)) (fun U => U.heap.size = gz g + n ∧ AR g n w U.heap ∧ VF g U)
def sv_Q (g : sG) (n mc : Nat) (Q : AQ) : Array Value → State → Outcome → State → Prop := fun _ st o t => (∃ (r : Option Value) (n' : Nat) (w' : AH), o = .returned (r.map (sv_v g)) ∧ Q r n' w' ∧ n' = n + mc ∧ AR g n' w' t.heap) ∧ va_F (sv_A g) st t
def sv_rm (d mc ms : Nat) : Room := { frames := d, cells := mc, slots := ms, locals := 28 * d }
/-- a method's contract -/
def MT (l : Launch) (g : sG) (d y : Nat) (as : List Value) (n : Nat) (w : AH) (Q : AQ) : Prop := Met l (sv_y y) (sv_ws y) (sv_rm d (am_acc y).1 (am_acc y).2) (sv_P g as n w) (sv_Q g n (am_acc y).1 Q) (am_acc y).1 (am_acc y).2 (sv_A g)
theorem sv_blind {as : List Value} : FrameBlind (sv_P g as n w) := by
  intro a U fr mk h
  obtain ⟨h1, h2, h3, h4⟩ := h
  exact ⟨h1, h2, h3, VF.same (u := U) (U := U.calling fr mk a) rfl rfl h4⟩
theorem sv_pre {as : List Value} {H : Heap} {locs : List Loc} (hV : VF g s) (hR : AR g n w H) (hS : va_S (sv_A g) s.heap H locs) (hsz : H.size = gz g + n) : PreS s H (sv_P g as n w) (as.map (sv_v g)) :=
  ⟨sv_blind, fun U hU hW => ⟨rfl, by rw [hU]; exact hsz, by rw [hU]; exact hR, VF.warm hS hU hW hV⟩⟩
theorem sd_call {H : Heap} {locs : List Loc} {A : Array Slot} {st0 rest : List Value} {mc ms : Nat} {Q : AQ} {a : Array Value} (hr : va_Run p l e R s m args below meth c H locs k1 k2 mc ms (F0 m pc A st0) rest (sv_Q g n mc Q a) (sv_A g)) (hS : va_S (sv_A g) s.heap H locs)
    (kk : ∀ (r : Option Value) (n' : Nat) (w' : AH) (H1 : Heap) (locs1 : List Loc), Q r n' w' → n' = n + mc → AR g n' w' H1 → va_S (sv_A g) s.heap H1 locs1 → W p l e R s m args below meth c H1 locs1 (k1 + mc) (k2 + ms) Z (F0 m (pc + 3) A ((r.map (sv_v g)).toList ++ rest))) : W p l e R s m args below meth c H locs k1 k2 Z (F0 m pc A st0) := by
  intro T hT X
  obtain ⟨v, st₀, t, T', L, h0, X', hL, e1, e2, ⟨⟨r, n', w', hv, hq, hn', hR'⟩, hz, hk⟩, stp⟩ := hr T hT X
  cases hv
  rw [h0] at hz hk
  obtain ⟨t2, a1, b1⟩ := kk r n' w' T'.heap (locs ++ L) hq hn' (by rw [e1]; exact hR')
    ⟨Nat.le_trans hS.1 (by rw [e1]; exact hz), fun q h1 h2 => by rw [e1, hk q (Nat.lt_of_lt_of_le h1 hS.1) h2]; exact hS.2.1 q h1 h2, fun q hq => by
      rcases List.mem_append.mp hq with h | h
      · exact hS.2.2 q h
      · exact hL q h⟩ T' rfl X'
  exact ⟨t2, stp t2 a1, b1⟩
theorem sv_rs (r : Option Value) (s : List Value) : (r.map (sv_v g)).toList ++ s.map (sv_v g) = (am_rs r s).map (sv_v g) := by
  cases r <;> rfl
theorem sv_hws (hts : ∀ w ∈ lw_tbl, goodWord w = true → w.before args s = true) {y : Nat} (hy : F_me y) : ∀ w ∈ sv_ws y, ∀ (a' : Array Value) (U : State), s.WarmedH U.vm → w.before a' U = true := by
  intro w hw a' U hW
  have h1 : w ∈ lw_tbl ∧ goodWord w = true := by
    rcases List.mem_cons.mp hw with rfl | h
    · exact ⟨hy.1, rfl⟩
    · exact List.mem_filter.mp h
  exact word_at hW (good_of_word h1.2) (hts w h1.1 h1.2)
theorem sv_nMH (o : Nat) : sv_cn o ≠ "java/lang/invoke/MethodHandle" ∧ sv_cn o ≠ "java/lang/invoke/VarHandle" := by
  unfold sv_cn
  split <;> exact ⟨by decide +kernel, by decide +kernel⟩
theorem sv_len {y n : Nat} (hy : F_me y) (h : n = sv_n y) : ∀ sig, parseMethodDescriptor (sv_y y).desc = some sig → n = sig.parameters.length := by
  intro sig hs
  have h4 := hy.2.2.2
  rw [hs] at h4
  rw [h]
  exact (Option.some.inj h4).symm
theorem sv_cb {d i y : Nat} {mc ms : Nat} (hts : ∀ w ∈ lw_tbl, goodWord w = true → w.before args s = true) (hy : F_me y) (hlk : (Cond.methodLink (sv_cn own) i (sv_y y)).before args s = true) (hfr : d + 1 ≤ R.frames) (hlo : 8 + (sv_l y + 11) + 28 * d ≤ R.locals) : CallB R s args (sv_cn own) i (sv_y y) (sv_c y) (sv_l y) (sv_r y) (sv_ws y) (sv_rm d mc ms) mc ms (sv_n y) :=
  ⟨rfl, rfl, hfr, hlo, sv_hws hts hy, List.mem_cons_self, hts _ hy.1 rfl, by rw [hy.2.1]; exact hts _ hy.2.2.1 rfl, by rw [hy.2.1]; exact sv_nMH _, sv_len hy rfl, hlk⟩
theorem sd_static {d i y : Nat} {as : List Value} {Q : AQ} (fx : FX p s m args meth c g own nL n0 ini cc) (hd : decode cc pc = .ok (.invokestatic i, 3)) (hk : (own, i, y) ∈ lk_s) (hna : as.length = sv_n y) (hac : am_acc y = (0, 0)) (hwd : am_wd st ≤ 8) (hM : MT l g d y as n w Q) (hfr : d + 1 ≤ R.frames) (hlo : 8 + (sv_l y + 11) + 28 * d ≤ R.locals)
    (k : ∀ r n' w', Q r n' w' → WX p l e R s m args below meth c Z g nL n0 (pc + 3) ls (am_rs r st) n' w' k1 k2) : WX p l e R s m args below meth c Z g nL n0 pc ls (as.reverse ++ st) n w k1 k2 := by
  intro H locs A hR hS hl hn
  refine sd_sz fx hR hS hn.1 (fun hsz => ?_)
  obtain ⟨hx, hb, hml, hown, hts, hV, hsz0, hini⟩ := fx
  obtain ⟨q1, q2, q3⟩ := lk_s_ok _ hk
  dsimp only at q1 q2 q3
  have hy := f_me y q3
  have hA : A.size = nL := by obtain ⟨_, _, h1, _⟩ := hl; exact h1.1
  unfold MT at hM
  rw [hac] at hM
  have hr := va_runS (e := e) (below := below) (meth := meth) (R := R) (H := H) (locs := locs) (cells := k1) (slots := k2) (g := F0 m pc A ((as.reverse ++ st).map (sv_v g))) (As := as.map (sv_v g)) (rest := st.map (sv_v g)) (Ts := []) ⟨hx, hb, hml, hown, fun _ h => absurd h List.not_mem_nil⟩ hM ⟨sv_cb hts hy (hts _ q1 rfl) hfr hlo, hts _ q2 rfl⟩ (sv_pre hV hR hS hsz) rfl (by rw [List.length_map]; exact hna) hA (by simp [List.map_reverse]) (lv_room (by rw [am_wd_sum]; exact hwd)) hd hn.2
  refine sd_call hr hS (fun r n' w' H1 locs1 hq hn' hR1 hS1 => ?_)
  rw [sv_rs]
  exact k r n' w' hq H1 locs1 A hR1 hS1 hl ⟨by rw [hn']; exact hn.1, hn.2⟩
end SC
