section SH
variable {p : Program} {l : Launch} {e : Env} {R : Room} {s : State} {m : MethodId} {args : Array Value} {below : List Frame} {meth : Method} {c : Code} {Z : State → Prop}
variable {g : sG} {own nL n0 : Nat} {ini : Bool} {cc : ByteArray} {pc : Nat} {ls : AL} {st : List Value} {n : Nat} {w : AH} {k1 k2 : Nat}
theorem f_cl_at {ci : Nat} (h : ci < 12) : F_cl ci := f_cl ci (by simp only [List.mem_cons, List.not_mem_nil, or_false]; omega)
theorem AR.ob {n i : Nat} {w : AH} {H : Heap} {q : Nat × List Value} (h : AR g n w H) (hw : w i = some (.inr q)) : i ≠ 999 := by
  intro hi
  rcases h.2.2.1 i _ hw with h1 | h1
  · have := h.1; omega
  · cases h1.2
theorem AR.ar {n i : Nat} {w : AH} {H : Heap} {q : Nat × vp_A} (h : AR g n w H) (hw : w i = some (.inl q)) (hq : q.1 < 4) : i ≠ 999 := by
  intro hi
  rcases h.2.2.1 i _ hw with h1 | h1
  · have := h.1; omega
  · have h2 := Sum.inl.inj h1.2
    rw [h2] at hq
    exact absurd hq (show ¬ (9 < 4) by decide)
theorem sd_getfield {i a ci fk : Nat} {fs : List Value} {v : Value} (fx : FX p s m args meth c g own nL n0 ini cc) (hd : decode cc pc = .ok (.getfield i, 3)) (hk : (own, i, ci, fk) ∈ lk_f) (hw : w a = some (.inr (ci, fs))) (hv : fs[fk]? = some v) (k : WX p l e R s m args below meth c Z g nL n0 (pc + 3) ls (v :: st) n w k1 k2) : WX p l e R s m args below meth c Z g nL n0 pc ls (.ref a :: st) n w k1 k2 := by
  intro H locs A hR hS hl hn
  obtain ⟨hx, hb, hml, hown, hts, hV, hsz, hini⟩ := fx
  obtain ⟨q1, q2, q3, q4⟩ := lk_f_ok _ hk
  dsimp only at q1 q2 q3 q4
  obtain ⟨f1, f2, f3, f4, f5, f6, f7, f8⟩ := f_cl_at q1
  refine va_get (C := sv_cn ci) (T := sv_cT ci) (N := sv_cN ci) (Ts := u_ws (sv_cn ci) (sv_cT ci) (sv_cN ci)) (ci := ci) (own := sv_cn own) (ref := sv_cn ci) (v := sv_v g v) hx hb (fun w hw => hts w (f2 w hw).1 (f2 w hw).2) (fun _ h => h) hown hV.1 hR.2.2.2 a (hR.at hw (hR.ob hw)) f1 fk q2 (hts _ q4 rfl) (fun x h => by rw [q3] at h; exact h) ?_ hd (k H locs A hR hS hl hn)
  rw [List.getElem?_map, hv]; rfl
theorem am_fit_of {ty : Nat} {t : FieldType} {v : Value} (h1 : ok_ty ty t = true) (h2 : am_fit ty v) : narrow t (sv_v g v) = sv_v g v ∧ fits t (sv_v g v) = true := by
  unfold ok_ty at h1
  split at h1
  · cases v <;> first | exact h2.elim | exact ⟨rfl, rfl⟩
  · cases v with
    | int x =>
      rcases h2 with rfl | rfl
      · exact ⟨show narrow .boolean (.int 0) = .int 0 by decide +kernel, show fits .boolean (.int 0) = true by decide +kernel⟩
      · exact ⟨show narrow .boolean (.int 1) = .int 1 by decide +kernel, show fits .boolean (.int 1) = true by decide +kernel⟩
    | _ => exact h2.elim
  · cases v <;> first | exact h2.elim | exact ⟨rfl, rfl⟩
  · cases v <;> first | exact h2.elim | exact ⟨rfl, rfl⟩
  · cases h1
theorem sd_putfield {i a ci fk ty : Nat} {fs : List Value} {v : Value} (fx : FX p s m args meth c g own nL n0 ini cc) (hd : decode cc pc = .ok (.putfield i, 3)) (hk : (own, i, ci, fk) ∈ lk_f) (hty : ok_ty ty (sv_cy ci fk) = true) (hfin : (!(sv_cT ci fk).2.2.2 || (ini && own == ci)) = true) (hw : w a = some (.inr (ci, fs))) (hl0 : fk < fs.length) (hv : am_fit ty v) (k : WX p l e R s m args below meth c Z g nL n0 (pc + 3) ls st n (va_up w a (am_ob ci (fs.set fk v))) k1 k2) : WX p l e R s m args below meth c Z g nL n0 pc ls (v :: .ref a :: st) n w k1 k2 := by
  intro H locs A hR hS hl hn
  obtain ⟨hx, hb, hml, hown, hts, hV, hsz, hini⟩ := fx
  obtain ⟨q1, q2, q3, q4⟩ := lk_f_ok _ hk
  dsimp only at q1 q2 q3 q4
  obtain ⟨f1, f2, f3, f4, f5, f6, f7, f8⟩ := f_cl_at q1
  obtain ⟨n1, n2⟩ := am_fit_of (g := g) hty hv
  have ha := hR.ob hw
  have nx : ∀ (H1 : Heap) (locs1 : List Loc), va_P (gD g) vwCl ((sv_w g n w).set a (sv_ad g a, .inr (ci, (fs.map (sv_v g)).set fk (sv_v g v)))) H1 → va_D (sv_A g) ((sv_w g n w).set a (sv_ad g a, .inr (ci, (fs.map (sv_v g)).set fk (sv_v g v)))) → va_S (sv_A g) s.heap H1 locs1 → W p l e R s m args below meth c H1 locs1 k1 k2 Z (F0 m (pc + 3) A (st.map (sv_v g))) := by
    intro H1 locs1 hP1 _ hS1
    refine k H1 locs1 A (hR.set (e1 := .inr (ci, fs.set fk v)) hw ha trivial ?_) hS1 hl hn
    show va_P (gD g) vwCl ((sv_w g n w).set a (sv_ad g a, .inr (ci, (fs.set fk v).map (sv_v g)))) H1
    rw [List.map_set]
    exact hP1
  cases hf : (sv_cT ci fk).2.2.2 with
  | false =>
    exact va_put (C := sv_cn ci) (T := sv_cT ci) (N := sv_cN ci) (Ts := u_ws (sv_cn ci) (sv_cT ci) (sv_cN ci)) (ci := ci) (own := sv_cn own) (ref := sv_cn ci) (v := sv_v g v) hx hb (fun w hw => hts w (f2 w hw).1 (f2 w hw).2) (fun _ h => h) (sv_cy ci) f3 f4 hown hV.1 hR.2.2.2 sv_w_D hS a (hR.at hw ha) f1 fk q2 (hts _ q4 rfl) (fun x h => by rw [q3] at h; exact h) hf (f3 fk q2) n1 n2 (by rw [List.length_map]; exact hl0) hd nx
  | true =>
    rw [hf] at hfin
    simp only [Bool.not_true, Bool.false_or, Bool.and_eq_true, beq_iff_eq] at hfin
    obtain ⟨hi, hoc⟩ := hfin
    exact va_putF (C := sv_cn ci) (T := sv_cT ci) (N := sv_cN ci) (Ts := u_ws (sv_cn ci) (sv_cT ci) (sv_cN ci)) (ci := ci) (own := sv_cn own) (ref := sv_cn ci) (v := sv_v g v) hx hb (fun w hw => hts w (f2 w hw).1 (f2 w hw).2) (fun _ h => h) (sv_cy ci) f3 f4 hown hV.1 hR.2.2.2 sv_w_D hS a (hR.at hw ha) f1 fk q2 (hts _ q4 rfl) (fun x h => by rw [q3] at h; exact h) hf (hini hi) (by rw [q3, hoc]) (f3 fk q2) n1 n2 (by rw [List.length_map]; exact hl0) hd nx
theorem sd_iaload {i : Int32} {a : Nat} (fx : FX p s m args meth c g own nL n0 ini cc) (hd : decode cc pc = .ok (.iaload, 1)) (k : am_ild (w a) i (fun x => WX p l e R s m args below meth c Z g nL n0 (pc + 1) ls (.int x :: st) n w k1 k2)) : WX p l e R s m args below meth c Z g nL n0 pc ls (.int i :: .ref a :: st) n w k1 k2 := by
  intro H locs A hR hS hl hn
  obtain ⟨hx, hb, hml, hown, hts, hV, hsz, hini⟩ := fx
  unfold am_ild at k
  split at k
  · rename_i n1 f hw
    exact va_iald hx hb hV.1 hR.2.2.2 a 0 (hR.at hw (hR.ar hw (show 0 < 4 by decide))) rfl k.1 hd (k.2 H locs A hR hS hl hn)
  · rename_i n1 f hw
    rcases hR.2.2.1 a _ hw with h1 | h1
    · exact absurd h1.2 (by simp [sv_ok])
    · obtain ⟨rfl, h2⟩ := h1
      simp only [Sum.inl.injEq, Prod.mk.injEq, true_and] at h2
      obtain ⟨rfl, rfl⟩ := h2
      have h10 := hV.2.2.2.2.2.2.2.2.2.1
      exact va_sld hx hb h10 (Nat.lt_of_lt_of_le hV.2.2.2.2.2.2.2.1 hV.2.2.2.2.2.2.2.2.1) (Nat.not_le.mpr hV.2.2.2.2.2.2.2.1) hS k.1 hd (k.2 H locs A hR hS hl hn)
  · exact k.elim
theorem sd_iastore {i x : Int32} {a : Nat} (fx : FX p s m args meth c g own nL n0 ini cc) (hd : decode cc pc = .ok (.iastore, 1)) (k : am_ist (w a) i x (fun o => WX p l e R s m args below meth c Z g nL n0 (pc + 1) ls st n (va_up w a o) k1 k2)) : WX p l e R s m args below meth c Z g nL n0 pc ls (.int x :: .int i :: .ref a :: st) n w k1 k2 := by
  intro H locs A hR hS hl hn
  obtain ⟨hx, hb, hml, hown, hts, hV, hsz, hini⟩ := fx
  unfold am_ist at k
  split at k
  · rename_i n1 f hw
    have ha := hR.ar hw (show 0 < 4 by decide)
    exact va_iast hx hb hV.1 hR.2.2.2 sv_w_D hS a 0 (hR.at hw ha) rfl k.1 hd (fun H1 locs1 hP1 _ hS1 => k.2 H1 locs1 A (hR.set (e1 := .inl (0, n1, .inl (upd f i.toNatClampNeg x))) hw ha (by simp [sv_ok]) hP1) hS1 hl hn)
  · exact k.elim
theorem sd_laload {i : Int32} {a : Nat} (fx : FX p s m args meth c g own nL n0 ini cc) (hd : decode cc pc = .ok (.laload, 1)) (k : am_lld (w a) i (fun x => WX p l e R s m args below meth c Z g nL n0 (pc + 1) ls (.long x :: st) n w k1 k2)) : WX p l e R s m args below meth c Z g nL n0 pc ls (.int i :: .ref a :: st) n w k1 k2 := by
  intro H locs A hR hS hl hn
  obtain ⟨hx, hb, hml, hown, hts, hV, hsz, hini⟩ := fx
  unfold am_lld at k
  split at k
  · rename_i n1 f hw
    exact va_lald hx hb hV.1 hR.2.2.2 a 1 (hR.at hw (hR.ar hw (show 1 < 4 by decide))) rfl k.1 hd (k.2 H locs A hR hS hl hn)
  · exact k.elim
theorem sd_lastore {i : Int32} {x : Int64} {a : Nat} (fx : FX p s m args meth c g own nL n0 ini cc) (hd : decode cc pc = .ok (.lastore, 1)) (k : am_lst (w a) i x (fun o => WX p l e R s m args below meth c Z g nL n0 (pc + 1) ls st n (va_up w a o) k1 k2)) : WX p l e R s m args below meth c Z g nL n0 pc ls (.long x :: .int i :: .ref a :: st) n w k1 k2 := by
  intro H locs A hR hS hl hn
  obtain ⟨hx, hb, hml, hown, hts, hV, hsz, hini⟩ := fx
  unfold am_lst at k
  split at k
  · rename_i n1 f hw
    have ha := hR.ar hw (show 1 < 4 by decide)
    exact va_last hx hb hV.1 hR.2.2.2 sv_w_D hS a 1 (hR.at hw ha) rfl k.1 hd (fun H1 locs1 hP1 _ hS1 => k.2 H1 locs1 A (hR.set (e1 := .inl (1, n1, .inr (.inl (vp_updL f i.toNatClampNeg x)))) hw ha (by simp [sv_ok]) hP1) hS1 hl hn)
  · exact k.elim
theorem sd_aaload {i : Int32} {a : Nat} (fx : FX p s m args meth c g own nL n0 ini cc) (hd : decode cc pc = .ok (.aaload, 1)) (k : am_ald (w a) i (fun j => WX p l e R s m args below meth c Z g nL n0 (pc + 1) ls (.ref j :: st) n w k1 k2)) : WX p l e R s m args below meth c Z g nL n0 pc ls (.int i :: .ref a :: st) n w k1 k2 := by
  intro H locs A hR hS hl hn
  obtain ⟨hx, hb, hml, hown, hts, hV, hsz, hini⟩ := fx
  unfold am_ald at k
  split at k
  · rename_i n1 f hw
    obtain ⟨k0, k⟩ := k
    unfold am_on at k
    split at k
    · rename_i v hv
      refine va_aldq (C := RX5) hx hb hV.1 hR.2.2.2 a 2 (hR.at hw (hR.ar hw (show 2 < 4 by decide))) rfl k0 hd ?_
      rw [hv]
      exact k H locs A hR hS hl hn
    · exact k.elim
  · rename_i n1 f hw
    obtain ⟨k0, k⟩ := k
    unfold am_on at k
    split at k
    · rename_i v hv
      refine va_aldq (C := RX7) hx hb hV.1 hR.2.2.2 a 3 (hR.at hw (hR.ar hw (show 3 < 4 by decide))) rfl k0 hd ?_
      rw [hv]
      exact k H locs A hR hS hl hn
    · exact k.elim
  · exact k.elim
theorem sd_may {t ci q0 a : Nat} {fs : List Value} {H : Heap} {ws : va_W} (hV : VF g s) (h : am_may t ci) (hP : va_P (gD g) vwCl ws H) (he : ws[q0]? = some (a, .inr (ci, fs))) : (t = 2 ∧ va_Any RX5 s H a) ∨ (t = 3 ∧ va_Any RX7 s H a) := by
  have cast : ∀ x y : Nat, (x, y) ∈ sv_ca → ∀ comp c0 : ClassId, s.vm.findClass (sv_cn y) = some comp → s.vm.findClass (sv_cn x) = some c0 → s.vm.assignable c0 comp = true := by
    intro x y hq comp c0 h1 h2
    have h5 := hV.2.2.2.2.1 _ hq
    obtain ⟨c1, t1, f1, f2, f3⟩ := Cond.castable_spec (va_Nw.use (A := #[]) rfl h5)
    cases h2.symm.trans f1
    cases h1.symm.trans f2
    exact f3
  have self : ∀ x : Nat, x < 12 → ∀ comp c0 : ClassId, s.vm.findClass (sv_cn x) = some comp → s.vm.findClass (sv_cn x) = some c0 → s.vm.assignable c0 comp = true := by
    intro x hx comp c0 h1 h2
    cases h1.symm.trans h2
    have h3 := (hV.1.1 x _ (f_cl_at hx).1).2
    cases h3.1.symm.trans h2
    exact va_assign h3
  rcases h with ⟨rfl, h⟩ | ⟨rfl, rfl⟩
  · refine Or.inl ⟨rfl, ?_⟩
    rcases h with rfl | rfl | rfl | rfl | rfl | rfl
    · exact va_rAny hV.1 hP he rfl (cast 0 5 (List.mem_of_getElem? (i := 3) rfl))
    · exact va_rAny hV.1 hP he rfl (cast 1 5 (List.mem_of_getElem? (i := 2) rfl))
    · exact va_rAny hV.1 hP he rfl (cast 3 5 (List.mem_of_getElem? (i := 6) rfl))
    · exact va_rAny hV.1 hP he rfl (cast 4 5 (List.mem_of_getElem? (i := 5) rfl))
    · exact va_rAny hV.1 hP he rfl (self 5 (by decide))
    · exact va_rAny hV.1 hP he rfl (cast 6 5 (List.mem_of_getElem? (i := 4) rfl))
  · exact Or.inr ⟨rfl, va_rAny hV.1 hP he rfl (self 7 (by decide))⟩
theorem sd_upq {f : Nat → Option Nat} {i j : Nat} : (fun q => (va_up f i (some j) q).map (sv_ad g)) = va_up (fun q => (f q).map (sv_ad g)) i (some (sv_ad g j)) := by
  funext q
  by_cases h : q = i <;> simp [va_up, h]
theorem sd_aastore {i : Int32} {a j : Nat} (fx : FX p s m args meth c g own nL n0 ini cc) (hd : decode cc pc = .ok (.aastore, 1)) (k : am_ast (w a) (w j) i j (fun o => WX p l e R s m args below meth c Z g nL n0 (pc + 1) ls st n (va_up w a o) k1 k2)) : WX p l e R s m args below meth c Z g nL n0 pc ls (.ref j :: .int i :: .ref a :: st) n w k1 k2 := by
  intro H locs A hR hS hl hn
  obtain ⟨hx, hb, hml, hown, hts, hV, hsz, hini⟩ := fx
  unfold am_ast at k
  split at k
  · rename_i t n1 f hw
    split at k
    · rename_i ci fs hj
      obtain ⟨k0, k3, k⟩ := k
      have ht : t < 4 := by
        rcases k0 with ⟨rfl, _⟩ | ⟨rfl, _⟩ <;> decide
      have ha := hR.ar hw ht
      have hb1 := hR.at hj (hR.ob hj)
      rcases sd_may hV k0 hR.2.2.2 hb1 with ⟨rfl, h9⟩ | ⟨rfl, h9⟩
      · refine va_astqM (E := RX5) hx hb hV.1 hR.2.2.2 sv_w_D hS a 2 (hR.at hw ha) rfl h9 k3 hd (fun H1 locs1 hP1 _ hS1 => k H1 locs1 A (hR.set (e1 := .inl (2, n1, .inr (.inr (.inr (.inr (va_up f i.toNatClampNeg (some j))))))) hw ha (by simp [sv_ok]) ?_) hS1 hl hn)
        show va_P (gD g) vwCl ((sv_w g n w).set a (sv_ad g a, .inl (gC g 2, n1, .inr (.inr (.inr (.inr (fun q => (va_up f i.toNatClampNeg (some j) q).map (sv_ad g)))))))) H1
        rw [sd_upq]
        exact hP1
      · refine va_astqM (E := RX7) hx hb hV.1 hR.2.2.2 sv_w_D hS a 3 (hR.at hw ha) rfl h9 k3 hd (fun H1 locs1 hP1 _ hS1 => k H1 locs1 A (hR.set (e1 := .inl (3, n1, .inr (.inr (.inr (.inr (va_up f i.toNatClampNeg (some j))))))) hw ha (by simp [sv_ok]) ?_) hS1 hl hn)
        show va_P (gD g) vwCl ((sv_w g n w).set a (sv_ad g a, .inl (gC g 3, n1, .inr (.inr (.inr (.inr (fun q => (va_up f i.toNatClampNeg (some j) q).map (sv_ad g)))))))) H1
        rw [sd_upq]
        exact hP1
    · exact k.elim
  · exact k.elim
theorem sd_alen {a : Nat} (fx : FX p s m args meth c g own nL n0 ini cc) (hd : decode cc pc = .ok (.arraylength, 1)) (k : am_len (w a) (fun x => WX p l e R s m args below meth c Z g nL n0 (pc + 1) ls (.int x :: st) n w k1 k2)) : WX p l e R s m args below meth c Z g nL n0 pc ls (.ref a :: st) n w k1 k2 := by
  intro H locs A hR hS hl hn
  obtain ⟨hx, hb, hml, hown, hts, hV, hsz, hini⟩ := fx
  unfold am_len at k
  split at k
  · rename_i t n1 x hw
    rcases hR.2.2.1 a _ hw with h1 | h1
    · have ht : t < 4 := h1.2
      have ha := hR.at hw (hR.ar hw ht)
      have e1 : ∀ t1, t = t1 → (sv_w g n w)[a]? = some (sv_ad g a, .inl (gC g t1, sv_a g (n1, x))) := fun t1 ht1 => by rw [← ht1]; exact ha
      rcases (by omega : t = 0 ∨ t = 1 ∨ t = 2 ∨ t = 3) with h | h | h | h
      · exact va_alen hx hb hV.1 hR.2.2.2 a 0 (e1 0 h) rfl rfl hd (k H locs A hR hS hl hn)
      · exact va_alen hx hb hV.1 hR.2.2.2 a 1 (e1 1 h) rfl rfl hd (k H locs A hR hS hl hn)
      · exact va_alen hx hb hV.1 hR.2.2.2 a 2 (e1 2 h) rfl rfl hd (k H locs A hR hS hl hn)
      · exact va_alen hx hb hV.1 hR.2.2.2 a 3 (e1 3 h) rfl rfl hd (k H locs A hR hS hl hn)
    · obtain ⟨rfl, h2⟩ := h1
      simp only [Sum.inl.injEq, Prod.mk.injEq] at h2
      obtain ⟨rfl, rfl, rfl⟩ := h2
      have h10 := hV.2.2.2.2.2.2.2.2.2.1
      exact va_slen hx hb h10 (Nat.lt_of_lt_of_le hV.2.2.2.2.2.2.2.1 hV.2.2.2.2.2.2.2.2.1) (Nat.not_le.mpr hV.2.2.2.2.2.2.2.1) hS hd (k H locs A hR hS hl hn)
  · exact k.elim
/-- the heap's size -/
theorem sd_sz (fx : FX p s m args meth c g own nL n0 ini cc) {H : Heap} {locs : List Loc} {fr : JFrame} (hR : AR g n w H) (hS : va_S (sv_A g) s.heap H locs) (hn : n = n0 + k1) (k : H.size = gz g + n → W p l e R s m args below meth c H locs k1 k2 Z fr) : W p l e R s m args below meth c H locs k1 k2 Z fr := by
  intro T hT X
  refine k ?_ T hT X
  have h1 := X.heapSize
  rw [hT, fx.2.2.2.2.2.2.1] at h1
  have h2 : gz g + n ≤ H.size := by
    rcases Nat.eq_zero_or_pos n with h | h
    · have h3 := hS.1
      rw [fx.2.2.2.2.2.2.1] at h3
      omega
    · obtain ⟨e0, he⟩ := hR.2.1 (n - 1) (by omega)
      have h4 := (hR.2.2.2 _ _ (sv_w_get (g := g) (by omega : n - 1 < n) he)).lt
      dsimp only at h4
      omega
  omega
theorem sd_new {i ci N : Nat} (fx : FX p s m args meth c g own nL n0 ini cc) (hd : decode cc pc = .ok (.new i, 3)) (hk : (own, i, ci) ∈ lk_c) (hN : N = sv_cN ci) (hn9 : n < 900) (hc1 : k1 + 1 ≤ R.cells) (hc2 : k2 + N ≤ R.slots) (k : WX p l e R s m args below meth c Z g nL n0 (pc + 3) ls (.ref n :: st) (n + 1) (va_up w n (am_ob ci (am_def ci))) (k1 + 1) (k2 + N)) : WX p l e R s m args below meth c Z g nL n0 pc ls st n w k1 k2 := by
  intro H locs A hR hS hl hn
  refine sd_sz fx hR hS hn.1 (fun hsz => ?_)
  obtain ⟨hx, hb, hml, hown, hts, hV, hsz0, hini⟩ := fx
  obtain ⟨q1, q2⟩ := lk_c_ok _ hk
  dsimp only at q1 q2
  obtain ⟨f1, f2, f3, f4, f5, f6, f7, f8⟩ := f_cl_at q1
  subst hN
  have hKn := hV.1.1 ci _ f1
  refine W.newcK hx hb hown (hts _ q2 rfl) (hts _ f5 rfl) (hts _ f6 rfl) rfl hd hc1 hc2 hKn.2.1 hsz fun H1 kC hkC e1 z1 o1 => ?_
  have hk : ∀ (j : Nat) (x : Nat × va_E), (sv_w g n w)[j]? = some x → H1[x.1]? = H[x.1]? := fun j x hx => o1 x.1 (by rw [← hsz]; exact (hR.2.2.2 j x hx).lt)
  have ead : sv_ad g n = gz g + n := by unfold sv_ad; rw [if_pos (by omega)]
  have hP1 : va_P (gD g) vwCl (sv_w g n w ++ [(gz g + n, sv_e g (.inr (ci, am_def ci)))]) H1 := by
    refine (hR.2.2.2.kept hk).app (fun j x hx => ?_)
    have hz : j < 1 := (List.getElem?_eq_some_iff.mp hx).1
    rw [show j = 0 by omega] at hx
    cases hx
    refine ⟨_, f1, (u_born (sv_cy ci) (ws := u_ws (sv_cn ci) (sv_cT ci) (sv_cN ci)) (args := args) (fun w hw => hts w (f2 w hw).1 (f2 w hw).2) (fun _ h => h) hKn hkC e1 f3).to (fun j hj => ?_)⟩
    rw [f7 j hj]
    have : ∀ x ∈ am_def ci, sv_v g x = x := by
      intro x hx
      unfold am_def at hx
      split at hx <;> simp only [List.mem_cons, List.not_mem_nil, or_false] at hx <;> (try (rcases hx with rfl | hx; rfl)) <;> (try (rcases hx with rfl | hx; rfl)) <;> (try (rcases hx with rfl | hx; rfl)) <;> (try (rcases hx with rfl | hx; rfl)) <;> (try (rcases hx with rfl | hx; rfl)) <;> (try (rcases hx with rfl | hx; rfl)) <;> (try (rcases hx with rfl | hx; rfl)) <;> (try (rcases hx with rfl | hx; rfl)) <;> (try (rcases hx with rfl | hx; rfl)) <;> (try (rcases hx with rfl | hx; rfl)) <;> (try (rcases hx with rfl | hx; rfl)) <;> (try (rcases hx with rfl | hx; rfl)) <;> (try (rcases hx with rfl | hx; rfl)) <;> (try (rcases hx with rfl | hx; rfl)) <;> (try (rcases hx with rfl | hx; rfl)) <;> (try (rcases hx with rfl | hx; rfl)) <;> (first | (subst hx; rfl) | exact hx.elim)
    show vp_V (am_def ci) j = vp_V ((am_def ci).map (sv_v g)) j
    rw [List.map_congr_left this, List.map_id']
  refine W.eq (g2 := F0 m (pc + 3) A ((Value.ref n :: st).map (sv_v g))) ?_ ?_
  · show F0 m (pc + 3) A (Value.ref (gz g + n) :: st.map (sv_v g)) = F0 m (pc + 3) A (Value.ref (sv_ad g n) :: st.map (sv_v g))
    rw [ead]
  · exact k H1 locs A (hR.push hn9 trivial hP1) ⟨Nat.le_trans hS.1 (by omega), fun x h1 h2 => (o1 x (by rw [← hsz]; exact Nat.lt_of_lt_of_le h1 hS.1)).trans (hS.2.1 x h1 h2), hS.2.2⟩ hl ⟨by omega, hc1, hc2⟩
end SH
