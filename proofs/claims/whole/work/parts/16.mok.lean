theorem sv_plain (y : Nat) (h : y < 234) : plainName (sv_cn (sv_o y)) = true := by
  have h1 : ∀ o ∈ List.range 15, plainName (sv_cn o) = true := by decide +kernel
  have h2 : ∀ y ∈ List.range 234, sv_o y < 15 := by decide +kernel
  exact h1 _ (List.mem_range.mpr (h2 y (List.mem_range.mpr h)))
theorem sv_accp (y : Nat) (h : y < 234) : (am_pr y).2.2.1 = (am_acc y).1 ∧ (am_pr y).2.2.2 = (am_acc y).2 := by
  have h1 : ∀ y ∈ List.range 234, (am_pr y).2.2.1 = (am_acc y).1 ∧ (am_pr y).2.2.2 = (am_acc y).2 := by decide +kernel
  exact h1 y (List.mem_range.mpr h)
theorem sv_lp (y : Nat) (h : y < 234) : sv_l y = (am_pr y).2.1 := by
  have h1 : ∀ y ∈ List.range 234, sv_l y = (am_pr y).2.1 := by decide +kernel
  exact h1 y (List.mem_range.mpr h)
def sv_kk (k : Nat) (r : Option FieldType) : Bool := match k, r with
  | 0, some .int => true
  | 1, some .boolean => true
  | 2, some .long => true
  | 3, some (.object _) => true
  | 4, none => true
  | _, _ => false
theorem kk_0 {r : Option FieldType} (h : sv_kk 0 r = true) : r = some .int := by
  cases r with
  | none => cases h
  | some t => cases t <;> first | rfl | cases h
theorem kk_1 {r : Option FieldType} (h : sv_kk 1 r = true) : r = some .boolean := by
  cases r with
  | none => cases h
  | some t => cases t <;> first | rfl | cases h
theorem kk_2 {r : Option FieldType} (h : sv_kk 2 r = true) : r = some .long := by
  cases r with
  | none => cases h
  | some t => cases t <;> first | rfl | cases h
theorem kk_3 {r : Option FieldType} (h : sv_kk 3 r = true) : ∃ C, r = some (.object C) := by
  cases r with
  | none => cases h
  | some t => cases t <;> first | exact ⟨_, rfl⟩ | cases h
theorem kk_4 {r : Option FieldType} (h : sv_kk 4 r = true) : r = none := by
  cases r with
  | none => rfl
  | some t => cases t <;> cases h
theorem sv_kr (y : Nat) (h : y < 234) : sv_kk (sv_k y) (sv_r y) = true := by
  have h1 : ∀ y ∈ List.range 234, sv_kk (sv_k y) (sv_r y) = true := by decide +kernel
  exact h1 y (List.mem_range.mpr h)
theorem sv_in (y : Nat) (h : sv_i y = true) : (sv_y y).name = "<init>" := by
  have h1 := of_decide_eq_true h
  simp only [List.mem_cons, List.not_mem_nil, or_false] at h1
  rcases h1 with rfl | rfl | rfl | rfl | rfl | rfl | rfl | rfl | rfl | rfl | rfl | rfl <;> rfl
theorem am_sl_len (g : sG) : ∀ as : List Value, (lg_sl (as.map (sv_v g))).length = (am_sl as).length
  | [] => rfl
  | v :: as => by
    have ih := am_sl_len g as
    have e : ∀ x : Value, ∀ r : List Value, lg_sl (x :: r) = (if x.category = 2 then [.val x, .second] else [.val x]) ++ lg_sl r := fun x r => rfl
    rw [List.map_cons, e, List.length_append, ih, sv_cat]
    cases v <;> simp [am_sl, Value.category, Nat.add_comm] <;> omega
theorem am_sl_at (g : sG) : ∀ (as : List Value) (k i : Nat) (v : Value), (am_sl as)[i]? = some (some v) → (k + i, sv_v g v) ∈ lv_args k (as.map (sv_v g))
  | [], k, i, v, h => by simp [am_sl] at h
  | x :: as, k, i, v, h => by
    have ih := am_sl_at g as
    have e : lv_args k ((x :: as).map (sv_v g)) = (k, sv_v g x) :: lv_args (if x.category = 2 then k + 2 else k + 1) (as.map (sv_v g)) := by
      rw [List.map_cons]
      show (k, sv_v g x) :: lv_args (if (sv_v g x).category = 2 then k + 2 else k + 1) (as.map (sv_v g)) = _
      rw [sv_cat]
    rw [e]
    have one : x.category = 1 → am_sl (x :: as) = some x :: am_sl as → (k + i, sv_v g v) ∈ (k, sv_v g x) :: lv_args (if x.category = 2 then k + 2 else k + 1) (as.map (sv_v g)) := by
      intro hc hs
      rw [hs] at h
      cases i with
      | zero => simp at h; subst h; exact List.mem_cons_self
      | succ i =>
        rw [List.getElem?_cons_succ] at h
        have h1 := ih (k + 1) i v h
        rw [if_neg (by rw [hc]; decide)]
        rw [show k + 1 + i = k + (i + 1) by omega] at h1
        exact List.mem_cons_of_mem _ h1
    have two : x.category = 2 → am_sl (x :: as) = some x :: none :: am_sl as → (k + i, sv_v g v) ∈ (k, sv_v g x) :: lv_args (if x.category = 2 then k + 2 else k + 1) (as.map (sv_v g)) := by
      intro hc hs
      rw [hs] at h
      rw [if_pos hc]
      rcases i with _ | _ | i
      · simp at h; subst h; exact List.mem_cons_self
      · simp at h
      · simp only [List.getElem?_cons_succ] at h
        have h1 := ih (k + 2) i v h
        rw [show k + 2 + i = k + (i + 1 + 1) by omega] at h1
        exact List.mem_cons_of_mem _ h1
    cases x with
    | long q => exact two rfl rfl
    | double q => exact two rfl rfl
    | _ => exact one rfl rfl
theorem am_pad_len : ∀ (n : Nat) (l : AL), l.length ≤ n → (am_pad n l).length = n
  | 0, [], _ => rfl
  | 0, _ :: _, h => by simp at h
  | n + 1, [], _ => by
    have := am_pad_len n [] (Nat.zero_le _)
    simp [am_pad, this]
  | n + 1, x :: l, h => by
    have := am_pad_len n l (by simpa using h)
    simp [am_pad, this]
theorem am_pad_at : ∀ (n : Nat) (l : AL) (i : Nat) (v : Value), (am_pad n l)[i]? = some (some v) → l[i]? = some (some v)
  | 0, l, i, v, h => h
  | n + 1, [], i, v, h => by
    cases i with
    | zero => simp [am_pad] at h
    | succ i =>
      have h1 := am_pad_at n [] i v (by simpa [am_pad] using h)
      simp at h1
  | n + 1, x :: l, i, v, h => by
    cases i with
    | zero => simpa [am_pad] using h
    | succ i =>
      have h1 := am_pad_at n l i v (by simpa [am_pad] using h)
      simpa using h1
set_option maxHeartbeats 4000000 in
/-- EVERY RUN OF THE ABSTRACT MACHINE IS THE MACHINE'S: a method's contract -/
theorem mok_sound (l : Launch) (g : sG) : ∀ (d y : Nat) (as : List Value) (n : Nat) (w : AH) (Q : AQ), am_mok (d + 1) y as n w Q → (y ≠ 502 → MT l g d y as n w Q) ∧ (y = 500 ∨ y = 501 → ∃ i as', i < 8 ∧ as = .ref (1000 + i) :: as') := by
  intro d
  induction d using Nat.strongRecOn with
  | _ d ih =>
  intro y as n w Q h
  unfold am_mok at h
  by_cases h0 : y = 500
  · rw [if_pos h0] at h
    obtain ⟨h1, i, h2, rfl, h3⟩ := h
    subst h0
    exact ⟨fun _ => c_len l g d n i w Q h1 h2 h3, fun _ => ⟨i, [], h2, rfl⟩⟩
  rw [if_neg h0] at h
  by_cases h1 : y = 501
  · rw [if_pos h1] at h
    obtain ⟨h1', i, j, h2, h3, rfl, h4⟩ := h
    subst h1
    exact ⟨fun _ => c_char l g d n i j w Q h1' h2 h3 h4, fun _ => ⟨i, [.int (nI j)], h2, rfl⟩⟩
  rw [if_neg h1] at h
  refine ⟨fun h2 => ?_, fun h2 => by omega⟩
  rw [if_neg h2] at h
  obtain ⟨hy, hsl, h⟩ := h
  have hme := f_me y hy
  obtain ⟨ea1, ea2⟩ := sv_accp y hy
  have el := sv_lp y hy
  have hkr := sv_kr y hy
  rw [ea1, ea2, ← el] at h
  rw [← el] at hsl
  unfold MT
  refine Met.ofW (cc := sv_c y) (maxL := sv_l y) (ret := sv_r y) (by rw [hme.2.1]; exact sv_plain y hy) rfl ?_
  intro p e s m args below meth c s₁ B hml hv
  obtain ⟨rfl, hsz, hR, hV⟩ := hv
  have hts0 := atoms_spec (ws := sv_ws y) B.pre
  have hts : ∀ w ∈ lw_tbl, goodWord w = true → w.before (as.map (sv_v g)).toArray s = true := fun w h1 h2 => hts0 w (List.mem_cons_of_mem _ (List.mem_filter.mpr ⟨h1, h2⟩))
  have hown : s.vm.findClass (sv_cn (sv_o y)) = some m.cls := by rw [← hme.2.1]; exact findClass_of_methodNamed B.named
  have hlocks : meth.locks = false := B.notSynchronized
  have hx := B.exec
  have hb := B.bytes
  have hr := B.returns
  have fx : FX p s m (as.map (sv_v g)).toArray meth c g (sv_o y) (sv_l y) n (sv_i y) (sv_c y) := ⟨B.exec, B.bytes, hml, hown, hts, hV, hsz, fun hi => by rw [(name_of_methodNamed B.named B.method).1]; exact sv_in y hi⟩
  have post : ∀ (r : Option Value) (n' : Nat) (w' : AH) (H : Heap) (locs : List Loc), Q r n' w' → AR g n' w' H → va_S (sv_A g) s.heap H locs → n' = n + (am_acc y).1 → ∀ t : State, t.heap = H → s.WarmedH t.vm → sv_Q g n (am_acc y).1 Q (as.map (sv_v g)).toArray s (.returned (r.map (sv_v g))) t := by
    intro r n' w' H locs hq hR' hS' hn' t ht hW
    exact ⟨⟨r, n', w', rfl, hq, hn', by rw [ht]; exact hR'⟩, hS'.F ht⟩
  have hRT : RT p l e (sv_rm d (am_acc y).1 (am_acc y).2) s m (as.map (sv_v g)).toArray below meth c (MQ below (sv_Q g n (am_acc y).1 Q) (as.map (sv_v g)).toArray s (am_acc y).1 (am_acc y).2 (sv_A g)) g (sv_k y) n (sv_c y) (am_acc y).1 (am_acc y).2 Q := by
    refine ⟨fun x n' w' H locs A pc hk hd hq hR' hS' hn' => ?_, fun x n' w' H locs A pc hk hd hq hR' hS' hn' => ?_, fun x n' w' H locs A pc hk hd hq hR' hS' hn' => ?_, fun n' w' H locs A pc hk hd hq hR' hS' hn' => ?_⟩
    · rcases hk with hk | ⟨hk, hx01⟩
      · rw [hk] at hkr
        have hri : sv_r y = some .int := kk_0 hkr
        exact W.iret hx hb (hr.trans hri) (post _ n' w' H locs hq hR' hS' hn') hS'.2.2 hd
      · rw [hk] at hkr
        have hri : sv_r y = some .boolean := kk_1 hkr
        refine W.zret (ty := .boolean) hx hb (hr.trans hri) ?_ (post _ n' w' H locs hq hR' hS' hn') hS'.2.2 hd
        rcases hx01 with rfl | rfl
        · rfl
        · rfl
    · rw [hk] at hkr
      have hri : sv_r y = some .long := kk_2 hkr
      exact W.lret hx hb (hr.trans hri) (post _ n' w' H locs hq hR' hS' hn') hS'.2.2 hd
    · rw [hk] at hkr
      have hri : ∃ C, sv_r y = some (.object C) := kk_3 hkr
      obtain ⟨C, hri⟩ := hri
      exact W.aret hx hb (hr.trans hri) (Or.inl ⟨C, rfl⟩) (Or.inr ⟨_, rfl⟩) (post _ n' w' H locs hq hR' hS' hn') hS'.2.2 hd
    · rw [hk] at hkr
      have hri : sv_r y = none := kk_4 hkr
      exact W.vret hx hb (hr.trans hri) (post _ n' w' H locs hq hR' hS' hn') hS'.2.2 hd
  have hE : EN l (sv_rm d (am_acc y).1 (am_acc y).2) g (am_mok d) := by
    intro y' as' n' w' Q' h'
    cases d with
    | zero => exact h'.elim
    | succ d =>
      obtain ⟨i1, i2⟩ := ih d (Nat.lt_succ_self d) y' as' n' w' Q' h'
      exact ⟨d, Nat.le_refl _, Nat.le_refl _, i1, i2⟩
  have hM := okc y hy
  rw [← el] at hM
  have key := (st_sound fx hRT hE hM rfl rfl h).br hM
  have hl0 : (lg_sl (as.map (sv_v g))).length ≤ sv_l y := by rw [am_sl_len]; exact hsl
  have hl := lv_entry (as.map (sv_v g)) (n := sv_l y) hl0
  rw [lg_entry_eq]
  refine key s.heap [] _ hR va_S.rf ⟨am_pad_len _ _ hsl, _, hl, fun i v hi => ?_⟩ ⟨rfl, Nat.zero_le _, Nat.zero_le _⟩
  have h9 := am_sl_at g as 0 i v (am_pad_at _ _ i v hi)
  rw [Nat.zero_add] at h9
  exact h9
