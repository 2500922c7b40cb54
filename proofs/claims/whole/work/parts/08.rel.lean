/-- what a method comes to, calls at most so deep -/
def am_mok : Nat → AN
  | 0 => fun _ _ _ _ _ => False
  | d + 1 => fun y as n w Q => if y = 500 then (1 ≤ d ∧ ∃ i, i < 8 ∧ as = [.ref (1000 + i)] ∧ Q (some (.int (nI (am_str.getD i []).length))) n w)
    else if y = 501 then (3 ≤ d ∧ ∃ i j, i < 8 ∧ j < (am_str.getD i []).length ∧ as = [.ref (1000 + i), .int (nI j)] ∧ Q (some (.int ((am_str.getD i []).getD j 0))) n w)
    else if y = 502 then Q none n w
    else y < 234 ∧ (am_sl as).length ≤ (am_pr y).2.1 ∧ am_go (am_mok d) am_acc (am_pr y).1 (am_pr y).2.2.1 (am_pr y).2.2.2 Q ((am_pr y).1 0) (am_pad (am_pr y).2.1 (am_sl as)) [] n w 0 0
theorem mok_go {d y : Nat} {as : List Value} {n : Nat} {w : AH} {Q : AQ} {B : Nat → List En} {nL mc ms : Nat} {ls : AL} (hp : am_pr y = (B, nL, mc, ms)) (h0 : y ≠ 500) (h1 : y ≠ 501) (h2 : y ≠ 502) (h3 : y < 234) (hs : (am_sl as).length ≤ nL) (hl : am_pad nL (am_sl as) = ls) (h : am_go (am_mok d) am_acc B mc ms Q (B 0) ls [] n w 0 0) : am_mok (d + 1) y as n w Q := by
  unfold am_mok
  rw [if_neg h0, if_neg h1, if_neg h2, hp]
  exact ⟨h3, hs, by rw [hl]; exact h⟩
theorem z_tok {d n : Nat} {w : AH} : am_mok (d + 1) 502 [] n w (fun _ _ _ => True) = True := by simp [am_mok]
/-! the abstract heap against the machine's: cell i lies at gz + i, the script at gb, the texts at gK -/
abbrev sG : Type := va_G × (Nat → ClassId) × Nat × Nat × Nat × (Nat → Int32) × (Nat → Nat) × (Nat → Nat)
def gD (g : sG) : va_G := g.1
def gC (g : sG) : Nat → ClassId := g.2.1
def gz (g : sG) : Nat := g.2.2.1
def gb (g : sG) : Nat := g.2.2.2.1
def gL (g : sG) : Nat := g.2.2.2.2.1
def gx (g : sG) : Nat → Int32 := g.2.2.2.2.2.1
def gK (g : sG) : Nat → Nat := g.2.2.2.2.2.2.1
def gV (g : sG) : Nat → Nat := g.2.2.2.2.2.2.2
def sv_ad (g : sG) (i : Nat) : Nat := if i < 999 then gz g + i else if i = 999 then gb g else gK g (i - 1000)
def sv_v (g : sG) (v : Value) : Value := match v with
  | .ref i => .ref (sv_ad g i)
  | v => v
def sv_a (g : sG) (a : vp_A) : vp_A := (a.1, match a.2 with
  | .inr (.inr (.inr (.inr f))) => .inr (.inr (.inr (.inr (fun j => (f j).map (sv_ad g)))))
  | x => x)
def sv_e (g : sG) (e : AC) : va_E := match e with
  | .inl q => .inl (gC g q.1, sv_a g q.2)
  | .inr q => .inr (q.1, q.2.map (sv_v g))
def sv_w (g : sG) (n : Nat) (w : AH) : va_W := (List.range n).map (fun i => (gz g + i, sv_e g ((w i).getD (.inr (0, [])))))
def sv_T (g : sG) : List (ClassId × FieldType) := [(gC g 0, .int), (gC g 1, .long), (gC g 2, .object RX5), (gC g 3, .object RX7)]
def sv_A (g : sG) : Nat → Prop := fun q => gz g ≤ q
/-- an array of the kinds 0 to 3, or an object -/
def sv_ok (e : AC) : Prop := match e with
  | .inl q => q.1 < 4
  | .inr _ => True
def AR (g : sG) (n : Nat) (w : AH) (H : Heap) : Prop := n ≤ 900 ∧ (∀ i, i < n → ∃ e, w i = some e) ∧ (∀ i e, w i = some e → (i < n ∧ sv_ok e) ∨ (i = 999 ∧ e = .inl (9, gL g, .inl (gx g)))) ∧ va_P (gD g) vwCl (sv_w g n w) H
def sv_ca : List (Nat × Nat) := [(4, 1), (3, 0), (1, 5), (0, 5), (6, 5), (4, 5), (3, 5)]
def sv_nc : List (Nat × Nat) := [(5, 1), (0, 1), (6, 1), (3, 1), (5, 0), (1, 0), (6, 0), (4, 0), (5, 6), (1, 6), (0, 6), (4, 6), (3, 6), (5, 4), (1, 4), (0, 4), (6, 4), (3, 4), (5, 3), (1, 3), (0, 3), (6, 3), (4, 3)]
def sv_ss : List (Nat × Nat × Nat × String) := [(5, 7, 1000, "mole"), (1, 7, 1001, "digger"), (0, 7, 1002, "carrier"), (6, 7, 1003, "retired"), (4, 7, 1004, "master"), (3, 7, 1005, "hurrier"), (9, 35, 1006, "dug"), (9, 44, 1007, "secret")]
def sv_sl : List Nat := [4, 6, 7, 7, 6, 7, 3, 6]
def sv_str (g : sG) (U : State) : Prop := vk_S 8 sv_sl am_str (gK g) (gV g) (sv_A g) U U.heap ∧ va_Z "java/lang/String" "COMPACT_STRINGS" "Z" (.int 1) (sv_A g) U U.heap ∧ va_Zq "jdk/internal/util/Preconditions" "SIOOBE_FORMATTER" "Ljava/util/function/BiFunction;" (sv_A g) U U.heap
theorem sv_Zq.moved {C n d : String} {A : Nat → Prop} {u U : State} {H : Heap} (hvm : u.vm.Alike U.vm) (h : va_Zq C n d A u H) : va_Zq C n d A U H := by
  rcases h with h | ⟨t, h⟩
  · exact Or.inl (h.moved hvm)
  · exact Or.inr ⟨t, h.moved hvm⟩
theorem sv_Zq.kept {C n d : String} {A : Nat → Prop} {U : State} {H H1 : Heap} (h : va_Zq C n d A U H) (hq : ∀ a : Nat, a < H.size → ¬ A a → H1[a]? = H[a]?) : va_Zq C n d A U H1 := by
  rcases h with h | ⟨t, h⟩
  · exact Or.inl (h.kept hq)
  · exact Or.inr ⟨t, h.kept hq⟩
def VF (g : sG) (U : State) : Prop :=
  va_K (gD g) vwCl (sv_T g) U ∧ va_AO RX5 U ∧ va_AO RX7 U ∧ (∀ q ∈ lk_n, va_Nw (.methodLinkNest (sv_cn q.1) q.2.1 (sv_y q.2.2) "MoleSecrets") U) ∧
  (∀ q ∈ sv_ca, va_Nw (.castable (sv_cn q.1) (sv_cn q.2)) U) ∧ (∀ q ∈ sv_nc, va_Nc (sv_cn q.1) (sv_cn q.2) U) ∧
  (∀ q ∈ sv_ss, vk_R (sv_cn q.1) q.2.1 q.2.2.2 (gK g (q.2.2.1 - 1000)) U) ∧ gb g < gz g ∧ gz g ≤ U.heap.size ∧ va_X (gb g) (gL g) (gx g) U U.heap ∧ sv_str g U
theorem VF.same {g : sG} {u U : State} (hv : U.vm = u.vm) (hh : U.heap = u.heap) (h : VF g u) : VF g U := by
  have ha : u.vm.Alike U.vm := by rw [hv]; exact Vm.Alike.refl _
  obtain ⟨h1, h2, h3, h4, h5, h6, h7, h8, h9, h10, h11, h12, h13⟩ := h
  refine ⟨va_K.moved ha h1, h2.moved ha, h3.moved ha, fun q hq => (h4 q hq).same rfl hv.symm, fun q hq => (h5 q hq).same rfl hv.symm, fun q hq => (h6 q hq).moved ha, fun q hq => (h7 q hq).same hv, h8, by rw [hh]; exact h9, ?_, ?_, ?_, ?_⟩
  · rw [hh]; exact h10.moved ha
  · rw [hh]; exact h11.moved ha
  · rw [hh]; exact h12.moved ha
  · rw [hh]; exact sv_Zq.moved ha h13
theorem VF.warm {g : sG} {s U : State} {H : Heap} {locs : List Loc} (hS : va_S (sv_A g) s.heap H locs) (hh : U.heap = H) (hW : s.WarmedH U.vm) (h : VF g s) : VF g U := by
  have ha : s.vm.Alike U.vm := hW.alike
  obtain ⟨h1, h2, h3, h4, h5, h6, h7, h8, h9, h10, h11, h12, h13⟩ := h
  have hb : ¬ sv_A g (gb g) := Nat.not_le.mpr h8
  refine ⟨va_K.moved ha h1, h2.moved ha, h3.moved ha, fun q hq => (h4 q hq).warmM hW, fun q hq => (h5 q hq).warmC hW, fun q hq => (h6 q hq).moved ha, fun q hq => (h7 q hq).warm hW, h8, by rw [hh]; exact Nat.le_trans h9 hS.1, ?_, ?_, ?_, ?_⟩
  · rw [hh]; exact (h10.moved ha).kept (hS.2.1 _ (Nat.lt_of_lt_of_le h8 h9) hb)
  · rw [hh]; exact (h11.moved ha).kept hS.2.1
  · rw [hh]; exact (h12.moved ha).kept hS.2.1
  · rw [hh]; exact sv_Zq.kept (sv_Zq.moved ha h13) hS.2.1
theorem sv_w_get {g : sG} {n i : Nat} {w : AH} {e : AC} (hi : i < n) (h : w i = some e) : (sv_w g n w)[i]? = some (gz g + i, sv_e g e) := by
  simp [sv_w, hi, h]
theorem sv_w_set {g : sG} {n i : Nat} {w : AH} {e : AC} : (sv_w g n w).set i (gz g + i, sv_e g e) = sv_w g n (va_up w i (some e)) := by
  apply List.ext_getElem?
  intro j
  by_cases hj : j = i
  · subst hj
    by_cases hl : j < n
    · simp [sv_w, hl, va_up]
    · simp [sv_w, hl]
  · rw [List.getElem?_set_ne (Ne.symm hj)]
    by_cases hl : j < n
    · simp [sv_w, hl, va_up, hj]
    · simp [sv_w, hl]
theorem sv_w_push {g : sG} {n : Nat} {w : AH} {e : AC} : sv_w g n w ++ [(gz g + n, sv_e g e)] = sv_w g (n + 1) (va_up w n (some e)) := by
  unfold sv_w
  rw [List.range_succ, List.map_append]
  congr 1
  · apply List.map_congr_left
    intro i hi
    have := List.mem_range.mp hi
    have hne : ¬ i = n := by omega
    simp [va_up, hne]
  · simp [va_up]
theorem sv_w_D {g : sG} {n : Nat} {w : AH} : va_D (sv_A g) (sv_w g n w) := by
  refine ⟨fun i j p q hi hj e => ?_, fun k q hk => ?_⟩
  · simp only [sv_w, List.getElem?_map] at hi hj
    cases h1 : (List.range n)[i]? with
    | none => simp [h1] at hi
    | some x =>
      cases h2 : (List.range n)[j]? with
      | none => simp [h2] at hj
      | some y =>
        rw [h1] at hi; rw [h2] at hj
        have e1 := (List.getElem?_eq_some_iff.mp h1).2
        have e2 := (List.getElem?_eq_some_iff.mp h2).2
        simp at hi hj e1 e2
        subst hi; subst hj
        simp at e
        omega
  · simp only [sv_w, List.getElem?_map] at hk
    cases h1 : (List.range n)[k]? with
    | none => simp [h1] at hk
    | some x =>
      rw [h1] at hk
      simp at hk
      subst hk
      exact Nat.le_add_right _ _
theorem AR.lt {g : sG} {n i : Nat} {w : AH} {H : Heap} {e : AC} (h : AR g n w H) (hw : w i = some e) (hi : i ≠ 999) : i < n := by
  rcases h.2.2.1 i e hw with h1 | h1
  · exact h1.1
  · exact absurd h1.1 hi
theorem AR.ad {g : sG} {n i : Nat} {w : AH} {H : Heap} {e : AC} (h : AR g n w H) (hw : w i = some e) (hi : i ≠ 999) : sv_ad g i = gz g + i := by
  have h1 := h.lt hw hi
  have h2 := h.1
  unfold sv_ad
  rw [if_pos (by omega)]
theorem AR.at {g : sG} {n i : Nat} {w : AH} {H : Heap} {e : AC} (h : AR g n w H) (hw : w i = some e) (hi : i ≠ 999) : (sv_w g n w)[i]? = some (sv_ad g i, sv_e g e) := by
  rw [h.ad hw hi]
  exact sv_w_get (h.lt hw hi) hw
/-- a cell changes -/
theorem AR.set {g : sG} {n i : Nat} {w : AH} {H H1 : Heap} {e e1 : AC} (h : AR g n w H) (hw : w i = some e) (hi : i ≠ 999) (he : sv_ok e1) (hP : va_P (gD g) vwCl ((sv_w g n w).set i (sv_ad g i, sv_e g e1)) H1) : AR g n (va_up w i (some e1)) H1 := by
  refine ⟨h.1, fun j hj => ?_, fun j ej hj => ?_, ?_⟩
  · by_cases hji : j = i
    · exact ⟨e1, by simp [va_up, hji]⟩
    · obtain ⟨x, hx⟩ := h.2.1 j hj
      exact ⟨x, by simp [va_up, hji, hx]⟩
  · by_cases hji : j = i
    · subst hji
      have e2 : e1 = ej := by simpa [va_up] using hj
      exact Or.inl ⟨h.lt hw hi, e2 ▸ he⟩
    · exact h.2.2.1 j ej (by simpa [va_up, hji] using hj)
  · rw [← sv_w_set, ← h.ad hw hi]
    exact hP
/-- a cell comes -/
theorem AR.push {g : sG} {n : Nat} {w : AH} {H H1 : Heap} {e : AC} (h : AR g n w H) (hn : n < 900) (he : sv_ok e) (hP : va_P (gD g) vwCl (sv_w g n w ++ [(gz g + n, sv_e g e)]) H1) : AR g (n + 1) (va_up w n (some e)) H1 := by
  refine ⟨by omega, fun j hj => ?_, fun j ej hj => ?_, ?_⟩
  · by_cases hji : j = n
    · exact ⟨e, by simp [va_up, hji]⟩
    · obtain ⟨x, hx⟩ := h.2.1 j (by omega)
      exact ⟨x, by simp [va_up, hji, hx]⟩
  · by_cases hji : j = n
    · subst hji
      have e2 : e = ej := by simpa [va_up] using hj
      exact Or.inl ⟨by omega, e2 ▸ he⟩
    · rcases h.2.2.1 j ej (by simpa [va_up, hji] using hj) with h1 | h1
      · exact Or.inl ⟨by omega, h1.2⟩
      · exact Or.inr h1
  · rw [← sv_w_push]
    exact hP
/-- the locals -/
def LR (g : sG) (nL : Nat) (ls : AL) (A : Array Slot) : Prop := ls.length = nL ∧ ∃ lv, lv_has A nL lv ∧ ∀ i v, ls[i]? = some (some v) → (i, sv_v g v) ∈ lv
theorem sv_cat (g : sG) (v : Value) : (sv_v g v).category = v.category := by cases v <;> rfl
theorem LR.at {g : sG} {nL : Nat} {ls : AL} {A : Array Slot} (h : LR g nL ls A) {i : Nat} {v : Value} (hi : ls.getD i none = some v) : A[i]? = some (.val (sv_v g v)) := by
  obtain ⟨hl, lv, h1, h2⟩ := h
  refine h1.2.2 (i, sv_v g v) (h2 i v ?_)
  rw [List.getD_eq_getElem?_getD] at hi
  cases hx : ls[i]? with
  | none => rw [hx] at hi; cases hi
  | some x => rw [hx] at hi; simp at hi; rw [hi]
theorem am_ok_ne {ls : AL} {i j : Nat} {v : Value} (h : am_ok ls i) (hj : ls[j]? = some (some v)) (hji : j + 1 = i) : ¬ v.category = 2 := by
  intro hc
  unfold am_ok at h
  have e : ls.getD (i - 1) none = some v := by
    rw [List.getD_eq_getElem?_getD, show i - 1 = j by omega, hj]; rfl
  rw [e] at h
  cases v <;> first | exact h | (simp [Value.category] at hc)
theorem LR.st1 {g : sG} {nL : Nat} {ls : AL} {lv : List (Nat × Value)} (hl : ls.length = nL) (h2 : ∀ i v, ls[i]? = some (some v) → (i, sv_v g v) ∈ lv) {i : Nat} {x : Value} (hi : i < nL) (hok : am_ok ls i) :
    (ls.set i (some x)).length = nL ∧ ∀ j v, (ls.set i (some x))[j]? = some (some v) → (j, sv_v g v) ∈ (i, sv_v g x) :: lv.filter (fun q => !(q.1 == i) && !(q.1 + 1 == i && q.2.category == 2)) := by
  refine ⟨by simp [hl], fun j v hj => ?_⟩
  by_cases hji : j = i
  · subst hji
    rw [List.getElem?_set_self (by omega)] at hj
    cases hj
    exact List.mem_cons_self
  · rw [List.getElem?_set_ne (Ne.symm hji)] at hj
    refine List.mem_cons_of_mem _ (List.mem_filter.mpr ⟨h2 j v hj, ?_⟩)
    by_cases hj1 : j + 1 = i
    · have := am_ok_ne hok hj hj1
      simp [hji, sv_cat, this]
    · simp [hji, hj1]
theorem LR.st2 {g : sG} {nL : Nat} {ls : AL} {lv : List (Nat × Value)} (hl : ls.length = nL) (h2 : ∀ i v, ls[i]? = some (some v) → (i, sv_v g v) ∈ lv) {i : Nat} {x : Value} (hi : i + 1 < nL) (hok : am_ok ls i) :
    ((ls.set i (some x)).set (i + 1) none).length = nL ∧ ∀ j v, ((ls.set i (some x)).set (i + 1) none)[j]? = some (some v) → (j, sv_v g v) ∈ (i, sv_v g x) :: lv.filter (fun q => !(q.1 == i) && (!(q.1 == i + 1) && !(q.1 + 1 == i && q.2.category == 2))) := by
  refine ⟨by simp [hl], fun j v hj => ?_⟩
  by_cases hj2 : j = i + 1
  · subst hj2
    rw [List.getElem?_set_self (by simp; omega)] at hj
    cases hj
  · rw [List.getElem?_set_ne (Ne.symm hj2)] at hj
    by_cases hji : j = i
    · subst hji
      rw [List.getElem?_set_self (by omega)] at hj
      cases hj
      exact List.mem_cons_self
    · rw [List.getElem?_set_ne (Ne.symm hji)] at hj
      refine List.mem_cons_of_mem _ (List.mem_filter.mpr ⟨h2 j v hj, ?_⟩)
      by_cases hj1 : j + 1 = i
      · have := am_ok_ne hok hj hj1
        simp [hji, hj2, sv_cat, this]
      · simp [hji, hj1, hj2]
theorem am_wd_sum (g : sG) : ∀ s : List Value, ((s.map (sv_v g)).map fun v => v.category).sum = am_wd s
  | [] => rfl
  | v :: s => by
    have ih := am_wd_sum g s
    rw [List.map_cons, List.map_cons, List.sum_cons, ih]
    cases v <;> simp only [am_wd, sv_v, Value.category] <;> omega
theorem am_sp_of {n : Nat} {K : List Value → List Value → Prop} : ∀ {acc st : List Value}, am_sp n acc st K → ∃ as s, st = as.reverse ++ s ∧ as.length = n ∧ K (as ++ acc) s := by
  induction n with
  | zero => intro acc st h; exact ⟨[], st, rfl, rfl, h⟩
  | succ n ih =>
    intro acc st h
    cases st with
    | nil => exact h.elim
    | cons v st =>
      obtain ⟨as, s, h1, h2, h3⟩ := ih (acc := v :: acc) (st := st) h
      exact ⟨as ++ [v], s, by simp [h1], by simp [h2], by simpa using h3⟩
