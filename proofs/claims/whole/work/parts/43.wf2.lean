/-! what may be kept stays so: sheets, tape -/
theorem W_wrn {σ : MS} {k : Int32} {r : PR} (h : WF σ) (hr : inR k 0 3 = true → ¬ σ.bs (cl k) = 0 → WF r.2) : WF (wrn σ k r).2 := by
  unfold wrn
  by_cases c1 : inR k 0 3 = true
  · rw [if_pos c1]
    by_cases c2 : σ.bs (cl k) = 0
    · rw [if_pos c2]; exact h
    · rw [if_neg c2]; exact hr c1 c2
  · rw [if_neg c1]; exact h
theorem W_sheet {σ : MS} {k b N : Int32} (h : WF σ) : WF (P_sheet σ k b N).2 := by
  unfold P_sheet
  by_cases q : inR k 0 3 = true ∧ shB b
  · rw [if_pos q]
    by_cases c1 : N < 0
    · rw [if_pos c1]; exact h
    rw [if_neg c1]
    by_cases c2 : 40 < N
    · rw [if_pos c2]; exact h
    rw [if_neg c2]
    obtain ⟨j, hj, rfl⟩ := inR_3 q.1
    rw [cl_nI (by omega)]
    obtain ⟨N, hN, rfl⟩ := nI_of c1
    have hN40 : N ≤ 40 := by
      have e := Int32.not_lt.mp c2
      rw [Int32.le_iff_toInt_le, nI_toInt hN] at e
      have : (40 : Int32).toInt = 40 := by decide
      omega
    refine ⟨h.s, h.m, h.b, h.kc, h.k, h.tp, h.tb, fun i hi => ?_, fun i hi => ?_, fun i hi e => ?_⟩
    · show upd σ.bs j b i = 0 ∨ upd σ.bs j b i = 8 ∨ upd σ.bs j b i = 16 ∨ upd σ.bs j b i = 64
      by_cases e : i = j
      · subst e; rw [upd_s]; exact q.2
      · rw [upd_n e]; exact h.bs i hi
    · show ∃ z, z ≤ 40 ∧ upd σ.zs j (if b = 0 then 0 else nI N) i = nI z
      by_cases e : i = j
      · subst e
        rw [upd_s]
        by_cases e0 : b = 0
        · rw [if_pos e0]; exact ⟨0, by omega, rfl⟩
        · rw [if_neg e0]; exact ⟨N, hN40, rfl⟩
      · rw [upd_n e]; exact h.zs i hi
    · have e' : upd σ.bs j b i = 0 := e
      show upd σ.zs j (if b = 0 then 0 else nI N) i = 0
      by_cases e2 : i = j
      · subst e2
        rw [upd_s] at e' ⊢
        rw [if_pos e']
      · rw [upd_n e2] at e' ⊢
        exact h.zb i hi e'
  · rw [if_neg q]; exact h
theorem W_ns {σ : MS} (h : WF σ) {x : Nat → Int64} : WF (σ.wns x) := h
theorem W_write {σ : MS} {k i : Int32} {v : Int64} (h : WF σ) : WF (P_write σ k i v).2 := by
  unfold P_write
  split
  · exact h
  · exact W_wrn h fun _ _ => h
theorem W_copy {σ : MS} {a p b q N : Int32} (h : WF σ) : WF (P_copy σ a p b q N).2 := by
  unfold P_copy
  split
  · split
    · exact h
    split
    · split
      all_goals exact h
    · exact h
  · exact h
theorem lay_ok {S : SS} {ns : Nat → Int64} {p : Nat} (hI : IV S) : ∀ k, k ≤ 30 → IV (layS S ns p k).1 ∧ (layS S ns p k).1 0 = S 0
  | 0, _ => ⟨hI, rfl⟩
  | k + 1, hk => by
    obtain ⟨a, b⟩ := lay_ok hI (ns := ns) (p := p) k (by omega)
    unfold layS
    by_cases c : 0 ≤ ns (p + k) ∧ ns (p + k) ≤ 1
    · rw [if_pos c]
      refine ⟨a.up (by omega) fun _ => ?_, ?_⟩
      · rw [(loB_dug (show k < 30 by omega)).1, (loB_dug (show k < 30 by omega)).2]
        have h1 := Int64.le_iff_toInt_le.mp c.1
        have h2 := Int64.le_iff_toInt_le.mp c.2
        have e0 : (0 : Int64).toInt = 0 := by decide
        have e1 : (1 : Int64).toInt = 1 := by decide
        rw [Int64.toInt_toInt32, Int.bmod_eq_of_le (by omega) (by omega)]
        omega
      · show upd (layS S ns p k).1 (2 + 2 * k) _ 0 = S 0
        rw [upd_n (by omega)]; exact b
    · rw [if_neg c]; exact ⟨a, b⟩
theorem W_lays {σ : MS} {k : Int32} (h : WF σ) : WF (P_lays σ k).2 := by
  unfold P_lays
  refine W_wrn h fun _ _ => ?_
  obtain ⟨a, b⟩ := lay_ok h.s (ns := σ.ns) (p := 40 * cl k) (min (cl (σ.zs (cl k))) 30) (by omega)
  refine h.us a ?_
  unfold mnB
  rw [b]
  exact h.m
theorem W_book {σ : MS} {k m : Int32} (h : WF σ) : WF (P_book σ k m).2 := by
  unfold P_book
  refine W_wrn h fun _ _ => ?_
  split
  all_goals exact h
theorem W_read {σ : MS} {k m : Int32} (h : WF σ) : WF (P_read σ k m).2 := by
  unfold P_read
  refine W_wrn h fun _ _ => ?_
  split
  all_goals exact h
theorem itemR_0 {T S : SS} {L : Nat} {p : Nat × Nat} (hI : IV S) : (itemR T L p S).2.2 0 = S 0 := by
  unfold itemR moleR dugR secR
  repeat' split
  all_goals first
    | rfl
    | exact add_0
    | exact put_0 hI
    | exact upd_n (by omega)
theorem play_ok {T : SS} {L : Nat} : ∀ f i p S, TP T L p → IV S → IV (playR T L f i p S).2.2.2 ∧ (playR T L f i p S).2.2.2 0 = S 0
  | 0, i, p, S, _, h => ⟨h, rfl⟩
  | f + 1, i, p, S, hp, h => by
    obtain ⟨a, b, c⟩ := itemR_ok hp h
    have e := itemR_0 (T := T) (L := L) (p := p) h
    unfold playR
    split
    · obtain ⟨x, y⟩ := play_ok f (i + 1) (tok T L (itemR T L p S).2.1.2) (itemR T L p S).2.2 a.nx.1 c
      exact ⟨x, by rw [y, e]⟩
    · exact ⟨c, e⟩
theorem W_shire {σ : MS} (h : WF σ) : WF (P_shire σ).2 := by
  unfold P_shire shR
  obtain ⟨a, b⟩ := play_ok (T := σ.T) (L := cl σ.tp) (cl σ.tp + 1) 1 (tok σ.T (cl σ.tp) 0) σ.S ⟨0, by omega, rfl⟩ h.s
  have hw : ∀ τ : MS, WF τ → WF (τ.wtp 0) := fun τ h => ⟨h.s, h.m, h.b, h.kc, h.k, ⟨0, by omega, rfl⟩, h.tb, h.bs, h.zs, h.zb⟩
  split
  · refine hw _ (h.us a ?_)
    unfold mnB
    rw [b]
    exact h.m
  · exact hw _ h
