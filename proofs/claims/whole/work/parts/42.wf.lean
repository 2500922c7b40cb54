/-! what may be kept stays so -/
theorem stp_0 {S : SS} {m : Nat} : stepS S m 0 = S 0 := by
  unfold stepS wayS paidS si
  split
  · rfl
  split
  · rw [upd_n (by omega)]
  split
  · rw [upd_n (by omega)]
  · rw [upd_n (by omega), upd_n (by omega), upd_n (by omega)]
theorem lk_0 {S : SS} {m : Nat} : lookS S m 0 = S 0 := by
  have h1 : look1 S m 0 = S 0 := by
    unfold look1 bringS paidS pickS si
    split
    · split
      · rfl
      · rw [upd_n (by omega), upd_n (by omega), upd_n (by omega), upd_n (by omega)]
    · split
      · split
        · rw [upd_n (by omega), upd_n (by omega)]
        · rfl
      · rfl
  unfold lookS look2 wayS si
  split
  · rw [upd_n (by omega), h1]
  · exact h1
theorem one_0 {S : SS} {m : Nat} : oneS S m 0 = S 0 := by
  unfold oneS
  have : ∀ n, itr (fun S => lookS (stepS S m) m) n (lookS S m) 0 = S 0 := by
    intro n
    induction n with
    | zero => exact lk_0
    | succ n ih => unfold itr; rw [lk_0, stp_0, ih]
  exact this _
theorem all_0 {S : SS} {aw : Int32} : ∀ k, allS aw S k 0 = S 0
  | 0 => rfl
  | k + 1 => by
    unfold allS molS
    split
    · exact all_0 k
    · rw [one_0]; exact all_0 k
theorem min_0 {S : SS} {aw : Int32} : minS aw S 0 = S 0 + 1 := by
  unfold minS
  rw [upd_s, all_0]
theorem go_0 {S : SS} {aw : Int32} : ∀ n, goS aw n S 0 = S 0 + nI n
  | 0 => by
    show S 0 = S 0 + 0
    rw [Int32.add_zero]
  | n + 1 => by
    show minS aw (itr (minS aw) n S) 0 = _
    rw [min_0]
    have := go_0 (S := S) (aw := aw) n
    unfold goS at this
    rw [this, Int32.add_assoc]
    rw [show nI n + 1 = nI (n + 1) from nI_1 n]
theorem WF.fd {σ : MS} (h : WF σ) (k : Nat) : WF (fnd σ k).2 := h
theorem WF.us {σ : MS} (h : WF σ) {S' : SS} (h1 : IV S') (h2 : mnB S') : WF (σ.wS S') := ⟨h1, h2, h.2.2⟩
theorem mnB.up {S : SS} (h : mnB S) {i : Nat} {v : Int32} (hi : i ≠ 0) : mnB (upd S i v) := by
  unfold mnB at *
  rw [upd_n (by omega)]
  exact h
theorem W_cell {σ : MS} {c k v : Int32} (h : WF σ) : WF (P_cell σ c k v).2 := by
  unfold P_cell
  by_cases q : inR c 0 29 = true ∧ inR k 0 1 = true ∧ inR v 0 (if k = 0 then 1 else 99) = true
  · rw [if_pos q]
    obtain ⟨j, hj, rfl⟩ := inR_c q.1
    obtain ⟨i, hi, rfl⟩ := inR_nI (hi := 1) q.2.1
    obtain ⟨a1, a2⟩ := inR_iff.mp q.2.2
    rw [cl_nI (by omega), cl_nI (by omega)]
    refine h.us (h.s.up (by omega) (fun _ => ?_)) (h.m.up (by omega))
    obtain rfl | rfl : i = 0 ∨ i = 1 := by omega
    · rw [if_pos (by decide)] at a2
      rw [show 2 + 2 * j + 0 = 2 + 2 * j by omega, (loB_dug hj).1, (loB_dug hj).2]
      exact ⟨a1, a2⟩
    · rw [if_neg (by decide)] at a2
      rw [show 2 + 2 * j + 1 = 3 + 2 * j by omega, (loB_hp hj).1, (loB_hp hj).2]
      exact ⟨a1, a2⟩
  · rw [if_neg q]; exact h.fd 0
theorem W_cellOf {σ : MS} {c k : Int32} (h : WF σ) : WF (P_cellOf σ c k).2 := by
  unfold P_cellOf
  split
  · exact h
  · exact h.fd 0
theorem put_0 {S : SS} (hI : IV S) {k : Nat} {x : Int32} : putS S k x 0 = S 0 := by
  unfold putS
  rw [upd_n (by omega), free_n (by omega) _ hI.m6.1]
theorem W_tell {σ : MS} {k c : Int32} (h : WF σ) : WF (P_tell σ k c).2 := by
  unfold P_tell
  split
  · rename_i q
    obtain ⟨j, hj, rfl⟩ := inR_6 q.1
    obtain ⟨a1, a2⟩ := inR_iff.mp q.2
    rw [cl_nI (by omega)]
    refine h.us (h.s.put hj (by omega) a2).1 ?_
    unfold mnB
    rw [put_0 h.s]
    exact h.m
  · exact h.fd 0
theorem W_where {σ : MS} {k : Int32} (h : WF σ) : WF (P_where σ k).2 := by
  unfold P_where
  split
  · exact h
  · exact h.fd 0
theorem W_now {σ : MS} {k : Int32} (h : WF σ) : WF (P_now σ k).2 := by
  unfold P_now
  repeat' split
  all_goals exact h
theorem add_0 {S : SS} {k g e : Int32} : addS S k g e 0 = S 0 := by
  unfold addS si
  rw [upd_n (by omega), upd_n (by omega), upd_n (by omega), upd_n (by omega), upd_n (by omega), upd_n (by omega), upd_n (by omega), upd_n (by omega)]
theorem W_mole {σ : MS} {k g e : Int32} (h : WF σ) : WF (P_mole σ k g e).2 := by
  unfold P_mole
  split
  · rename_i q
    split
    · exact h.fd 1
    · rename_i hc
      obtain ⟨a, ha, rfl⟩ := inR_6 q.1
      obtain ⟨b, hb, rfl⟩ := inR_c q.2.1
      obtain ⟨c, hc', rfl⟩ := inR_c q.2.2
      refine h.us (h.s.add ?_ ha hb hc') ?_
      · obtain ⟨M, e1, e2⟩ := h.s.cnt
        rw [e2, cl_nI (by omega)]
        by_cases e : M = 6
        · subst e; exact absurd e2 hc
        · omega
      · unfold mnB; rw [add_0]; exact h.m
  · exact h.fd 0
theorem W_of {σ : MS} {m k : Int32} (h : WF σ) : WF (P_of σ m k).2 := by
  unfold P_of
  split
  · exact h
  · exact h.fd 0
theorem W_charges {σ : MS} {m k : Int32} (h : WF σ) : WF (P_charges σ m k).2 := by
  unfold P_charges
  split
  · exact h
  · exact h.fd 0
theorem W_set {σ : MS} {m k v : Int32} (h : WF σ) : WF (P_set σ m k v).2 := by
  unfold P_set
  by_cases q : isM σ m = true ∧ inR k 1 5 = true ∧ inR v 0 (if k = 4 then 1 else if k = 5 then 9999 else 29) = true
  · rw [if_pos q]
    obtain ⟨j, hj, hj2, rfl⟩ := isM_m h.s q.1
    obtain ⟨i, hi, hi2, rfl⟩ := inR_a (hi := 5) (by decide) q.2.1
    obtain ⟨a1, a2⟩ := inR_iff.mp q.2.2
    rw [cl_nI (by omega), cl_nI (by omega)]
    refine h.us (h.s.sk hj (by omega) ?_) (h.m.up (by omega))
    obtain rfl | rfl | rfl | rfl | rfl : i = 1 ∨ i = 2 ∨ i = 3 ∨ i = 4 ∨ i = 5 := by omega
    all_goals exact ⟨a1, a2⟩
  · rw [if_neg q]; exact h.fd 0
theorem W_turn {σ : MS} {m k : Int32} (h : WF σ) : WF (P_turn σ m k).2 := by
  unfold P_turn
  split
  · rename_i q
    obtain ⟨j, hj, hj2, rfl⟩ := isM_m h.s q.1
    obtain ⟨a1, a2⟩ := inR_iff.mp q.2
    rw [cl_nI (by omega)]
    exact h.us (h.s.sk hj (by decide) ⟨a1, a2⟩) (h.m.up (by omega))
  · exact h.fd 0
theorem W_as {σ : MS} {m k : Int32} (h : WF σ) : WF (P_as σ m k).2 := by
  unfold P_as
  repeat' split
  all_goals exact h
theorem W_minutes {σ : MS} {N : Int32} (h : WF σ) : WF (P_minutes σ N).2 := by
  unfold P_minutes
  split
  · rename_i q
    split
    · rename_i c
      obtain ⟨j, hj, hj2, rfl⟩ := inR_a (hi := 100) (by decide) q
      rw [cl_nI (by omega)]
      refine h.us (h.s.go _ _).1 ?_
      obtain ⟨m1, m2⟩ := h.m
      unfold mnB
      rw [go_0]
      have e := add_toI (x := σ.S 0) (y := nI j) m1 (by omega) (by rw [nI_toInt (by omega)]; omega) (by rw [nI_toInt (by omega)]; omega)
      rw [Int32.le_iff_toInt_le] at c
      refine ⟨?_, c⟩
      rw [e, nI_toInt (by omega)]
      omega
    · exact h.fd 4
  · exact h.fd 0
theorem W_on {σ : MS} {m N k : Int32} (h : WF σ) : WF (P_on σ m N k).2 := by
  unfold P_on
  repeat' split
  all_goals exact h
theorem W_then {σ : MS} {N k : Int32} (h : WF σ) : WF (P_then σ k N).2 := by
  unfold P_then
  split
  all_goals exact h
theorem W_told {σ : MS} {p : Nat} {v : Int32} (h : WF σ) : WF (told σ p v).2 := by
  unfold told
  split
  all_goals exact h
theorem W_out {σ : MS} {k : Int32} (h : WF σ) : WF (P_out σ k).2 := by
  unfold P_out
  split
  · exact W_told h
  · exact h
theorem W_dug {σ : MS} {k : Int32} (h : WF σ) : WF (P_dug σ k).2 := by
  unfold P_dug
  split
  · exact W_told h
  · exact h
theorem W_comes {σ : MS} {m k : Int32} (h : WF σ) : WF (P_comes σ m k).2 := by
  unfold P_comes
  split
  · exact W_told h
  · exact h
theorem W_kind {σ : MS} {m k : Int32} (h : WF σ) : WF (P_kind σ m k).2 := by
  unfold P_kind
  split
  all_goals exact h
theorem W_lead {σ : MS} {m k : Int32} (h : WF σ) : WF (P_lead σ m k).2 := by
  unfold P_lead
  split
  all_goals exact h
theorem W_dig {σ : MS} {k : Int32} (h : WF σ) : WF (P_dig σ k).2 := by
  unfold P_dig
  split
  · split
    all_goals exact h
  · exact h
theorem W_leave {σ : MS} {k : Int32} (h : WF σ) : WF (P_leave σ k).2 := by
  unfold P_leave
  split
  · split
    all_goals exact h
  · exact h
theorem W_dismiss {σ : MS} {k : Int32} (h : WF σ) : WF (P_dismiss σ k).2 := by
  unfold P_dismiss
  split
  · split
    all_goals exact h
  · exact h
theorem W_richest {σ : MS} {k : Int32} (h : WF σ) : WF (P_richest σ k).2 := by
  unfold P_richest
  split
  · split
    all_goals exact h
  · exact h
theorem feed_tb {b : Int32} : ∀ k (T : SS) (t : Nat), (∀ i, 0 ≤ (T i).toInt ∧ (T i).toInt ≤ 255) → ∀ i, 0 ≤ (feedS b k T t i).toInt ∧ (feedS b k T t i).toInt ≤ 255
  | 0, T, t, h => h
  | k + 1, T, t, h => by
    unfold feedS
    refine feed_tb k _ _ fun i => ?_
    by_cases e : i = t
    · subst e
      rw [upd_s]
      generalize b >>> (8 * nI k &&& 31) = x
      have e1 : (x &&& 255).toBitVec = x.toBitVec &&& 255#32 := rfl
      have e2 : (x &&& 255).toInt = ((x.toBitVec &&& 255#32).toNat : Int) := by
        show (x &&& 255).toBitVec.toInt = _
        rw [e1, BitVec.toInt_eq_toNat_of_lt]
        have := Nat.and_le_right (n := x.toBitVec.toNat) (m := 255)
        rw [BitVec.toNat_and]
        show 2 * (x.toBitVec.toNat &&& 255) < _
        omega
      rw [e2, BitVec.toNat_and]
      have := Nat.and_le_right (n := x.toBitVec.toNat) (m := 255)
      show 0 ≤ ((x.toBitVec.toNat &&& 255 : Nat) : Int) ∧ ((x.toBitVec.toNat &&& 255 : Nat) : Int) ≤ 255
      omega
    · rw [upd_n e]; exact h i
theorem W_feed {σ : MS} {b N : Int32} (h : WF σ) : WF (P_feed σ b N).2 := by
  unfold P_feed
  split
  · rename_i q
    split
    · rename_i c
      obtain ⟨j, hj, hj2, rfl⟩ := inR_a (hi := 4) (by decide) q
      obtain ⟨t, ht, et⟩ := h.tp
      rw [et] at c ⊢
      rw [nI_add] at c ⊢
      rw [Int32.le_iff_toInt_le, nI_toInt (by omega)] at c
      have e : (120 : Int32).toInt = 120 := by decide
      refine ⟨h.s, h.m, h.b, h.kc, h.k, ⟨t + j, by omega, rfl⟩, ?_, h.bs, h.zs, h.zb⟩
      exact feed_tb _ _ _ h.tb
    · exact h
  · exact h
theorem W_wipe {σ : MS} (h : WF σ) : WF (P_wipe σ).2 := ⟨h.s, h.m, h.b, h.kc, h.k, ⟨0, by omega, rfl⟩, h.tb, h.bs, h.zs, h.zb⟩
theorem W_image {σ : MS} (h : WF σ) : WF (P_image σ).2 := ⟨h.s, h.m, .inr rfl, h.s.2, fun _ => ⟨h.s, h.m⟩, h.tp, h.tb, h.bs, h.zs, h.zb⟩
theorem W_undo {σ : MS} (h : WF σ) : WF (P_undo σ).2 := by
  unfold P_undo
  split
  · exact h
  · rename_i c
    have e := h.k (h.b.resolve_left c)
    exact h.us e.1 e.2
theorem W_tear {σ : MS} (h : WF σ) : WF (P_tear σ).2 := ⟨h.s, h.m, .inl rfl, h.kc, fun t => absurd t (show ¬ ((0 : Int32) = 1) by decide), h.tp, h.tb, h.bs, h.zs, h.zb⟩
theorem W_count {σ : MS} {k : Int32} (h : WF σ) : WF (P_count σ k).2 := by
  unfold P_count
  repeat' split
  all_goals exact h
theorem W_status {σ : MS} {k : Int32} (h : WF σ) : WF (P_status σ k).2 := by
  unfold P_status
  by_cases q : inR k (-1) 6 = true
  · rw [if_pos q]; exact h
  · rw [if_neg q]; exact h
