section SM
variable {K K' : Int32 → Prop} {L L' : Int64 → Prop} {N N' : Nat → Prop} {O O' : Option AC → Prop}
theorem am_ild_mono {o : Option AC} {i : Int32} (hk : ∀ x, K x → K' x) (h : am_ild o i K) : am_ild o i K' := by
  unfold am_ild at h ⊢
  split at h
  · exact ⟨h.1, hk _ h.2⟩
  · exact ⟨h.1, hk _ h.2⟩
  · exact h.elim
theorem am_ist_mono {o : Option AC} {i x : Int32} (hk : ∀ x, O x → O' x) (h : am_ist o i x O) : am_ist o i x O' := by
  unfold am_ist at h ⊢
  split at h
  · exact ⟨h.1, hk _ h.2⟩
  · exact h.elim
theorem am_lld_mono {o : Option AC} {i : Int32} (hk : ∀ x, L x → L' x) (h : am_lld o i L) : am_lld o i L' := by
  unfold am_lld at h ⊢
  split at h
  · exact ⟨h.1, hk _ h.2⟩
  · exact h.elim
theorem am_lst_mono {o : Option AC} {i : Int32} {x : Int64} (hk : ∀ x, O x → O' x) (h : am_lst o i x O) : am_lst o i x O' := by
  unfold am_lst at h ⊢
  split at h
  · exact ⟨h.1, hk _ h.2⟩
  · exact h.elim
theorem am_on_mono {o : Option Nat} (hk : ∀ x, N x → N' x) (h : am_on o N) : am_on o N' := by
  cases o with
  | none => exact h
  | some v => exact hk _ h
theorem am_ald_mono {o : Option AC} {i : Int32} (hk : ∀ x, N x → N' x) (h : am_ald o i N) : am_ald o i N' := by
  unfold am_ald at h ⊢
  split at h
  · exact ⟨h.1, am_on_mono hk h.2⟩
  · exact ⟨h.1, am_on_mono hk h.2⟩
  · exact h.elim
theorem am_ast_mono {o ov : Option AC} {i : Int32} {j : Nat} (hk : ∀ x, O x → O' x) (h : am_ast o ov i j O) : am_ast o ov i j O' := by
  unfold am_ast at h ⊢
  split at h
  · split at h
    · exact ⟨h.1, h.2.1, hk _ h.2.2⟩
    · exact h.elim
  · exact h.elim
theorem am_len_mono {o : Option AC} (hk : ∀ x, K x → K' x) (h : am_len o K) : am_len o K' := by
  unfold am_len at h ⊢
  split at h
  · exact hk _ h
  · exact h.elim
theorem am_cpy_mono {o1 o2 : Option AC} {sp dp n : Int32} (hk : ∀ x, O x → O' x) (h : am_cpy o1 o2 sp dp n O) : am_cpy o1 o2 sp dp n O' := by
  unfold am_cpy at h ⊢
  split at h
  · split at h
    · exact ⟨h.1, hk _ h.2⟩
    · exact h.elim
  · split at h
    · exact ⟨h.1, hk _ h.2⟩
    · exact h.elim
  · exact h.elim
end SM
section ST
variable {p : Program} {l : Launch} {e : Env} {R : Room} {s : State} {m : MethodId} {args : Array Value} {below : List Frame} {meth : Method} {c : Code} {Z : State → Prop}
variable {g : sG} {own nL rt n0 : Nat} {ini : Bool} {cc : ByteArray} {E : AN} {M : Nat → List En} {mc ms : Nat} {Q : AQ}
def PW (p : Program) (l : Launch) (e : Env) (R : Room) (s : State) (m : MethodId) (args : Array Value) (below : List Frame) (meth : Method) (c : Code) (Z : State → Prop) (g : sG) (own nL rt n0 : Nat) (ini : Bool) (cc : ByteArray) : KT := fun cs ls st n w k1 k2 => match cs with
  | [] => False
  | en :: t => ok_cs own nL rt ini cc (en :: t) = true → WX p l e R s m args below meth c Z g nL n0 en.1 ls st n w k1 k2
/-- what a method's end must give -/
def RT (p : Program) (l : Launch) (e : Env) (R : Room) (s : State) (m : MethodId) (args : Array Value) (below : List Frame) (meth : Method) (c : Code) (Z : State → Prop) (g : sG) (rt n0 : Nat) (cc : ByteArray) (mc ms : Nat) (Q : AQ) : Prop :=
  (∀ (x : Int32) (n : Nat) (w : AH) (H : Heap) (locs : List Loc) (A : Array Slot) (pc : Nat), (rt = 0 ∨ (rt = 1 ∧ (x = 0 ∨ x = 1))) → decode cc pc = .ok (.ireturn, 1) → Q (some (.int x)) n w → AR g n w H → va_S (sv_A g) s.heap H locs → n = n0 + mc → W p l e R s m args below meth c H locs mc ms Z (F0 m pc A [.int x])) ∧
  (∀ (x : Int64) (n : Nat) (w : AH) (H : Heap) (locs : List Loc) (A : Array Slot) (pc : Nat), rt = 2 → decode cc pc = .ok (.lreturn, 1) → Q (some (.long x)) n w → AR g n w H → va_S (sv_A g) s.heap H locs → n = n0 + mc → W p l e R s m args below meth c H locs mc ms Z (F0 m pc A [.long x])) ∧
  (∀ (x : Nat) (n : Nat) (w : AH) (H : Heap) (locs : List Loc) (A : Array Slot) (pc : Nat), rt = 3 → decode cc pc = .ok (.areturn, 1) → Q (some (.ref x)) n w → AR g n w H → va_S (sv_A g) s.heap H locs → n = n0 + mc → W p l e R s m args below meth c H locs mc ms Z (F0 m pc A [.ref (sv_ad g x)])) ∧
  (∀ (n : Nat) (w : AH) (H : Heap) (locs : List Loc) (A : Array Slot) (pc : Nat), rt = 4 → decode cc pc = .ok (.return_, 1) → Q none n w → AR g n w H → va_S (sv_A g) s.heap H locs → n = n0 + mc → W p l e R s m args below meth c H locs mc ms Z (F0 m pc A []))
/-- what a call gives -/
def EN (l : Launch) (R : Room) (g : sG) (E : AN) : Prop := ∀ (y : Nat) (as : List Value) (n : Nat) (w : AH) (Q : AQ), E y as n w Q → ∃ d, d + 1 ≤ R.frames ∧ 28 * (d + 1) ≤ R.locals ∧ (y ≠ 502 → MT l g d y as n w Q) ∧ (y = 500 ∨ y = 501 → ∃ i as', i < 8 ∧ as = .ref (1000 + i) :: as')
variable {t : List En} {ls : AL} {st : List Value} {n : Nat} {w : AH} {k1 k2 pc tg : Nat}
theorem PW.nx (h : PW p l e R s m args below meth c Z g own nL rt n0 ini cc t ls st n w k1 k2) (hok : ok_cs own nL rt ini cc t = true) (hp : ok_hp t = pc) : WX p l e R s m args below meth c Z g nL n0 pc ls st n w k1 k2 := by
  cases t with
  | nil => exact h.elim
  | cons en t =>
    have h1 : WX p l e R s m args below meth c Z g nL n0 en.1 ls st n w k1 k2 := h hok
    have h2 : en.1 = pc := hp
    rw [h2] at h1
    exact h1
theorem PW.br (hM : ∀ L, ok_b own nL rt ini cc L (M L) = true) (h : PW p l e R s m args below meth c Z g own nL rt n0 ini cc (M tg) ls st n w k1 k2) : WX p l e R s m args below meth c Z g nL n0 tg ls st n w k1 k2 := by
  have h1 := hM tg
  cases hm : M tg with
  | nil => rw [hm] at h; exact h.elim
  | cons en t =>
    rw [hm] at h h1
    simp only [ok_b, Bool.and_eq_true, beq_iff_eq] at h1
    have h2 : WX p l e R s m args below meth c Z g nL n0 en.1 ls st n w k1 k2 := h h1.2
    rw [h1.1] at h2
    exact h2
theorem am_sw_mono {x : Int32} {d : Nat} {K K' : Nat → Prop} (hk : ∀ t, K t → K' t) : ∀ {cs : List (Int32 × Nat)}, am_sw x cs d K → am_sw x cs d K'
  | [], h => hk _ h
  | (a, t) :: r, h => by
    unfold am_sw at h ⊢
    split
    · rename_i hx; rw [if_pos hx] at h; exact hk _ h
    · rename_i hx; rw [if_neg hx] at h; exact am_sw_mono hk h
theorem am_dsp_of {ci i na : Nat} {K : Nat → Prop} : ∀ {ds : List Nat}, am_dsp ci ds K → ok_ds own i na ds = true → ∃ y, K y ∧ na = sv_n y + 1 ∧ am_acc y = (0, 0) ∧ ((own, i, ci, y) ∈ lk_v ∨ ∃ x, (own, i, ci, y, x) ∈ lk_d)
  | [], h, _ => h.elim
  | [_], h, _ => h.elim
  | a :: y :: r, h, hok => by
    unfold am_dsp at h
    unfold ok_ds at hok
    simp only [Bool.and_eq_true, Bool.or_eq_true, decide_eq_true_eq, beq_iff_eq, List.any_eq_true] at hok
    obtain ⟨⟨⟨h1, h2⟩, h3⟩, h4⟩ := hok
    by_cases hx : ci = a
    · rw [if_pos hx] at h
      subst hx
      refine ⟨y, h, h2, h3, ?_⟩
      rcases h1 with h1 | ⟨q, hq, ⟨⟨e1, e2⟩, e3⟩, e4⟩
      · exact Or.inl h1
      · obtain ⟨q1, q2, q3, q4, q5⟩ := q
        dsimp only at e1 e2 e3 e4
        subst e1; subst e2; subst e3; subst e4
        exact Or.inr ⟨q5, hq⟩
    · rw [if_neg hx] at h
      exact am_dsp_of h h4
theorem sv_l9 (y : Nat) (h : y < 234) : sv_l y ≤ 9 := by
  have h1 : ∀ y ∈ List.range 234, sv_l y ≤ 9 := by decide +kernel
  exact h1 y (List.mem_range.mpr h)
theorem lk_v_y {q : Nat × Nat × Nat × Nat} (h : q ∈ lk_v) : q.2.2.2 < 234 := (lk_v_ok q h).2.2.2.2.2
theorem lk_d_y {q : Nat × Nat × Nat × Nat × Nat} (h : q ∈ lk_d) : q.2.2.2.1 < 234 := (lk_d_ok q h).2.2.2.2.2.2.1
theorem okl_iload {i pc len npc : Nat} {raw : Instr} {inf : List Nat} {v : Value} {cs : List (Int32 × Nat)} (h : ok_in own nL rt ini pc raw len npc (.iload i) inf v cs = true) : npc = pc + len ∧ i < nL ∧ ((raw = .iload i ∧ len = 2) ∨ ∃ j : Fin 4, raw = .iload_n j ∧ (j : Nat) = i ∧ len = 1) := by
  dsimp only [ok_in] at h
  simp only [Bool.and_eq_true, decide_eq_true_eq, beq_iff_eq] at h
  obtain ⟨⟨h1, h2⟩, h3⟩ := h
  refine ⟨h1, h2, ?_⟩
  split at h3
  · simp only [Bool.and_eq_true, beq_iff_eq] at h3
    exact Or.inl ⟨by rw [h3.1], h3.2⟩
  · simp only [Bool.and_eq_true, beq_iff_eq] at h3
    rename_i j
    exact Or.inr ⟨j, rfl, h3.1, h3.2⟩
  · cases h3
theorem okl_lload {i pc len npc : Nat} {raw : Instr} {inf : List Nat} {v : Value} {cs : List (Int32 × Nat)} (h : ok_in own nL rt ini pc raw len npc (.lload i) inf v cs = true) : npc = pc + len ∧ i < nL ∧ ((raw = .lload i ∧ len = 2) ∨ ∃ j : Fin 4, raw = .lload_n j ∧ (j : Nat) = i ∧ len = 1) := by
  dsimp only [ok_in] at h
  simp only [Bool.and_eq_true, decide_eq_true_eq, beq_iff_eq] at h
  obtain ⟨⟨h1, h2⟩, h3⟩ := h
  refine ⟨h1, h2, ?_⟩
  split at h3
  · simp only [Bool.and_eq_true, beq_iff_eq] at h3
    exact Or.inl ⟨by rw [h3.1], h3.2⟩
  · simp only [Bool.and_eq_true, beq_iff_eq] at h3
    rename_i j
    exact Or.inr ⟨j, rfl, h3.1, h3.2⟩
  · cases h3
theorem okl_aload {i pc len npc : Nat} {raw : Instr} {inf : List Nat} {v : Value} {cs : List (Int32 × Nat)} (h : ok_in own nL rt ini pc raw len npc (.aload i) inf v cs = true) : npc = pc + len ∧ i < nL ∧ ((raw = .aload i ∧ len = 2) ∨ ∃ j : Fin 4, raw = .aload_n j ∧ (j : Nat) = i ∧ len = 1) := by
  dsimp only [ok_in] at h
  simp only [Bool.and_eq_true, decide_eq_true_eq, beq_iff_eq] at h
  obtain ⟨⟨h1, h2⟩, h3⟩ := h
  refine ⟨h1, h2, ?_⟩
  split at h3
  · simp only [Bool.and_eq_true, beq_iff_eq] at h3
    exact Or.inl ⟨by rw [h3.1], h3.2⟩
  · simp only [Bool.and_eq_true, beq_iff_eq] at h3
    rename_i j
    exact Or.inr ⟨j, rfl, h3.1, h3.2⟩
  · cases h3
theorem okl_istore {i pc len npc : Nat} {raw : Instr} {inf : List Nat} {v : Value} {cs : List (Int32 × Nat)} (h : ok_in own nL rt ini pc raw len npc (.istore i) inf v cs = true) : npc = pc + len ∧ i < nL ∧ ((raw = .istore i ∧ len = 2) ∨ ∃ j : Fin 4, raw = .istore_n j ∧ (j : Nat) = i ∧ len = 1) := by
  dsimp only [ok_in] at h
  simp only [Bool.and_eq_true, decide_eq_true_eq, beq_iff_eq] at h
  obtain ⟨⟨h1, h2⟩, h3⟩ := h
  refine ⟨h1, h2, ?_⟩
  split at h3
  · simp only [Bool.and_eq_true, beq_iff_eq] at h3
    exact Or.inl ⟨by rw [h3.1], h3.2⟩
  · simp only [Bool.and_eq_true, beq_iff_eq] at h3
    rename_i j
    exact Or.inr ⟨j, rfl, h3.1, h3.2⟩
  · cases h3
theorem okl_astore {i pc len npc : Nat} {raw : Instr} {inf : List Nat} {v : Value} {cs : List (Int32 × Nat)} (h : ok_in own nL rt ini pc raw len npc (.astore i) inf v cs = true) : npc = pc + len ∧ i < nL ∧ ((raw = .astore i ∧ len = 2) ∨ ∃ j : Fin 4, raw = .astore_n j ∧ (j : Nat) = i ∧ len = 1) := by
  dsimp only [ok_in] at h
  simp only [Bool.and_eq_true, decide_eq_true_eq, beq_iff_eq] at h
  obtain ⟨⟨h1, h2⟩, h3⟩ := h
  refine ⟨h1, h2, ?_⟩
  split at h3
  · simp only [Bool.and_eq_true, beq_iff_eq] at h3
    exact Or.inl ⟨by rw [h3.1], h3.2⟩
  · simp only [Bool.and_eq_true, beq_iff_eq] at h3
    rename_i j
    exact Or.inr ⟨j, rfl, h3.1, h3.2⟩
  · cases h3
theorem okl_lstore {i pc len npc : Nat} {raw : Instr} {inf : List Nat} {v : Value} {cs : List (Int32 × Nat)} (h : ok_in own nL rt ini pc raw len npc (.lstore i) inf v cs = true) : npc = pc + len ∧ i + 1 < nL ∧ ((raw = .lstore i ∧ len = 2) ∨ ∃ j : Fin 4, raw = .lstore_n j ∧ (j : Nat) = i ∧ len = 1) := by
  dsimp only [ok_in] at h
  simp only [Bool.and_eq_true, decide_eq_true_eq, beq_iff_eq] at h
  obtain ⟨⟨h1, h2⟩, h3⟩ := h
  refine ⟨h1, h2, ?_⟩
  split at h3
  · simp only [Bool.and_eq_true, beq_iff_eq] at h3
    exact Or.inl ⟨by rw [h3.1], h3.2⟩
  · simp only [Bool.and_eq_true, beq_iff_eq] at h3
    rename_i j
    exact Or.inr ⟨j, rfl, h3.1, h3.2⟩
  · cases h3
end ST
