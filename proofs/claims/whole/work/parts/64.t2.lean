/-! numbers and words of the two tapes are the same -/
theorem run_all {T : SS} {L : Nat} {c : Int32 → Bool} : ∀ f p j, p ≤ j → j < runS T L c f p → c (byt T L j) = true
  | 0, p, j, h1, h2 => by
    have h3 : j < p := h2
    omega
  | f + 1, p, j, h1, h2 => by
    rw [show runS T L c (f + 1) p = if c (byt T L p) = true then runS T L c f (p + 1) else p from rfl] at h2
    by_cases q : c (byt T L p) = true
    · rw [if_pos q] at h2
      by_cases e : j = p
      · rw [e]; exact q
      · exact run_all f (p + 1) j (by omega) h2
    · rw [if_neg q] at h2
      omega
theorem byt_lt {T : SS} {L k : Nat} {c : Int32 → Bool} (hc : c (-1) = false) (h : c (byt T L k) = true) : k < L := by
  by_cases q : k < L
  · exact q
  · rw [byt_out (by omega), hc] at h
    exact absurd h (by decide)
theorem tok_dig {T : SS} {L t : Nat} (hd : dgt (byt T L (tok T L t).1) = true) : ∀ j, j < (tok T L t).2 - (tok T L t).1 → dgt (T ((tok T L t).1 + j)) = true := by
  intro j hj
  have hf := byt_lt (c := dgt) (by decide) hd
  have hl : ¬ ltr (byt T L (tok T L t).1) = true := fun q => by rw [ltr_dgt q] at hd; exact absurd hd (by decide)
  have e : (tok T L t).2 = runS T L dgt (L - ((tok T L t).1 + 1)) ((tok T L t).1 + 1) := by
    show tkE T L (tok T L t).1 = _
    unfold tkE
    rw [if_pos hf, if_neg hl, if_pos hd]
  have hb : dgt (byt T L ((tok T L t).1 + j)) = true := by
    by_cases q : j = 0
    · rw [q]; exact hd
    · exact run_all (L - ((tok T L t).1 + 1)) ((tok T L t).1 + 1) _ (by omega) (by rw [← e]; omega)
  rw [byt_in (byt_lt (c := dgt) (by decide) hb)] at hb
  exact hb
theorem tok_let {T : SS} {L t : Nat} (hd : ltr (byt T L (tok T L t).1) = true) : ∀ j, j < (tok T L t).2 - (tok T L t).1 → ltr (T ((tok T L t).1 + j)) = true := by
  intro j hj
  have hf := byt_lt (c := ltr) (by decide) hd
  have e : (tok T L t).2 = runS T L ltr (L - ((tok T L t).1 + 1)) ((tok T L t).1 + 1) := by
    show tkE T L (tok T L t).1 = _
    unfold tkE
    rw [if_pos hf, if_pos hd]
  have hb : ltr (byt T L ((tok T L t).1 + j)) = true := by
    by_cases q : j = 0
    · rw [q]; exact hd
    · exact run_all (L - ((tok T L t).1 + 1)) ((tok T L t).1 + 1) _ (by omega) (by rw [← e]; omega)
  rw [byt_in (byt_lt (c := ltr) (by decide) hb)] at hb
  exact hb
theorem dgt_n {x : Int32} (h : dgt x = true) : ∃ y, 48 ≤ y ∧ y ≤ 57 ∧ x = nI y := by
  obtain ⟨y, h1, h2, h3⟩ := inR_a (hi := 57) (lo := 48) (by decide) h
  exact ⟨y, by omega, h1, h3⟩
theorem ltr_n {x : Int32} (h : ltr x = true) : ∃ y, 97 ≤ y ∧ y ≤ 122 ∧ x = nI y := by
  obtain ⟨y, h1, h2, h3⟩ := inR_a (hi := 122) (lo := 97) (by decide) h
  exact ⟨y, by omega, h1, h3⟩
theorem nm_nu {T : SS} {f : Nat} : ∀ k, (∀ j, j < k → dgt (T (f + j)) = true) → ∃ X, X ≤ 9999 ∧ nuS T f k = nI X ∧ nmS T f k = nI (min X 1000)
  | 0, _ => ⟨0, by omega, rfl, rfl⟩
  | k + 1, h => by
    obtain ⟨X, hX, e1, e2⟩ := nm_nu (T := T) (f := f) k (fun j hj => h j (by omega))
    obtain ⟨y, y1, y2, ey⟩ := dgt_n (h k (by omega))
    have hstep : ∀ V : Nat, V ≤ 1000 → 10 * nI V + T (f + k) - 48 = nI (10 * V + y - 48) := by
      intro V hV
      rw [ey, show (10 : Int32) = nI 10 from rfl, pk_mul, nI_add, show (48 : Int32) = nI 48 from rfl, pk_sub (by omega)]
    have hheld : ∀ V : Nat, V ≤ 20000 → heldS (nI V) 1000 = nI (min V 1000) := by
      intro V hV
      unfold heldS
      by_cases q : V ≤ 1000
      · rw [if_pos (show nI V ≤ (1000 : Int32) from nI_le (a := V) (b := 1000) q (by decide)), show min V 1000 = V by omega]
      · rw [if_neg (show ¬ nI V ≤ (1000 : Int32) from nI_ge (a := 1000) (b := V) (by omega) (by omega)), show min V 1000 = 1000 by omega]
        rfl
    have en : nmS T f (k + 1) = nI (min (10 * min X 1000 + y - 48) 1000) := by
      show heldS (10 * nmS T f k + T (f + k) - 48) 1000 = _
      rw [e2, hstep _ (by omega), hheld _ (by omega)]
    rw [en, show nuS T f (k + 1) = if nuS T f k ≤ 999 then 10 * nuS T f k + T (f + k) - 48 else nuS T f k from rfl, e1]
    by_cases q : X ≤ 999
    · rw [if_pos (show nI X ≤ (999 : Int32) from nI_le (a := X) (b := 999) q (by decide)), hstep _ (by omega)]
      exact ⟨10 * X + y - 48, by omega, rfl, by rw [show min X 1000 = X by omega]⟩
    · rw [if_neg (show ¬ nI X ≤ (999 : Int32) from nI_ge (a := 999) (b := X) (by omega) (by omega))]
      exact ⟨X, hX, rfl, by rw [show min (10 * min X 1000 + y - 48) 1000 = min X 1000 by omega]⟩
/-! words -/
def dT (x : Int32) : Nat := cl x - 96
def wvN (T : SS) (f : Nat) : Nat → Nat
  | 0 => 0
  | k + 1 => if 36028797018963967 < wvN T f k then wvN T f k else 32 * wvN T f k + dT (T (f + k))
theorem wv_N {T : SS} {f : Nat} : ∀ k, (∀ j, j < k → ltr (T (f + j)) = true) → wvS T f k = lN (wvN T f k) ∧ wvN T f k ≤ 1152921504606846970
  | 0, _ => ⟨rfl, Nat.zero_le _⟩
  | k + 1, h => by
    obtain ⟨e, hb⟩ := wv_N (T := T) (f := f) k (fun j hj => h j (by omega))
    obtain ⟨y, y1, y2, ey⟩ := ltr_n (h k (by omega))
    have ed : dT (T (f + k)) = y - 96 := by unfold dT; rw [ey, cl_nI (by omega)]
    rw [show wvS T f (k + 1) = if 36028797018963967 < wvS T f k then wvS T f k else 32 * wvS T f k + (T (f + k) - 96).toInt64 from rfl, show wvN T f (k + 1) = if 36028797018963967 < wvN T f k then wvN T f k else 32 * wvN T f k + dT (T (f + k)) from rfl, e, ed, ey]
    by_cases q : 36028797018963967 < wvN T f k
    · rw [if_pos q, if_pos (show (36028797018963967 : Int64) < lN (wvN T f k) from (pk_lLT (a := 36028797018963967) (by omega) (by omega)).mpr q)]
      exact ⟨rfl, hb⟩
    · rw [if_neg q, if_neg (show ¬ (36028797018963967 : Int64) < lN (wvN T f k) from fun t => q ((pk_lLT (a := 36028797018963967) (by omega) (by omega)).mp t))]
      rw [show (32 : Int64) = lN 32 from rfl, lN_mul, show (96 : Int32) = nI 96 from rfl, pk_sub (by omega), nI_l (by omega), lN_add]
      exact ⟨rfl, by omega⟩
def cdN (s : List Int32) : Nat → Nat
  | 0 => 0
  | k + 1 => 32 * cdN s k + dT (s.getD k 0)
theorem wk {T : SS} {f : Nat} {s : List Int32} (hs : ∀ j, j < s.length → 1 ≤ dT (s.getD j 0) ∧ dT (s.getD j 0) ≤ 26) (hcap : ∀ k, k ≤ s.length → cdN s k ≤ 36028797018963967) : ∀ k, k ≤ s.length → ∀ m, (∀ j, j < m → ltr (T (f + j)) = true) → (wvN T f m = cdN s k ↔ m = k ∧ ∀ j, j < m → dT (T (f + j)) = dT (s.getD j 0))
  | 0, _, 0, _ => ⟨fun _ => ⟨rfl, fun j hj => by omega⟩, fun _ => rfl⟩
  | 0, _, m + 1, h => by
    obtain ⟨y, y1, y2, ey⟩ := ltr_n (h m (by omega))
    have ed : dT (T (f + m)) = y - 96 := by unfold dT; rw [ey, cl_nI (by omega)]
    rw [show wvN T f (m + 1) = if 36028797018963967 < wvN T f m then wvN T f m else 32 * wvN T f m + dT (T (f + m)) from rfl, ed, show cdN s 0 = 0 from rfl]
    constructor
    · intro t
      by_cases q : 36028797018963967 < wvN T f m
      · rw [if_pos q] at t; omega
      · rw [if_neg q] at t; omega
    · intro t; omega
  | k + 1, hk, 0, _ => by
    have h1 := hs k (by omega)
    rw [show wvN T f 0 = 0 from rfl, show cdN s (k + 1) = 32 * cdN s k + dT (s.getD k 0) from rfl]
    constructor
    · intro t; omega
    · intro t; omega
  | k + 1, hk, m + 1, h => by
    have ih := wk hs hcap (T := T) (f := f) k (by omega) m (fun j hj => h j (by omega))
    have h1 := hs k (by omega)
    have h2 := hcap (k + 1) hk
    obtain ⟨y, y1, y2, ey⟩ := ltr_n (h m (by omega))
    have ed : dT (T (f + m)) = y - 96 := by unfold dT; rw [ey, cl_nI (by omega)]
    rw [show cdN s (k + 1) = 32 * cdN s k + dT (s.getD k 0) from rfl] at h2 ⊢
    rw [show wvN T f (m + 1) = if 36028797018963967 < wvN T f m then wvN T f m else 32 * wvN T f m + dT (T (f + m)) from rfl]
    constructor
    · intro t
      by_cases q : 36028797018963967 < wvN T f m
      · rw [if_pos q] at t; omega
      · rw [if_neg q] at t
        obtain ⟨a, b⟩ := ih.mp (by omega)
        refine ⟨by omega, fun j hj => ?_⟩
        by_cases e : j = m
        · subst e; subst a; omega
        · exact b j (by omega)
    · rintro ⟨a, b⟩
      have e1 := ih.mpr ⟨by omega, fun j hj => b j (by omega)⟩
      have e2 := b m (by omega)
      have e3 : m = k := by omega
      rw [e3] at e1 e2 ⊢
      rw [if_neg (by omega), e1, e2]
def wdB (T : SS) (p : Nat × Nat) (s : List Int32) : Bool := decide (p.2 - p.1 = s.length ∧ ∀ j, j < s.length → T (p.1 + j) = s.getD j 0)
def cod (i : Nat) : Int64 := match i with
  | 0 => 441733
  | 1 => 143891634
  | 2 => 3274253490
  | 3 => 19516410020
  | 4 => 437899442
  | 5 => 9314051250
  | 6 => 4775
  | _ => 642894004
theorem str_ok : ∀ i, i < 8 → ((∀ j, j < (am_str.getD i []).length → 97 ≤ cl ((am_str.getD i []).getD j 0) ∧ cl ((am_str.getD i []).getD j 0) ≤ 122 ∧ (am_str.getD i []).getD j 0 = nI (cl ((am_str.getD i []).getD j 0))) ∧ (∀ k, k < (am_str.getD i []).length + 1 → cdN (am_str.getD i []) k ≤ 36028797018963967) ∧ cod i = lN (cdN (am_str.getD i []) (am_str.getD i []).length)) := by decide +kernel
theorem wd_cod {T : SS} {L t i : Nat} (hi : i < 8) (hd : ltr (byt T L (tok T L t).1) = true) : wdB T (tok T L t) (am_str.getD i []) = decide (wdS T L (tok T L t) = cod i) := by
  obtain ⟨s1, s2, s3⟩ := str_ok i hi
  have hl := tok_let hd
  unfold wdS
  rw [if_pos hd]
  generalize hp : tok T L t = p at *
  obtain ⟨e, hb⟩ := wv_N (T := T) (f := p.1) (p.2 - p.1) hl
  have hc := s2 (am_str.getD i []).length (by omega)
  have hk := wk (T := T) (f := p.1) (s := am_str.getD i []) (fun j hj => by
    obtain ⟨a, b, -⟩ := s1 j hj
    unfold dT
    omega) (fun k hk => s2 k (by omega)) (am_str.getD i []).length (Nat.le_refl _) (p.2 - p.1) hl
  unfold wdB
  rw [e, s3]
  generalize am_str.getD i [] = s at *
  refine decide_eq_decide.mpr ?_
  rw [pk_lEQ (by omega) (by omega), hk]
  constructor
  · rintro ⟨a, b⟩
    exact ⟨a, fun j hj => by rw [b j (by omega)]⟩
  · rintro ⟨a, b⟩
    refine ⟨a, fun j hj => ?_⟩
    have b1 := b j (by omega)
    obtain ⟨c1, c2, c3⟩ := s1 j hj
    obtain ⟨y, y1, y2, ey⟩ := ltr_n (hl j (by omega))
    unfold dT at b1
    rw [ey, cl_nI (by omega)] at b1
    rw [ey, c3]
    congr 1
    omega
