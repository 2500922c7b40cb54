/-! PURE: what is kept between two calls, and what each call does to it -/
abbrev MS : Type := SS × Int32 × SS × SS × Int32 × SS × SS × SS × (Nat → Int64)
def MS.S (σ : MS) : SS := σ.1
def MS.kb (σ : MS) : Int32 := σ.2.1
def MS.K (σ : MS) : SS := σ.2.2.1
def MS.ct (σ : MS) : SS := σ.2.2.2.1
def MS.tp (σ : MS) : Int32 := σ.2.2.2.2.1
def MS.T (σ : MS) : SS := σ.2.2.2.2.2.1
def MS.bs (σ : MS) : SS := σ.2.2.2.2.2.2.1
def MS.zs (σ : MS) : SS := σ.2.2.2.2.2.2.2.1
def MS.ns (σ : MS) : Nat → Int64 := σ.2.2.2.2.2.2.2.2
def MS.wS (σ : MS) (x : SS) : MS := (x, σ.2)
def MS.wkb (σ : MS) (x : Int32) : MS := (σ.1, x, σ.2.2)
def MS.wK (σ : MS) (x : SS) : MS := (σ.1, σ.2.1, x, σ.2.2.2)
def MS.wct (σ : MS) (x : SS) : MS := (σ.1, σ.2.1, σ.2.2.1, x, σ.2.2.2.2)
def MS.wtp (σ : MS) (x : Int32) : MS := (σ.1, σ.2.1, σ.2.2.1, σ.2.2.2.1, x, σ.2.2.2.2.2)
def MS.wT (σ : MS) (x : SS) : MS := (σ.1, σ.2.1, σ.2.2.1, σ.2.2.2.1, σ.2.2.2.2.1, x, σ.2.2.2.2.2.2)
def MS.wbs (σ : MS) (x : SS) : MS := (σ.1, σ.2.1, σ.2.2.1, σ.2.2.2.1, σ.2.2.2.2.1, σ.2.2.2.2.2.1, x, σ.2.2.2.2.2.2.2)
def MS.wzs (σ : MS) (x : SS) : MS := (σ.1, σ.2.1, σ.2.2.1, σ.2.2.2.1, σ.2.2.2.2.1, σ.2.2.2.2.2.1, σ.2.2.2.2.2.2.1, x, σ.2.2.2.2.2.2.2.2)
def MS.wns (σ : MS) (x : Nat → Int64) : MS := (σ.1, σ.2.1, σ.2.2.1, σ.2.2.2.1, σ.2.2.2.2.1, σ.2.2.2.2.2.1, σ.2.2.2.2.2.2.1, σ.2.2.2.2.2.2.2.1, x)
abbrev PR : Type := Int32 × MS
def fnd (σ : MS) (k : Nat) : PR := (-1000000001 - nI k, σ.wct (upd σ.ct k (σ.ct k + 1)))
def put_ (σ : MS) (p : Nat) (v : Int32) : PR := (σ.S p, σ.wS (upd σ.S p v))
def isM (σ : MS) (m : Int32) : Bool := inR m 0 ((σ.S 1).toInt - 1)
def P_cell (σ : MS) (c k v : Int32) : PR := if inR c 0 29 = true ∧ inR k 0 1 = true ∧ inR v 0 (if k = 0 then 1 else 99) = true then put_ σ (2 + 2 * cl c + cl k) v else fnd σ 0
def P_cellOf (σ : MS) (c k : Int32) : PR := if inR c 0 29 = true ∧ inR k 0 3 = true then (if k = 0 then σ.S (2 + 2 * cl c) else if k = 1 then σ.S (3 + 2 * cl c) else if k = 2 then atS σ.S c else secS σ.S c, σ) else fnd σ 0
def P_tell (σ : MS) (k c : Int32) : PR := if inR k 0 5 = true ∧ inR c (-1) 29 = true then (σ.S (104 + cl k), σ.wS (putS σ.S (cl k) c)) else fnd σ 0
def P_where (σ : MS) (k : Int32) : PR := if inR k 0 5 = true then (σ.S (104 + cl k), σ) else fnd σ 0
def P_now (σ : MS) (k : Int32) : PR := if k = 0 then (σ.S 0, σ) else if k = 1 then (dugS σ.S, σ) else if k = 2 then (heapsS σ.S, σ) else if k = 3 then (secS σ.S (-3), σ) else if k = 4 then (secS σ.S (-2), σ) else if k = 5 then (handsS σ.S, σ) else fnd σ 0
def P_mole (σ : MS) (k h e : Int32) : PR := if inR k 0 5 = true ∧ inR h 0 29 = true ∧ inR e 0 29 = true then (if σ.S 1 = 6 then fnd σ 1 else (σ.S 1, σ.wS (addS σ.S k h e))) else fnd σ 0
def P_of (σ : MS) (m k : Int32) : PR := if isM σ m = true ∧ inR k 0 9 = true then (if k ≤ 6 then it σ.S (cl m) (cl k) else if k = 7 then stepsS σ.S (cl m) else if k = 8 then 1 + digsS σ.S (cl m) else bz (turnS σ.S (cl m)), σ) else fnd σ 0
def P_charges (σ : MS) (m k : Int32) : PR := if isM σ m = true ∧ inR k 0 1 = true then (if k = 0 then forCellS σ.S (cl m) else forSecS σ.S (cl m), σ) else fnd σ 0
def P_set (σ : MS) (m k v : Int32) : PR := if isM σ m = true ∧ inR k 1 5 = true ∧ inR v 0 (if k = 4 then 1 else if k = 5 then 9999 else 29) = true then put_ σ (62 + 7 * cl m + cl k) v else fnd σ 0
def P_turn (σ : MS) (m k : Int32) : PR := if isM σ m = true ∧ inR k 0 5 = true then put_ σ (62 + 7 * cl m + 0) k else fnd σ 0
def undr (k o : Int32) : Bool := decide (o = 0 ∨ k = o ∨ (k = 4 ∧ o = 1) ∨ (k = 5 ∧ o = 2))
def P_as (σ : MS) (m k : Int32) : PR := if isM σ m = true ∧ inR k 0 5 = true then (if undr (it σ.S (cl m) 0) k = true then (it σ.S (cl m) 5, σ) else fnd σ 2) else fnd σ 0
def P_minutes (σ : MS) (N : Int32) : PR := if inR N 1 100 = true then (if σ.S 0 + N ≤ 99999 then (secS (goS (-1) (cl N) σ.S) (-3), σ.wS (goS (-1) (cl N) σ.S)) else fnd σ 4) else fnd σ 0
def P_on (σ : MS) (m N k : Int32) : PR := if isM σ m = true ∧ inR N 0 200 = true ∧ inR k 0 2 = true then (goS (-1) (cl N) σ.S (62 + 7 * cl m + (if k = 0 then 1 else if k = 1 then 5 else 6)), σ) else fnd σ 0
def P_then (σ : MS) (k N : Int32) : PR := if inR k 0 5 = true ∧ inR N 0 200 = true then (goS (-1) (cl N) σ.S (104 + cl k), σ) else fnd σ 0
def told (σ : MS) (p : Nat) (v : Int32) : PR := if fstS (-1) p v 201 σ.S ≤ 200 then (nI (fstS (-1) p v 201 σ.S), σ) else fnd σ 3
def P_out (σ : MS) (k : Int32) : PR := if inR k 0 5 = true then told σ (104 + cl k) (-3) else fnd σ 0
def P_dug (σ : MS) (c : Int32) : PR := if inR c 0 29 = true then told σ (2 + 2 * cl c + 0) 1 else fnd σ 0
def P_comes (σ : MS) (m c : Int32) : PR := if isM σ m = true ∧ inR c 0 29 = true then told σ (62 + 7 * cl m + 1) c else fnd σ 0
/-- the best of the first so many: the least number, the first that has it -/
def bestS (f : Nat → Int32) (b0 : Int32) (v0 : Int32) : Nat → Int32 × Int32
  | 0 => (b0, v0)
  | j + 1 => if f j < (bestS f b0 v0 j).2 then (nI j, f j) else bestS f b0 v0 j
def mostS (f : Nat → Int32) (b0 : Int32) (v0 : Int32) : Nat → Int32 × Int32
  | 0 => (b0, v0)
  | j + 1 => if (mostS f b0 v0 j).2 < f j then (nI j, f j) else mostS f b0 v0 j
def P_kind (σ : MS) (m k : Int32) : PR := if isM σ m = true ∧ inR k 0 5 = true then ((bestS (fun j => nI (fstS (-1) (104 + cl k) (-3) 201 (si σ.S (cl m) 0 (nI j)))) 0 202 6).1, σ) else fnd σ 0
def P_lead (σ : MS) (m N : Int32) : PR := if isM σ m = true ∧ inR N 1 60 = true then ((mostS (fun c => outS (goS (-1) (cl N) (si σ.S (cl m) 3 (nI c)))) 0 (-1) 30).1, σ) else fnd σ 0
def digB (S : SS) (N : Nat) : Nat → Int32 × Int32
  | 0 => (-1, 999999)
  | c + 1 => if S (2 + 2 * c) = 1 then digB S N c else if handsS (goS (-1) N (upd S (2 + 2 * c) 1)) < (digB S N c).2 then (nI c, handsS (goS (-1) N (upd S (2 + 2 * c) 1))) else digB S N c
def P_dig (σ : MS) (N : Int32) : PR := if inR N 1 60 = true then (if (digB σ.S (cl N) 30).1 < 0 then fnd σ 3 else ((digB σ.S (cl N) 30).1, σ)) else fnd σ 0
def P_leave (σ : MS) (k : Int32) : PR := if inR k 0 5 = true then (if (bestS (fun c => nI (fstS (-1) (104 + cl k) (-3) 61 (putS σ.S (cl k) (nI c)))) (-1) 61 30).1 < 0 then fnd σ 3 else ((bestS (fun c => nI (fstS (-1) (104 + cl k) (-3) 61 (putS σ.S (cl k) (nI c)))) (-1) 61 30).1, σ)) else fnd σ 0
def P_dismiss (σ : MS) (N : Int32) : PR := if inR N 1 60 = true then (if (bestS (fun m => handsS (goS (nI m) (cl N) σ.S)) (-1) 999999 (cl (σ.S 1))).1 < 0 then fnd σ 3 else ((bestS (fun m => handsS (goS (nI m) (cl N) σ.S)) (-1) 999999 (cl (σ.S 1))).1, σ)) else fnd σ 0
/-- the first of those with the most in its hands -/
def richS (S : SS) : Nat → Nat
  | 0 => 0
  | j + 1 => if it S (richS S j) 5 < it S (j + 1) 5 then j + 1 else richS S j
def P_richest (σ : MS) (N : Int32) : PR := if inR N 0 200 = true then (if σ.S 1 = 0 then fnd σ 3 else (nI (richS (goS (-1) (cl N) σ.S) (cl (σ.S 1) - 1)), σ)) else fnd σ 0
/-- what may be kept -/
def mnB (S : SS) : Prop := 0 ≤ (S 0).toInt ∧ (S 0).toInt ≤ 99999
def WF (σ : MS) : Prop := (IV σ.S) ∧ (mnB σ.S) ∧ (σ.kb = 0 ∨ σ.kb = 1) ∧ (CN σ.K) ∧ (σ.kb = 1 → IV σ.K ∧ mnB σ.K) ∧ (∃ t, t ≤ 120 ∧ σ.tp = nI t) ∧ (∀ i, 0 ≤ (σ.T i).toInt ∧ (σ.T i).toInt ≤ 255) ∧ (∀ i, i < 4 → σ.bs i = 0 ∨ σ.bs i = 8 ∨ σ.bs i = 16 ∨ σ.bs i = 64) ∧ (∀ i, i < 4 → ∃ z, z ≤ 40 ∧ σ.zs i = nI z) ∧ (∀ i, i < 4 → σ.bs i = 0 → σ.zs i = 0)
theorem WF.s {σ : MS} (h : WF σ) : IV σ.S := h.1
theorem WF.m {σ : MS} (h : WF σ) : mnB σ.S := h.2.1
theorem WF.b {σ : MS} (h : WF σ) : σ.kb = 0 ∨ σ.kb = 1 := h.2.2.1
theorem WF.kc {σ : MS} (h : WF σ) : CN σ.K := h.2.2.2.1
theorem WF.k {σ : MS} (h : WF σ) : σ.kb = 1 → IV σ.K ∧ mnB σ.K := h.2.2.2.2.1
theorem WF.tp {σ : MS} (h : WF σ) : ∃ t, t ≤ 120 ∧ σ.tp = nI t := h.2.2.2.2.2.1
theorem WF.tb {σ : MS} (h : WF σ) : ∀ i, 0 ≤ (σ.T i).toInt ∧ (σ.T i).toInt ≤ 255 := h.2.2.2.2.2.2.1
theorem WF.bs {σ : MS} (h : WF σ) : ∀ i, i < 4 → σ.bs i = 0 ∨ σ.bs i = 8 ∨ σ.bs i = 16 ∨ σ.bs i = 64 := h.2.2.2.2.2.2.2.1
theorem WF.zs {σ : MS} (h : WF σ) : ∀ i, i < 4 → ∃ z, z ≤ 40 ∧ σ.zs i = nI z := h.2.2.2.2.2.2.2.2.1
theorem WF.zb {σ : MS} (h : WF σ) : ∀ i, i < 4 → σ.bs i = 0 → σ.zs i = 0 := h.2.2.2.2.2.2.2.2.2
/-- the reference holds it -/
def MX (w : AH) (σ : MS) : Prop := (∃ fr to va wr, w 51 = mo σ.kb (-1) σ.tp fr to va wr) ∧ (w 52 = am_ia 110 σ.S) ∧ (w 53 = am_ia 110 σ.K) ∧ (∃ O, w 54 = am_ia 110 O ∧ CN O) ∧ (∃ A, w 55 = am_ia 110 A ∧ CN A) ∧ (w 56 = am_ia 7 σ.ct) ∧ (w 57 = am_ia 120 σ.T) ∧ (w 58 = am_ia 4 σ.bs) ∧ (w 59 = am_ia 4 σ.zs) ∧ (w 60 = am_la 160 σ.ns) ∧ (∃ f, w 61 = am_la 40 f)
theorem MX.o {w : AH} {σ : MS} (h : MX w σ) : ∃ fr to va wr, w 51 = mo σ.kb (-1) σ.tp fr to va wr := h.1
theorem MX.s {w : AH} {σ : MS} (h : MX w σ) : w 52 = am_ia 110 σ.S := h.2.1
theorem MX.k {w : AH} {σ : MS} (h : MX w σ) : w 53 = am_ia 110 σ.K := h.2.2.1
theorem MX.ot {w : AH} {σ : MS} (h : MX w σ) : ∃ O, w 54 = am_ia 110 O ∧ CN O := h.2.2.2.1
theorem MX.ad {w : AH} {σ : MS} (h : MX w σ) : ∃ A, w 55 = am_ia 110 A ∧ CN A := h.2.2.2.2.1
theorem MX.ct {w : AH} {σ : MS} (h : MX w σ) : w 56 = am_ia 7 σ.ct := h.2.2.2.2.2.1
theorem MX.tp {w : AH} {σ : MS} (h : MX w σ) : w 57 = am_ia 120 σ.T := h.2.2.2.2.2.2.1
theorem MX.bs {w : AH} {σ : MS} (h : MX w σ) : w 58 = am_ia 4 σ.bs := h.2.2.2.2.2.2.2.1
theorem MX.zs {w : AH} {σ : MS} (h : MX w σ) : w 59 = am_ia 4 σ.zs := h.2.2.2.2.2.2.2.2.1
theorem MX.ns {w : AH} {σ : MS} (h : MX w σ) : w 60 = am_la 160 σ.ns := h.2.2.2.2.2.2.2.2.2.1
theorem MX.mv {w : AH} {σ : MS} (h : MX w σ) : ∃ f, w 61 = am_la 40 f := h.2.2.2.2.2.2.2.2.2.2
/-- nothing changes but the reference -/
def AW (w w' : AH) : Prop := ∀ i, i < 51 ∨ 61 < i → w' i = w i
theorem AW.rf (w : AH) : AW w w := fun _ _ => rfl
theorem AW.up {w w' : AH} (h : AW w w') {a : Nat} {x : Option AC} (h1 : 51 ≤ a) (h2 : a ≤ 61) : AW w (va_up w' a x) := fun i hi => by rw [z_upn (by omega)]; exact h i hi
theorem MX.us {w : AH} {σ : MS} (h : MX w σ) {S' : SS} : MX (va_up w 52 (am_ia 110 S')) (σ.wS S') := by
  refine ⟨?_, ?_, ?_, ?_, ?_, ?_, ?_, ?_, ?_, ?_, ?_⟩
  · obtain ⟨a, b, c, e, g⟩ := h.o; exact ⟨a, b, c, e, by rw [z_upn (by decide)]; exact g⟩
  · exact z_upd
  · rw [z_upn (by decide)]; exact h.k
  · obtain ⟨O, a, b⟩ := h.ot; exact ⟨O, by rw [z_upn (by decide)]; exact a, b⟩
  · obtain ⟨O, a, b⟩ := h.ad; exact ⟨O, by rw [z_upn (by decide)]; exact a, b⟩
  · rw [z_upn (by decide)]; exact h.ct
  · rw [z_upn (by decide)]; exact h.tp
  · rw [z_upn (by decide)]; exact h.bs
  · rw [z_upn (by decide)]; exact h.zs
  · rw [z_upn (by decide)]; exact h.ns
  · obtain ⟨O, a⟩ := h.mv; exact ⟨O, by rw [z_upn (by decide)]; exact a⟩
theorem MX.ua {w : AH} {σ : MS} (h : MX w σ) {A : SS} (hA : CN A) : MX (va_up w 55 (am_ia 110 A)) σ := by
  refine ⟨?_, ?_, ?_, ?_, ?_, ?_, ?_, ?_, ?_, ?_, ?_⟩
  · obtain ⟨a, b, c, e, g⟩ := h.o; exact ⟨a, b, c, e, by rw [z_upn (by decide)]; exact g⟩
  · rw [z_upn (by decide)]; exact h.s
  · rw [z_upn (by decide)]; exact h.k
  · obtain ⟨O, a, b⟩ := h.ot; exact ⟨O, by rw [z_upn (by decide)]; exact a, b⟩
  · exact ⟨A, z_upd, hA⟩
  · rw [z_upn (by decide)]; exact h.ct
  · rw [z_upn (by decide)]; exact h.tp
  · rw [z_upn (by decide)]; exact h.bs
  · rw [z_upn (by decide)]; exact h.zs
  · rw [z_upn (by decide)]; exact h.ns
  · obtain ⟨O, a⟩ := h.mv; exact ⟨O, by rw [z_upn (by decide)]; exact a⟩
theorem MX.uc {w : AH} {σ : MS} (h : MX w σ) {c' : SS} : MX (va_up w 56 (am_ia 7 c')) (σ.wct c') := by
  refine ⟨?_, ?_, ?_, ?_, ?_, ?_, ?_, ?_, ?_, ?_, ?_⟩
  · obtain ⟨a, b, c, e, g⟩ := h.o; exact ⟨a, b, c, e, by rw [z_upn (by decide)]; exact g⟩
  · rw [z_upn (by decide)]; exact h.s
  · rw [z_upn (by decide)]; exact h.k
  · obtain ⟨O, a, b⟩ := h.ot; exact ⟨O, by rw [z_upn (by decide)]; exact a, b⟩
  · obtain ⟨O, a, b⟩ := h.ad; exact ⟨O, by rw [z_upn (by decide)]; exact a, b⟩
  · exact z_upd
  · rw [z_upn (by decide)]; exact h.tp
  · rw [z_upn (by decide)]; exact h.bs
  · rw [z_upn (by decide)]; exact h.zs
  · rw [z_upn (by decide)]; exact h.ns
  · obtain ⟨O, a⟩ := h.mv; exact ⟨O, by rw [z_upn (by decide)]; exact a⟩
theorem bz_it {b : Bool} (h : b = true) {A B : Prop} : (if bz b = 0 then A else B) = B := by subst h; rfl
theorem bz_if {b : Bool} (h : ¬ b = true) {A B : Prop} : (if bz b = 0 then A else B) = A := by cases b <;> simp_all [bz]
theorem inR_c {x : Int32} (h : inR x 0 29 = true) : ∃ j, j < 30 ∧ x = nI j := by
  obtain ⟨j, h1, h2⟩ := inR_nI (hi := 29) h; exact ⟨j, by omega, h2⟩
theorem inR_6 {x : Int32} (h : inR x 0 5 = true) : ∃ j, j < 6 ∧ x = nI j := by
  obtain ⟨j, h1, h2⟩ := inR_nI (hi := 5) h; exact ⟨j, by omega, h2⟩
theorem inR_a {x : Int32} {lo : Int} {hi : Nat} (hl : 0 ≤ lo) (h : inR x lo hi = true) : ∃ j, j ≤ hi ∧ lo ≤ (j : Int) ∧ x = nI j := by
  obtain ⟨a, b⟩ := inR_iff.mp h
  obtain ⟨j, h1, h2⟩ := inR_nI (x := x) (hi := hi) (inR_iff.mpr ⟨by omega, b⟩)
  by_cases hj : j < 2 ^ 31
  · subst h2
    rw [nI_toInt hj] at a
    exact ⟨j, h1, a, rfl⟩
  · refine ⟨cl x, ?_, ?_, ?_⟩
    · have : (cl x : Int) = x.toInt := by unfold cl; rw [Int32.toNatClampNeg]; omega
      omega
    · have : (cl x : Int) = x.toInt := by unfold cl; rw [Int32.toNatClampNeg]; omega
      omega
    · have h0 : ¬ x < 0 := by
        rw [Int32.lt_iff_toInt_lt, Int32.toInt_zero]; omega
      obtain ⟨i, hi, rfl⟩ := nI_of h0
      rw [cl_nI hi]
theorem isM_m {σ : MS} (hI : IV σ.S) {x : Int32} (h : isM σ x = true) : ∃ m, m < 6 ∧ m < cl (σ.S 1) ∧ x = nI m := by
  obtain ⟨M, hM, e⟩ := hI.cnt
  unfold isM at h
  rw [e, nI_toInt (by omega)] at h
  rw [e, cl_nI (by omega)]
  obtain ⟨a, b⟩ := inR_iff.mp h
  have h0 : ¬ x < 0 := by
    rw [Int32.lt_iff_toInt_lt, Int32.toInt_zero]; omega
  obtain ⟨i, hi, rfl⟩ := nI_of h0
  rw [nI_toInt hi] at b
  exact ⟨i, by omega, by omega, rfl⟩
