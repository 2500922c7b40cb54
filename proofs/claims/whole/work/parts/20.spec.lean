/-! PURE: what a shire of 110 ints does (the layout of the reference's row) -/
abbrev SS : Type := Nat → Int32
def cl (x : Int32) : Nat := x.toNatClampNeg
def it (S : SS) (m k : Nat) : Int32 := S (62 + 7 * m + k)
def si (S : SS) (m k : Nat) (v : Int32) : SS := upd S (62 + 7 * m + k) v
def bz (b : Bool) : Int32 := if b then 1 else 0
/-- x lies from lo to hi -/
def inR (x : Int32) (lo hi : Int) : Bool := decide (lo ≤ x.toInt ∧ x.toInt ≤ hi)
def stepsS (S : SS) (m : Nat) : Int32 :=
  if it S m 0 = 2 then (if it S m 6 = -1 then 1 else 2) else if it S m 0 = 3 then (if S 0 - S 0 / 3 * 3 = 0 then 1 else 0) else if it S m 0 = 4 then 2 else if it S m 0 = 5 then (if it S m 6 = -1 then 1 else 2) + 1 else 1
def digsS (S : SS) (m : Nat) : Int32 := if it S m 0 = 1 then 1 else if it S m 0 = 4 then 1 else if it S m 0 = 3 then -1 else 0
def turnS (S : SS) (m : Nat) : Bool := if it S m 0 = 1 then true else if it S m 0 = 3 then true else if it S m 0 = 4 then decide (it S m 1 / 6 - it S m 1 / 6 / 2 * 2 = 0) else false
def forCellS (S : SS) (m : Nat) : Int32 := if it S m 0 = 1 then 1 else if it S m 0 = 4 then 1 else if it S m 0 = 3 then 0 else 2
def forSecS (S : SS) (m : Nat) : Int32 := if it S m 0 = 2 then 15 else if it S m 0 = 3 then 0 else if it S m 0 = 4 then 14 else if it S m 0 = 5 then 30 else 10
def aimS (S : SS) (m : Nat) : Int32 := if it S m 4 = 1 then it S m 3 else it S m 2
def heldS (v h : Int32) : Int32 := if v ≤ h then v else h
def paidS (S : SS) (m : Nat) (v : Int32) : SS := si S m 5 (heldS (it S m 5 + v) 9999)
def rowsS (S : SS) (m : Nat) (aim : Int32) : Int32 := aim / 6 - it S m 1 / 6
def colsS (S : SS) (m : Nat) (aim : Int32) : Int32 := (aim - aim / 6 * 6) - (it S m 1 - it S m 1 / 6 * 6)
def byRowS (S : SS) (m : Nat) (aim : Int32) : Bool := if rowsS S m aim = 0 then false else if turnS S m then true else decide (colsS S m aim = 0)
def nextS (S : SS) (m : Nat) (aim : Int32) : Int32 := if byRowS S m aim then it S m 1 + (if rowsS S m aim ≤ 0 then -6 else 6) else it S m 1 + (if colsS S m aim ≤ 0 then -1 else 1)
def wayS (S : SS) (m : Nat) : SS := si S m 4 (1 - it S m 4)
def stepS (S : SS) (m : Nat) : SS :=
  if it S m 1 = aimS S m then S
  else if S (2 + 2 * cl (nextS S m (aimS S m))) = 1 then si S m 1 (nextS S m (aimS S m))
  else if digsS S m < 0 then wayS S m
  else si (paidS (upd S (2 + 2 * cl (nextS S m (aimS S m))) 1) m (forCellS S m)) m 1 (if digsS S m = 1 then nextS S m (aimS S m) else it S m 1)
def bringS (S : SS) (m : Nat) : SS :=
  paidS (upd (si (upd S (104 + cl (it S m 6)) (-3)) m 6 (-1)) (3 + 2 * cl (it S m 3)) (heldS (S (3 + 2 * cl (it S m 3)) + 1) 99)) m (forSecS S m)
/-- the least secret that lies at x; 6: none -/
def leastS (S : SS) (x : Int32) : Nat → Nat → Nat
  | 0, k => k
  | f + 1, k => if S (104 + k) = x then k else leastS S x f (k + 1)
def pickS (S : SS) (m : Nat) : SS := if leastS S (it S m 1) 6 0 < 6 then si (upd S (104 + leastS S (it S m 1) 6 0) (-2)) m 6 (nI (leastS S (it S m 1) 6 0)) else S
def look1 (S : SS) (m : Nat) : SS := if it S m 1 = it S m 3 then (if it S m 6 = -1 then S else bringS S m) else (if it S m 6 = -1 then pickS S m else S)
def look2 (S : SS) (m : Nat) : SS := if it S m 1 = aimS S m then wayS S m else S
def lookS (S : SS) (m : Nat) : SS := look2 (look1 S m) m
/-- so many times -/
def itr (f : SS → SS) : Nat → SS → SS
  | 0, S => S
  | n + 1, S => f (itr f n S)
def oneS (S : SS) (m : Nat) : SS := itr (fun S => lookS (stepS S m) m) (cl (stepsS S m)) (lookS S m)
def molS (aw : Int32) (S : SS) (m : Nat) : SS := if nI m = aw then S else oneS S m
def allS (aw : Int32) (S : SS) : Nat → SS
  | 0 => S
  | k + 1 => molS aw (allS aw S k) k
def minS (aw : Int32) (S : SS) : SS := upd (allS aw S (cl (S 1))) 0 (allS aw S (cl (S 1)) 0 + 1)
def goS (aw : Int32) (n : Nat) (S : SS) : SS := itr (minS aw) n S
/-- in how many minutes a place holds v first; at most f -/
def fstS (aw : Int32) (p : Nat) (v : Int32) : Nat → SS → Nat
  | 0, _ => 0
  | f + 1, S => if S p = v then 0 else fstS aw p v f (minS aw S) + 1
def sumS (f : Nat → Int32) : Nat → Int32
  | 0 => 0
  | n + 1 => sumS f n + f n
def orS (f : Nat → Int32) : Nat → Int32
  | 0 => 0
  | n + 1 => orS f n ||| f n
def heapsS (S : SS) : Int32 := sumS (fun c => S (3 + 2 * c)) 30
def dugS (S : SS) : Int32 := orS (fun c => S (2 + 2 * c) <<< (nI c &&& 31)) 30
def secS (S : SS) (x : Int32) : Int32 := orS (fun k => if S (104 + k) = x then 1 <<< (nI k &&& 31) else 0) 6
def handsS (S : SS) : Int32 := sumS (fun m => it S m 5) (cl (S 1))
def atS (S : SS) (x : Int32) : Int32 := orS (fun m => if it S m 1 = x then 1 <<< (nI m &&& 31) else 0) (cl (S 1))
/-- nobody carries it any more -/
def freeS (S : SS) (k : Int32) : Nat → SS
  | 0 => S
  | n + 1 => si (freeS S k n) n 6 (if it (freeS S k n) n 6 = k then -1 else it (freeS S k n) n 6)
def putS (S : SS) (k : Nat) (x : Int32) : SS := upd (freeS S (nI k) (cl (S 1))) (104 + k) x
def addS (S : SS) (k h e : Int32) : SS := si (si (si (si (si (si (si (upd S 1 (S 1 + 1)) (cl (S 1)) 0 k) (cl (S 1)) 1 h) (cl (S 1)) 2 h) (cl (S 1)) 3 e) (cl (S 1)) 4 1) (cl (S 1)) 5 0) (cl (S 1)) 6 (-1)
/-! what the places may hold -/
def loB (i : Nat) : Int := if i < 62 then 0 else if i < 104 then (if (i - 62) % 7 = 6 then -1 else 0) else -3
def hiB (i : Nat) : Int := if i = 1 then 6 else if i < 62 then (if i % 2 = 0 then 1 else 99) else if i < 104 then (if (i - 62) % 7 = 0 then 5 else if (i - 62) % 7 = 4 then 1 else if (i - 62) % 7 = 5 then 9999 else if (i - 62) % 7 = 6 then 5 else 29) else 29
/-- a row that may be, zero behind its end -/
def IV (S : SS) : Prop := (∀ i, 1 ≤ i → i < 110 → loB i ≤ (S i).toInt ∧ (S i).toInt ≤ hiB i) ∧ ∀ i, 110 ≤ i → S i = 0
def CN (S : SS) : Prop := ∀ i, 110 ≤ i → S i = 0
/-! rows of numbers -/
theorem cl_nI {n : Nat} (h : n < 2 ^ 31) : cl (nI n) = n := nI_clamp h
theorem i_spot (m k : Nat) : (62 : Int32) + 7 * nI m + nI k = nI (62 + 7 * m + k) := by
  rw [show (62 : Int32) = nI 62 from rfl, show (7 : Int32) = nI 7 from rfl, pk_mul, nI_add, nI_add]
theorem i_cell (c k : Nat) : (2 : Int32) + 2 * nI c + nI k = nI (2 + 2 * c + k) := by
  rw [show (2 : Int32) = nI 2 from rfl, pk_mul, nI_add, nI_add]
theorem i_sec (k : Nat) : (104 : Int32) + nI k = nI (104 + k) := by
  rw [show (104 : Int32) = nI 104 from rfl, nI_add]
theorem up_up (w : AH) (a : Nat) (x y : Option AC) : va_up (va_up w a x) a y = va_up w a y := by
  funext j
  by_cases h : j = a <;> simp [va_up, h]
theorem up_self {w : AH} {a : Nat} {x : Option AC} (h : w a = x) : va_up w a x = w := by
  funext j
  by_cases hj : j = a
  · subst hj; simp [va_up, h]
  · simp [va_up, hj]
theorem up_cm (w : AH) {a b : Nat} (x y : Option AC) (h : a ≠ b) : va_up (va_up w a x) b y = va_up (va_up w b y) a x := by
  funext j
  by_cases h1 : j = a
  · subst h1; simp [va_up, h]
  · by_cases h2 : j = b
    · subst h2; simp [va_up, h1]
    · simp [va_up, h1, h2]
theorem inR_iff {x : Int32} {lo hi : Int} : inR x lo hi = true ↔ lo ≤ x.toInt ∧ x.toInt ≤ hi := decide_eq_true_iff
theorem inR_nI {x : Int32} {hi : Nat} (h : inR x 0 hi = true) : ∃ j, j ≤ hi ∧ x = nI j := by
  obtain ⟨h1, h2⟩ := inR_iff.mp h
  have h0 : ¬ x < 0 := by
    rw [Int32.lt_iff_toInt_lt, Int32.toInt_zero]; omega
  obtain ⟨j, hj, rfl⟩ := nI_of h0
  rw [nI_toInt hj] at h2
  exact ⟨j, by omega, rfl⟩
theorem bz_0 (b : Bool) : (bz b = 0) = (b = false) := by cases b <;> simp [bz]
theorem bz_1 (b : Bool) : bz b = 0 ∨ bz b = 1 := by cases b <;> simp [bz]
theorem bz_t : bz true = 1 := rfl
theorem bz_f : bz false = 0 := rfl
