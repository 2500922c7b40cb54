/-! the class's shire, written from a row -/
def hpF (S : SS) : SS := fun c => if c < 30 then S (3 + 2 * c) else 0
def lyF (S : SS) : SS := fun k => if k < 6 then S (104 + k) else 0
def arF (S : SS) (k : Nat) : SS := fun m => if m < 6 then it S m k else 0
def shO (b : Nat) (S : SS) : Option AC := am_ob 8 [.ref 1, .int (S 0), .int (dugS S), .int (S 1), .ref (b + 1), .ref (b + 2), .ref (b + 3), .ref (b + 4), .ref (b + 5), .ref (b + 6), .ref (b + 7), .ref (b + 8), .ref (b + 9)]
def SW (w : AH) (b : Nat) (S : SS) : AH := fun i => if i = b then shO b S else if i = b + 1 then am_ia 30 (hpF S) else if i = b + 2 then am_ia 6 (lyF S) else if b + 3 ≤ i ∧ i < b + 10 then am_ia 6 (arF S (i - (b + 3))) else w i
section W1
variable {w : AH} {b : Nat} {S S' : SS}
theorem SW_o : SW w b S b = shO b S := by unfold SW; rw [if_pos rfl]
theorem SW_h : SW w b S (b + 1) = am_ia 30 (hpF S) := by unfold SW; rw [if_neg (by omega), if_pos rfl]
theorem SW_l : SW w b S (b + 2) = am_ia 6 (lyF S) := by unfold SW; rw [if_neg (by omega), if_neg (by omega), if_pos rfl]
theorem SW_a {k : Nat} (hk : k < 7) : SW w b S (b + 3 + k) = am_ia 6 (arF S k) := by
  unfold SW; rw [if_neg (by omega), if_neg (by omega), if_neg (by omega), if_pos (by omega), show b + 3 + k - (b + 3) = k by omega]
theorem SW_a0 : SW w b S (b + 3) = am_ia 6 (arF S 0) := SW_a (k := 0) (by decide)
theorem SW_a1 : SW w b S (b + 4) = am_ia 6 (arF S 1) := SW_a (k := 1) (by decide)
theorem SW_a2 : SW w b S (b + 5) = am_ia 6 (arF S 2) := SW_a (k := 2) (by decide)
theorem SW_a3 : SW w b S (b + 6) = am_ia 6 (arF S 3) := SW_a (k := 3) (by decide)
theorem SW_a4 : SW w b S (b + 7) = am_ia 6 (arF S 4) := SW_a (k := 4) (by decide)
theorem SW_a5 : SW w b S (b + 8) = am_ia 6 (arF S 5) := SW_a (k := 5) (by decide)
theorem SW_a6 : SW w b S (b + 9) = am_ia 6 (arF S 6) := SW_a (k := 6) (by decide)
theorem SW_x {i : Nat} (h : i < b ∨ b + 10 ≤ i) : SW w b S i = w i := by
  unfold SW; rw [if_neg (by omega), if_neg (by omega), if_neg (by omega), if_neg (by omega)]
theorem SW_SW : SW (SW w b S) b S' = SW w b S' := by
  funext i
  unfold SW
  split
  · rfl
  split
  · rfl
  split
  · rfl
  split
  · rfl
  · rfl
theorem orS_c {f g : Nat → Int32} : ∀ n, (∀ c, c < n → f c = g c) → orS f n = orS g n
  | 0, _ => rfl
  | n + 1, h => by
    unfold orS
    rw [orS_c n (fun c hc => h c (by omega)), h n (by omega)]
theorem dug_n {i : Nat} {v : Int32} (hi : ∀ c, c < 30 → 2 + 2 * c ≠ i) : dugS (upd S i v) = dugS S :=
  orS_c 30 fun c hc => by rw [upd_n (hi c hc)]
/-- two shires that differ in one array -/
theorem SW_one {j : Nat} {x : Option AC} (hj : b < j) (hj2 : j < b + 10) (ho : shO b S = shO b S') (hx : SW w b S' j = x) (hr : ∀ i, b < i → i < b + 10 → i ≠ j → SW w b S i = SW w b S' i) : va_up (SW w b S) j x = SW w b S' := by
  funext i
  by_cases e : i = j
  · subst e; rw [z_upd, hx]
  rw [z_upn e]
  by_cases e1 : i = b
  · subst e1; rw [SW_o, SW_o, ho]
  by_cases e2 : b < i ∧ i < b + 10
  · exact hr i e2.1 e2.2 e
  · rw [SW_x (by omega), SW_x (by omega)]
theorem SW_f (hh : hpF S = hpF S') (hl : lyF S = lyF S') (ha : ∀ k, k < 7 → arF S k = arF S' k) : ∀ i, b < i → i < b + 10 → SW w b S i = SW w b S' i := by
  intro i h1 h2
  by_cases e1 : i = b + 1
  · subst e1; rw [SW_h, SW_h, hh]
  by_cases e2 : i = b + 2
  · subst e2; rw [SW_l, SW_l, hl]
  obtain ⟨k, rfl⟩ : ∃ k, i = b + 3 + k := ⟨i - (b + 3), by omega⟩
  rw [SW_a (by omega), SW_a (by omega), ha k (by omega)]
theorem hpF_n {i : Nat} {v : Int32} (hi : ∀ c, c < 30 → 3 + 2 * c ≠ i) : hpF (upd S i v) = hpF S := by
  funext c; unfold hpF
  split
  · rw [upd_n (hi c (by assumption))]
  · rfl
theorem lyF_n {i : Nat} {v : Int32} (hi : ∀ c, c < 6 → 104 + c ≠ i) : lyF (upd S i v) = lyF S := by
  funext c; unfold lyF
  split
  · rw [upd_n (hi c (by assumption))]
  · rfl
theorem arF_n {i k : Nat} {v : Int32} (hi : ∀ m, m < 6 → 62 + 7 * m + k ≠ i) : arF (upd S i v) k = arF S k := by
  funext c; unfold arF it
  split
  · rw [upd_n (hi c (by assumption))]
  · rfl
theorem hpF_s {c : Nat} {v : Int32} (hc : c < 30) : hpF (upd S (3 + 2 * c) v) = upd (hpF S) c v := by
  funext e
  by_cases h : e = c
  · subst h; rw [upd_s]; unfold hpF; rw [if_pos hc, upd_s]
  · rw [upd_n h]; unfold hpF
    split
    · rw [upd_n (by omega)]
    · rfl
theorem lyF_s {c : Nat} {v : Int32} (hc : c < 6) : lyF (upd S (104 + c) v) = upd (lyF S) c v := by
  funext e
  by_cases h : e = c
  · subst h; rw [upd_s]; unfold lyF; rw [if_pos hc, upd_s]
  · rw [upd_n h]; unfold lyF
    split
    · rw [upd_n (by omega)]
    · rfl
theorem arF_s {m k : Nat} {v : Int32} (hm : m < 6) : arF (si S m k v) k = upd (arF S k) m v := by
  funext e
  by_cases h : e = m
  · subst h; rw [upd_s]; unfold arF; rw [if_pos hm, it_s]
  · rw [upd_n h]; unfold arF it si
    split
    · rw [upd_n (by omega)]
    · rfl
end W1
