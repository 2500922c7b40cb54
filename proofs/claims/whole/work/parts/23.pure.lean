/-! the rows stay within their bounds -/
def loK (k : Nat) : Int := if k = 6 then -1 else 0
def hiK (k : Nat) : Int := if k = 0 then 5 else if k = 4 then 1 else if k = 5 then 9999 else if k = 6 then 5 else 29
theorem loB_it {m k : Nat} (hm : m < 6) (hk : k < 7) : loB (62 + 7 * m + k) = loK k := by
  unfold loB loK
  rw [if_neg (by omega), if_pos (by omega), show (62 + 7 * m + k - 62) % 7 = k by omega]
theorem hiB_it {m k : Nat} (hm : m < 6) (hk : k < 7) : hiB (62 + 7 * m + k) = hiK k := by
  unfold hiB hiK
  rw [if_neg (by omega), if_neg (by omega), if_pos (by omega), show (62 + 7 * m + k - 62) % 7 = k by omega]
theorem upd_s {S : SS} {i : Nat} {v : Int32} : upd S i v i = v := pk_us
theorem upd_n {S : SS} {i j : Nat} {v : Int32} (h : j ≠ i) : upd S i v j = S j := pk_un h
theorem IV.up {S : SS} (hI : IV S) {i : Nat} {v : Int32} (hi : i < 110) (hv : 1 ≤ i → loB i ≤ v.toInt ∧ v.toInt ≤ hiB i) : IV (upd S i v) := by
  refine ⟨fun j h1 h2 => ?_, fun j h => ?_⟩
  · by_cases hj : j = i
    · subst hj; rw [upd_s]; exact hv h1
    · rw [upd_n hj]; exact hI.1 j h1 h2
  · rw [upd_n (by omega)]; exact hI.2 j h
theorem IV.sk {S : SS} (hI : IV S) {m k : Nat} {v : Int32} (hm : m < 6) (hk : k < 7) (hv : loK k ≤ v.toInt ∧ v.toInt ≤ hiK k) : IV (si S m k v) :=
  hI.up (by omega) (fun _ => by rw [loB_it hm hk, hiB_it hm hk]; exact hv)
theorem IV.ik {S : SS} (hI : IV S) {m k : Nat} (hm : m < 6) (hk : k < 7) : loK k ≤ (it S m k).toInt ∧ (it S m k).toInt ≤ hiK k := by
  have h := hI.1 (62 + 7 * m + k) (by omega) (by omega)
  rw [loB_it hm hk, hiB_it hm hk] at h
  exact h
theorem nI_ofI {x : Int32} {hi : Nat} (h0 : 0 ≤ x.toInt) (h1 : x.toInt ≤ hi) : ∃ j, j ≤ hi ∧ x = nI j := inR_nI (inR_iff.mpr ⟨h0, h1⟩)
theorem IV.cel {S : SS} (hI : IV S) {m k : Nat} (hm : m < 6) (hk : k = 1 ∨ k = 2 ∨ k = 3) : ∃ j, j < 30 ∧ it S m k = nI j := by
  have h := hI.ik hm (show k < 7 by omega)
  obtain ⟨j, hj, e⟩ := nI_ofI (x := it S m k) (hi := 29) (by rcases hk with rfl | rfl | rfl <;> exact h.1) (by rcases hk with rfl | rfl | rfl <;> exact h.2)
  exact ⟨j, by omega, e⟩
theorem IV.knd {S : SS} (hI : IV S) {m : Nat} (hm : m < 6) : ∃ j, j < 6 ∧ it S m 0 = nI j := by
  have h := hI.ik hm (show 0 < 7 by omega)
  obtain ⟨j, hj, e⟩ := nI_ofI (x := it S m 0) (hi := 5) h.1 h.2
  exact ⟨j, by omega, e⟩
theorem IV.way {S : SS} (hI : IV S) {m : Nat} (hm : m < 6) : it S m 4 = 0 ∨ it S m 4 = 1 := by
  have h := hI.ik hm (show 4 < 7 by omega)
  obtain ⟨j, hj, e⟩ := nI_ofI (x := it S m 4) (hi := 1) h.1 h.2
  rcases (by omega : j = 0 ∨ j = 1) with rfl | rfl
  · exact Or.inl e
  · exact Or.inr e
theorem IV.car {S : SS} (hI : IV S) {m : Nat} (hm : m < 6) : it S m 6 = -1 ∨ ∃ j, j < 6 ∧ it S m 6 = nI j := by
  have h := hI.ik hm (show 6 < 7 by omega)
  have h1 : (-1 : Int) ≤ (it S m 6).toInt := h.1
  have h2 : (it S m 6).toInt ≤ 5 := h.2
  by_cases h3 : 0 ≤ (it S m 6).toInt
  · obtain ⟨j, hj, e⟩ := nI_ofI (x := it S m 6) (hi := 5) h3 h2
    exact Or.inr ⟨j, by omega, e⟩
  · refine Or.inl (Int32.toInt_inj.mp ?_)
    rw [show ((-1 : Int32)).toInt = -1 by decide]
    omega
theorem IV.cnt {S : SS} (hI : IV S) : ∃ M, M ≤ 6 ∧ S 1 = nI M := by
  obtain ⟨h1, h2⟩ := hI.1 1 (by omega) (by omega)
  exact nI_ofI (hi := 6) h1 h2
theorem IV.m6 {S : SS} (hI : IV S) : cl (S 1) ≤ 6 ∧ S 1 = nI (cl (S 1)) := by
  obtain ⟨M, h1, h2⟩ := hI.cnt
  rw [h2, cl_nI (by omega)]
  exact ⟨h1, rfl⟩
theorem IV.aim {S : SS} (hI : IV S) {m : Nat} (hm : m < 6) : ∃ j, j < 30 ∧ aimS S m = nI j := by
  unfold aimS
  by_cases h : it S m 4 = 1
  · rw [if_pos h]; exact hI.cel hm (by omega)
  · rw [if_neg h]; exact hI.cel hm (by omega)
/-- the next cell, by numbers alone -/
def nxf (a e : Int32) (t : Bool) : Int32 :=
  if (if e / 6 - a / 6 = 0 then false else if t then true else decide ((e - e / 6 * 6) - (a - a / 6 * 6) = 0)) then a + (if e / 6 - a / 6 ≤ 0 then -6 else 6) else a + (if (e - e / 6 * 6) - (a - a / 6 * 6) ≤ 0 then -1 else 1)
theorem nextS_nxf (S : SS) (m : Nat) (e : Int32) : nextS S m e = nxf (it S m 1) e (turnS S m) := rfl
theorem nxf_in : ∀ a, a < 30 → ∀ e, e < 30 → (a = e ∨ ((nxf (nI a) (nI e) true = nI (cl (nxf (nI a) (nI e) true)) ∧ cl (nxf (nI a) (nI e) true) < 30) ∧ (nxf (nI a) (nI e) false = nI (cl (nxf (nI a) (nI e) false)) ∧ cl (nxf (nI a) (nI e) false) < 30))) := by decide +kernel
theorem IV.nxt {S : SS} (hI : IV S) {m : Nat} (hm : m < 6) (h : it S m 1 ≠ aimS S m) : nextS S m (aimS S m) = nI (cl (nextS S m (aimS S m))) ∧ cl (nextS S m (aimS S m)) < 30 := by
  obtain ⟨a, ha, ea⟩ := hI.cel hm (show 1 = 1 ∨ 1 = 2 ∨ 1 = 3 by omega)
  obtain ⟨b, hb, eb⟩ := hI.aim hm
  rw [nextS_nxf, ea, eb]
  have hne : a ≠ b := fun q => h (by rw [ea, eb, q])
  rcases nxf_in a ha b hb with q | ⟨q1, q2⟩
  · exact absurd q hne
  · cases turnS S m with
    | true => exact q1
    | false => exact q2
theorem held_in {v h : Int32} (hv : 0 ≤ v.toInt) (hh : 0 ≤ h.toInt) : 0 ≤ (heldS v h).toInt ∧ (heldS v h).toInt ≤ h.toInt := by
  unfold heldS
  by_cases q : v ≤ h
  · rw [if_pos q]; exact ⟨hv, Int32.le_iff_toInt_le.mp q⟩
  · rw [if_neg q]; exact ⟨hh, Int.le_refl _⟩
theorem add_toI {x y : Int32} (h0 : 0 ≤ x.toInt) (h1 : x.toInt ≤ 100000) (h2 : 0 ≤ y.toInt) (h3 : y.toInt ≤ 100000) : (x + y).toInt = x.toInt + y.toInt := by
  obtain ⟨a, ha, rfl⟩ := nI_ofI (hi := 100000) h0 h1
  obtain ⟨b, hb, rfl⟩ := nI_ofI (hi := 100000) h2 h3
  rw [nI_add, nI_toInt (by omega), nI_toInt (by omega), nI_toInt (by omega)]
  omega
theorem IV.paid {S : SS} (hI : IV S) {m : Nat} {v : Int32} (hm : m < 6) (h0 : 0 ≤ v.toInt) (h1 : v.toInt ≤ 100) : IV (paidS S m v) := by
  have h := hI.ik hm (show 5 < 7 by omega)
  have h2 : (0 : Int) ≤ (it S m 5).toInt := h.1
  have h3 : (it S m 5).toInt ≤ 9999 := h.2
  refine hI.sk hm (by omega) ?_
  have h4 := held_in (v := it S m 5 + v) (h := 9999) (by rw [add_toI h2 (by omega) h0 (by omega)]; omega) (by decide)
  exact h4
theorem cell_in {S : SS} (hI : IV S) : ∀ m, m < 6 → 0 ≤ (forCellS S m).toInt ∧ (forCellS S m).toInt ≤ 100 := by
  intro m _
  unfold forCellS
  split
  · decide
  · split
    · decide
    · split <;> decide
theorem sec_in {S : SS} (hI : IV S) : ∀ m, m < 6 → 0 ≤ (forSecS S m).toInt ∧ (forSecS S m).toInt ≤ 100 := by
  intro m _
  unfold forSecS
  split
  · decide
  · split
    · decide
    · split
      · decide
      · split <;> decide
theorem IV.wy {S : SS} (hI : IV S) {m : Nat} (hm : m < 6) : IV (wayS S m) := by
  refine hI.sk hm (by omega) ?_
  rcases hI.way hm with h | h <;> rw [h] <;> decide
theorem way_1 {S : SS} {m : Nat} : wayS S m 1 = S 1 := by
  unfold wayS si
  rw [upd_n (by omega)]
theorem loB_dug {c : Nat} (hc : c < 30) : loB (2 + 2 * c) = 0 ∧ hiB (2 + 2 * c) = 1 := by
  unfold loB hiB
  rw [if_pos (by omega), if_neg (by omega), if_pos (by omega), if_pos (by omega)]
  exact ⟨rfl, rfl⟩
theorem loB_hp {c : Nat} (hc : c < 30) : loB (3 + 2 * c) = 0 ∧ hiB (3 + 2 * c) = 99 := by
  unfold loB hiB
  rw [if_pos (by omega), if_neg (by omega), if_pos (by omega), if_neg (by omega)]
  exact ⟨rfl, rfl⟩
theorem loB_sec {k : Nat} (hk : k < 6) : loB (104 + k) = -3 ∧ hiB (104 + k) = 29 := by
  unfold loB hiB
  rw [if_neg (by omega), if_neg (by omega), if_neg (by omega), if_neg (by omega), if_neg (by omega)]
  exact ⟨rfl, rfl⟩
theorem IV.dug {S : SS} (hI : IV S) {c : Nat} (hc : c < 30) : S (2 + 2 * c) = 0 ∨ S (2 + 2 * c) = 1 := by
  have h := hI.1 (2 + 2 * c) (by omega) (by omega)
  rw [(loB_dug hc).1, (loB_dug hc).2] at h
  obtain ⟨j, hj, e⟩ := nI_ofI (x := S (2 + 2 * c)) (hi := 1) h.1 h.2
  rcases (by omega : j = 0 ∨ j = 1) with rfl | rfl
  · exact Or.inl e
  · exact Or.inr e
theorem IV.ud {S : SS} (hI : IV S) {c : Nat} (hc : c < 30) : IV (upd S (2 + 2 * c) 1) := hI.up (by omega) (fun _ => by rw [(loB_dug hc).1, (loB_dug hc).2]; decide)
theorem it_si {S : SS} {m k m' k' : Nat} {v : Int32} (hk : k < 7) (hk' : k' < 7) : it (si S m k v) m' k' = if m' = m ∧ k' = k then v else it S m' k' := by
  unfold it si
  by_cases h : m' = m ∧ k' = k
  · rw [if_pos h, h.1, h.2, upd_s]
  · rw [if_neg h, upd_n (by omega)]
theorem it_s {S : SS} {m k : Nat} {v : Int32} : it (si S m k v) m k = v := upd_s
theorem it_n {S : SS} {m k k' : Nat} {v : Int32} (hk : k < 7) (hk' : k' < 7) (h : k' ≠ k) : it (si S m k v) m k' = it S m k' := upd_n (by omega)
theorem it_u {S : SS} {m k i : Nat} {v : Int32} (h : 62 + 7 * m + k ≠ i) : it (upd S i v) m k = it S m k := upd_n h
theorem IV.stp {S : SS} (hI : IV S) {m : Nat} (hm : m < 6) : IV (stepS S m) ∧ stepS S m 1 = S 1 := by
  unfold stepS
  by_cases h1 : it S m 1 = aimS S m
  · rw [if_pos h1]; exact ⟨hI, rfl⟩
  rw [if_neg h1]
  obtain ⟨e1, e2⟩ := hI.nxt hm h1
  have hn : loK 1 ≤ (nextS S m (aimS S m)).toInt ∧ (nextS S m (aimS S m)).toInt ≤ hiK 1 := by
    rw [e1, nI_toInt (by omega)]
    constructor
    · show (0 : Int) ≤ _; omega
    · show _ ≤ (29 : Int); omega
  by_cases h2 : S (2 + 2 * cl (nextS S m (aimS S m))) = 1
  · rw [if_pos h2]
    exact ⟨hI.sk hm (by omega) hn, upd_n (by omega)⟩
  rw [if_neg h2]
  by_cases h3 : digsS S m < 0
  · rw [if_pos h3]
    exact ⟨hI.wy hm, way_1⟩
  rw [if_neg h3]
  have hc := cell_in hI m hm
  refine ⟨((hI.ud e2).paid hm hc.1 hc.2).sk hm (by omega) ?_, ?_⟩
  · by_cases h4 : digsS S m = 1
    · rw [if_pos h4]; exact hn
    · rw [if_neg h4]; exact hI.ik hm (by omega)
  · unfold si paidS si
    rw [upd_n (by omega), upd_n (by omega), upd_n (by omega)]
theorem IV.brg {S : SS} (hI : IV S) {m : Nat} (hm : m < 6) (hc : it S m 6 ≠ -1) : IV (bringS S m) ∧ bringS S m 1 = S 1 := by
  unfold bringS
  obtain ⟨c, hc6, ec⟩ := (hI.car hm).resolve_left hc
  obtain ⟨e, he, ee⟩ := hI.cel hm (show 3 = 1 ∨ 3 = 2 ∨ 3 = 3 by omega)
  rw [ec, ee, cl_nI (by omega), cl_nI (by omega)]
  have h1 : IV (upd S (104 + c) (-3)) := hI.up (by omega) (fun _ => by rw [(loB_sec hc6).1, (loB_sec hc6).2]; decide)
  have h2 : IV (si (upd S (104 + c) (-3)) m 6 (-1)) := h1.sk hm (by omega) (by decide)
  have h3 := hI.1 (3 + 2 * e) (by omega) (by omega)
  rw [(loB_hp he).1, (loB_hp he).2] at h3
  have hs := sec_in hI m hm
  refine ⟨IV.paid (h2.up (by omega) (fun _ => ?_)) hm hs.1 hs.2, ?_⟩
  · rw [(loB_hp he).1, (loB_hp he).2]
    exact held_in (h := 99) (by rw [add_toI h3.1 (by omega) (by decide) (by decide)]; have h9 : (1 : Int32).toInt = 1 := by decide
                                rw [h9]; omega) (by decide)
  · unfold paidS si
    rw [upd_n (by omega), upd_n (by omega), upd_n (by omega), upd_n (by omega)]
theorem least_le {S : SS} {x : Int32} : ∀ (f k : Nat), leastS S x f k ≤ k + f
  | 0, k => Nat.le_refl _
  | f + 1, k => by
    unfold leastS
    split
    · omega
    · have := least_le (S := S) (x := x) f (k + 1); omega
theorem IV.pck {S : SS} (hI : IV S) {m : Nat} (hm : m < 6) : IV (pickS S m) ∧ pickS S m 1 = S 1 := by
  unfold pickS
  split
  · rename_i h
    refine ⟨(hI.up (by omega) (fun _ => by rw [(loB_sec h).1, (loB_sec h).2]; decide)).sk hm (by omega) ?_, ?_⟩
    · rw [nI_toInt (by omega)]
      constructor
      · show (-1 : Int) ≤ _; omega
      · show _ ≤ (5 : Int); omega
    · unfold si
      rw [upd_n (by omega), upd_n (by omega)]
  · exact ⟨hI, rfl⟩
theorem IV.lk1 {S : SS} (hI : IV S) {m : Nat} (hm : m < 6) : IV (look1 S m) ∧ look1 S m 1 = S 1 := by
  unfold look1
  split
  · split
    · exact ⟨hI, rfl⟩
    · rename_i h; exact hI.brg hm h
  · split
    · exact hI.pck hm
    · exact ⟨hI, rfl⟩
theorem IV.lk {S : SS} (hI : IV S) {m : Nat} (hm : m < 6) : IV (lookS S m) ∧ lookS S m 1 = S 1 := by
  obtain ⟨h1, h2⟩ := hI.lk1 hm
  unfold lookS look2
  split
  · refine ⟨h1.wy hm, ?_⟩
    rw [← h2]
    exact way_1
  · exact ⟨h1, h2⟩
theorem itr_iv {f : SS → SS} (hf : ∀ S, IV S → IV (f S) ∧ f S 1 = S 1) : ∀ (n : Nat) (S : SS), IV S → IV (itr f n S) ∧ itr f n S 1 = S 1
  | 0, S, h => ⟨h, rfl⟩
  | n + 1, S, h => by
    obtain ⟨h1, h2⟩ := itr_iv hf n S h
    obtain ⟨h3, h4⟩ := hf _ h1
    exact ⟨h3, h4.trans h2⟩
theorem IV.one {S : SS} (hI : IV S) {m : Nat} (hm : m < 6) : IV (oneS S m) ∧ oneS S m 1 = S 1 := by
  obtain ⟨h1, h2⟩ := hI.lk hm
  obtain ⟨h3, h4⟩ := itr_iv (f := fun S => lookS (stepS S m) m) (fun S h => by
    obtain ⟨a1, a2⟩ := h.stp hm
    obtain ⟨b1, b2'⟩ := a1.lk hm
    exact ⟨b1, b2'.trans a2⟩) (cl (stepsS S m)) (lookS S m) h1
  exact ⟨h3, h4.trans h2⟩
theorem IV.mol {S : SS} (hI : IV S) {m : Nat} (aw : Int32) (hm : m < 6) : IV (molS aw S m) ∧ molS aw S m 1 = S 1 := by
  unfold molS
  split
  · exact ⟨hI, rfl⟩
  · exact hI.one hm
theorem IV.all {S : SS} (hI : IV S) (aw : Int32) : ∀ k, k ≤ 6 → IV (allS aw S k) ∧ allS aw S k 1 = S 1
  | 0, _ => ⟨hI, rfl⟩
  | k + 1, h => by
    obtain ⟨h1, h2⟩ := hI.all aw k (by omega)
    obtain ⟨h3, h4⟩ := h1.mol aw (show k < 6 by omega)
    exact ⟨h3, h4.trans h2⟩
theorem IV.min {S : SS} (hI : IV S) (aw : Int32) : IV (minS aw S) ∧ minS aw S 1 = S 1 := by
  obtain ⟨h1, h2⟩ := hI.all aw (cl (S 1)) hI.m6.1
  exact ⟨h1.up (by omega) (fun h => absurd h (by omega)), by rw [← h2]; exact upd_n (by omega)⟩
theorem IV.go {S : SS} (hI : IV S) (aw : Int32) (n : Nat) : IV (goS aw n S) ∧ goS aw n S 1 = S 1 := itr_iv (fun S h => h.min aw) n S hI
