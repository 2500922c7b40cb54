/-! bits of numbers (the first rows: kit/laws/BITS.to-paste) -/
def bt (x : Int32) (i : Nat) : Bool := x.toBitVec.getLsbD i
theorem b_ext {x y : Int32} (h : ∀ i, i < 32 → bt x i = bt y i) : x = y := Int32.toBitVec_inj.mp (BitVec.eq_of_getLsbD_eq (fun i hi => h i hi))
theorem b_or (x y : Int32) (i : Nat) : bt (x ||| y) i = (bt x i || bt y i) := by unfold bt; rw [Int32.toBitVec_or, BitVec.getLsbD_or]
theorem b_and (x y : Int32) (i : Nat) : bt (x &&& y) i = (bt x i && bt y i) := by unfold bt; rw [Int32.toBitVec_and, BitVec.getLsbD_and]
theorem b_xor (x y : Int32) (i : Nat) : bt (x ^^^ y) i = (bt x i ^^ bt y i) := by unfold bt; rw [Int32.toBitVec_xor, BitVec.getLsbD_xor]
theorem b_big {x : Int32} {i : Nat} (h : 32 ≤ i) : bt x i = false := BitVec.getLsbD_of_ge _ _ h
theorem b_m1 : ∀ i, i < 32 → bt (-1) i = true := by decide +kernel
theorem b_0 (i : Nat) : bt 0 i = false := BitVec.getLsbD_zero
theorem s_l : ∀ n, n < 32 → ((nI n &&& 31).toBitVec.smod 32).toNat = n := by decide +kernel
theorem s_u : ∀ n, n < 32 → (((nI n).toUInt32 &&& Int32.toUInt32 31).toBitVec % 32).toNat = n := by decide +kernel
theorem b_shl (n : Nat) (hn : n < 32) (x : Int32) {i : Nat} (hi : i < 32) : bt (x <<< (nI n &&& 31)) i = (decide (n ≤ i) && bt x (i - n)) := by
  unfold bt
  rw [Int32.toBitVec_shiftLeft]
  show (x.toBitVec <<< ((nI n &&& 31).toBitVec.smod 32).toNat).getLsbD i = _
  rw [s_l n hn, BitVec.getLsbD_shiftLeft]
  rcases Nat.lt_or_ge i n with h | h
  · simp [h, Nat.not_le.mpr h]
  · simp [hi, h, Nat.not_lt.mpr h]
theorem b_ushr (n : Nat) (hn : n < 32) (x : Int32) (i : Nat) : bt ((x.toUInt32 >>> ((nI n).toUInt32 &&& Int32.toUInt32 31)).toInt32) i = bt x (n + i) := by
  show (x.toUInt32 >>> ((nI n).toUInt32 &&& Int32.toUInt32 31)).toBitVec.getLsbD i = x.toUInt32.toBitVec.getLsbD (n + i)
  rw [UInt32.toBitVec_shiftRight]
  show (x.toUInt32.toBitVec >>> (((nI n).toUInt32 &&& Int32.toUInt32 31).toBitVec % 32).toNat).getLsbD i = _
  rw [s_u n hn, BitVec.getLsbD_ushiftRight]
theorem b_sshr (n : Nat) (hn : n < 32) (x : Int32) {i : Nat} (hi : i < 32) : bt (x >>> (nI n &&& 31)) i = if n + i < 32 then bt x (n + i) else bt x 31 := by
  unfold bt
  rw [Int32.toBitVec_shiftRight]
  show (x.toBitVec.sshiftRight ((nI n &&& 31).toBitVec.smod 32).toNat).getLsbD i = _
  rw [s_l n hn, BitVec.getLsbD_sshiftRight, BitVec.msb_eq_getLsbD_last]
  simp [hi]
theorem nx_and (a b : Nat) : nI a &&& nI b = nI (a &&& b) := by
  apply Int32.toBitVec_inj.1
  show BitVec.ofNat 32 a &&& BitVec.ofNat 32 b = BitVec.ofNat 32 (a &&& b)
  apply BitVec.eq_of_getLsbD_eq
  intro i hi
  simp [hi]
theorem bt_1 (i : Nat) : bt 1 i = decide (i = 0) := by
  rcases Nat.lt_or_ge i 32 with h | h
  · exact (by decide +kernel : ∀ i, i < 32 → bt 1 i = decide (i = 0)) i h
  · rw [b_big h, decide_eq_false (by omega)]
theorem bt_and1 (x : Int32) : x &&& 1 = if bt x 0 = true then 1 else 0 := by
  refine b_ext fun i hi => ?_
  rw [b_and, bt_1]
  by_cases h : i = 0
  · subst h
    by_cases q : bt x 0 = true
    · rw [if_pos q, q]; rfl
    · rw [if_neg q, Bool.eq_false_iff.mpr q]; rfl
  · rw [decide_eq_false h, Bool.and_false]
    split
    · rw [bt_1, decide_eq_false h]
    · rw [b_0]
/-- a sum of single bits, bit by bit -/
theorem orS_one {g : Nat → Int32} : ∀ n, n ≤ 30 → (∀ c, c < n → g c = 0 ∨ g c = 1) → ∀ i, i < 32 → bt (orS (fun c => g c <<< (nI c &&& 31)) n) i = (decide (i < n) && decide (g i = 1))
  | 0, _, _, i, _ => by
    unfold orS
    rw [b_0, decide_eq_false (by omega)]
    rfl
  | n + 1, hn, hg, i, hi => by
    unfold orS
    rw [b_or, orS_one n (by omega) (fun c hc => hg c (by omega)) i hi, b_shl n (by omega) _ hi]
    rcases Nat.lt_trichotomy i n with h | h | h
    · rw [decide_eq_true h, decide_eq_true (show i < n + 1 by omega), decide_eq_false (show ¬ n ≤ i by omega)]
      simp
    · subst h
      rw [decide_eq_false (show ¬ i < i by omega), decide_eq_true (show i < i + 1 by omega), decide_eq_true (show i ≤ i by omega), Nat.sub_self]
      rcases hg i (by omega) with q | q
      · rw [q, b_0]; rfl
      · rw [q, bt_1]; rfl
    · rw [decide_eq_false (show ¬ i < n by omega), decide_eq_false (show ¬ i < n + 1 by omega), decide_eq_true (show n ≤ i by omega)]
      rcases hg n (by omega) with q | q
      · rw [q, b_0]; rfl
      · rw [q, bt_1, decide_eq_false (show ¬ i - n = 0 by omega)]; rfl
def DB (S : SS) : Prop := ∀ c, c < 30 → S (2 + 2 * c) = 0 ∨ S (2 + 2 * c) = 1
theorem IV.db {S : SS} (h : IV S) : DB S := fun _ hc => h.dug hc
theorem dug_bt {S : SS} (h : DB S) {i : Nat} (hi : i < 32) : bt (dugS S) i = (decide (i < 30) && decide (S (2 + 2 * i) = 1)) :=
  orS_one (g := fun c => S (2 + 2 * c)) 30 (by omega) h i hi
theorem dug_tun {S : SS} (h : DB S) {c : Nat} (hc : c < 30) : dugS S >>> (nI c &&& 31) &&& 1 = if S (2 + 2 * c) = 1 then 1 else 0 := by
  rw [bt_and1, b_sshr c (by omega) _ (by omega), if_pos (show c + 0 < 32 by omega), Nat.add_zero, dug_bt h (by omega), decide_eq_true hc, Bool.true_and]
  by_cases q : S (2 + 2 * c) = 1
  · rw [if_pos q, if_pos (decide_eq_true q)]
  · rw [if_neg q, if_neg (by rw [decide_eq_false q]; decide)]
theorem DB.up {S : SS} (h : DB S) {c : Nat} {v : Int32} (hv : v = 0 ∨ v = 1) : DB (upd S (2 + 2 * c) v) := by
  intro e he
  by_cases q : e = c
  · subst q; rw [upd_s]; exact hv
  · rw [upd_n (by omega)]; exact h e he
theorem bt_bit {c i : Nat} (hc : c < 30) (hi : i < 32) : bt ((1 : Int32) <<< (nI c &&& 31)) i = decide (i = c) := by
  rw [b_shl c (by omega) _ hi, bt_1]
  by_cases q : i = c
  · subst q; rw [decide_eq_true (show i ≤ i by omega), Nat.sub_self]; simp
  · rw [decide_eq_false q]
    by_cases q2 : c ≤ i
    · rw [decide_eq_false (show ¬ i - c = 0 by omega), Bool.and_false]
    · rw [decide_eq_false q2, Bool.false_and]
theorem dug_lay1 {S : SS} (h : DB S) {c : Nat} (hc : c < 30) : dugS S ||| (1 : Int32) <<< (nI c &&& 31) = dugS (upd S (2 + 2 * c) 1) := by
  refine b_ext fun i hi => ?_
  rw [b_or, dug_bt h hi, dug_bt (h.up (.inr rfl)) hi, bt_bit hc hi]
  by_cases q : i = c
  · subst q; rw [upd_s, decide_eq_true hc]; simp
  · rw [upd_n (by omega), decide_eq_false q, Bool.or_false]
theorem dug_lay0 {S : SS} (h : DB S) {c : Nat} (hc : c < 30) : dugS S &&& ((1 : Int32) <<< (nI c &&& 31) ^^^ -1) = dugS (upd S (2 + 2 * c) 0) := by
  refine b_ext fun i hi => ?_
  rw [b_and, b_xor, b_m1 i hi, dug_bt h hi, dug_bt (h.up (.inl rfl)) hi, bt_bit hc hi]
  by_cases q : i = c
  · subst q; rw [upd_s]; simp
  · rw [upd_n (by omega), decide_eq_false q]; simp
/-! Integer.bitCount -/
def bsum (f : Nat → Bool) : Nat → Nat
  | 0 => 0
  | n + 1 => bsum f n + (f n).toNat
theorem bsum_c {f g : Nat → Bool} : ∀ n, (∀ c, c < n → f c = g c) → bsum f n = bsum g n
  | 0, _ => rfl
  | n + 1, h => by
    unfold bsum
    rw [bsum_c n (fun c hc => h c (by omega)), h n (by omega)]
theorem bsum_a {f : Nat → Bool} (a : Nat) : ∀ b, bsum f (a + b) = bsum f a + bsum (fun k => f (a + k)) b
  | 0 => rfl
  | b + 1 => by
    show bsum f (a + b) + (f (a + b)).toNat = bsum f a + (bsum (fun k => f (a + k)) b + (f (a + b)).toNat)
    rw [bsum_a a b]
    omega
theorem k4 : ∀ a, a < 9 → ∀ b, b < 9 → ∀ c, c < 9 → ∀ e, e < 9 → (a + 256 * (b + 256 * (c + 256 * e)) + (a + 256 * (b + 256 * (c + 256 * e))) / 256 + (a + 256 * (b + 256 * (c + 256 * e)) + (a + 256 * (b + 256 * (c + 256 * e))) / 256) / 65536) % 64 = a + b + c + e := by decide +kernel
def G1 (m a : Nat) : Nat := a - (a / 2 &&& m)
def G2 (m a : Nat) : Nat := (a &&& m) + (a / 4 &&& m)
def G3 (m a : Nat) : Nat := (a + a / 16) &&& m
def pc8 (b : Nat) : Nat := G3 15 (G2 51 (G1 85 b))
theorem and_split {p q x y : Nat} (hp : p < 256) (hq : q < 256) : (p + 256 * x) &&& (q + 256 * y) = (p &&& q) + 256 * (x &&& y) := by
  have h1 : (p &&& q) < 2 ^ 8 := Nat.and_lt_two_pow p (show q < 2 ^ 8 by omega)
  refine Nat.eq_of_testBit_eq fun i => ?_
  rw [Nat.testBit_and, show p + 256 * x = 2 ^ 8 * x + p by omega, show q + 256 * y = 2 ^ 8 * y + q by omega, show (p &&& q) + 256 * (x &&& y) = 2 ^ 8 * (x &&& y) + (p &&& q) by omega, Nat.testBit_two_pow_mul_add _ (show p < 2 ^ 8 by omega), Nat.testBit_two_pow_mul_add _ (show q < 2 ^ 8 by omega), Nat.testBit_two_pow_mul_add _ h1]
  split
  · rw [Nat.testBit_and]
  · rw [Nat.testBit_and]
theorem k1 : ∀ p, p < 256 → ∀ e, e < 2 → (p / 2 + 128 * e) &&& 85 = p / 2 &&& 85 := by decide +kernel
theorem k2 : ∀ p, p < 256 → ∀ e, e < 4 → (p / 4 + 64 * e) &&& 51 = p / 4 &&& 51 := by decide +kernel
theorem k3 : ∀ p, p < 256 → ∀ e, e < 16 → (p + 16 * e) &&& 15 = p &&& 15 := by decide +kernel
theorem G1_s {p x m : Nat} (hp : p < 256) : G1 (85 + 256 * m) (p + 256 * x) = G1 85 p + 256 * G1 m x := by
  unfold G1
  have e1 : (p + 256 * x) / 2 = (p / 2 + 128 * (x % 2)) + 256 * (x / 2) := by omega
  rw [e1, and_split (by omega) (by omega), k1 p hp _ (by omega)]
  have h1 : (p / 2 &&& 85) ≤ p / 2 := Nat.and_le_left
  have h2 : (x / 2 &&& m) ≤ x / 2 := Nat.and_le_left
  generalize p / 2 &&& 85 = u at *
  generalize x / 2 &&& m = v at *
  omega
theorem G2_s {p x m : Nat} (hp : p < 256) : G2 (51 + 256 * m) (p + 256 * x) = G2 51 p + 256 * G2 m x := by
  unfold G2
  have e1 : (p + 256 * x) / 4 = (p / 4 + 64 * (x % 4)) + 256 * (x / 4) := by omega
  rw [e1, and_split hp (by omega), and_split (by omega) (by omega), k2 p hp _ (by omega)]
  omega
theorem G3_s {p x m : Nat} (hp : p ≤ 68) (hx : x % 16 ≤ 4) : G3 (15 + 256 * m) (p + 256 * x) = G3 15 p + 256 * G3 m x := by
  unfold G3
  have e1 : p + 256 * x + (p + 256 * x) / 16 = (p + p / 16 + 16 * (x % 16)) + 256 * (x + x / 16) := by omega
  rw [e1, and_split (by omega) (by omega), k3 _ (by omega) _ (by omega)]
def g12 (b : Nat) : Nat := G2 51 (G1 85 b)
theorem g12_in : ∀ b, b < 256 → G1 85 b < 256 ∧ g12 b ≤ 68 ∧ g12 b % 16 ≤ 4 ∧ pc8 b ≤ 8 ∧ pc8 b = bsum (fun k => b.testBit k) 8 := by decide +kernel
def popN (a : Nat) : Nat :=
  (G3 252645135 (G2 858993459 (G1 1431655765 a)) + G3 252645135 (G2 858993459 (G1 1431655765 a)) / 256 + (G3 252645135 (G2 858993459 (G1 1431655765 a)) + G3 252645135 (G2 858993459 (G1 1431655765 a)) / 256) / 65536) % 64
theorem popN_4 {p q r s : Nat} (hp : p < 256) (hq : q < 256) (hr : r < 256) (hs : s < 256) : popN (p + 256 * (q + 256 * (r + 256 * s))) = pc8 p + pc8 q + pc8 r + pc8 s := by
  obtain ⟨p1, p2, p3, p4, -⟩ := g12_in p hp
  obtain ⟨q1, q2, q3, q4, -⟩ := g12_in q hq
  obtain ⟨r1, r2, r3, r4, -⟩ := g12_in r hr
  obtain ⟨s1, s2, s3, s4, -⟩ := g12_in s hs
  have e1 : G1 1431655765 (p + 256 * (q + 256 * (r + 256 * s))) = G1 85 p + 256 * (G1 85 q + 256 * (G1 85 r + 256 * G1 85 s)) := by
    rw [show 1431655765 = 85 + 256 * (85 + 256 * (85 + 256 * 85)) from rfl, G1_s hp, G1_s hq, G1_s hr]
  have e2 : G2 858993459 (G1 1431655765 (p + 256 * (q + 256 * (r + 256 * s)))) = g12 p + 256 * (g12 q + 256 * (g12 r + 256 * g12 s)) := by
    rw [e1, show 858993459 = 51 + 256 * (51 + 256 * (51 + 256 * 51)) from rfl, G2_s p1, G2_s q1, G2_s r1]
    rfl
  have e3 : G3 252645135 (G2 858993459 (G1 1431655765 (p + 256 * (q + 256 * (r + 256 * s))))) = pc8 p + 256 * (pc8 q + 256 * (pc8 r + 256 * pc8 s)) := by
    rw [e2, show 252645135 = 15 + 256 * (15 + 256 * (15 + 256 * 15)) from rfl, G3_s p2 (by omega), G3_s q2 (by omega), G3_s r2 s3]
    rfl
  unfold popN
  rw [e3]
  exact k4 _ (by omega) _ (by omega) _ (by omega) _ (by omega)
theorem byte_bit (a j k : Nat) (hk : k < 8) : (a / 2 ^ j % 256).testBit k = a.testBit (j + k) := by
  rw [show (256 : Nat) = 2 ^ 8 from rfl, Nat.testBit_mod_two_pow, decide_eq_true hk, Bool.true_and, Nat.testBit_div_two_pow, Nat.add_comm]
theorem popN_b {a : Nat} (ha : a < 2 ^ 32) : popN a = bsum (fun k => a.testBit k) 32 := by
  have e : a = a / 2 ^ 0 % 256 + 256 * (a / 2 ^ 8 % 256 + 256 * (a / 2 ^ 16 % 256 + 256 * (a / 2 ^ 24 % 256))) := by omega
  have hb := fun j => (g12_in (a / 2 ^ j % 256) (Nat.mod_lt _ (by decide))).2.2.2.2
  have hc : popN a = pc8 (a / 2 ^ 0 % 256) + pc8 (a / 2 ^ 8 % 256) + pc8 (a / 2 ^ 16 % 256) + pc8 (a / 2 ^ 24 % 256) := by
    have := popN_4 (p := a / 2 ^ 0 % 256) (q := a / 2 ^ 8 % 256) (r := a / 2 ^ 16 % 256) (s := a / 2 ^ 24 % 256) (Nat.mod_lt _ (by decide)) (Nat.mod_lt _ (by decide)) (Nat.mod_lt _ (by decide)) (Nat.mod_lt _ (by decide))
    rw [← e] at this
    exact this
  have he : ∀ j, bsum (fun k => (a / 2 ^ j % 256).testBit k) 8 = bsum (fun k => a.testBit (j + k)) 8 := fun j => bsum_c 8 fun k hk => byte_bit a j k hk
  rw [hc, hb 0, hb 8, hb 16, hb 24, he, he, he, he, show (32 : Nat) = 24 + 8 from rfl, bsum_a 24 8, show (24 : Nat) = 16 + 8 from rfl, bsum_a 16 8, show (16 : Nat) = 8 + 8 from rfl, bsum_a 8 8]
  simp only [Nat.zero_add]
theorem nI_tn (x : Int32) : x = nI x.toBitVec.toNat := Int32.toBitVec_inj.mp (by
  show x.toBitVec = BitVec.ofNat 32 x.toBitVec.toNat
  simp)
theorem bsum_z {f : Nat → Bool} {m : Nat} : ∀ n, m ≤ n → (∀ c, m ≤ c → c < n → f c = false) → bsum f n = bsum f m
  | 0, h, _ => by rw [show m = 0 by omega]
  | n + 1, h, hz => by
    by_cases e : m = n + 1
    · rw [e]
    · have e1 : bsum f (n + 1) = bsum f n + (f n).toNat := rfl
      rw [e1, hz n (by omega) (by omega), bsum_z n (by omega) (fun c h1 h2 => hz c h1 (by omega))]
      rfl
theorem sumS_b {g : Nat → Int32} : ∀ n, (∀ c, c < n → g c = 0 ∨ g c = 1) → sumS g n = nI (bsum (fun c => decide (g c = 1)) n)
  | 0, _ => rfl
  | n + 1, h => by
    unfold sumS bsum
    rw [sumS_b n (fun c hc => h c (by omega)), ← nI_add]
    rcases h n (by omega) with q | q
    · rw [q]; rfl
    · rw [q]; rfl
theorem sec_bt {S : SS} {x : Int32} {i : Nat} (hi : i < 32) : bt (secS S x) i = (decide (i < 6) && decide (S (104 + i) = x)) := by
  have e : secS S x = orS (fun c => (fun k => if S (104 + k) = x then (1 : Int32) else 0) c <<< (nI c &&& 31)) 6 := by
    unfold secS
    refine orS_c 6 fun c hc => ?_
    show _ = (if S (104 + c) = x then (1 : Int32) else 0) <<< (nI c &&& 31)
    by_cases q : S (104 + c) = x
    · rw [if_pos q, if_pos q]
    · rw [if_neg q, if_neg q]
      exact ((by decide +kernel : ∀ c, c < 6 → (0 : Int32) = 0 <<< (nI c &&& 31)) c hc)
  rw [e, orS_one 6 (by omega) (fun c hc => by
    show (if S (104 + c) = x then (1 : Int32) else 0) = 0 ∨ (if S (104 + c) = x then (1 : Int32) else 0) = 1
    split
    · exact .inr rfl
    · exact .inl rfl) i hi]
  congr 1
  by_cases q : S (104 + i) = x
  · simp [q]
  · simp [q]
theorem dug_pop {S : SS} (h : DB S) : nI (bsum (bt (dugS S)) 31) = dugM S := by
  unfold dugM
  rw [sumS_b 30 h, bsum_z (m := 30) 31 (by omega) (fun c h1 h2 => by rw [dug_bt h (by omega), decide_eq_false (by omega)]; rfl)]
  congr 1
  refine bsum_c 30 fun c hc => ?_
  rw [dug_bt h (by omega), decide_eq_true hc]
  rfl
theorem out_pop {S : SS} : nI (bsum (bt (secS S (-3))) 31) = outS S := by
  have e : ∀ k, k < 6 → secS S (-3) >>> (nI k &&& 31) &&& 1 = if bt (secS S (-3)) k = true then 1 else 0 := fun k hk => by
    rw [bt_and1, b_sshr k (by omega) _ (by omega), if_pos (show k + 0 < 32 by omega), Nat.add_zero]
  unfold outS
  rw [sumS_b 6 (fun k hk => by
    show (secS S (-3) >>> (nI k &&& 31) &&& 1) = 0 ∨ (secS S (-3) >>> (nI k &&& 31) &&& 1) = 1
    rw [e k hk]
    split
    · exact .inr rfl
    · exact .inl rfl), bsum_z (m := 6) 31 (by omega) (fun c h1 h2 => by rw [sec_bt (by omega), decide_eq_false (by omega)]; rfl)]
  congr 1
  refine bsum_c 6 fun k hk => ?_
  rw [e k hk]
  by_cases q : bt (secS S (-3)) k = true
  · rw [q]; rfl
  · rw [if_neg q, Bool.eq_false_iff.mpr q]; rfl
section B1
variable {d n : Nat} {w : AH} {Q : AQ}
theorem c_bitCountN {a : Nat} (ha : a < 2 ^ 31) (h : Q (some (.int (nI (popN a)))) n w) : am_mok (d + 1) 231 [.int (nI a)] n w Q := by
  refine mok_go (B := am_b231) (ls := [some (.int (nI a))]) pr_231 (by decide) (by decide) (by decide) (by decide) (Nat.le_of_ble_eq_true rfl) rfl ?_
  have h1 : G1 1431655765 a ≤ a := Nat.sub_le _ _
  have h2 : ∀ b, G2 858993459 b ≤ 858993459 + 858993459 := fun b => Nat.add_le_add Nat.and_le_right Nat.and_le_right
  have h3 : ∀ b, G3 252645135 b ≤ 252645135 := fun b => Nat.and_le_right
  have e1 : nI a - (((nI a).toUInt32 >>> (Int32.toUInt32 1 &&& Int32.toUInt32 31)).toInt32 &&& 1431655765) = nI (G1 1431655765 a) := by
    rw [pk_ushrN (by omega) 1 1 (by decide), show (1431655765 : Int32) = nI 1431655765 from rfl, nx_and, pk_sub (Nat.le_trans Nat.and_le_left (by omega))]
    rfl
  refine am_go_of 8 ?_
  simp only [b231_0, x_0, x_push, x_iload0, x_aload0, x_lload0, x_istore0, x_astore0, x_lstore0, x_iload1, x_aload1, x_lload1, x_istore1, x_astore1, x_lstore1, x_iinc1, x_iload2, x_aload2, x_lload2, x_istore2, x_astore2, x_lstore2, x_iinc2, x_iload3, x_aload3, x_lload3, x_istore3, x_astore3, x_lstore3, x_iinc3, x_iload4, x_aload4, x_lload4, x_istore4, x_astore4, x_lstore4, x_iinc4, x_iload5, x_aload5, x_lload5, x_istore5, x_astore5, x_lstore5, x_iinc5, x_iload6, x_aload6, x_lload6, x_istore6, x_astore6, x_lstore6, x_iinc6, x_iload7, x_aload7, x_lload7, x_istore7, x_astore7, x_lstore7, x_iinc7, x_iload8, x_aload8, x_lload8, x_istore8, x_astore8, x_lstore8, x_iinc8, x_iadd, x_isub, x_imul, x_iand, x_ior, x_ixor, x_ishl, x_ishr, x_iushr, x_idiv, x_irem, x_ladd, x_lmul, x_land, x_lor, x_lshl, x_lcmp, x_i2l, x_l2i, x_i2b, x_i2s, x_dupi, x_dupr, x_dup2, x_pop, x_if_eq, x_ic_eq, x_if_ne, x_ic_ne, x_if_lt, x_ic_lt, x_if_ge, x_ic_ge, x_if_gt, x_ic_gt, x_if_le, x_ic_le, x_goto, x_nop, x_lsw, x_tsw, x_getfield, x_putfield, x_iaload, x_iastore, x_laload, x_lastore, x_aaload, x_aastore, x_alen, x_inst, x_new, x_newa_int, x_newa_long, x_anew, x_stat0, x_stat1, x_intr1, x_spec1, x_virt1, x_stat2, x_intr2, x_spec2, x_virt2, x_stat3, x_intr3, x_spec3, x_virt3, x_stat4, x_intr4, x_spec4, x_virt4, x_stat5, x_intr5, x_spec5, x_virt5, x_stat6, x_intr6, x_spec6, x_virt6, x_cpy, x_min, x_oinit, x_ireturn, x_lreturn, x_areturn, x_return, z_ok_n, z_ok_i, z_ok_r, z_get, z_ov, z_on, z_put, z_fit0, z_fit1, z_fit2, z_ild, z_sld, z_ist, z_lld, z_lst, z_ald2, z_ald3, z_ast, z_leni, z_lens, z_lenl, z_cpyi, z_cpyl, z_cls, z_dsp, z_upd, z_upn, z_rsv, z_rsn, z_wd0, z_wdi, z_wdr, z_wdl, z_r0, z_r1, z_sw0, z_sw1, z_tok, true_and, and_true, List.getElem?_cons_zero, List.getElem?_cons_succ, List.set_cons_zero, List.set_cons_succ]
  rw [e1]
  generalize hb : G1 1431655765 a = b at *
  have e2 : (nI b &&& 858993459) + (((nI b).toUInt32 >>> (Int32.toUInt32 2 &&& Int32.toUInt32 31)).toInt32 &&& 858993459) = nI (G2 858993459 b) := by
    rw [pk_ushrN (by omega) 2 2 (by decide), show (858993459 : Int32) = nI 858993459 from rfl, nx_and, nx_and, nI_add]
    rfl
  refine am_go_of 10 ?_
  simp only [b231_0, x_0, x_push, x_iload0, x_aload0, x_lload0, x_istore0, x_astore0, x_lstore0, x_iload1, x_aload1, x_lload1, x_istore1, x_astore1, x_lstore1, x_iinc1, x_iload2, x_aload2, x_lload2, x_istore2, x_astore2, x_lstore2, x_iinc2, x_iload3, x_aload3, x_lload3, x_istore3, x_astore3, x_lstore3, x_iinc3, x_iload4, x_aload4, x_lload4, x_istore4, x_astore4, x_lstore4, x_iinc4, x_iload5, x_aload5, x_lload5, x_istore5, x_astore5, x_lstore5, x_iinc5, x_iload6, x_aload6, x_lload6, x_istore6, x_astore6, x_lstore6, x_iinc6, x_iload7, x_aload7, x_lload7, x_istore7, x_astore7, x_lstore7, x_iinc7, x_iload8, x_aload8, x_lload8, x_istore8, x_astore8, x_lstore8, x_iinc8, x_iadd, x_isub, x_imul, x_iand, x_ior, x_ixor, x_ishl, x_ishr, x_iushr, x_idiv, x_irem, x_ladd, x_lmul, x_land, x_lor, x_lshl, x_lcmp, x_i2l, x_l2i, x_i2b, x_i2s, x_dupi, x_dupr, x_dup2, x_pop, x_if_eq, x_ic_eq, x_if_ne, x_ic_ne, x_if_lt, x_ic_lt, x_if_ge, x_ic_ge, x_if_gt, x_ic_gt, x_if_le, x_ic_le, x_goto, x_nop, x_lsw, x_tsw, x_getfield, x_putfield, x_iaload, x_iastore, x_laload, x_lastore, x_aaload, x_aastore, x_alen, x_inst, x_new, x_newa_int, x_newa_long, x_anew, x_stat0, x_stat1, x_intr1, x_spec1, x_virt1, x_stat2, x_intr2, x_spec2, x_virt2, x_stat3, x_intr3, x_spec3, x_virt3, x_stat4, x_intr4, x_spec4, x_virt4, x_stat5, x_intr5, x_spec5, x_virt5, x_stat6, x_intr6, x_spec6, x_virt6, x_cpy, x_min, x_oinit, x_ireturn, x_lreturn, x_areturn, x_return, z_ok_n, z_ok_i, z_ok_r, z_get, z_ov, z_on, z_put, z_fit0, z_fit1, z_fit2, z_ild, z_sld, z_ist, z_lld, z_lst, z_ald2, z_ald3, z_ast, z_leni, z_lens, z_lenl, z_cpyi, z_cpyl, z_cls, z_dsp, z_upd, z_upn, z_rsv, z_rsn, z_wd0, z_wdi, z_wdr, z_wdl, z_r0, z_r1, z_sw0, z_sw1, z_tok, true_and, and_true, List.getElem?_cons_zero, List.getElem?_cons_succ, List.set_cons_zero, List.set_cons_succ]
  rw [e2]
  have hc2 := h2 b
  generalize hc : G2 858993459 b = c at *
  have e3 : nI c + ((nI c).toUInt32 >>> (Int32.toUInt32 4 &&& Int32.toUInt32 31)).toInt32 &&& 252645135 = nI (G3 252645135 c) := by
    rw [pk_ushrN (by omega) 4 4 (by decide), show (252645135 : Int32) = nI 252645135 from rfl, nI_add, nx_and]
    rfl
  refine am_go_of 8 ?_
  simp only [b231_0, x_0, x_push, x_iload0, x_aload0, x_lload0, x_istore0, x_astore0, x_lstore0, x_iload1, x_aload1, x_lload1, x_istore1, x_astore1, x_lstore1, x_iinc1, x_iload2, x_aload2, x_lload2, x_istore2, x_astore2, x_lstore2, x_iinc2, x_iload3, x_aload3, x_lload3, x_istore3, x_astore3, x_lstore3, x_iinc3, x_iload4, x_aload4, x_lload4, x_istore4, x_astore4, x_lstore4, x_iinc4, x_iload5, x_aload5, x_lload5, x_istore5, x_astore5, x_lstore5, x_iinc5, x_iload6, x_aload6, x_lload6, x_istore6, x_astore6, x_lstore6, x_iinc6, x_iload7, x_aload7, x_lload7, x_istore7, x_astore7, x_lstore7, x_iinc7, x_iload8, x_aload8, x_lload8, x_istore8, x_astore8, x_lstore8, x_iinc8, x_iadd, x_isub, x_imul, x_iand, x_ior, x_ixor, x_ishl, x_ishr, x_iushr, x_idiv, x_irem, x_ladd, x_lmul, x_land, x_lor, x_lshl, x_lcmp, x_i2l, x_l2i, x_i2b, x_i2s, x_dupi, x_dupr, x_dup2, x_pop, x_if_eq, x_ic_eq, x_if_ne, x_ic_ne, x_if_lt, x_ic_lt, x_if_ge, x_ic_ge, x_if_gt, x_ic_gt, x_if_le, x_ic_le, x_goto, x_nop, x_lsw, x_tsw, x_getfield, x_putfield, x_iaload, x_iastore, x_laload, x_lastore, x_aaload, x_aastore, x_alen, x_inst, x_new, x_newa_int, x_newa_long, x_anew, x_stat0, x_stat1, x_intr1, x_spec1, x_virt1, x_stat2, x_intr2, x_spec2, x_virt2, x_stat3, x_intr3, x_spec3, x_virt3, x_stat4, x_intr4, x_spec4, x_virt4, x_stat5, x_intr5, x_spec5, x_virt5, x_stat6, x_intr6, x_spec6, x_virt6, x_cpy, x_min, x_oinit, x_ireturn, x_lreturn, x_areturn, x_return, z_ok_n, z_ok_i, z_ok_r, z_get, z_ov, z_on, z_put, z_fit0, z_fit1, z_fit2, z_ild, z_sld, z_ist, z_lld, z_lst, z_ald2, z_ald3, z_ast, z_leni, z_lens, z_lenl, z_cpyi, z_cpyl, z_cls, z_dsp, z_upd, z_upn, z_rsv, z_rsn, z_wd0, z_wdi, z_wdr, z_wdl, z_r0, z_r1, z_sw0, z_sw1, z_tok, true_and, and_true, List.getElem?_cons_zero, List.getElem?_cons_succ, List.set_cons_zero, List.set_cons_succ]
  rw [e3]
  have hd2 := h3 c
  generalize hd : G3 252645135 c = e at *
  have e4 : nI e + ((nI e).toUInt32 >>> (Int32.toUInt32 8 &&& Int32.toUInt32 31)).toInt32 = nI (e + e / 256) := by
    rw [pk_ushrN (by omega) 8 8 (by decide), nI_add]
  refine am_go_of 6 ?_
  simp only [b231_0, x_0, x_push, x_iload0, x_aload0, x_lload0, x_istore0, x_astore0, x_lstore0, x_iload1, x_aload1, x_lload1, x_istore1, x_astore1, x_lstore1, x_iinc1, x_iload2, x_aload2, x_lload2, x_istore2, x_astore2, x_lstore2, x_iinc2, x_iload3, x_aload3, x_lload3, x_istore3, x_astore3, x_lstore3, x_iinc3, x_iload4, x_aload4, x_lload4, x_istore4, x_astore4, x_lstore4, x_iinc4, x_iload5, x_aload5, x_lload5, x_istore5, x_astore5, x_lstore5, x_iinc5, x_iload6, x_aload6, x_lload6, x_istore6, x_astore6, x_lstore6, x_iinc6, x_iload7, x_aload7, x_lload7, x_istore7, x_astore7, x_lstore7, x_iinc7, x_iload8, x_aload8, x_lload8, x_istore8, x_astore8, x_lstore8, x_iinc8, x_iadd, x_isub, x_imul, x_iand, x_ior, x_ixor, x_ishl, x_ishr, x_iushr, x_idiv, x_irem, x_ladd, x_lmul, x_land, x_lor, x_lshl, x_lcmp, x_i2l, x_l2i, x_i2b, x_i2s, x_dupi, x_dupr, x_dup2, x_pop, x_if_eq, x_ic_eq, x_if_ne, x_ic_ne, x_if_lt, x_ic_lt, x_if_ge, x_ic_ge, x_if_gt, x_ic_gt, x_if_le, x_ic_le, x_goto, x_nop, x_lsw, x_tsw, x_getfield, x_putfield, x_iaload, x_iastore, x_laload, x_lastore, x_aaload, x_aastore, x_alen, x_inst, x_new, x_newa_int, x_newa_long, x_anew, x_stat0, x_stat1, x_intr1, x_spec1, x_virt1, x_stat2, x_intr2, x_spec2, x_virt2, x_stat3, x_intr3, x_spec3, x_virt3, x_stat4, x_intr4, x_spec4, x_virt4, x_stat5, x_intr5, x_spec5, x_virt5, x_stat6, x_intr6, x_spec6, x_virt6, x_cpy, x_min, x_oinit, x_ireturn, x_lreturn, x_areturn, x_return, z_ok_n, z_ok_i, z_ok_r, z_get, z_ov, z_on, z_put, z_fit0, z_fit1, z_fit2, z_ild, z_sld, z_ist, z_lld, z_lst, z_ald2, z_ald3, z_ast, z_leni, z_lens, z_lenl, z_cpyi, z_cpyl, z_cls, z_dsp, z_upd, z_upn, z_rsv, z_rsn, z_wd0, z_wdi, z_wdr, z_wdl, z_r0, z_r1, z_sw0, z_sw1, z_tok, true_and, and_true, List.getElem?_cons_zero, List.getElem?_cons_succ, List.set_cons_zero, List.set_cons_succ]
  rw [e4]
  have e5 : nI (e + e / 256) + ((nI (e + e / 256)).toUInt32 >>> (Int32.toUInt32 16 &&& Int32.toUInt32 31)).toInt32 = nI (e + e / 256 + (e + e / 256) / 65536) := by
    rw [pk_ushrN (by omega) 16 16 (by decide), nI_add]
  refine am_go_of 6 ?_
  simp only [b231_0, x_0, x_push, x_iload0, x_aload0, x_lload0, x_istore0, x_astore0, x_lstore0, x_iload1, x_aload1, x_lload1, x_istore1, x_astore1, x_lstore1, x_iinc1, x_iload2, x_aload2, x_lload2, x_istore2, x_astore2, x_lstore2, x_iinc2, x_iload3, x_aload3, x_lload3, x_istore3, x_astore3, x_lstore3, x_iinc3, x_iload4, x_aload4, x_lload4, x_istore4, x_astore4, x_lstore4, x_iinc4, x_iload5, x_aload5, x_lload5, x_istore5, x_astore5, x_lstore5, x_iinc5, x_iload6, x_aload6, x_lload6, x_istore6, x_astore6, x_lstore6, x_iinc6, x_iload7, x_aload7, x_lload7, x_istore7, x_astore7, x_lstore7, x_iinc7, x_iload8, x_aload8, x_lload8, x_istore8, x_astore8, x_lstore8, x_iinc8, x_iadd, x_isub, x_imul, x_iand, x_ior, x_ixor, x_ishl, x_ishr, x_iushr, x_idiv, x_irem, x_ladd, x_lmul, x_land, x_lor, x_lshl, x_lcmp, x_i2l, x_l2i, x_i2b, x_i2s, x_dupi, x_dupr, x_dup2, x_pop, x_if_eq, x_ic_eq, x_if_ne, x_ic_ne, x_if_lt, x_ic_lt, x_if_ge, x_ic_ge, x_if_gt, x_ic_gt, x_if_le, x_ic_le, x_goto, x_nop, x_lsw, x_tsw, x_getfield, x_putfield, x_iaload, x_iastore, x_laload, x_lastore, x_aaload, x_aastore, x_alen, x_inst, x_new, x_newa_int, x_newa_long, x_anew, x_stat0, x_stat1, x_intr1, x_spec1, x_virt1, x_stat2, x_intr2, x_spec2, x_virt2, x_stat3, x_intr3, x_spec3, x_virt3, x_stat4, x_intr4, x_spec4, x_virt4, x_stat5, x_intr5, x_spec5, x_virt5, x_stat6, x_intr6, x_spec6, x_virt6, x_cpy, x_min, x_oinit, x_ireturn, x_lreturn, x_areturn, x_return, z_ok_n, z_ok_i, z_ok_r, z_get, z_ov, z_on, z_put, z_fit0, z_fit1, z_fit2, z_ild, z_sld, z_ist, z_lld, z_lst, z_ald2, z_ald3, z_ast, z_leni, z_lens, z_lenl, z_cpyi, z_cpyl, z_cls, z_dsp, z_upd, z_upn, z_rsv, z_rsn, z_wd0, z_wdi, z_wdr, z_wdl, z_r0, z_r1, z_sw0, z_sw1, z_tok, true_and, and_true, List.getElem?_cons_zero, List.getElem?_cons_succ, List.set_cons_zero, List.set_cons_succ]
  rw [e5]
  refine am_go_of 4 ?_
  simp only [b231_0, x_0, x_push, x_iload0, x_aload0, x_lload0, x_istore0, x_astore0, x_lstore0, x_iload1, x_aload1, x_lload1, x_istore1, x_astore1, x_lstore1, x_iinc1, x_iload2, x_aload2, x_lload2, x_istore2, x_astore2, x_lstore2, x_iinc2, x_iload3, x_aload3, x_lload3, x_istore3, x_astore3, x_lstore3, x_iinc3, x_iload4, x_aload4, x_lload4, x_istore4, x_astore4, x_lstore4, x_iinc4, x_iload5, x_aload5, x_lload5, x_istore5, x_astore5, x_lstore5, x_iinc5, x_iload6, x_aload6, x_lload6, x_istore6, x_astore6, x_lstore6, x_iinc6, x_iload7, x_aload7, x_lload7, x_istore7, x_astore7, x_lstore7, x_iinc7, x_iload8, x_aload8, x_lload8, x_istore8, x_astore8, x_lstore8, x_iinc8, x_iadd, x_isub, x_imul, x_iand, x_ior, x_ixor, x_ishl, x_ishr, x_iushr, x_idiv, x_irem, x_ladd, x_lmul, x_land, x_lor, x_lshl, x_lcmp, x_i2l, x_l2i, x_i2b, x_i2s, x_dupi, x_dupr, x_dup2, x_pop, x_if_eq, x_ic_eq, x_if_ne, x_ic_ne, x_if_lt, x_ic_lt, x_if_ge, x_ic_ge, x_if_gt, x_ic_gt, x_if_le, x_ic_le, x_goto, x_nop, x_lsw, x_tsw, x_getfield, x_putfield, x_iaload, x_iastore, x_laload, x_lastore, x_aaload, x_aastore, x_alen, x_inst, x_new, x_newa_int, x_newa_long, x_anew, x_stat0, x_stat1, x_intr1, x_spec1, x_virt1, x_stat2, x_intr2, x_spec2, x_virt2, x_stat3, x_intr3, x_spec3, x_virt3, x_stat4, x_intr4, x_spec4, x_virt4, x_stat5, x_intr5, x_spec5, x_virt5, x_stat6, x_intr6, x_spec6, x_virt6, x_cpy, x_min, x_oinit, x_ireturn, x_lreturn, x_areturn, x_return, z_ok_n, z_ok_i, z_ok_r, z_get, z_ov, z_on, z_put, z_fit0, z_fit1, z_fit2, z_ild, z_sld, z_ist, z_lld, z_lst, z_ald2, z_ald3, z_ast, z_leni, z_lens, z_lenl, z_cpyi, z_cpyl, z_cls, z_dsp, z_upd, z_upn, z_rsv, z_rsn, z_wd0, z_wdi, z_wdr, z_wdl, z_r0, z_r1, z_sw0, z_sw1, z_tok, true_and, and_true, List.getElem?_cons_zero, List.getElem?_cons_succ, List.set_cons_zero, List.set_cons_succ]
  rw [pk_andN (by omega) 6 (by decide)]
  unfold popN at h
  rw [hb, hc, hd] at h
  exact h
theorem c_bitCount {x : Int32} (hx : bt x 31 = false) (h : Q (some (.int (nI (bsum (bt x) 31)))) n w) : am_mok (d + 1) 231 [.int x] n w Q := by
  have ha : x.toBitVec.toNat < 2 ^ 31 := by
    refine Nat.lt_pow_two_of_testBit _ fun i hi => ?_
    show bt x i = false
    by_cases q : i = 31
    · rw [q]; exact hx
    · exact b_big (by omega)
  have e := popN_b (show x.toBitVec.toNat < 2 ^ 32 by omega)
  have e2 : bsum (fun k => x.toBitVec.toNat.testBit k) 32 = bsum (bt x) 31 := bsum_z (f := bt x) 32 (by omega) (fun c h1 h2 => by rw [show c = 31 by omega]; exact hx)
  rw [e2] at e
  rw [nI_tn x]
  refine c_bitCountN ha ?_
  rw [e]
  exact h
end B1
