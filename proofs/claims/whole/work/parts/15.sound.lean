section ST2
variable {p : Program} {l : Launch} {e : Env} {R : Room} {s : State} {m : MethodId} {args : Array Value} {below : List Frame} {meth : Method} {c : Code} {Z : State → Prop}
variable {g : sG} {own nL rt n0 : Nat} {ini : Bool} {cc : ByteArray} {E : AN} {M : Nat → List En} {mc ms : Nat} {Q : AQ}
variable {ls : AL} {st : List Value} {n : Nat} {w : AH} {k1 k2 : Nat}
set_option maxHeartbeats 4000000 in
theorem st_in (fx : FX p s m args meth c g own nL n0 ini cc) (hRT : RT p l e R s m args below meth c Z g rt n0 cc mc ms Q) (hE : EN l R g E) (hM : ∀ L, ok_b own nL rt ini cc L (M L) = true) (hmc : mc = R.cells) (hms : ms = R.slots) {K G : KT} (hK : ∀ cs ls st n w k1 k2, K cs ls st n w k1 k2 → PW p l e R s m args below meth c Z g own nL rt n0 ini cc cs ls st n w k1 k2) (hG : ∀ cs ls st n w k1 k2, G cs ls st n w k1 k2 → PW p l e R s m args below meth c Z g own nL rt n0 ini cc cs ls st n w k1 k2)
    {pc len : Nat} {raw r : Instr} {inf : List Nat} {v : Value} {cs : List (Int32 × Nat)} {t : List En} (hd : decode cc pc = .ok (raw, len)) (hok : ok_in own nL rt ini pc raw len (ok_hp t) r inf v cs = true) (hokt : ok_cs own nL rt ini cc t = true) (h : am_in E am_acc M mc ms Q K G r inf v cs t ls st n w k1 k2) : WX p l e R s m args below meth c Z g nL n0 pc ls st n w k1 k2 := by
  have nx : ∀ {ls st n w k1 k2 pc'}, K t ls st n w k1 k2 → ok_hp t = pc' → WX p l e R s m args below meth c Z g nL n0 pc' ls st n w k1 k2 := fun hk hp => (hK _ _ _ _ _ _ _ hk).nx hokt hp
  have gx : ∀ {ls st n w k1 k2 pc'}, G t ls st n w k1 k2 → ok_hp t = pc' → WX p l e R s m args below meth c Z g nL n0 pc' ls st n w k1 k2 := fun hk hp => (hG _ _ _ _ _ _ _ hk).nx hokt hp
  have br : ∀ {tg ls st n w k1 k2}, K (M tg) ls st n w k1 k2 → WX p l e R s m args below meth c Z g nL n0 tg ls st n w k1 k2 := fun hk => (hK _ _ _ _ _ _ _ hk).br hM
  cases r with
  | aconst_null =>
    dsimp only [ok_in] at hok
    dsimp only [am_in] at h
    simp only [Bool.and_eq_true, beq_iff_eq] at hok
    obtain ⟨hnp, hok⟩ := hok
    split at hok
    · simp only [Bool.and_eq_true, decide_eq_true_eq, beq_iff_eq] at hok
      obtain ⟨rfl, rfl⟩ := hok
      exact sd_iconst fx hd (nx h hnp)
    · simp only [Bool.and_eq_true, decide_eq_true_eq, beq_iff_eq] at hok
      obtain ⟨rfl, rfl⟩ := hok
      exact sd_bipush fx hd (nx h hnp)
    · simp only [Bool.and_eq_true, decide_eq_true_eq, beq_iff_eq] at hok
      obtain ⟨rfl, rfl⟩ := hok
      exact sd_sipush fx hd (nx h hnp)
    · simp only [Bool.and_eq_true, decide_eq_true_eq, beq_iff_eq] at hok
      obtain ⟨rfl, rfl⟩ := hok
      exact sd_lconst fx hd (nx h hnp)
    · simp only [Bool.and_eq_true, beq_iff_eq] at hok
      obtain ⟨rfl, hok⟩ := hok
      split at hok
      · exact sd_ldc fx hd (of_decide_eq_true hok) (nx h hnp)
      · exact sd_ldcs fx hd (of_decide_eq_true hok) (nx h hnp)
      · cases hok
    · simp only [Bool.and_eq_true, beq_iff_eq] at hok
      obtain ⟨rfl, hok⟩ := hok
      split at hok
      · exact sd_ldcw fx hd (of_decide_eq_true hok) (nx h hnp)
      · cases hok
    · simp only [Bool.and_eq_true, beq_iff_eq] at hok
      obtain ⟨rfl, hok⟩ := hok
      split at hok
      · exact sd_ldc2 fx hd (of_decide_eq_true hok) (nx h hnp)
      · cases hok
    · cases hok
  | iload i =>
    obtain ⟨hnp, hi, ⟨rfl, rfl⟩ | ⟨j, rfl, hj, rfl⟩⟩ := okl_iload hok
    · dsimp only [am_in] at h
      split at h
      · exact sd_iload fx hd (by assumption) (nx h hnp)
      · exact h.elim
    · dsimp only [am_in] at h
      split at h
      · exact sd_iload_n fx hd hj (by assumption) (nx h hnp)
      · exact h.elim
  | lload i =>
    obtain ⟨hnp, hi, ⟨rfl, rfl⟩ | ⟨j, rfl, hj, rfl⟩⟩ := okl_lload hok
    · dsimp only [am_in] at h
      split at h
      · exact sd_lload fx hd (by assumption) (nx h hnp)
      · exact h.elim
    · dsimp only [am_in] at h
      split at h
      · exact sd_lload_n fx hd hj (by assumption) (nx h hnp)
      · exact h.elim
  | aload i =>
    obtain ⟨hnp, hi, ⟨rfl, rfl⟩ | ⟨j, rfl, hj, rfl⟩⟩ := okl_aload hok
    · dsimp only [am_in] at h
      split at h
      · exact sd_aload fx hd (by assumption) (nx h hnp)
      · exact h.elim
    · dsimp only [am_in] at h
      split at h
      · exact sd_aload_n fx hd hj (by assumption) (nx h hnp)
      · exact h.elim
  | istore i =>
    obtain ⟨hnp, hi, ⟨rfl, rfl⟩ | ⟨j, rfl, hj, rfl⟩⟩ := okl_istore hok
    · dsimp only [am_in] at h
      split at h
      · exact sd_istore fx hd hi h.1 (nx h.2 hnp)
      · exact h.elim
    · dsimp only [am_in] at h
      split at h
      · exact sd_istore_n fx hd hj hi h.1 (nx h.2 hnp)
      · exact h.elim
  | astore i =>
    obtain ⟨hnp, hi, ⟨rfl, rfl⟩ | ⟨j, rfl, hj, rfl⟩⟩ := okl_astore hok
    · dsimp only [am_in] at h
      split at h
      · exact sd_astore fx hd hi h.1 (nx h.2 hnp)
      · exact h.elim
    · dsimp only [am_in] at h
      split at h
      · exact sd_astore_n fx hd hj hi h.1 (nx h.2 hnp)
      · exact h.elim
  | lstore i =>
    obtain ⟨hnp, hi, ⟨rfl, rfl⟩ | ⟨j, rfl, hj, rfl⟩⟩ := okl_lstore hok
    · dsimp only [am_in] at h
      split at h
      · exact sd_lstore fx hd hi h.1 (nx h.2 hnp)
      · exact h.elim
    · dsimp only [am_in] at h
      split at h
      · exact sd_lstore_n fx hd hj hi h.1 (nx h.2 hnp)
      · exact h.elim
  | iinc i b =>
    dsimp only [ok_in] at hok
    dsimp only [am_in] at h
    simp only [Bool.and_eq_true, Bool.or_eq_true, decide_eq_true_eq, beq_iff_eq] at hok
    obtain ⟨⟨⟨⟨rfl, rfl⟩, hnp⟩, hi⟩, hv⟩ := hok
    subst hv
    split at h
    · rename_i x d hx he
      cases he
      exact sd_iinc fx hd hi h.1 hx (nx h.2 hnp)
    · exact h.elim
  | iadd =>
    dsimp only [ok_in, ok_1] at hok
    dsimp only [am_in] at h
    simp only [Bool.and_eq_true, decide_eq_true_eq, beq_iff_eq] at hok
    obtain ⟨⟨rfl, rfl⟩, hnp⟩ := hok
    split at h
    · exact sd_iadd fx hd (nx h hnp)
    · exact h.elim
  | isub =>
    dsimp only [ok_in, ok_1] at hok
    dsimp only [am_in] at h
    simp only [Bool.and_eq_true, decide_eq_true_eq, beq_iff_eq] at hok
    obtain ⟨⟨rfl, rfl⟩, hnp⟩ := hok
    split at h
    · exact sd_isub fx hd (nx h hnp)
    · exact h.elim
  | imul =>
    dsimp only [ok_in, ok_1] at hok
    dsimp only [am_in] at h
    simp only [Bool.and_eq_true, decide_eq_true_eq, beq_iff_eq] at hok
    obtain ⟨⟨rfl, rfl⟩, hnp⟩ := hok
    split at h
    · exact sd_imul fx hd (nx h hnp)
    · exact h.elim
  | iand =>
    dsimp only [ok_in, ok_1] at hok
    dsimp only [am_in] at h
    simp only [Bool.and_eq_true, decide_eq_true_eq, beq_iff_eq] at hok
    obtain ⟨⟨rfl, rfl⟩, hnp⟩ := hok
    split at h
    · exact sd_iand fx hd (nx h hnp)
    · exact h.elim
  | ior =>
    dsimp only [ok_in, ok_1] at hok
    dsimp only [am_in] at h
    simp only [Bool.and_eq_true, decide_eq_true_eq, beq_iff_eq] at hok
    obtain ⟨⟨rfl, rfl⟩, hnp⟩ := hok
    split at h
    · exact sd_ior fx hd (nx h hnp)
    · exact h.elim
  | ixor =>
    dsimp only [ok_in, ok_1] at hok
    dsimp only [am_in] at h
    simp only [Bool.and_eq_true, decide_eq_true_eq, beq_iff_eq] at hok
    obtain ⟨⟨rfl, rfl⟩, hnp⟩ := hok
    split at h
    · exact sd_ixor fx hd (nx h hnp)
    · exact h.elim
  | ishl =>
    dsimp only [ok_in, ok_1] at hok
    dsimp only [am_in] at h
    simp only [Bool.and_eq_true, decide_eq_true_eq, beq_iff_eq] at hok
    obtain ⟨⟨rfl, rfl⟩, hnp⟩ := hok
    split at h
    · exact sd_ishl fx hd (nx h hnp)
    · exact h.elim
  | ishr =>
    dsimp only [ok_in, ok_1] at hok
    dsimp only [am_in] at h
    simp only [Bool.and_eq_true, decide_eq_true_eq, beq_iff_eq] at hok
    obtain ⟨⟨rfl, rfl⟩, hnp⟩ := hok
    split at h
    · exact sd_ishr fx hd (nx h hnp)
    · exact h.elim
  | iushr =>
    dsimp only [ok_in, ok_1] at hok
    dsimp only [am_in] at h
    simp only [Bool.and_eq_true, decide_eq_true_eq, beq_iff_eq] at hok
    obtain ⟨⟨rfl, rfl⟩, hnp⟩ := hok
    split at h
    · exact sd_iushr fx hd (nx h hnp)
    · exact h.elim
  | ladd =>
    dsimp only [ok_in, ok_1] at hok
    dsimp only [am_in] at h
    simp only [Bool.and_eq_true, decide_eq_true_eq, beq_iff_eq] at hok
    obtain ⟨⟨rfl, rfl⟩, hnp⟩ := hok
    split at h
    · exact sd_ladd fx hd (nx h hnp)
    · exact h.elim
  | lmul =>
    dsimp only [ok_in, ok_1] at hok
    dsimp only [am_in] at h
    simp only [Bool.and_eq_true, decide_eq_true_eq, beq_iff_eq] at hok
    obtain ⟨⟨rfl, rfl⟩, hnp⟩ := hok
    split at h
    · exact sd_lmul fx hd (nx h hnp)
    · exact h.elim
  | land =>
    dsimp only [ok_in, ok_1] at hok
    dsimp only [am_in] at h
    simp only [Bool.and_eq_true, decide_eq_true_eq, beq_iff_eq] at hok
    obtain ⟨⟨rfl, rfl⟩, hnp⟩ := hok
    split at h
    · exact sd_land fx hd (nx h hnp)
    · exact h.elim
  | lor =>
    dsimp only [ok_in, ok_1] at hok
    dsimp only [am_in] at h
    simp only [Bool.and_eq_true, decide_eq_true_eq, beq_iff_eq] at hok
    obtain ⟨⟨rfl, rfl⟩, hnp⟩ := hok
    split at h
    · exact sd_lor fx hd (nx h hnp)
    · exact h.elim
  | lshl =>
    dsimp only [ok_in, ok_1] at hok
    dsimp only [am_in] at h
    simp only [Bool.and_eq_true, decide_eq_true_eq, beq_iff_eq] at hok
    obtain ⟨⟨rfl, rfl⟩, hnp⟩ := hok
    split at h
    · exact sd_lshl fx hd (nx h hnp)
    · exact h.elim
  | lcmp =>
    dsimp only [ok_in, ok_1] at hok
    dsimp only [am_in] at h
    simp only [Bool.and_eq_true, decide_eq_true_eq, beq_iff_eq] at hok
    obtain ⟨⟨rfl, rfl⟩, hnp⟩ := hok
    split at h
    · exact sd_lcmp fx hd (nx h hnp)
    · exact h.elim
  | i2l =>
    dsimp only [ok_in, ok_1] at hok
    dsimp only [am_in] at h
    simp only [Bool.and_eq_true, decide_eq_true_eq, beq_iff_eq] at hok
    obtain ⟨⟨rfl, rfl⟩, hnp⟩ := hok
    split at h
    · exact sd_i2l fx hd (nx h hnp)
    · exact h.elim
  | l2i =>
    dsimp only [ok_in, ok_1] at hok
    dsimp only [am_in] at h
    simp only [Bool.and_eq_true, decide_eq_true_eq, beq_iff_eq] at hok
    obtain ⟨⟨rfl, rfl⟩, hnp⟩ := hok
    split at h
    · exact sd_l2i fx hd (nx h hnp)
    · exact h.elim
  | i2b =>
    dsimp only [ok_in, ok_1] at hok
    dsimp only [am_in] at h
    simp only [Bool.and_eq_true, decide_eq_true_eq, beq_iff_eq] at hok
    obtain ⟨⟨rfl, rfl⟩, hnp⟩ := hok
    split at h
    · exact sd_i2b fx hd (nx h hnp)
    · exact h.elim
  | i2s =>
    dsimp only [ok_in, ok_1] at hok
    dsimp only [am_in] at h
    simp only [Bool.and_eq_true, decide_eq_true_eq, beq_iff_eq] at hok
    obtain ⟨⟨rfl, rfl⟩, hnp⟩ := hok
    split at h
    · exact sd_i2s fx hd (nx h hnp)
    · exact h.elim
  | pop =>
    dsimp only [ok_in, ok_1] at hok
    dsimp only [am_in] at h
    simp only [Bool.and_eq_true, decide_eq_true_eq, beq_iff_eq] at hok
    obtain ⟨⟨rfl, rfl⟩, hnp⟩ := hok
    split at h
    · exact sd_pop fx hd (nx h hnp)
    · exact h.elim
  | idiv =>
    dsimp only [ok_in, ok_1] at hok
    dsimp only [am_in] at h
    simp only [Bool.and_eq_true, decide_eq_true_eq, beq_iff_eq] at hok
    obtain ⟨⟨rfl, rfl⟩, hnp⟩ := hok
    split at h
    · exact sd_idiv fx hd h.1 (nx h.2 hnp)
    · exact h.elim
  | irem =>
    dsimp only [ok_in, ok_1] at hok
    dsimp only [am_in] at h
    simp only [Bool.and_eq_true, decide_eq_true_eq, beq_iff_eq] at hok
    obtain ⟨⟨rfl, rfl⟩, hnp⟩ := hok
    split at h
    · exact sd_irem fx hd h.1 (nx h.2 hnp)
    · exact h.elim
  | dup =>
    dsimp only [ok_in, ok_1] at hok
    dsimp only [am_in] at h
    simp only [Bool.and_eq_true, decide_eq_true_eq, beq_iff_eq] at hok
    obtain ⟨⟨rfl, rfl⟩, hnp⟩ := hok
    split at h
    · exact sd_dupi fx hd (nx h hnp)
    · exact sd_dupr fx hd (nx h hnp)
    · exact h.elim
  | dup2 =>
    dsimp only [ok_in, ok_1] at hok
    dsimp only [am_in] at h
    simp only [Bool.and_eq_true, decide_eq_true_eq, beq_iff_eq] at hok
    obtain ⟨⟨rfl, rfl⟩, hnp⟩ := hok
    split at h
    · exact sd_dup2 fx hd (nx h hnp)
    · exact h.elim
  | ifCond cd off =>
    dsimp only [ok_in] at hok
    dsimp only [am_in] at h
    simp only [Bool.and_eq_true, decide_eq_true_eq, beq_iff_eq] at hok
    obtain ⟨⟨⟨rfl, rfl⟩, hnp⟩, hok⟩ := hok
    split at h
    · rename_i hi
      simp only [decide_eq_true_eq] at hok
      cases cd with
      | eq =>
        dsimp only [am_c0] at h
        exact sd_if_eq fx hd hok (fun hc => br (by rw [if_pos hc] at h; exact h)) (fun hc => nx (by rw [if_neg hc] at h; exact h) hnp)
      | ne =>
        dsimp only [am_c0] at h
        exact sd_if_ne fx hd hok (fun hc => br (by rw [if_neg hc] at h; exact h)) (fun hc => nx (by rw [if_pos hc] at h; exact h) hnp)
      | lt =>
        dsimp only [am_c0] at h
        exact sd_if_lt fx hd hok (fun hc => br (by rw [if_pos hc] at h; exact h)) (fun hc => nx (by rw [if_neg hc] at h; exact h) hnp)
      | ge =>
        dsimp only [am_c0] at h
        exact sd_if_ge fx hd hok (fun hc => br (by rw [if_pos hc] at h; exact h)) (fun hc => nx (by rw [if_neg hc] at h; exact h) hnp)
      | gt =>
        dsimp only [am_c0] at h
        exact sd_if_gt fx hd hok (fun hc => br (by rw [if_pos hc] at h; exact h)) (fun hc => nx (by rw [if_neg hc] at h; exact h) hnp)
      | le =>
        dsimp only [am_c0] at h
        exact sd_if_le fx hd hok (fun hc => br (by rw [if_pos hc] at h; exact h)) (fun hc => nx (by rw [if_neg hc] at h; exact h) hnp)
    · exact h.elim
  | if_icmp cd off =>
    dsimp only [ok_in] at hok
    dsimp only [am_in] at h
    simp only [Bool.and_eq_true, decide_eq_true_eq, beq_iff_eq] at hok
    obtain ⟨⟨⟨rfl, rfl⟩, hnp⟩, hok⟩ := hok
    split at h
    · rename_i hi
      simp only [decide_eq_true_eq] at hok
      cases cd with
      | eq =>
        dsimp only [am_c2] at h
        exact sd_ic_eq fx hd hok (fun hc => br (by rw [if_pos hc] at h; exact h)) (fun hc => nx (by rw [if_neg hc] at h; exact h) hnp)
      | ne =>
        dsimp only [am_c2] at h
        exact sd_ic_ne fx hd hok (fun hc => br (by rw [if_neg hc] at h; exact h)) (fun hc => nx (by rw [if_pos hc] at h; exact h) hnp)
      | lt =>
        dsimp only [am_c2] at h
        exact sd_ic_lt fx hd hok (fun hc => br (by rw [if_pos hc] at h; exact h)) (fun hc => nx (by rw [if_neg hc] at h; exact h) hnp)
      | ge =>
        dsimp only [am_c2] at h
        exact sd_ic_ge fx hd hok (fun hc => br (by rw [if_pos hc] at h; exact h)) (fun hc => nx (by rw [if_neg hc] at h; exact h) hnp)
      | gt =>
        dsimp only [am_c2] at h
        exact sd_ic_gt fx hd hok (fun hc => br (by rw [if_pos hc] at h; exact h)) (fun hc => nx (by rw [if_neg hc] at h; exact h) hnp)
      | le =>
        dsimp only [am_c2] at h
        exact sd_ic_le fx hd hok (fun hc => br (by rw [if_pos hc] at h; exact h)) (fun hc => nx (by rw [if_neg hc] at h; exact h) hnp)
    · exact h.elim
  | goto off =>
    dsimp only [ok_in] at hok
    dsimp only [am_in] at h
    simp only [Bool.and_eq_true, decide_eq_true_eq, beq_iff_eq] at hok
    obtain ⟨⟨rfl, rfl⟩, hok⟩ := hok
    split at h
    · simp only [decide_eq_true_eq] at hok
      exact sd_goto fx hd hok (br h)
    · exact h.elim
  | lookupswitch d ps =>
    dsimp only [ok_in] at hok
    dsimp only [am_in] at h
    simp only [Bool.and_eq_true, decide_eq_true_eq, beq_iff_eq] at hok
    obtain ⟨⟨⟨rfl, hp⟩, hc⟩, hok⟩ := hok
    split at h
    · simp only [decide_eq_true_eq] at hok
      exact sd_lsw fx hd hp hc hok (am_sw_mono (fun _ hk => br hk) h)
    · exact h.elim
  | tableswitch d lo hi offs =>
    dsimp only [ok_in] at hok
    dsimp only [am_in] at h
    simp only [Bool.and_eq_true, decide_eq_true_eq, beq_iff_eq] at hok
    obtain ⟨⟨⟨rfl, hc⟩, hh⟩, hok⟩ := hok
    split at h
    · simp only [decide_eq_true_eq] at hok
      exact sd_tsw fx hd hc hh hok (am_sw_mono (fun _ hk => br hk) h)
    · exact h.elim
  | getfield i =>
    dsimp only [ok_in] at hok
    dsimp only [am_in] at h
    simp only [Bool.and_eq_true, decide_eq_true_eq, beq_iff_eq] at hok
    obtain ⟨⟨⟨rfl, rfl⟩, hnp⟩, hok⟩ := hok
    split at h
    · simp only [decide_eq_true_eq] at hok
      unfold am_get at h
      split at h
      · rename_i hw
        obtain ⟨rfl, h⟩ := h
        unfold am_ov at h
        split at h
        · rename_i hv
          exact sd_getfield fx hd hok hw hv (nx h hnp)
        · exact h.elim
      · exact h.elim
    · exact h.elim
  | putfield i =>
    dsimp only [ok_in] at hok
    dsimp only [am_in] at h
    simp only [Bool.and_eq_true, decide_eq_true_eq, beq_iff_eq] at hok
    obtain ⟨⟨⟨rfl, rfl⟩, hnp⟩, hok⟩ := hok
    split at h
    · simp only [Bool.and_eq_true, decide_eq_true_eq] at hok
      obtain ⟨⟨o1, o2⟩, o3⟩ := hok
      unfold am_put at h
      split at h
      · rename_i hw
        obtain ⟨rfl, h1, h2, h3⟩ := h
        exact sd_putfield fx hd o1 o2 o3 hw h1 h2 (nx h3 hnp)
      · exact h.elim
    · exact h.elim
  | iaload =>
    dsimp only [ok_in, ok_1] at hok
    dsimp only [am_in] at h
    simp only [Bool.and_eq_true, decide_eq_true_eq, beq_iff_eq] at hok
    obtain ⟨⟨rfl, rfl⟩, hnp⟩ := hok
    split at h
    · exact sd_iaload fx hd (am_ild_mono (fun _ hk => nx hk hnp) h)
    · exact h.elim
  | iastore =>
    dsimp only [ok_in, ok_1] at hok
    dsimp only [am_in] at h
    simp only [Bool.and_eq_true, decide_eq_true_eq, beq_iff_eq] at hok
    obtain ⟨⟨rfl, rfl⟩, hnp⟩ := hok
    split at h
    · exact sd_iastore fx hd (am_ist_mono (fun _ hk => nx hk hnp) h)
    · exact h.elim
  | laload =>
    dsimp only [ok_in, ok_1] at hok
    dsimp only [am_in] at h
    simp only [Bool.and_eq_true, decide_eq_true_eq, beq_iff_eq] at hok
    obtain ⟨⟨rfl, rfl⟩, hnp⟩ := hok
    split at h
    · exact sd_laload fx hd (am_lld_mono (fun _ hk => nx hk hnp) h)
    · exact h.elim
  | lastore =>
    dsimp only [ok_in, ok_1] at hok
    dsimp only [am_in] at h
    simp only [Bool.and_eq_true, decide_eq_true_eq, beq_iff_eq] at hok
    obtain ⟨⟨rfl, rfl⟩, hnp⟩ := hok
    split at h
    · exact sd_lastore fx hd (am_lst_mono (fun _ hk => nx hk hnp) h)
    · exact h.elim
  | aaload =>
    dsimp only [ok_in, ok_1] at hok
    dsimp only [am_in] at h
    simp only [Bool.and_eq_true, decide_eq_true_eq, beq_iff_eq] at hok
    obtain ⟨⟨rfl, rfl⟩, hnp⟩ := hok
    split at h
    · exact sd_aaload fx hd (am_ald_mono (fun _ hk => nx hk hnp) h)
    · exact h.elim
  | aastore =>
    dsimp only [ok_in, ok_1] at hok
    dsimp only [am_in] at h
    simp only [Bool.and_eq_true, decide_eq_true_eq, beq_iff_eq] at hok
    obtain ⟨⟨rfl, rfl⟩, hnp⟩ := hok
    split at h
    · exact sd_aastore fx hd (am_ast_mono (fun _ hk => nx hk hnp) h)
    · exact h.elim
  | arraylength =>
    dsimp only [ok_in, ok_1] at hok
    dsimp only [am_in] at h
    simp only [Bool.and_eq_true, decide_eq_true_eq, beq_iff_eq] at hok
    obtain ⟨⟨rfl, rfl⟩, hnp⟩ := hok
    split at h
    · exact sd_alen fx hd (am_len_mono (fun _ hk => nx hk hnp) h)
    · exact h.elim
  | instanceof i =>
    dsimp only [ok_in] at hok
    dsimp only [am_in] at h
    simp only [Bool.and_eq_true, decide_eq_true_eq, beq_iff_eq] at hok
    obtain ⟨⟨⟨rfl, rfl⟩, hnp⟩, hok⟩ := hok
    split at h
    · unfold am_cls at h
      split at h
      · rename_i hw
        refine sd_inst fx hd ?_ h.1 hw (nx h.2 hnp)
        simp only [Bool.or_eq_true, Bool.and_eq_true, decide_eq_true_eq] at hok
        rcases hok with (((h1 | h1) | h1) | h1) | h1
        · exact Or.inl h1
        · exact Or.inr (Or.inl h1)
        · exact Or.inr (Or.inr (Or.inl h1))
        · exact Or.inr (Or.inr (Or.inr (Or.inl h1)))
        · exact Or.inr (Or.inr (Or.inr (Or.inr h1)))
      · exact h.elim
    · exact h.elim
  | new i =>
    dsimp only [ok_in] at hok
    dsimp only [am_in] at h
    simp only [Bool.and_eq_true, decide_eq_true_eq, beq_iff_eq] at hok
    obtain ⟨⟨⟨rfl, rfl⟩, hnp⟩, hok⟩ := hok
    split at h
    · simp only [Bool.and_eq_true, decide_eq_true_eq, beq_iff_eq] at hok
      exact sd_new fx hd hok.1 hok.2 h.1 (by rw [← hmc]; exact h.2.1) (by rw [← hms]; exact h.2.2.1) (nx h.2.2.2 hnp)
    · exact h.elim
  | newarray a =>
    dsimp only [ok_in] at hok
    simp only [Bool.and_eq_true, decide_eq_true_eq, beq_iff_eq] at hok
    obtain ⟨⟨rfl, rfl⟩, hnp⟩ := hok
    cases a with
    | int =>
      dsimp only [am_in] at h
      split at h
      · exact sd_newai fx hd h.1 h.2.1 h.2.2.1 (by rw [← hmc]; exact h.2.2.2.1) (by rw [← hms]; exact h.2.2.2.2.1) (nx h.2.2.2.2.2 hnp)
      · exact h.elim
    | long =>
      dsimp only [am_in] at h
      split at h
      · exact sd_newal fx hd h.1 h.2.1 h.2.2.1 (by rw [← hmc]; exact h.2.2.2.1) (by rw [← hms]; exact h.2.2.2.2.1) (nx h.2.2.2.2.2 hnp)
      · exact h.elim
    | _ => exact False.elim h
  | anewarray i =>
    dsimp only [ok_in] at hok
    dsimp only [am_in] at h
    simp only [Bool.and_eq_true, decide_eq_true_eq, beq_iff_eq] at hok
    obtain ⟨⟨⟨rfl, rfl⟩, hnp⟩, hok⟩ := hok
    split at h
    · refine sd_anew fx hd ?_ h.1 h.2.1 h.2.2.1 (by rw [← hmc]; exact h.2.2.2.1) (by rw [← hms]; exact h.2.2.2.2.1) (nx h.2.2.2.2.2 hnp)
      simpa only [Bool.or_eq_true, Bool.and_eq_true, decide_eq_true_eq, beq_iff_eq] using hok
    · exact h.elim
  | invokestatic i =>
    dsimp only [ok_in] at hok
    dsimp only [am_in] at h
    simp only [Bool.and_eq_true, decide_eq_true_eq, beq_iff_eq] at hok
    obtain ⟨⟨⟨rfl, rfl⟩, hnp⟩, hok⟩ := hok
    split at h
    · simp only [Bool.and_eq_true, decide_eq_true_eq, beq_iff_eq] at hok
      obtain ⟨⟨o1, o2⟩, o3⟩ := hok
      obtain ⟨as, s', rfl, h2, h3, h4⟩ := am_sp_of h
      simp only [List.append_nil] at h4
      obtain ⟨d, e1, e2, e3, e4⟩ := hE _ _ _ _ _ h4
      have hy := (lk_s_ok _ o1).2.2
      dsimp only at hy
      have h9 := sv_l9 _ hy
      exact sd_static fx hd o1 (by rw [h2, o2]) o3 h3 (e3 (by omega)) e1 (by omega) (fun r n' w' hq => gx hq hnp)
    · exact h.elim
  | invokespecial i =>
    dsimp only [ok_in] at hok
    dsimp only [am_in] at h
    simp only [Bool.and_eq_true, decide_eq_true_eq, beq_iff_eq] at hok
    obtain ⟨⟨⟨rfl, rfl⟩, hnp⟩, hok⟩ := hok
    split at h
    · simp only [Bool.and_eq_true, Bool.or_eq_true, decide_eq_true_eq, beq_iff_eq] at hok
      obtain ⟨o2, o1⟩ := hok
      obtain ⟨as, s', rfl, h2, h3, hc1, hc2, h4⟩ := am_sp_of h
      simp only [List.append_nil] at h4
      split at h4
      · rename_i a as' 
        unfold am_cls at h4
        split at h4
        · rename_i hw
          obtain ⟨hci, h4⟩ := h4
          obtain ⟨d, e1, e2, e3, e4⟩ := hE _ _ _ _ _ h4
          simp only [List.length_cons] at h2
          rw [o2] at h2
          have hna := Nat.succ.inj h2
          rcases o1 with ((o1 | o1) | o1) | o1
          · have hy := (lk_i_ok _ o1).2.2.2.2
            dsimp only at hy
            have h9 := sv_l9 _ hy
            exact sd_init fx hd o1 hna h3 (by rw [← hmc]; exact hc1) (by rw [← hms]; exact hc2) (e3 (by omega)) e1 (by omega) (fun r n' w' hq => gx hq hnp)
          · have hy := (lk_n_ok _ o1).2.2.2.2
            dsimp only at hy
            have h9 := sv_l9 _ hy
            exact sd_nest fx hd o1 hna h3 (by rw [← hmc]; exact hc1) (by rw [← hms]; exact hc2) (e3 (by omega)) e1 (by omega) (fun r n' w' hq => gx hq hnp)
          · have hy := (lk_u_ok _ o1.1).2.2.2.2.2
            dsimp only at hy
            have h9 := sv_l9 _ hy
            rw [o1.2] at h4 e3
            exact sd_super fx hd o1.1 hna o1.2 h3 hw hci (e3 (by omega)) e1 (by omega) (fun r n' w' hq => gx hq hnp)
          · have hy := (lk_w_ok _ o1.1).2.2.2.2.2.2.2.2
            dsimp only at hy
            have h9 := sv_l9 _ hy
            rw [o1.2] at h4 e3
            exact sd_super2 fx hd o1.1 hna o1.2 h3 hw hci (e3 (by omega)) e1 (by omega) (fun r n' w' hq => gx hq hnp)
        · exact h4.elim
      · exact h4.elim
    · exact h.elim
  | invokevirtual i =>
    dsimp only [ok_in] at hok
    dsimp only [am_in] at h
    simp only [Bool.and_eq_true, decide_eq_true_eq, beq_iff_eq] at hok
    obtain ⟨⟨⟨rfl, rfl⟩, hnp⟩, hok⟩ := hok
    split at h
    · obtain ⟨as, s', rfl, h2, h3, h4⟩ := am_sp_of h
      simp only [List.append_nil] at h4
      split at h4
      · rename_i a as'
        unfold am_cls at h4
        split at h4
        · rename_i hw
          obtain ⟨y, h5, o2, o3, o1⟩ := am_dsp_of h4 hok
          obtain ⟨d, e1, e2, e3, e4⟩ := hE _ _ _ _ _ h5
          have hna : as'.length = sv_n y := by simp only [List.length_cons] at h2; omega
          rcases o1 with o1 | ⟨x, o1⟩
          · have hy := lk_v_y o1
            dsimp only at hy
            have h9 := sv_l9 _ hy
            exact sd_virt fx hd o1 hna o3 h3 hw (e3 (by omega)) e1 (by omega) (fun r n' w' hq => gx hq hnp)
          · have hy := lk_d_y o1
            dsimp only at hy
            have h9 := sv_l9 _ hy
            exact sd_dsp fx hd o1 hna o3 h3 hw (e3 (by omega)) e1 (by omega) (fun r n' w' hq => gx hq hnp)
        · exact h4.elim
      · exact h4.elim
    · exact h.elim
  | invokeinterface i j =>
    dsimp only [ok_in] at hok
    dsimp only [am_in] at h
    simp only [Bool.and_eq_true, decide_eq_true_eq, beq_iff_eq] at hok
    obtain ⟨⟨⟨rfl, rfl⟩, hnp⟩, hok⟩ := hok
    split at h
    · simp only [Bool.and_eq_true, decide_eq_true_eq, beq_iff_eq] at hok
      obtain ⟨o1, o2⟩ := hok
      obtain ⟨as, s', rfl, h2, h3, h4⟩ := am_sp_of h
      simp only [List.append_nil] at h4
      obtain ⟨d, e1, e2, e3, e4⟩ := hE _ _ _ _ _ h4
      have hy := (lk_t_ok _ o1).2
      dsimp only at hy
      obtain ⟨i', as', hi8, rfl⟩ := e4 hy
      exact sd_strc fx hd o1 hi8 (by simp only [List.length_cons] at h2; omega) h3 (e3 (by omega)) e1 e2 (fun r n' w' hq => gx hq hnp)
    · exact h.elim
  | invokedynamic i =>
    dsimp only [ok_in] at hok
    dsimp only [am_in] at h
    simp only [Bool.and_eq_true, decide_eq_true_eq, beq_iff_eq] at hok
    obtain ⟨⟨⟨rfl, rfl⟩, hnp⟩, hok⟩ := hok
    split at h
    · obtain ⟨d, e1, e2, -, -⟩ := hE _ _ _ _ _ h.2.1
      exact sd_cpy fx hd hok h.1 (by omega) (by omega) (am_cpy_mono (fun _ hk => nx hk hnp) h.2.2)
    · exact h.elim
  | multianewarray i j =>
    dsimp only [ok_in] at hok
    dsimp only [am_in] at h
    simp only [Bool.and_eq_true, decide_eq_true_eq, beq_iff_eq] at hok
    obtain ⟨⟨⟨rfl, rfl⟩, hnp⟩, hok⟩ := hok
    split at h
    · obtain ⟨d, e1, e2, -, -⟩ := hE _ _ _ _ _ h.2.1
      exact sd_min fx hd hok h.1 (by omega) (by omega) (nx h.2.2 hnp)
    · exact h.elim
  | monitorexit =>
    dsimp only [ok_in] at hok
    dsimp only [am_in] at h
    simp only [Bool.and_eq_true, decide_eq_true_eq, beq_iff_eq] at hok
    obtain ⟨⟨rfl, hnp⟩, hok⟩ := hok
    split at hok
    · simp only [Bool.and_eq_true, decide_eq_true_eq] at hok
      obtain ⟨rfl, hok⟩ := hok
      split at h
      · obtain ⟨d, e1, e2, -, -⟩ := hE _ _ _ _ _ h.2.1
        exact sd_oinit fx hd hok h.1 (by omega) (by omega) (nx h.2.2 hnp)
      · exact h.elim
    · cases hok
  | ireturn =>
    dsimp only [ok_in] at hok
    dsimp only [am_in] at h
    simp only [Bool.and_eq_true, Bool.or_eq_true, decide_eq_true_eq, beq_iff_eq] at hok
    obtain ⟨⟨⟨rfl, rfl⟩, rfl⟩, hr⟩ := hok
    split at h
    · obtain ⟨h1, rfl, rfl, h2⟩ := h
      intro H locs A hR hS hl hn
      refine hRT.1 _ n w H locs A pc ?_ hd h2 hR hS hn.1
      rcases hr with rfl | rfl
      · exact Or.inl rfl
      · exact Or.inr ⟨rfl, h1⟩
    · exact h.elim
  | lreturn =>
    dsimp only [ok_in] at hok
    dsimp only [am_in] at h
    simp only [Bool.and_eq_true, decide_eq_true_eq, beq_iff_eq] at hok
    obtain ⟨⟨rfl, rfl⟩, hr⟩ := hok
    split at h
    · obtain ⟨rfl, rfl, h2⟩ := h
      intro H locs A hR hS hl hn
      exact hRT.2.1 _ n w H locs A pc hr hd h2 hR hS hn.1
    · exact h.elim
  | areturn =>
    dsimp only [ok_in] at hok
    dsimp only [am_in] at h
    simp only [Bool.and_eq_true, decide_eq_true_eq, beq_iff_eq] at hok
    obtain ⟨⟨rfl, rfl⟩, hr⟩ := hok
    split at h
    · obtain ⟨rfl, rfl, h2⟩ := h
      intro H locs A hR hS hl hn
      exact hRT.2.2.1 _ n w H locs A pc hr hd h2 hR hS hn.1
    · exact h.elim
  | return_ =>
    dsimp only [ok_in] at hok
    dsimp only [am_in] at h
    simp only [Bool.and_eq_true, decide_eq_true_eq, beq_iff_eq] at hok
    obtain ⟨⟨rfl, rfl⟩, hr⟩ := hok
    split at h
    · obtain ⟨rfl, rfl, h2⟩ := h
      intro H locs A hR hS hl hn
      exact hRT.2.2.2  n w H locs A pc hr hd h2 hR hS hn.1
    · exact h.elim
  | nop => dsimp only [ok_in] at hok; cases hok
  | _ => exact False.elim h
theorem st_sound (fx : FX p s m args meth c g own nL n0 ini cc) (hRT : RT p l e R s m args below meth c Z g rt n0 cc mc ms Q) (hE : EN l R g E) (hM : ∀ L, ok_b own nL rt ini cc L (M L) = true) (hmc : mc = R.cells) (hms : ms = R.slots) {cs : List En} (h : am_go E am_acc M mc ms Q cs ls st n w k1 k2) : PW p l e R s m args below meth c Z g own nL rt n0 ini cc cs ls st n w k1 k2 := by
  refine h _ ?_
  intro K G cs ls st n w k1 k2 hK hG h
  cases cs with
  | nil => exact h
  | cons en t =>
    obtain ⟨pc, r, inf, v, cs⟩ := en
    intro hok
    unfold ok_cs at hok
    simp only [Bool.and_eq_true] at hok
    obtain ⟨h1, h2⟩ := hok
    unfold ok_e at h1
    dsimp only [am_st] at h
    dsimp only at h1
    by_cases hr : r = .nop
    · rw [if_pos hr] at h1
      subst hr
      have h3 := of_decide_eq_true h1
      subst h3
      dsimp only [am_in] at h
      exact (hK _ _ _ _ _ _ _ h).br hM
    · rw [if_neg hr] at h1
      split at h1
      · rename_i q hq
        exact st_in fx hRT hE hM hmc hms hK hG hq h1 h2 h
      · cases h1
end ST2
