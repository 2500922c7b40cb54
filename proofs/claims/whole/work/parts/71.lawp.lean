/-! the law -/
theorem IV_S0 : IV S0 := by
  refine ⟨fun i h1 h2 => ?_, fun i h => if_neg (by omega)⟩
  exact (by decide +kernel : ∀ i, i < 110 → 1 ≤ i → loB i ≤ (S0 i).toInt ∧ (S0 i).toInt ≤ hiB i) i h2 h1
theorem WF_0 : WF s0 := by
  refine ⟨IV_S0, ⟨by decide, by decide⟩, .inl rfl, fun _ _ => rfl, fun t => absurd t (by decide), ⟨0, by omega, rfl⟩, fun i => ?_, fun i hi => .inl rfl, fun i hi => ⟨0, by omega, rfl⟩, fun i hi e => rfl⟩
  show 0 ≤ (0 : Int32).toInt ∧ (0 : Int32).toInt ≤ 255
  decide
section LP
variable {L : Nat} {xs : Nat → Int32}

theorem law_loop (hL : L ≤ 3072) : ∀ f i, L ≤ i + f → i ≤ L → ∀ (w : AH) (σ : MS), CX w σ → MX w σ → WF σ → w 999 = am_sa L xs → am_go (am_mok 11) am_acc am_bL 62 1388 QL (am_bL 18) [some (.ref 999), some (.ref 0), some (.ref 51), some (.int (nI i))] [] 62 w 62 1388 := by
  intro f
  induction f with
  | zero =>
    intro i hf hi w σ hX hM hW h9
    refine am_go_of 6 ?_
    simp only [bL_18, x_0, x_push, x_iload0, x_aload0, x_lload0, x_istore0, x_astore0, x_lstore0, x_iload1, x_aload1, x_lload1, x_istore1, x_astore1, x_lstore1, x_iinc1, x_iload2, x_aload2, x_lload2, x_istore2, x_astore2, x_lstore2, x_iinc2, x_iload3, x_aload3, x_lload3, x_istore3, x_astore3, x_lstore3, x_iinc3, x_iload4, x_aload4, x_lload4, x_istore4, x_astore4, x_lstore4, x_iinc4, x_iload5, x_aload5, x_lload5, x_istore5, x_astore5, x_lstore5, x_iinc5, x_iload6, x_aload6, x_lload6, x_istore6, x_astore6, x_lstore6, x_iinc6, x_iload7, x_aload7, x_lload7, x_istore7, x_astore7, x_lstore7, x_iinc7, x_iload8, x_aload8, x_lload8, x_istore8, x_astore8, x_lstore8, x_iinc8, x_iadd, x_isub, x_imul, x_iand, x_ior, x_ixor, x_ishl, x_ishr, x_iushr, x_idiv, x_irem, x_ladd, x_lmul, x_land, x_lor, x_lshl, x_lcmp, x_i2l, x_l2i, x_i2b, x_i2s, x_dupi, x_dupr, x_dup2, x_pop, x_if_eq, x_ic_eq, x_if_ne, x_ic_ne, x_if_lt, x_ic_lt, x_if_ge, x_ic_ge, x_if_gt, x_ic_gt, x_if_le, x_ic_le, x_goto, x_nop, x_lsw, x_tsw, x_getfield, x_putfield, x_iaload, x_iastore, x_laload, x_lastore, x_aaload, x_aastore, x_alen, x_inst, x_new, x_newa_int, x_newa_long, x_anew, x_stat0, x_stat1, x_intr1, x_spec1, x_virt1, x_stat2, x_intr2, x_spec2, x_virt2, x_stat3, x_intr3, x_spec3, x_virt3, x_stat4, x_intr4, x_spec4, x_virt4, x_stat5, x_intr5, x_spec5, x_virt5, x_stat6, x_intr6, x_spec6, x_virt6, x_cpy, x_min, x_oinit, x_ireturn, x_lreturn, x_areturn, x_return, z_ok_n, z_ok_i, z_ok_r, z_get, z_ov, z_on, z_put, z_fit0, z_fit1, z_fit2, z_ild, z_sld, z_ist, z_lld, z_lst, z_ald2, z_ald3, z_ast, z_leni, z_lens, z_lenl, z_cpyi, z_cpyl, z_cls, z_dsp, z_upd, z_upn, z_rsv, z_rsn, z_wd0, z_wdi, z_wdr, z_wdl, z_r0, z_r1, z_sw0, z_sw1, z_tok, true_and, and_true, List.getElem?_cons_zero, List.getElem?_cons_succ, List.set_cons_zero, List.set_cons_succ, h9, show Int32.ofNat L = nI L from rfl]
    rw [if_pos (show nI L - 6 < nI i by rw [Int32.lt_iff_toInt_lt, show (6 : Int32) = nI 6 from rfl, sub_toI (by omega) (by omega), nI_toInt (by omega)]; omega)]
    refine am_go_of 2 ?_
    simp only [bL_1324, x_0, x_push, x_iload0, x_aload0, x_lload0, x_istore0, x_astore0, x_lstore0, x_iload1, x_aload1, x_lload1, x_istore1, x_astore1, x_lstore1, x_iinc1, x_iload2, x_aload2, x_lload2, x_istore2, x_astore2, x_lstore2, x_iinc2, x_iload3, x_aload3, x_lload3, x_istore3, x_astore3, x_lstore3, x_iinc3, x_iload4, x_aload4, x_lload4, x_istore4, x_astore4, x_lstore4, x_iinc4, x_iload5, x_aload5, x_lload5, x_istore5, x_astore5, x_lstore5, x_iinc5, x_iload6, x_aload6, x_lload6, x_istore6, x_astore6, x_lstore6, x_iinc6, x_iload7, x_aload7, x_lload7, x_istore7, x_astore7, x_lstore7, x_iinc7, x_iload8, x_aload8, x_lload8, x_istore8, x_astore8, x_lstore8, x_iinc8, x_iadd, x_isub, x_imul, x_iand, x_ior, x_ixor, x_ishl, x_ishr, x_iushr, x_idiv, x_irem, x_ladd, x_lmul, x_land, x_lor, x_lshl, x_lcmp, x_i2l, x_l2i, x_i2b, x_i2s, x_dupi, x_dupr, x_dup2, x_pop, x_if_eq, x_ic_eq, x_if_ne, x_ic_ne, x_if_lt, x_ic_lt, x_if_ge, x_ic_ge, x_if_gt, x_ic_gt, x_if_le, x_ic_le, x_goto, x_nop, x_lsw, x_tsw, x_getfield, x_putfield, x_iaload, x_iastore, x_laload, x_lastore, x_aaload, x_aastore, x_alen, x_inst, x_new, x_newa_int, x_newa_long, x_anew, x_stat0, x_stat1, x_intr1, x_spec1, x_virt1, x_stat2, x_intr2, x_spec2, x_virt2, x_stat3, x_intr3, x_spec3, x_virt3, x_stat4, x_intr4, x_spec4, x_virt4, x_stat5, x_intr5, x_spec5, x_virt5, x_stat6, x_intr6, x_spec6, x_virt6, x_cpy, x_min, x_oinit, x_ireturn, x_lreturn, x_areturn, x_return, z_ok_n, z_ok_i, z_ok_r, z_get, z_ov, z_on, z_put, z_fit0, z_fit1, z_fit2, z_ild, z_sld, z_ist, z_lld, z_lst, z_ald2, z_ald3, z_ast, z_leni, z_lens, z_lenl, z_cpyi, z_cpyl, z_cls, z_dsp, z_upd, z_upn, z_rsv, z_rsn, z_wd0, z_wdi, z_wdr, z_wdl, z_r0, z_r1, z_sw0, z_sw1, z_tok, true_and, and_true, List.getElem?_cons_zero, List.getElem?_cons_succ, List.set_cons_zero, List.set_cons_succ]
    exact ⟨.inr trivial, rfl⟩
  | succ f ih =>
    intro i hf hi w σ hX hM hW h9
    refine am_go_of 6 ?_
    simp only [bL_18, x_0, x_push, x_iload0, x_aload0, x_lload0, x_istore0, x_astore0, x_lstore0, x_iload1, x_aload1, x_lload1, x_istore1, x_astore1, x_lstore1, x_iinc1, x_iload2, x_aload2, x_lload2, x_istore2, x_astore2, x_lstore2, x_iinc2, x_iload3, x_aload3, x_lload3, x_istore3, x_astore3, x_lstore3, x_iinc3, x_iload4, x_aload4, x_lload4, x_istore4, x_astore4, x_lstore4, x_iinc4, x_iload5, x_aload5, x_lload5, x_istore5, x_astore5, x_lstore5, x_iinc5, x_iload6, x_aload6, x_lload6, x_istore6, x_astore6, x_lstore6, x_iinc6, x_iload7, x_aload7, x_lload7, x_istore7, x_astore7, x_lstore7, x_iinc7, x_iload8, x_aload8, x_lload8, x_istore8, x_astore8, x_lstore8, x_iinc8, x_iadd, x_isub, x_imul, x_iand, x_ior, x_ixor, x_ishl, x_ishr, x_iushr, x_idiv, x_irem, x_ladd, x_lmul, x_land, x_lor, x_lshl, x_lcmp, x_i2l, x_l2i, x_i2b, x_i2s, x_dupi, x_dupr, x_dup2, x_pop, x_if_eq, x_ic_eq, x_if_ne, x_ic_ne, x_if_lt, x_ic_lt, x_if_ge, x_ic_ge, x_if_gt, x_ic_gt, x_if_le, x_ic_le, x_goto, x_nop, x_lsw, x_tsw, x_getfield, x_putfield, x_iaload, x_iastore, x_laload, x_lastore, x_aaload, x_aastore, x_alen, x_inst, x_new, x_newa_int, x_newa_long, x_anew, x_stat0, x_stat1, x_intr1, x_spec1, x_virt1, x_stat2, x_intr2, x_spec2, x_virt2, x_stat3, x_intr3, x_spec3, x_virt3, x_stat4, x_intr4, x_spec4, x_virt4, x_stat5, x_intr5, x_spec5, x_virt5, x_stat6, x_intr6, x_spec6, x_virt6, x_cpy, x_min, x_oinit, x_ireturn, x_lreturn, x_areturn, x_return, z_ok_n, z_ok_i, z_ok_r, z_get, z_ov, z_on, z_put, z_fit0, z_fit1, z_fit2, z_ild, z_sld, z_ist, z_lld, z_lst, z_ald2, z_ald3, z_ast, z_leni, z_lens, z_lenl, z_cpyi, z_cpyl, z_cls, z_dsp, z_upd, z_upn, z_rsv, z_rsn, z_wd0, z_wdi, z_wdr, z_wdl, z_r0, z_r1, z_sw0, z_sw1, z_tok, true_and, and_true, List.getElem?_cons_zero, List.getElem?_cons_succ, List.set_cons_zero, List.set_cons_succ, h9, show Int32.ofNat L = nI L from rfl]
    by_cases c1 : i + 6 ≤ L
    · rw [if_neg (show ¬ nI L - 6 < nI i by rw [Int32.lt_iff_toInt_lt, show (6 : Int32) = nI 6 from rfl, sub_toI (by omega) (by omega), nI_toInt (by omega)]; omega)]
      have nx : ∀ (w' : AH) (σ' : MS), CX w' σ' → MX w' σ' → WF σ' → w' 999 = am_sa L xs → am_go (am_mok 11) am_acc am_bL 62 1388 QL (am_bL 1318) [some (.ref 999), some (.ref 0), some (.ref 51), some (.int (nI i))] [] 62 w' 62 1388 := by
        intro w' σ' g1 g2 g3 g4
        refine am_go_of 2 ?_
        simp only [bL_1318, x_0, x_push, x_iload0, x_aload0, x_lload0, x_istore0, x_astore0, x_lstore0, x_iload1, x_aload1, x_lload1, x_istore1, x_astore1, x_lstore1, x_iinc1, x_iload2, x_aload2, x_lload2, x_istore2, x_astore2, x_lstore2, x_iinc2, x_iload3, x_aload3, x_lload3, x_istore3, x_astore3, x_lstore3, x_iinc3, x_iload4, x_aload4, x_lload4, x_istore4, x_astore4, x_lstore4, x_iinc4, x_iload5, x_aload5, x_lload5, x_istore5, x_astore5, x_lstore5, x_iinc5, x_iload6, x_aload6, x_lload6, x_istore6, x_astore6, x_lstore6, x_iinc6, x_iload7, x_aload7, x_lload7, x_istore7, x_astore7, x_lstore7, x_iinc7, x_iload8, x_aload8, x_lload8, x_istore8, x_astore8, x_lstore8, x_iinc8, x_iadd, x_isub, x_imul, x_iand, x_ior, x_ixor, x_ishl, x_ishr, x_iushr, x_idiv, x_irem, x_ladd, x_lmul, x_land, x_lor, x_lshl, x_lcmp, x_i2l, x_l2i, x_i2b, x_i2s, x_dupi, x_dupr, x_dup2, x_pop, x_if_eq, x_ic_eq, x_if_ne, x_ic_ne, x_if_lt, x_ic_lt, x_if_ge, x_ic_ge, x_if_gt, x_ic_gt, x_if_le, x_ic_le, x_goto, x_nop, x_lsw, x_tsw, x_getfield, x_putfield, x_iaload, x_iastore, x_laload, x_lastore, x_aaload, x_aastore, x_alen, x_inst, x_new, x_newa_int, x_newa_long, x_anew, x_stat0, x_stat1, x_intr1, x_spec1, x_virt1, x_stat2, x_intr2, x_spec2, x_virt2, x_stat3, x_intr3, x_spec3, x_virt3, x_stat4, x_intr4, x_spec4, x_virt4, x_stat5, x_intr5, x_spec5, x_virt5, x_stat6, x_intr6, x_spec6, x_virt6, x_cpy, x_min, x_oinit, x_ireturn, x_lreturn, x_areturn, x_return, z_ok_n, z_ok_i, z_ok_r, z_get, z_ov, z_on, z_put, z_fit0, z_fit1, z_fit2, z_ild, z_sld, z_ist, z_lld, z_lst, z_ald2, z_ald3, z_ast, z_leni, z_lens, z_lenl, z_cpyi, z_cpyl, z_cls, z_dsp, z_upd, z_upn, z_rsv, z_rsn, z_wd0, z_wdi, z_wdr, z_wdl, z_r0, z_r1, z_sw0, z_sw1, z_tok, true_and, and_true, List.getElem?_cons_zero, List.getElem?_cons_succ, List.set_cons_zero, List.set_cons_succ, show ∀ k, nI k + 6 = nI (k + 6) from fun k => nI_add k 6]
        exact ih (i + 6) (by omega) c1 w' σ' g1 g2 g3 g4
      refine am_go_of 6 ?_
      simp only [x_0, x_push, x_iload0, x_aload0, x_lload0, x_istore0, x_astore0, x_lstore0, x_iload1, x_aload1, x_lload1, x_istore1, x_astore1, x_lstore1, x_iinc1, x_iload2, x_aload2, x_lload2, x_istore2, x_astore2, x_lstore2, x_iinc2, x_iload3, x_aload3, x_lload3, x_istore3, x_astore3, x_lstore3, x_iinc3, x_iload4, x_aload4, x_lload4, x_istore4, x_astore4, x_lstore4, x_iinc4, x_iload5, x_aload5, x_lload5, x_istore5, x_astore5, x_lstore5, x_iinc5, x_iload6, x_aload6, x_lload6, x_istore6, x_astore6, x_lstore6, x_iinc6, x_iload7, x_aload7, x_lload7, x_istore7, x_astore7, x_lstore7, x_iinc7, x_iload8, x_aload8, x_lload8, x_istore8, x_astore8, x_lstore8, x_iinc8, x_iadd, x_isub, x_imul, x_iand, x_ior, x_ixor, x_ishl, x_ishr, x_iushr, x_idiv, x_irem, x_ladd, x_lmul, x_land, x_lor, x_lshl, x_lcmp, x_i2l, x_l2i, x_i2b, x_i2s, x_dupi, x_dupr, x_dup2, x_pop, x_if_eq, x_ic_eq, x_if_ne, x_ic_ne, x_if_lt, x_ic_lt, x_if_ge, x_ic_ge, x_if_gt, x_ic_gt, x_if_le, x_ic_le, x_goto, x_nop, x_lsw, x_tsw, x_getfield, x_putfield, x_iaload, x_iastore, x_laload, x_lastore, x_aaload, x_aastore, x_alen, x_inst, x_new, x_newa_int, x_newa_long, x_anew, x_stat0, x_stat1, x_intr1, x_spec1, x_virt1, x_stat2, x_intr2, x_spec2, x_virt2, x_stat3, x_intr3, x_spec3, x_virt3, x_stat4, x_intr4, x_spec4, x_virt4, x_stat5, x_intr5, x_spec5, x_virt5, x_stat6, x_intr6, x_spec6, x_virt6, x_cpy, x_min, x_oinit, x_ireturn, x_lreturn, x_areturn, x_return, z_ok_n, z_ok_i, z_ok_r, z_get, z_ov, z_on, z_put, z_fit0, z_fit1, z_fit2, z_ild, z_sld, z_ist, z_lld, z_lst, z_ald2, z_ald3, z_ast, z_leni, z_lens, z_lenl, z_cpyi, z_cpyl, z_cls, z_dsp, z_upd, z_upn, z_rsv, z_rsn, z_wd0, z_wdi, z_wdr, z_wdl, z_r0, z_r1, z_sw0, z_sw1, z_tok, true_and, and_true, List.getElem?_cons_zero, List.getElem?_cons_succ, List.set_cons_zero, List.set_cons_succ, h9, vp_in_nI (show i < L by omega) (show L < 2 ^ 31 by omega), nI_clamp (show i < 2 ^ 31 by omega)]
      generalize xs i &&& 63 = v
      by_cases e0 : v = 0
      · rw [if_pos e0]
        exact L_cell hX hM hW h9 c1 hL nx
      rw [if_neg e0]
      by_cases e1 : v = 1
      · rw [if_pos e1]
        exact L_cellOf hX hM hW h9 c1 hL nx
      rw [if_neg e1]
      by_cases e2 : v = 2
      · rw [if_pos e2]
        exact L_tell hX hM hW h9 c1 hL nx
      rw [if_neg e2]
      by_cases e3 : v = 3
      · rw [if_pos e3]
        exact L_where hX hM hW h9 c1 hL nx
      rw [if_neg e3]
      by_cases e4 : v = 4
      · rw [if_pos e4]
        exact L_now hX hM hW h9 c1 hL nx
      rw [if_neg e4]
      by_cases e5 : v = 5
      · rw [if_pos e5]
        exact L_mole hX hM hW h9 c1 hL nx
      rw [if_neg e5]
      by_cases e6 : v = 6
      · rw [if_pos e6]
        exact L_of hX hM hW h9 c1 hL nx
      rw [if_neg e6]
      by_cases e7 : v = 7
      · rw [if_pos e7]
        exact L_charges hX hM hW h9 c1 hL nx
      rw [if_neg e7]
      by_cases e8 : v = 8
      · rw [if_pos e8]
        exact L_set hX hM hW h9 c1 hL nx
      rw [if_neg e8]
      by_cases e9 : v = 9
      · rw [if_pos e9]
        exact L_turn hX hM hW h9 c1 hL nx
      rw [if_neg e9]
      by_cases e10 : v = 10
      · rw [if_pos e10]
        exact L_as hX hM hW h9 c1 hL nx
      rw [if_neg e10]
      by_cases e11 : v = 11
      · rw [if_pos e11]
        exact L_minutes hX hM hW h9 c1 hL nx
      rw [if_neg e11]
      by_cases e12 : v = 12
      · rw [if_pos e12]
        exact L_on hX hM hW h9 c1 hL nx
      rw [if_neg e12]
      by_cases e13 : v = 13
      · rw [if_pos e13]
        exact L_then hX hM hW h9 c1 hL nx
      rw [if_neg e13]
      by_cases e14 : v = 14
      · rw [if_pos e14]
        exact L_out hX hM hW h9 c1 hL nx
      rw [if_neg e14]
      by_cases e15 : v = 15
      · rw [if_pos e15]
        exact L_dug hX hM hW h9 c1 hL nx
      rw [if_neg e15]
      by_cases e16 : v = 16
      · rw [if_pos e16]
        exact L_comes hX hM hW h9 c1 hL nx
      rw [if_neg e16]
      by_cases e17 : v = 17
      · rw [if_pos e17]
        exact L_kind hX hM hW h9 c1 hL nx
      rw [if_neg e17]
      by_cases e18 : v = 18
      · rw [if_pos e18]
        exact L_lead hX hM hW h9 c1 hL nx
      rw [if_neg e18]
      by_cases e19 : v = 19
      · rw [if_pos e19]
        exact L_dig hX hM hW h9 c1 hL nx
      rw [if_neg e19]
      by_cases e20 : v = 20
      · rw [if_pos e20]
        exact L_leave hX hM hW h9 c1 hL nx
      rw [if_neg e20]
      by_cases e21 : v = 21
      · rw [if_pos e21]
        exact L_dismiss hX hM hW h9 c1 hL nx
      rw [if_neg e21]
      by_cases e22 : v = 22
      · rw [if_pos e22]
        exact L_richest hX hM hW h9 c1 hL nx
      rw [if_neg e22]
      by_cases e23 : v = 23
      · rw [if_pos e23]
        exact L_feed hX hM hW h9 c1 hL nx
      rw [if_neg e23]
      by_cases e24 : v = 24
      · rw [if_pos e24]
        exact L_wipe hX hM hW h9 c1 hL nx
      rw [if_neg e24]
      by_cases e25 : v = 25
      · rw [if_pos e25]
        exact L_shire hX hM hW h9 c1 hL nx
      rw [if_neg e25]
      by_cases e26 : v = 26
      · rw [if_pos e26]
        exact L_sheet hX hM hW h9 c1 hL nx
      rw [if_neg e26]
      by_cases e27 : v = 27
      · rw [if_pos e27]
        exact L_write hX hM hW h9 c1 hL nx
      rw [if_neg e27]
      by_cases e28 : v = 28
      · rw [if_pos e28]
        exact L_copy hX hM hW h9 c1 hL nx
      rw [if_neg e28]
      by_cases e29 : v = 29
      · rw [if_pos e29]
        exact L_lays hX hM hW h9 c1 hL nx
      rw [if_neg e29]
      by_cases e30 : v = 30
      · rw [if_pos e30]
        exact L_book hX hM hW h9 c1 hL nx
      rw [if_neg e30]
      by_cases e31 : v = 31
      · rw [if_pos e31]
        exact L_read hX hM hW h9 c1 hL nx
      rw [if_neg e31]
      by_cases e32 : v = 32
      · rw [if_pos e32]
        exact L_image hX hM hW h9 c1 hL nx
      rw [if_neg e32]
      by_cases e33 : v = 33
      · rw [if_pos e33]
        exact L_undo hX hM hW h9 c1 hL nx
      rw [if_neg e33]
      by_cases e34 : v = 34
      · rw [if_pos e34]
        exact L_tear hX hM hW h9 c1 hL nx
      rw [if_neg e34]
      by_cases e35 : v = 35
      · rw [if_pos e35]
        exact L_count hX hM hW h9 c1 hL nx
      rw [if_neg e35]
      by_cases e36 : v = 36
      · rw [if_pos e36]
        exact L_status hX hM hW h9 c1 hL nx
      rw [if_neg e36]
      exact nx w σ hX hM hW h9
    · rw [if_pos (show nI L - 6 < nI i by rw [Int32.lt_iff_toInt_lt, show (6 : Int32) = nI 6 from rfl, sub_toI (by omega) (by omega), nI_toInt (by omega)]; omega)]
      refine am_go_of 2 ?_
      simp only [bL_1324, x_0, x_push, x_iload0, x_aload0, x_lload0, x_istore0, x_astore0, x_lstore0, x_iload1, x_aload1, x_lload1, x_istore1, x_astore1, x_lstore1, x_iinc1, x_iload2, x_aload2, x_lload2, x_istore2, x_astore2, x_lstore2, x_iinc2, x_iload3, x_aload3, x_lload3, x_istore3, x_astore3, x_lstore3, x_iinc3, x_iload4, x_aload4, x_lload4, x_istore4, x_astore4, x_lstore4, x_iinc4, x_iload5, x_aload5, x_lload5, x_istore5, x_astore5, x_lstore5, x_iinc5, x_iload6, x_aload6, x_lload6, x_istore6, x_astore6, x_lstore6, x_iinc6, x_iload7, x_aload7, x_lload7, x_istore7, x_astore7, x_lstore7, x_iinc7, x_iload8, x_aload8, x_lload8, x_istore8, x_astore8, x_lstore8, x_iinc8, x_iadd, x_isub, x_imul, x_iand, x_ior, x_ixor, x_ishl, x_ishr, x_iushr, x_idiv, x_irem, x_ladd, x_lmul, x_land, x_lor, x_lshl, x_lcmp, x_i2l, x_l2i, x_i2b, x_i2s, x_dupi, x_dupr, x_dup2, x_pop, x_if_eq, x_ic_eq, x_if_ne, x_ic_ne, x_if_lt, x_ic_lt, x_if_ge, x_ic_ge, x_if_gt, x_ic_gt, x_if_le, x_ic_le, x_goto, x_nop, x_lsw, x_tsw, x_getfield, x_putfield, x_iaload, x_iastore, x_laload, x_lastore, x_aaload, x_aastore, x_alen, x_inst, x_new, x_newa_int, x_newa_long, x_anew, x_stat0, x_stat1, x_intr1, x_spec1, x_virt1, x_stat2, x_intr2, x_spec2, x_virt2, x_stat3, x_intr3, x_spec3, x_virt3, x_stat4, x_intr4, x_spec4, x_virt4, x_stat5, x_intr5, x_spec5, x_virt5, x_stat6, x_intr6, x_spec6, x_virt6, x_cpy, x_min, x_oinit, x_ireturn, x_lreturn, x_areturn, x_return, z_ok_n, z_ok_i, z_ok_r, z_get, z_ov, z_on, z_put, z_fit0, z_fit1, z_fit2, z_ild, z_sld, z_ist, z_lld, z_lst, z_ald2, z_ald3, z_ast, z_leni, z_lens, z_lenl, z_cpyi, z_cpyl, z_cls, z_dsp, z_upd, z_upn, z_rsv, z_rsn, z_wd0, z_wdi, z_wdr, z_wdl, z_r0, z_r1, z_sw0, z_sw1, z_tok, true_and, and_true, List.getElem?_cons_zero, List.getElem?_cons_succ, List.set_cons_zero, List.set_cons_succ]
      exact ⟨.inr trivial, rfl⟩
theorem law_pure (hL : L ≤ 3072) : am_go (am_mok 11) am_acc am_bL 62 1388 (fun r _ _ => r = some (.int 1)) (am_bL 0) [some (.ref 999), none, none, none] [] 0 (am_w0 L xs) 0 0 := by
  have d10 : am_def 10 = [.null, .null, .null, .int 0, .null, .null, .null] := rfl
  have d11 : am_def 11 = [.null, .null, .null, .null, .null, .int 0, .int 0, .null, .int 0, .int 0, .int 0, .int 0, .int 0, .null, .null, .null, .null] := rfl
  have a80 : (am_acc 80).1 = 50 := rfl
  have b80 : (am_acc 80).2 = 589 := rfl
  have a131 : (am_acc 131).1 = 10 := rfl
  have b131 : (am_acc 131).2 = 775 := rfl
  refine am_go_of 3 ?_
  simp only [bL_0, x_0, x_push, x_iload0, x_aload0, x_lload0, x_istore0, x_astore0, x_lstore0, x_iload1, x_aload1, x_lload1, x_istore1, x_astore1, x_lstore1, x_iinc1, x_iload2, x_aload2, x_lload2, x_istore2, x_astore2, x_lstore2, x_iinc2, x_iload3, x_aload3, x_lload3, x_istore3, x_astore3, x_lstore3, x_iinc3, x_iload4, x_aload4, x_lload4, x_istore4, x_astore4, x_lstore4, x_iinc4, x_iload5, x_aload5, x_lload5, x_istore5, x_astore5, x_lstore5, x_iinc5, x_iload6, x_aload6, x_lload6, x_istore6, x_astore6, x_lstore6, x_iinc6, x_iload7, x_aload7, x_lload7, x_istore7, x_astore7, x_lstore7, x_iinc7, x_iload8, x_aload8, x_lload8, x_istore8, x_astore8, x_lstore8, x_iinc8, x_iadd, x_isub, x_imul, x_iand, x_ior, x_ixor, x_ishl, x_ishr, x_iushr, x_idiv, x_irem, x_ladd, x_lmul, x_land, x_lor, x_lshl, x_lcmp, x_i2l, x_l2i, x_i2b, x_i2s, x_dupi, x_dupr, x_dup2, x_pop, x_if_eq, x_ic_eq, x_if_ne, x_ic_ne, x_if_lt, x_ic_lt, x_if_ge, x_ic_ge, x_if_gt, x_ic_gt, x_if_le, x_ic_le, x_goto, x_nop, x_lsw, x_tsw, x_getfield, x_putfield, x_iaload, x_iastore, x_laload, x_lastore, x_aaload, x_aastore, x_alen, x_inst, x_new, x_newa_int, x_newa_long, x_anew, x_stat0, x_stat1, x_intr1, x_spec1, x_virt1, x_stat2, x_intr2, x_spec2, x_virt2, x_stat3, x_intr3, x_spec3, x_virt3, x_stat4, x_intr4, x_spec4, x_virt4, x_stat5, x_intr5, x_spec5, x_virt5, x_stat6, x_intr6, x_spec6, x_virt6, x_cpy, x_min, x_oinit, x_ireturn, x_lreturn, x_areturn, x_return, z_ok_n, z_ok_i, z_ok_r, z_get, z_ov, z_on, z_put, z_fit0, z_fit1, z_fit2, z_ild, z_sld, z_ist, z_lld, z_lst, z_ald2, z_ald3, z_ast, z_leni, z_lens, z_lenl, z_cpyi, z_cpyl, z_cls, z_dsp, z_upd, z_upn, z_rsv, z_rsn, z_wd0, z_wdi, z_wdr, z_wdl, z_r0, z_r1, z_sw0, z_sw1, z_tok, true_and, and_true, List.getElem?_cons_zero, List.getElem?_cons_succ, List.set_cons_zero, List.set_cons_succ, d10, a80, b80, Nat.reduceAdd, Nat.zero_add]
  iterate 7 refine ⟨by decide, ?_⟩
  refine k_80 z_upd fun w1 g1 g2 => ?_
  refine am_go_of 4 ?_
  simp only [x_0, x_push, x_iload0, x_aload0, x_lload0, x_istore0, x_astore0, x_lstore0, x_iload1, x_aload1, x_lload1, x_istore1, x_astore1, x_lstore1, x_iinc1, x_iload2, x_aload2, x_lload2, x_istore2, x_astore2, x_lstore2, x_iinc2, x_iload3, x_aload3, x_lload3, x_istore3, x_astore3, x_lstore3, x_iinc3, x_iload4, x_aload4, x_lload4, x_istore4, x_astore4, x_lstore4, x_iinc4, x_iload5, x_aload5, x_lload5, x_istore5, x_astore5, x_lstore5, x_iinc5, x_iload6, x_aload6, x_lload6, x_istore6, x_astore6, x_lstore6, x_iinc6, x_iload7, x_aload7, x_lload7, x_istore7, x_astore7, x_lstore7, x_iinc7, x_iload8, x_aload8, x_lload8, x_istore8, x_astore8, x_lstore8, x_iinc8, x_iadd, x_isub, x_imul, x_iand, x_ior, x_ixor, x_ishl, x_ishr, x_iushr, x_idiv, x_irem, x_ladd, x_lmul, x_land, x_lor, x_lshl, x_lcmp, x_i2l, x_l2i, x_i2b, x_i2s, x_dupi, x_dupr, x_dup2, x_pop, x_if_eq, x_ic_eq, x_if_ne, x_ic_ne, x_if_lt, x_ic_lt, x_if_ge, x_ic_ge, x_if_gt, x_ic_gt, x_if_le, x_ic_le, x_goto, x_nop, x_lsw, x_tsw, x_getfield, x_putfield, x_iaload, x_iastore, x_laload, x_lastore, x_aaload, x_aastore, x_alen, x_inst, x_new, x_newa_int, x_newa_long, x_anew, x_stat0, x_stat1, x_intr1, x_spec1, x_virt1, x_stat2, x_intr2, x_spec2, x_virt2, x_stat3, x_intr3, x_spec3, x_virt3, x_stat4, x_intr4, x_spec4, x_virt4, x_stat5, x_intr5, x_spec5, x_virt5, x_stat6, x_intr6, x_spec6, x_virt6, x_cpy, x_min, x_oinit, x_ireturn, x_lreturn, x_areturn, x_return, z_ok_n, z_ok_i, z_ok_r, z_get, z_ov, z_on, z_put, z_fit0, z_fit1, z_fit2, z_ild, z_sld, z_ist, z_lld, z_lst, z_ald2, z_ald3, z_ast, z_leni, z_lens, z_lenl, z_cpyi, z_cpyl, z_cls, z_dsp, z_upd, z_upn, z_rsv, z_rsn, z_wd0, z_wdi, z_wdr, z_wdl, z_r0, z_r1, z_sw0, z_sw1, z_tok, true_and, and_true, List.getElem?_cons_zero, List.getElem?_cons_succ, List.set_cons_zero, List.set_cons_succ, d11, a131, b131, Nat.reduceAdd, Nat.zero_add]
  iterate 7 refine ⟨by decide, ?_⟩
  refine k_131 z_upd fun w2 g3 g4 => ?_
  refine am_go_of 4 ?_
  simp only [x_0, x_push, x_iload0, x_aload0, x_lload0, x_istore0, x_astore0, x_lstore0, x_iload1, x_aload1, x_lload1, x_istore1, x_astore1, x_lstore1, x_iinc1, x_iload2, x_aload2, x_lload2, x_istore2, x_astore2, x_lstore2, x_iinc2, x_iload3, x_aload3, x_lload3, x_istore3, x_astore3, x_lstore3, x_iinc3, x_iload4, x_aload4, x_lload4, x_istore4, x_astore4, x_lstore4, x_iinc4, x_iload5, x_aload5, x_lload5, x_istore5, x_astore5, x_lstore5, x_iinc5, x_iload6, x_aload6, x_lload6, x_istore6, x_astore6, x_lstore6, x_iinc6, x_iload7, x_aload7, x_lload7, x_istore7, x_astore7, x_lstore7, x_iinc7, x_iload8, x_aload8, x_lload8, x_istore8, x_astore8, x_lstore8, x_iinc8, x_iadd, x_isub, x_imul, x_iand, x_ior, x_ixor, x_ishl, x_ishr, x_iushr, x_idiv, x_irem, x_ladd, x_lmul, x_land, x_lor, x_lshl, x_lcmp, x_i2l, x_l2i, x_i2b, x_i2s, x_dupi, x_dupr, x_dup2, x_pop, x_if_eq, x_ic_eq, x_if_ne, x_ic_ne, x_if_lt, x_ic_lt, x_if_ge, x_ic_ge, x_if_gt, x_ic_gt, x_if_le, x_ic_le, x_goto, x_nop, x_lsw, x_tsw, x_getfield, x_putfield, x_iaload, x_iastore, x_laload, x_lastore, x_aaload, x_aastore, x_alen, x_inst, x_new, x_newa_int, x_newa_long, x_anew, x_stat0, x_stat1, x_intr1, x_spec1, x_virt1, x_stat2, x_intr2, x_spec2, x_virt2, x_stat3, x_intr3, x_spec3, x_virt3, x_stat4, x_intr4, x_spec4, x_virt4, x_stat5, x_intr5, x_spec5, x_virt5, x_stat6, x_intr6, x_spec6, x_virt6, x_cpy, x_min, x_oinit, x_ireturn, x_lreturn, x_areturn, x_return, z_ok_n, z_ok_i, z_ok_r, z_get, z_ov, z_on, z_put, z_fit0, z_fit1, z_fit2, z_ild, z_sld, z_ist, z_lld, z_lst, z_ald2, z_ald3, z_ast, z_leni, z_lens, z_lenl, z_cpyi, z_cpyl, z_cls, z_dsp, z_upd, z_upn, z_rsv, z_rsn, z_wd0, z_wdi, z_wdr, z_wdl, z_r0, z_r1, z_sw0, z_sw1, z_tok, true_and, and_true, List.getElem?_cons_zero, List.getElem?_cons_succ, List.set_cons_zero, List.set_cons_succ, Nat.reduceAdd]
  have q1 : AW w1 w2 := ((AW.rf w1).up (by decide) (by decide)).tr g4
  refine law_loop (xs := xs) hL L 0 (by omega) (by omega) w2 s0 (g1.aw q1) g3 WF_0 ?_
  rw [q1 999 (by decide), g2 999 (by decide), z_upn (by decide)]
  rfl
end LP
theorem whole_start {p : Program} {e : Env} {s : State} {m : MethodId} {below : List Frame} {meth : Method} {c : Code} (l : Launch) (hflags : l.flags = flags0) {b L : Nat} {xs : Nat → Int32} (hL : L ≤ 3072) (C0 : lw_At p s m meth c b L xs) : W p l e room_1 s m #[Value.ref b] below meth c s.heap [] 0 0 (lw_Z below #[Value.ref b] s) (entryFrame m ([Value.ref b] : List Value).toArray 4) := law_of_pure l C0 (law_pure hL)
