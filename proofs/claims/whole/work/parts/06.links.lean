/-! ===== printed by gen/trans.py: the two systems, their words ===== -/
def S1 : wn_S := [(7, 0, [3, 4, 0, 5, 6, 7, 8]), (5, 0, [0, 0, 0, 0, 9, 10, 11, 12]), (5, 0, [0, 0, 0, 0, 13, 14, 15, 16]), (2, 0, [17, 0, 0, 0, 0, 0, 0, 18, 0, 19]), (6, 0, [0, 20, 21, 22, 23]), (3, 0, [24, 25, 26]), (4, 0, [3, 6, 27, 28, 1, 29, 30, 0, 31, 32, 33, 0, 0, 0, 0, 0, 34]), (0, 5, []), (0, 5, []), (0, 5, []), (0, 5, []), (0, 5, []), (0, 5, []), (0, 5, []), (0, 5, []), (0, 160, []), (0, 160, []), (0, 3, []), (0, 960, []), (0, 18, []), (0, 6, []), (0, 160, []), (0, 4, []), (0, 4, []), (0, 160, []), (0, 12, []), (0, 12, []), (0, 12, []), (0, 5, []), (0, 5, []), (0, 5, []), (0, 5, []), (0, 3900, [])]
-- S1 0: ('obj', 'X5', '')
-- S1 1: ('obj', 'X3', 'table')
-- S1 2: ('obj', 'X3', 'kept')
-- S1 3: ('obj', 'X0', 'reader')
-- S1 4: ('obj', 'X4', 'texts')
-- S1 5: ('obj', 'X1', 'sheets')
-- S1 6: ('obj', 'X2', 'evening')
-- S1 7: ('arr', '[I', 'table.kind', 5)
-- S1 8: ('arr', '[I', 'table.number', 5)
-- S1 9: ('arr', '[I', 'table.want', 5)
-- S1 10: ('arr', '[I', 'table.pace', 5)
-- S1 11: ('arr', '[I', 'kept.kind', 5)
-- S1 12: ('arr', '[I', 'kept.number', 5)
-- S1 13: ('arr', '[I', 'kept.want', 5)
-- S1 14: ('arr', '[I', 'kept.pace', 5)
-- S1 15: ('arr', '[I', 'reader.tape', 160)
-- S1 16: ('arr', '[I', 'reader.code', 160)
-- S1 17: ('arr', '[I', 'reader.ends', 3)
-- S1 18: ('arr', '[I', 'texts.codes', 960)
-- S1 19: ('arr', '[I', 'texts.ends', 18)
-- S1 20: ('arr', '[I', 'texts.names', 6)
-- S1 21: ('arr', '[I', 'texts.stack', 160)
-- S1 22: ('arr', '[I', 'sheets.sorts', 4)
-- S1 23: ('arr', '[I', 'sheets.sizes', 4)
-- S1 24: ('arr', '[I', 'sheets.items', 160)
-- S1 25: ('arr', '[I', 'evening.readyAt', 12)
-- S1 26: ('arr', '[I', 'evening.servedAt', 12)
-- S1 27: ('arr', '[I', 'evening.plan', 12)
-- S1 28: ('arr', '[I', 'evening.eats', 5)
-- S1 29: ('arr', '[I', 'evening.had', 5)
-- S1 30: ('arr', '[I', 'evening.waits', 5)
-- S1 31: ('arr', '[I', 'evening.last', 5)
-- S1 32: ('arr', '[I', 'evening.hungerKnown', 3900)
def S2 : wn_S := [(8, 0, [0, 3, 4, 0, 0, 5, 0, 0, 0, 6, 7, 8, 9, 0, 0, 0, 0, 0, 0, 0, 0, 0, 0, 0, 0, 0, 1, 0, 0, 0, 10, 11, 12, 13, 14, 15, 0, 0, 0, 0, 16, 0, 0, 17, 0, 0, 0, 0, 18, 19, 20, 21]), (0, 960, []), (0, 6, []), (0, 160, []), (0, 5, []), (0, 5, []), (0, 5, []), (0, 5, []), (0, 5, []), (0, 5, []), (0, 5, []), (0, 12, []), (0, 12, []), (0, 12, []), (0, 12, []), (0, 15, []), (1, 4, []), (0, 4, []), (0, 4, []), (0, 160, [])]
-- S2 0: ('obj', 'X6', '')
-- S2 1: ('arr', '[I', 'texts', 960)
-- S2 2: ('arr', '[I', 'textSize', 6)
-- S2 3: ('arr', '[I', 'tape', 160)
-- S2 4: ('arr', '[I', 'kinds', 5)
-- S2 5: ('arr', '[I', 'numbers', 5)
-- S2 6: ('arr', '[I', 'wants', 5)
-- S2 7: ('arr', '[I', 'paces', 5)
-- S2 8: ('arr', '[I', 'had', 5)
-- S2 9: ('arr', '[I', 'doneAt', 5)
-- S2 10: ('arr', '[I', 'waits', 5)
-- S2 11: ('arr', '[I', 'readyAt', 12)
-- S2 12: ('arr', '[I', 'servedAt', 12)
-- S2 13: ('arr', '[I', 'giving', 12)
-- S2 14: ('arr', '[I', 'bestGiving', 12)
-- S2 15: ('arr', '[I', 'kept', 15)
-- S2 16: ('arr', '[Z', 'isThere', 4)
-- S2 17: ('arr', '[I', 'sorts', 4)
-- S2 18: ('arr', '[I', 'sheetSize', 4)
-- S2 19: ('arr', '[I', 'items', 160)
theorem gf_X5_63 : Cond.fieldLink RX5 63 RX5 "LOWEST" "[I" ∈ gw := gw_in (List.mem_append_right _ (List.mem_of_getElem? (i := 373) (by decide +kernel))) (by decide +kernel)
theorem gf_X5_67 : Cond.fieldLink RX5 67 RX5 "HIGHEST" "[I" ∈ gw := gw_in (List.mem_append_right _ (List.mem_of_getElem? (i := 375) (by decide +kernel))) (by decide +kernel)
theorem wi_X5_a : ∀ w ∈ u_ws RX5 TX5 7, w ∈ lw_tbl := by decide +kernel
theorem wi_X5_b : ∀ w ∈ u_ws RX5 TX5 7, goodWord w = true := by decide +kernel
theorem wi_X5 : ∀ w ∈ u_ws RX5 TX5 7, w ∈ gw := fun w h => gw_in (wi_X5_a w h) (wi_X5_b w h)
theorem fl_X5_10 : FL RX5 10 5 0 true := ⟨RX5, TX5, 7, tyX5, rfl, by decide, wi_X5, rfl, rfl, tyX5_ok, nmX5, Or.inl (gw_in (List.mem_append_right _ (List.mem_of_getElem? (i := 346) (by decide +kernel))) (by decide +kernel))⟩
theorem so_S1_0 : S1[0]? = some (7, 0, [3, 4, 0, 5, 6, 7, 8]) := rfl
theorem wi_X3_a : ∀ w ∈ u_ws RX3 TX3 8, w ∈ lw_tbl := by decide +kernel
theorem wi_X3_b : ∀ w ∈ u_ws RX3 TX3 8, goodWord w = true := by decide +kernel
theorem wi_X3 : ∀ w ∈ u_ws RX3 TX3 8, w ∈ gw := fun w h => gw_in (wi_X3_a w h) (wi_X3_b w h)
theorem fl_X3_31 : FL RX3 31 3 3 false := ⟨RX3, TX3, 8, tyX3, rfl, by decide, wi_X3, rfl, rfl, tyX3_ok, nmX3, Or.inl (gw_in (List.mem_append_right _ (List.mem_of_getElem? (i := 37) (by decide +kernel))) (by decide +kernel))⟩
theorem so_S1_1 : S1[1]? = some (5, 0, [0, 0, 0, 0, 9, 10, 11, 12]) := rfl
abbrev mX3_has : wn_M := (yX3_has, cX3_has, 2, (some .boolean))
theorem gc_yX3_has : Cond.code yX3_has cX3_has 2 (some .boolean) ∈ gw := gw_in (List.mem_append_right _ (List.mem_of_getElem? (i := 384) (by decide +kernel))) (by decide +kernel)
theorem gi_FirstOne_Table : Cond.initialized RX3 ∈ gw := gw_in (List.mem_append_right _ (List.mem_of_getElem? (i := 2) (by decide +kernel))) (by decide +kernel)
theorem gm_yX3_has : Cond.instanceMethod yX3_has ∈ gw := gw_in (List.mem_append_right _ (List.mem_of_getElem? (i := 383) (by decide +kernel))) (by decide +kernel)
theorem gs_yX3_has : Cond.selects RX3 yX3_has yX3_has ∈ gw := gw_in (List.mem_append_left _ (List.mem_of_getElem? (i := 15) (by decide +kernel))) (by decide +kernel)
theorem mv_X3_has : MV mX3_has 3 1 := ⟨⟨gc_yX3_has, gi_FirstOne_Table, ⟨by decide, by decide⟩, by decide +kernel, by decide⟩, gm_yX3_has, gs_yX3_has, TX3, 8, rfl⟩
theorem gl_X3_34 : Cond.methodLink RX3 34 yX3_has ∈ gw := gw_in (List.mem_append_right _ (List.mem_of_getElem? (i := 381) (by decide +kernel))) (by decide +kernel)
theorem lm_X3_34 : LM RX3 34 yX3_has := Or.inl gl_X3_34
theorem fl_X3_28 : FL RX3 28 3 7 true := ⟨RX3, TX3, 8, tyX3, rfl, by decide, wi_X3, rfl, rfl, tyX3_ok, nmX3, Or.inl (gw_in (List.mem_append_right _ (List.mem_of_getElem? (i := 49) (by decide +kernel))) (by decide +kernel))⟩
theorem so_S1_10 : S1[10]? = some (0, 5, []) := rfl
theorem fl_X3_25 : FL RX3 25 3 6 true := ⟨RX3, TX3, 8, tyX3, rfl, by decide, wi_X3, rfl, rfl, tyX3_ok, nmX3, Or.inl (gw_in (List.mem_append_right _ (List.mem_of_getElem? (i := 46) (by decide +kernel))) (by decide +kernel))⟩
theorem so_S1_9 : S1[9]? = some (0, 5, []) := rfl
theorem fl_X3_22 : FL RX3 22 3 5 true := ⟨RX3, TX3, 8, tyX3, rfl, by decide, wi_X3, rfl, rfl, tyX3_ok, nmX3, Or.inl (gw_in (List.mem_append_right _ (List.mem_of_getElem? (i := 43) (by decide +kernel))) (by decide +kernel))⟩
theorem so_S1_8 : S1[8]? = some (0, 5, []) := rfl
theorem fl_X3_15 : FL RX3 15 3 1 false := ⟨RX3, TX3, 8, tyX3, rfl, by decide, wi_X3, rfl, rfl, tyX3_ok, nmX3, Or.inl (gw_in (List.mem_append_right _ (List.mem_of_getElem? (i := 32) (by decide +kernel))) (by decide +kernel))⟩
theorem ft_X3_1 : FTy 3 1 .int := by
  intro C T N h
  have h : some (RX3, TX3, 8) = some (C, T, N) := h
  cases h
  decide +kernel
theorem fl_X3_9 : FL RX3 9 3 0 false := ⟨RX3, TX3, 8, tyX3, rfl, by decide, wi_X3, rfl, rfl, tyX3_ok, nmX3, Or.inl (gw_in (List.mem_append_right _ (List.mem_of_getElem? (i := 29) (by decide +kernel))) (by decide +kernel))⟩
theorem ft_X3_0 : FTy 3 0 .int := by
  intro C T N h
  have h : some (RX3, TX3, 8) = some (C, T, N) := h
  cases h
  decide +kernel
abbrev mX3_change : wn_M := (yX3_change, cX3_change, 6, (some .int))
theorem gc_yX3_change : Cond.code yX3_change cX3_change 6 (some .int) ∈ gw := gw_in (List.mem_append_right _ (List.mem_of_getElem? (i := 380) (by decide +kernel))) (by decide +kernel)
theorem gm_yX3_change : Cond.instanceMethod yX3_change ∈ gw := gw_in (List.mem_append_right _ (List.mem_of_getElem? (i := 379) (by decide +kernel))) (by decide +kernel)
theorem gs_yX3_change : Cond.selects RX3 yX3_change yX3_change ∈ gw := gw_in (List.mem_append_left _ (List.mem_of_getElem? (i := 14) (by decide +kernel))) (by decide +kernel)
theorem mv_X3_change : MV mX3_change 3 3 := ⟨⟨gc_yX3_change, gi_FirstOne_Table, ⟨by decide, by decide⟩, by decide +kernel, by decide⟩, gm_yX3_change, gs_yX3_change, TX3, 8, rfl⟩
theorem lm_X5_70 : LM RX5 70 yX3_change := Or.inr (List.mem_append_right _ (List.mem_of_getElem? (i := 8) (by decide +kernel)))
abbrev mX5_set : wn_M := (yX5_set, cX5_set, 4, (some .int))
theorem gk_X6_98 : Cond.constantLong RX6 98 (4) ∈ gw := gw_in (List.mem_append_right _ (List.mem_of_getElem? (i := 868) (by decide +kernel))) (by decide +kernel)
abbrev mX6_in : wn_M := (yX6_in, cX6_in, 6, (some .boolean))
theorem gc_yX6_in : Cond.code yX6_in cX6_in 6 (some .boolean) ∈ gw := gw_in (List.mem_append_right _ (List.mem_of_getElem? (i := 871) (by decide +kernel))) (by decide +kernel)
theorem gi_FirstOneModel : Cond.initialized RX6 ∈ gw := gw_in (List.mem_append_right _ (List.mem_of_getElem? (i := 11) (by decide +kernel))) (by decide +kernel)
theorem gt_yX6_in : Cond.static yX6_in ∈ gw := gw_in (List.mem_append_right _ (List.mem_of_getElem? (i := 870) (by decide +kernel))) (by decide +kernel)
theorem mst_X6_in : MS mX6_in 3 := ⟨⟨gc_yX6_in, gi_FirstOneModel, ⟨by decide, by decide⟩, by decide +kernel, by decide⟩, gt_yX6_in⟩
theorem gl_X6_94 : Cond.methodLink RX6 94 yX6_in ∈ gw := gw_in (List.mem_append_right _ (List.mem_of_getElem? (i := 869) (by decide +kernel))) (by decide +kernel)
theorem lm_X6_94 : LM RX6 94 yX6_in := Or.inl gl_X6_94
theorem gk_X6_104 : Cond.constantLong RX6 104 (12) ∈ gw := gw_in (List.mem_append_right _ (List.mem_of_getElem? (i := 876) (by decide +kernel))) (by decide +kernel)
theorem wi_X6_a : ∀ w ∈ u_ws RX6 TX6 52, w ∈ lw_tbl := by decide +kernel
theorem wi_X6_b : ∀ w ∈ u_ws RX6 TX6 52, goodWord w = true := by decide +kernel
theorem wi_X6 : ∀ w ∈ u_ws RX6 TX6 52, w ∈ gw := fun w h => gw_in (wi_X6_a w h) (wi_X6_b w h)
theorem fl_X6_38 : FL RX6 38 6 12 true := ⟨RX6, TX6, 52, tyX6, rfl, by decide, wi_X6, rfl, rfl, tyX6_ok, nmX6, Or.inl (gw_in (List.mem_append_right _ (List.mem_of_getElem? (i := 718) (by decide +kernel))) (by decide +kernel))⟩
theorem so_S2_0 : S2[0]? = some (8, 0, [0, 3, 4, 0, 0, 5, 0, 0, 0, 6, 7, 8, 9, 0, 0, 0, 0, 0, 0, 0, 0, 0, 0, 0, 0, 0, 1, 0, 0, 0, 10, 11, 12, 13, 14, 15, 0, 0, 0, 0, 16, 0, 0, 17, 0, 0, 0, 0, 18, 19, 20, 21]) := rfl
theorem so_S2_7 : S2[7]? = some (0, 5, []) := rfl
theorem fl_X6_35 : FL RX6 35 6 11 true := ⟨RX6, TX6, 52, tyX6, rfl, by decide, wi_X6, rfl, rfl, tyX6_ok, nmX6, Or.inl (gw_in (List.mem_append_right _ (List.mem_of_getElem? (i := 717) (by decide +kernel))) (by decide +kernel))⟩
theorem so_S2_6 : S2[6]? = some (0, 5, []) := rfl
theorem fl_X6_32 : FL RX6 32 6 10 true := ⟨RX6, TX6, 52, tyX6, rfl, by decide, wi_X6, rfl, rfl, tyX6_ok, nmX6, Or.inl (gw_in (List.mem_append_right _ (List.mem_of_getElem? (i := 716) (by decide +kernel))) (by decide +kernel))⟩
theorem so_S2_5 : S2[5]? = some (0, 5, []) := rfl
theorem fl_X6_26 : FL RX6 26 6 8 false := ⟨RX6, TX6, 52, tyX6, rfl, by decide, wi_X6, rfl, rfl, tyX6_ok, nmX6, Or.inl (gw_in (List.mem_append_right _ (List.mem_of_getElem? (i := 714) (by decide +kernel))) (by decide +kernel))⟩
theorem ft_X6_8 : FTy 6 8 .int := by
  intro C T N h
  have h : some (RX6, TX6, 52) = some (C, T, N) := h
  cases h
  decide +kernel
theorem fl_X6_23 : FL RX6 23 6 7 false := ⟨RX6, TX6, 52, tyX6, rfl, by decide, wi_X6, rfl, rfl, tyX6_ok, nmX6, Or.inl (gw_in (List.mem_append_right _ (List.mem_of_getElem? (i := 713) (by decide +kernel))) (by decide +kernel))⟩
theorem ft_X6_7 : FTy 6 7 .int := by
  intro C T N h
  have h : some (RX6, TX6, 52) = some (C, T, N) := h
  cases h
  decide +kernel
theorem gk_X6_110 : Cond.constantLong RX6 110 (20) ∈ gw := gw_in (List.mem_append_right _ (List.mem_of_getElem? (i := 879) (by decide +kernel))) (by decide +kernel)
theorem gk_X6_108 : Cond.constantLong RX6 108 (9) ∈ gw := gw_in (List.mem_append_right _ (List.mem_of_getElem? (i := 878) (by decide +kernel))) (by decide +kernel)
theorem gk_X6_106 : Cond.constantLong RX6 106 (2) ∈ gw := gw_in (List.mem_append_right _ (List.mem_of_getElem? (i := 877) (by decide +kernel))) (by decide +kernel)
theorem fl_X6_91 : FL RX6 91 6 13 false := ⟨RX6, TX6, 52, tyX6, rfl, by decide, wi_X6, rfl, rfl, tyX6_ok, nmX6, Or.inl (gw_in (List.mem_append_right _ (List.mem_of_getElem? (i := 719) (by decide +kernel))) (by decide +kernel))⟩
abbrev mX6_isEater : wn_M := (yX6_isEater, cX6_isEater, 2, (some .boolean))
theorem gc_yX6_isEater : Cond.code yX6_isEater cX6_isEater 2 (some .boolean) ∈ gw := gw_in (List.mem_append_right _ (List.mem_of_getElem? (i := 875) (by decide +kernel))) (by decide +kernel)
theorem gm_yX6_isEater : Cond.instanceMethod yX6_isEater ∈ gw := gw_in (List.mem_append_right _ (List.mem_of_getElem? (i := 874) (by decide +kernel))) (by decide +kernel)
theorem gs_yX6_isEater : Cond.selects RX6 yX6_isEater yX6_isEater ∈ gw := gw_in (List.mem_append_left _ (List.mem_of_getElem? (i := 56) (by decide +kernel))) (by decide +kernel)
theorem mv_X6_isEater : MV mX6_isEater 6 1 := ⟨⟨gc_yX6_isEater, gi_FirstOneModel, ⟨by decide, by decide⟩, by decide +kernel, by decide⟩, gm_yX6_isEater, gs_yX6_isEater, TX6, 52, rfl⟩
theorem gl_X6_100 : Cond.methodLink RX6 100 yX6_isEater ∈ gw := gw_in (List.mem_append_right _ (List.mem_of_getElem? (i := 872) (by decide +kernel))) (by decide +kernel)
theorem lm_X6_100 : LM RX6 100 yX6_isEater := Or.inl gl_X6_100
abbrev mX6_set : wn_M := (yX6_set, cX6_set, 5, (some .int))
theorem fl_X3_18 : FL RX3 18 3 4 true := ⟨RX3, TX3, 8, tyX3, rfl, by decide, wi_X3, rfl, rfl, tyX3_ok, nmX3, Or.inl (gw_in (List.mem_append_right _ (List.mem_of_getElem? (i := 40) (by decide +kernel))) (by decide +kernel))⟩
theorem so_S1_7 : S1[7]? = some (0, 5, []) := rfl
theorem ft_X3_3 : FTy 3 3 .int := by
  intro C T N h
  have h : some (RX3, TX3, 8) = some (C, T, N) := h
  cases h
  decide +kernel
abbrev mX3_seat : wn_M := (yX3_seat, cX3_seat, 4, (some .int))
theorem gc_yX3_seat : Cond.code yX3_seat cX3_seat 4 (some .int) ∈ gw := gw_in (List.mem_append_right _ (List.mem_of_getElem? (i := 392) (by decide +kernel))) (by decide +kernel)
theorem gm_yX3_seat : Cond.instanceMethod yX3_seat ∈ gw := gw_in (List.mem_append_right _ (List.mem_of_getElem? (i := 391) (by decide +kernel))) (by decide +kernel)
theorem gs_yX3_seat : Cond.selects RX3 yX3_seat yX3_seat ∈ gw := gw_in (List.mem_append_left _ (List.mem_of_getElem? (i := 16) (by decide +kernel))) (by decide +kernel)
theorem mv_X3_seat : MV mX3_seat 3 3 := ⟨⟨gc_yX3_seat, gi_FirstOne_Table, ⟨by decide, by decide⟩, by decide +kernel, by decide⟩, gm_yX3_seat, gs_yX3_seat, TX3, 8, rfl⟩
theorem lm_X5_74 : LM RX5 74 yX3_seat := Or.inr (List.mem_append_right _ (List.mem_of_getElem? (i := 9) (by decide +kernel)))
abbrev mX5_eater : wn_M := (yX5_eater, cX5_eater, 4, (some .int))
theorem gk_X6_112 : Cond.constantLong RX6 112 (5) ∈ gw := gw_in (List.mem_append_right _ (List.mem_of_getElem? (i := 884) (by decide +kernel))) (by decide +kernel)
theorem gk_X6_114 : Cond.constantLong RX6 114 (912) ∈ gw := gw_in (List.mem_append_right _ (List.mem_of_getElem? (i := 885) (by decide +kernel))) (by decide +kernel)
theorem fl_X6_29 : FL RX6 29 6 9 true := ⟨RX6, TX6, 52, tyX6, rfl, by decide, wi_X6, rfl, rfl, tyX6_ok, nmX6, Or.inl (gw_in (List.mem_append_right _ (List.mem_of_getElem? (i := 715) (by decide +kernel))) (by decide +kernel))⟩
theorem so_S2_4 : S2[4]? = some (0, 5, []) := rfl
theorem ft_X6_13 : FTy 6 13 .int := by
  intro C T N h
  have h : some (RX6, TX6, 52) = some (C, T, N) := h
  cases h
  decide +kernel
abbrev mX6_eater : wn_M := (yX6_eater, cX6_eater, 4, (some .int))
theorem lm_X5_77 : LM RX5 77 yX3_has := Or.inr (List.mem_append_right _ (List.mem_of_getElem? (i := 10) (by decide +kernel)))
theorem fl_X5_81 : FL RX5 81 3 4 true := ⟨RX3, TX3, 8, tyX3, rfl, by decide, wi_X3, rfl, rfl, tyX3_ok, nmX3, Or.inr (List.mem_append_left _ (List.mem_of_getElem? (i := 8) (by decide +kernel)))⟩
theorem fl_X5_84 : FL RX5 84 3 7 true := ⟨RX3, TX3, 8, tyX3, rfl, by decide, wi_X3, rfl, rfl, tyX3_ok, nmX3, Or.inr (List.mem_append_left _ (List.mem_of_getElem? (i := 14) (by decide +kernel)))⟩
theorem gl_X5_205 : Cond.methodLink RX5 205 Lib.Math.max.name ∈ gw := gw_in (List.mem_append_right _ (List.mem_of_getElem? (i := 401) (by decide +kernel))) (by decide +kernel)
theorem gt_Math_max : Cond.static Lib.Math.max.name ∈ gw := gw_in (List.mem_append_right _ (List.mem_of_getElem? (i := 402) (by decide +kernel))) (by decide +kernel)
theorem gi_java_lang_Math : Cond.initialized "java/lang/Math" ∈ gw := gw_in (List.mem_append_right _ (List.mem_of_getElem? (i := 12) (by decide +kernel))) (by decide +kernel)
theorem gc_Math_max : Cond.code Lib.Math.max.name Lib.Math.max.code 2 (some .int) ∈ gw := gw_in (List.mem_append_right _ (List.mem_of_getElem? (i := 403) (by decide +kernel))) (by decide +kernel)
abbrev mX5_eatsOf : wn_M := (yX5_eatsOf, cX5_eatsOf, 3, (some .int))
theorem gc_yX5_eatsOf : Cond.code yX5_eatsOf cX5_eatsOf 3 (some .int) ∈ gw := gw_in (List.mem_append_right _ (List.mem_of_getElem? (i := 400) (by decide +kernel))) (by decide +kernel)
theorem gi_FirstOne : Cond.initialized RX5 ∈ gw := gw_in (List.mem_append_right _ (List.mem_of_getElem? (i := 1) (by decide +kernel))) (by decide +kernel)
theorem gt_yX5_eatsOf : Cond.static yX5_eatsOf ∈ gw := gw_in (List.mem_append_right _ (List.mem_of_getElem? (i := 399) (by decide +kernel))) (by decide +kernel)
theorem mst_X5_eatsOf : MS mX5_eatsOf 2 := ⟨⟨gc_yX5_eatsOf, gi_FirstOne, ⟨by decide, by decide⟩, by decide +kernel, by decide⟩, gt_yX5_eatsOf⟩
theorem gl_X5_87 : Cond.methodLink RX5 87 yX5_eatsOf ∈ gw := gw_in (List.mem_append_right _ (List.mem_of_getElem? (i := 398) (by decide +kernel))) (by decide +kernel)
theorem lm_X5_87 : LM RX5 87 yX5_eatsOf := Or.inl gl_X5_87
theorem fl_X5_91 : FL RX5 91 3 5 true := ⟨RX3, TX3, 8, tyX3, rfl, by decide, wi_X3, rfl, rfl, tyX3_ok, nmX3, Or.inr (List.mem_append_left _ (List.mem_of_getElem? (i := 9) (by decide +kernel)))⟩
theorem fl_X5_94 : FL RX5 94 3 6 true := ⟨RX3, TX3, 8, tyX3, rfl, by decide, wi_X3, rfl, rfl, tyX3_ok, nmX3, Or.inr (List.mem_append_left _ (List.mem_of_getElem? (i := 11) (by decide +kernel)))⟩
theorem fl_X5_45 : FL RX5 45 5 6 true := ⟨RX5, TX5, 7, tyX5, rfl, by decide, wi_X5, rfl, rfl, tyX5_ok, nmX5, Or.inl (gw_in (List.mem_append_right _ (List.mem_of_getElem? (i := 352) (by decide +kernel))) (by decide +kernel))⟩
theorem fl_X5_97 : FL RX5 97 3 1 false := ⟨RX3, TX3, 8, tyX3, rfl, by decide, wi_X3, rfl, rfl, tyX3_ok, nmX3, Or.inr (List.mem_append_left _ (List.mem_of_getElem? (i := 2) (by decide +kernel)))⟩
theorem gl_X2_92 : Cond.methodLink RX2 92 Lib.Math.max.name ∈ gw := gw_in (List.mem_append_right _ (List.mem_of_getElem? (i := 437) (by decide +kernel))) (by decide +kernel)
theorem wi_X2_a : ∀ w ∈ u_ws RX2 TX2 17, w ∈ lw_tbl := by decide +kernel
theorem wi_X2_b : ∀ w ∈ u_ws RX2 TX2 17, goodWord w = true := by decide +kernel
theorem wi_X2 : ∀ w ∈ u_ws RX2 TX2 17, w ∈ gw := fun w h => gw_in (wi_X2_a w h) (wi_X2_b w h)
theorem fl_X2_97 : FL RX2 97 2 4 false := ⟨RX2, TX2, 17, tyX2, rfl, by decide, wi_X2, rfl, rfl, tyX2_ok, nmX2, Or.inl (gw_in (List.mem_append_right _ (List.mem_of_getElem? (i := 161) (by decide +kernel))) (by decide +kernel))⟩
theorem so_S1_6 : S1[6]? = some (4, 0, [3, 6, 27, 28, 1, 29, 30, 0, 31, 32, 33, 0, 0, 0, 0, 0, 34]) := rfl
theorem ft_X2_4 : FTy 2 4 .long := by
  intro C T N h
  have h : some (RX2, TX2, 17) = some (C, T, N) := h
  cases h
  decide +kernel
theorem fl_X2_36 : FL RX2 36 2 0 true := ⟨RX2, TX2, 17, tyX2, rfl, by decide, wi_X2, rfl, rfl, tyX2_ok, nmX2, Or.inl (gw_in (List.mem_append_right _ (List.mem_of_getElem? (i := 156) (by decide +kernel))) (by decide +kernel))⟩
theorem fl_X2_101 : FL RX2 101 3 0 false := ⟨RX3, TX3, 8, tyX3, rfl, by decide, wi_X3, rfl, rfl, tyX3_ok, nmX3, Or.inr (List.mem_append_left _ (List.mem_of_getElem? (i := 0) (by decide +kernel)))⟩
theorem fl_X2_15 : FL RX2 15 2 3 true := ⟨RX2, TX2, 17, tyX2, rfl, by decide, wi_X2, rfl, rfl, tyX2_ok, nmX2, Or.inl (gw_in (List.mem_append_right _ (List.mem_of_getElem? (i := 160) (by decide +kernel))) (by decide +kernel))⟩
theorem so_S1_26 : S1[26]? = some (0, 12, []) := rfl
theorem fl_X2_9 : FL RX2 9 2 2 true := ⟨RX2, TX2, 17, tyX2, rfl, by decide, wi_X2, rfl, rfl, tyX2_ok, nmX2, Or.inl (gw_in (List.mem_append_right _ (List.mem_of_getElem? (i := 158) (by decide +kernel))) (by decide +kernel))⟩
theorem so_S1_25 : S1[25]? = some (0, 12, []) := rfl
abbrev mX2_heapUp : wn_M := (yX2_heapUp, cX2_heapUp, 7, none)
theorem gc_yX2_heapUp : Cond.code yX2_heapUp cX2_heapUp 7 none ∈ gw := gw_in (List.mem_append_right _ (List.mem_of_getElem? (i := 441) (by decide +kernel))) (by decide +kernel)
theorem gi_FirstOne_Supper : Cond.initialized RX2 ∈ gw := gw_in (List.mem_append_right _ (List.mem_of_getElem? (i := 6) (by decide +kernel))) (by decide +kernel)
theorem gm_yX2_heapUp : Cond.instanceMethod yX2_heapUp ∈ gw := gw_in (List.mem_append_right _ (List.mem_of_getElem? (i := 440) (by decide +kernel))) (by decide +kernel)
theorem gs_yX2_heapUp : Cond.selects RX2 yX2_heapUp yX2_heapUp ∈ gw := gw_in (List.mem_append_left _ (List.mem_of_getElem? (i := 22) (by decide +kernel))) (by decide +kernel)
theorem mv_X2_heapUp : MV mX2_heapUp 2 1 := ⟨⟨gc_yX2_heapUp, gi_FirstOne_Supper, ⟨by decide, by decide⟩, by decide +kernel, by decide⟩, gm_yX2_heapUp, gs_yX2_heapUp, TX2, 17, rfl⟩
theorem gl_X2_64 : Cond.methodLink RX2 64 yX2_heapUp ∈ gw := gw_in (List.mem_append_right _ (List.mem_of_getElem? (i := 438) (by decide +kernel))) (by decide +kernel)
theorem lm_X2_64 : LM RX2 64 yX2_heapUp := Or.inl gl_X2_64
theorem fl_X2_40 : FL RX2 40 2 1 true := ⟨RX2, TX2, 17, tyX2, rfl, by decide, wi_X2, rfl, rfl, tyX2_ok, nmX2, Or.inl (gw_in (List.mem_append_right _ (List.mem_of_getElem? (i := 157) (by decide +kernel))) (by decide +kernel))⟩
theorem wi_X4_a : ∀ w ∈ u_ws RX4 TX4 5, w ∈ lw_tbl := by decide +kernel
theorem wi_X4_b : ∀ w ∈ u_ws RX4 TX4 5, goodWord w = true := by decide +kernel
theorem wi_X4 : ∀ w ∈ u_ws RX4 TX4 5, w ∈ gw := fun w h => gw_in (wi_X4_a w h) (wi_X4_b w h)
theorem fl_X4_18 : FL RX4 18 4 3 true := ⟨RX4, TX4, 5, tyX4, rfl, by decide, wi_X4, rfl, rfl, tyX4_ok, nmX4, Or.inl (gw_in (List.mem_append_right _ (List.mem_of_getElem? (i := 121) (by decide +kernel))) (by decide +kernel))⟩
theorem so_S1_4 : S1[4]? = some (6, 0, [0, 20, 21, 22, 23]) := rfl
theorem so_S1_20 : S1[20]? = some (0, 6, []) := rfl
abbrev mX4_name : wn_M := (yX4_name, cX4_name, 7, none)
theorem gc_yX4_name : Cond.code yX4_name cX4_name 7 none ∈ gw := gw_in (List.mem_append_right _ (List.mem_of_getElem? (i := 415) (by decide +kernel))) (by decide +kernel)
theorem gi_FirstOne_Texts : Cond.initialized RX4 ∈ gw := gw_in (List.mem_append_right _ (List.mem_of_getElem? (i := 4) (by decide +kernel))) (by decide +kernel)
theorem gm_yX4_name : Cond.instanceMethod yX4_name ∈ gw := gw_in (List.mem_append_right _ (List.mem_of_getElem? (i := 414) (by decide +kernel))) (by decide +kernel)
theorem gs_yX4_name : Cond.selects RX4 yX4_name yX4_name ∈ gw := gw_in (List.mem_append_left _ (List.mem_of_getElem? (i := 19) (by decide +kernel))) (by decide +kernel)
theorem mv_X4_name : MV mX4_name 4 6 := ⟨⟨gc_yX4_name, gi_FirstOne_Texts, ⟨by decide, by decide⟩, by decide +kernel, by decide⟩, gm_yX4_name, gs_yX4_name, TX4, 5, rfl⟩
theorem lm_X2_44 : LM RX2 44 yX4_name := Or.inr (List.mem_append_right _ (List.mem_of_getElem? (i := 12) (by decide +kernel)))
theorem fl_X2_50 : FL RX2 50 3 2 false := ⟨RX3, TX3, 8, tyX3, rfl, by decide, wi_X3, rfl, rfl, tyX3_ok, nmX3, Or.inr (List.mem_append_left _ (List.mem_of_getElem? (i := 3) (by decide +kernel)))⟩
theorem fl_X4_15 : FL RX4 15 4 2 true := ⟨RX4, TX4, 5, tyX4, rfl, by decide, wi_X4, rfl, rfl, tyX4_ok, nmX4, Or.inl (gw_in (List.mem_append_right _ (List.mem_of_getElem? (i := 120) (by decide +kernel))) (by decide +kernel))⟩
theorem so_S1_19 : S1[19]? = some (0, 18, []) := rfl
theorem gl_X4_34 : Cond.methodLink RX4 34 Lib.Math.max.name ∈ gw := gw_in (List.mem_append_right _ (List.mem_of_getElem? (i := 420) (by decide +kernel))) (by decide +kernel)
theorem fl_X4_21 : FL RX4 21 4 4 true := ⟨RX4, TX4, 5, tyX4, rfl, by decide, wi_X4, rfl, rfl, tyX4_ok, nmX4, Or.inl (gw_in (List.mem_append_right _ (List.mem_of_getElem? (i := 122) (by decide +kernel))) (by decide +kernel))⟩
theorem so_S1_21 : S1[21]? = some (0, 160, []) := rfl
theorem fl_X4_9 : FL RX4 9 4 1 true := ⟨RX4, TX4, 5, tyX4, rfl, by decide, wi_X4, rfl, rfl, tyX4_ok, nmX4, Or.inl (gw_in (List.mem_append_right _ (List.mem_of_getElem? (i := 119) (by decide +kernel))) (by decide +kernel))⟩
theorem so_S1_18 : S1[18]? = some (0, 960, []) := rfl
abbrev mX4_turned : wn_M := (yX4_turned, cX4_turned, 2, (some .int))
theorem gc_yX4_turned : Cond.code yX4_turned cX4_turned 2 (some .int) ∈ gw := gw_in (List.mem_append_right _ (List.mem_of_getElem? (i := 427) (by decide +kernel))) (by decide +kernel)
theorem gt_yX4_turned : Cond.static yX4_turned ∈ gw := gw_in (List.mem_append_right _ (List.mem_of_getElem? (i := 426) (by decide +kernel))) (by decide +kernel)
theorem mst_X4_turned : MS mX4_turned 2 := ⟨⟨gc_yX4_turned, gi_FirstOne_Texts, ⟨by decide, by decide⟩, by decide +kernel, by decide⟩, gt_yX4_turned⟩
theorem gl_X4_44 : Cond.methodLink RX4 44 yX4_turned ∈ gw := gw_in (List.mem_append_right _ (List.mem_of_getElem? (i := 425) (by decide +kernel))) (by decide +kernel)
theorem lm_X4_44 : LM RX4 44 yX4_turned := Or.inl gl_X4_44
abbrev mX4_joined : wn_M := (yX4_joined, cX4_joined, 3, (some .int))
theorem gc_yX4_joined : Cond.code yX4_joined cX4_joined 3 (some .int) ∈ gw := gw_in (List.mem_append_right _ (List.mem_of_getElem? (i := 430) (by decide +kernel))) (by decide +kernel)
theorem gt_yX4_joined : Cond.static yX4_joined ∈ gw := gw_in (List.mem_append_right _ (List.mem_of_getElem? (i := 429) (by decide +kernel))) (by decide +kernel)
theorem mst_X4_joined : MS mX4_joined 3 := ⟨⟨gc_yX4_joined, gi_FirstOne_Texts, ⟨by decide, by decide⟩, by decide +kernel, by decide⟩, gt_yX4_joined⟩
theorem gl_X4_47 : Cond.methodLink RX4 47 yX4_joined ∈ gw := gw_in (List.mem_append_right _ (List.mem_of_getElem? (i := 428) (by decide +kernel))) (by decide +kernel)
theorem lm_X4_47 : LM RX4 47 yX4_joined := Or.inl gl_X4_47
abbrev mX4_operand : wn_M := (yX4_operand, cX4_operand, 3, (some .int))
theorem gc_yX4_operand : Cond.code yX4_operand cX4_operand 3 (some .int) ∈ gw := gw_in (List.mem_append_right _ (List.mem_of_getElem? (i := 424) (by decide +kernel))) (by decide +kernel)
theorem gm_yX4_operand : Cond.instanceMethod yX4_operand ∈ gw := gw_in (List.mem_append_right _ (List.mem_of_getElem? (i := 423) (by decide +kernel))) (by decide +kernel)
theorem gs_yX4_operand : Cond.selects RX4 yX4_operand yX4_operand ∈ gw := gw_in (List.mem_append_left _ (List.mem_of_getElem? (i := 21) (by decide +kernel))) (by decide +kernel)
theorem mv_X4_operand : MV mX4_operand 4 1 := ⟨⟨gc_yX4_operand, gi_FirstOne_Texts, ⟨by decide, by decide⟩, by decide +kernel, by decide⟩, gm_yX4_operand, gs_yX4_operand, TX4, 5, rfl⟩
theorem gl_X4_40 : Cond.methodLink RX4 40 yX4_operand ∈ gw := gw_in (List.mem_append_right _ (List.mem_of_getElem? (i := 421) (by decide +kernel))) (by decide +kernel)
theorem lm_X4_40 : LM RX4 40 yX4_operand := Or.inl gl_X4_40
abbrev mX4_valueOf : wn_M := (yX4_valueOf, cX4_valueOf, 8, (some .int))
theorem gc_yX4_valueOf : Cond.code yX4_valueOf cX4_valueOf 8 (some .int) ∈ gw := gw_in (List.mem_append_right _ (List.mem_of_getElem? (i := 419) (by decide +kernel))) (by decide +kernel)
theorem gm_yX4_valueOf : Cond.instanceMethod yX4_valueOf ∈ gw := gw_in (List.mem_append_right _ (List.mem_of_getElem? (i := 418) (by decide +kernel))) (by decide +kernel)
theorem gs_yX4_valueOf : Cond.selects RX4 yX4_valueOf yX4_valueOf ∈ gw := gw_in (List.mem_append_left _ (List.mem_of_getElem? (i := 20) (by decide +kernel))) (by decide +kernel)
theorem mv_X4_valueOf : MV mX4_valueOf 4 2 := ⟨⟨gc_yX4_valueOf, gi_FirstOne_Texts, ⟨by decide, by decide⟩, by decide +kernel, by decide⟩, gm_yX4_valueOf, gs_yX4_valueOf, TX4, 5, rfl⟩
theorem lm_X2_56 : LM RX2 56 yX4_valueOf := Or.inr (List.mem_append_right _ (List.mem_of_getElem? (i := 13) (by decide +kernel)))
theorem gl_X2_107 : Cond.methodLink RX2 107 Lib.Math.min.name ∈ gw := gw_in (List.mem_append_right _ (List.mem_of_getElem? (i := 434) (by decide +kernel))) (by decide +kernel)
theorem gt_Math_min : Cond.static Lib.Math.min.name ∈ gw := gw_in (List.mem_append_right _ (List.mem_of_getElem? (i := 435) (by decide +kernel))) (by decide +kernel)
theorem gc_Math_min : Cond.code Lib.Math.min.name Lib.Math.min.code 2 (some .int) ∈ gw := gw_in (List.mem_append_right _ (List.mem_of_getElem? (i := 436) (by decide +kernel))) (by decide +kernel)
abbrev mX2_within : wn_M := (yX2_within, cX2_within, 3, (some .int))
theorem gc_yX2_within : Cond.code yX2_within cX2_within 3 (some .int) ∈ gw := gw_in (List.mem_append_right _ (List.mem_of_getElem? (i := 433) (by decide +kernel))) (by decide +kernel)
theorem gt_yX2_within : Cond.static yX2_within ∈ gw := gw_in (List.mem_append_right _ (List.mem_of_getElem? (i := 432) (by decide +kernel))) (by decide +kernel)
theorem mst_X2_within : MS mX2_within 3 := ⟨⟨gc_yX2_within, gi_FirstOne_Supper, ⟨by decide, by decide⟩, by decide +kernel, by decide⟩, gt_yX2_within⟩
theorem gl_X2_60 : Cond.methodLink RX2 60 yX2_within ∈ gw := gw_in (List.mem_append_right _ (List.mem_of_getElem? (i := 431) (by decide +kernel))) (by decide +kernel)
theorem lm_X2_60 : LM RX2 60 yX2_within := Or.inl gl_X2_60
abbrev mX2_bake : wn_M := (yX2_bake, cX2_bake, 5, none)
theorem gc_yX2_bake : Cond.code yX2_bake cX2_bake 5 none ∈ gw := gw_in (List.mem_append_right _ (List.mem_of_getElem? (i := 411) (by decide +kernel))) (by decide +kernel)
theorem gm_yX2_bake : Cond.instanceMethod yX2_bake ∈ gw := gw_in (List.mem_append_right _ (List.mem_of_getElem? (i := 410) (by decide +kernel))) (by decide +kernel)
theorem gs_yX2_bake : Cond.selects RX2 yX2_bake yX2_bake ∈ gw := gw_in (List.mem_append_left _ (List.mem_of_getElem? (i := 18) (by decide +kernel))) (by decide +kernel)
theorem mv_X2_bake : MV mX2_bake 2 1 := ⟨⟨gc_yX2_bake, gi_FirstOne_Supper, ⟨by decide, by decide⟩, by decide +kernel, by decide⟩, gm_yX2_bake, gs_yX2_bake, TX2, 17, rfl⟩
theorem gl_X2_68 : Cond.methodLink RX2 68 yX2_bake ∈ gw := gw_in (List.mem_append_right _ (List.mem_of_getElem? (i := 408) (by decide +kernel))) (by decide +kernel)
theorem lm_X2_68 : LM RX2 68 yX2_bake := Or.inl gl_X2_68
theorem fl_X2_71 : FL RX2 71 2 7 false := ⟨RX2, TX2, 17, tyX2, rfl, by decide, wi_X2, rfl, rfl, tyX2_ok, nmX2, Or.inl (gw_in (List.mem_append_right _ (List.mem_of_getElem? (i := 166) (by decide +kernel))) (by decide +kernel))⟩
theorem ft_X2_7 : FTy 2 7 .int := by
  intro C T N h
  have h : some (RX2, TX2, 17) = some (C, T, N) := h
  cases h
  decide +kernel
theorem fl_X2_83 : FL RX2 83 2 11 false := ⟨RX2, TX2, 17, tyX2, rfl, by decide, wi_X2, rfl, rfl, tyX2_ok, nmX2, Or.inl (gw_in (List.mem_append_right _ (List.mem_of_getElem? (i := 172) (by decide +kernel))) (by decide +kernel))⟩
theorem ft_X2_11 : FTy 2 11 .int := by
  intro C T N h
  have h : some (RX2, TX2, 17) = some (C, T, N) := h
  cases h
  decide +kernel
theorem fl_X2_33 : FL RX2 33 2 16 true := ⟨RX2, TX2, 17, tyX2, rfl, by decide, wi_X2, rfl, rfl, tyX2_ok, nmX2, Or.inl (gw_in (List.mem_append_right _ (List.mem_of_getElem? (i := 178) (by decide +kernel))) (by decide +kernel))⟩
theorem so_S1_32 : S1[32]? = some (0, 3900, []) := rfl
abbrev mJ7_fill_53178 : wn_M := (yJ7_fill_53178, cJ7_fill_53178, 4, none)
theorem gc_yJ7_fill_53178 : Cond.code yJ7_fill_53178 cJ7_fill_53178 4 none ∈ gw := gw_in (List.mem_append_right _ (List.mem_of_getElem? (i := 445) (by decide +kernel))) (by decide +kernel)
theorem gi_java_util_Arrays : Cond.initialized RJ7 ∈ gw := gw_in (List.mem_append_right _ (List.mem_of_getElem? (i := 13) (by decide +kernel))) (by decide +kernel)
theorem gt_yJ7_fill_53178 : Cond.static yJ7_fill_53178 ∈ gw := gw_in (List.mem_append_right _ (List.mem_of_getElem? (i := 444) (by decide +kernel))) (by decide +kernel)
theorem mst_J7_fill_53178 : MS mJ7_fill_53178 2 := ⟨⟨gc_yJ7_fill_53178, gi_java_util_Arrays, ⟨by decide, by decide⟩, by decide +kernel, by decide⟩, gt_yJ7_fill_53178⟩
theorem gl_X2_86 : Cond.methodLink RX2 86 yJ7_fill_53178 ∈ gw := gw_in (List.mem_append_right _ (List.mem_of_getElem? (i := 443) (by decide +kernel))) (by decide +kernel)
theorem lm_X2_86 : LM RX2 86 yJ7_fill_53178 := Or.inl gl_X2_86
theorem fl_X2_21 : FL RX2 21 2 6 true := ⟨RX2, TX2, 17, tyX2, rfl, by decide, wi_X2, rfl, rfl, tyX2_ok, nmX2, Or.inl (gw_in (List.mem_append_right _ (List.mem_of_getElem? (i := 164) (by decide +kernel))) (by decide +kernel))⟩
theorem fl_X2_74 : FL RX2 74 3 4 true := ⟨RX3, TX3, 8, tyX3, rfl, by decide, wi_X3, rfl, rfl, tyX3_ok, nmX3, Or.inr (List.mem_append_left _ (List.mem_of_getElem? (i := 7) (by decide +kernel)))⟩
theorem fl_X2_77 : FL RX2 77 3 7 true := ⟨RX3, TX3, 8, tyX3, rfl, by decide, wi_X3, rfl, rfl, tyX3_ok, nmX3, Or.inr (List.mem_append_left _ (List.mem_of_getElem? (i := 13) (by decide +kernel)))⟩
theorem lm_X2_80 : LM RX2 80 yX5_eatsOf := Or.inr (List.mem_append_right _ (List.mem_of_getElem? (i := 14) (by decide +kernel)))
theorem so_S1_28 : S1[28]? = some (0, 5, []) := rfl
theorem fl_X2_24 : FL RX2 24 2 8 true := ⟨RX2, TX2, 17, tyX2, rfl, by decide, wi_X2, rfl, rfl, tyX2_ok, nmX2, Or.inl (gw_in (List.mem_append_right _ (List.mem_of_getElem? (i := 168) (by decide +kernel))) (by decide +kernel))⟩
theorem so_S1_29 : S1[29]? = some (0, 5, []) := rfl
abbrev mX2_lay : wn_M := (yX2_lay, cX2_lay, 3, none)
theorem gc_yX2_lay : Cond.code yX2_lay cX2_lay 3 none ∈ gw := gw_in (List.mem_append_right _ (List.mem_of_getElem? (i := 407) (by decide +kernel))) (by decide +kernel)
theorem gm_yX2_lay : Cond.instanceMethod yX2_lay ∈ gw := gw_in (List.mem_append_right _ (List.mem_of_getElem? (i := 406) (by decide +kernel))) (by decide +kernel)
theorem gs_yX2_lay : Cond.selects RX2 yX2_lay yX2_lay ∈ gw := gw_in (List.mem_append_left _ (List.mem_of_getElem? (i := 17) (by decide +kernel))) (by decide +kernel)
theorem mv_X2_lay : MV mX2_lay 2 1 := ⟨⟨gc_yX2_lay, gi_FirstOne_Supper, ⟨by decide, by decide⟩, by decide +kernel, by decide⟩, gm_yX2_lay, gs_yX2_lay, TX2, 17, rfl⟩
theorem lm_X5_101 : LM RX5 101 yX2_lay := Or.inr (List.mem_append_right _ (List.mem_of_getElem? (i := 11) (by decide +kernel)))
theorem fl_X2_158 : FL RX2 158 3 5 true := ⟨RX3, TX3, 8, tyX3, rfl, by decide, wi_X3, rfl, rfl, tyX3_ok, nmX3, Or.inr (List.mem_append_left _ (List.mem_of_getElem? (i := 10) (by decide +kernel)))⟩
theorem gl_X5_240 : Cond.methodLink RX5 240 Lib.Math.min.name ∈ gw := gw_in (List.mem_append_right _ (List.mem_of_getElem? (i := 453) (by decide +kernel))) (by decide +kernel)
abbrev mX5_hungersOf : wn_M := (yX5_hungersOf, cX5_hungersOf, 6, (some .int))
theorem gc_yX5_hungersOf : Cond.code yX5_hungersOf cX5_hungersOf 6 (some .int) ∈ gw := gw_in (List.mem_append_right _ (List.mem_of_getElem? (i := 452) (by decide +kernel))) (by decide +kernel)
theorem gt_yX5_hungersOf : Cond.static yX5_hungersOf ∈ gw := gw_in (List.mem_append_right _ (List.mem_of_getElem? (i := 451) (by decide +kernel))) (by decide +kernel)
theorem mst_X5_hungersOf : MS mX5_hungersOf 5 := ⟨⟨gc_yX5_hungersOf, gi_FirstOne, ⟨by decide, by decide⟩, by decide +kernel, by decide⟩, gt_yX5_hungersOf⟩
theorem lm_X2_161 : LM RX2 161 yX5_hungersOf := Or.inr (List.mem_append_right _ (List.mem_of_getElem? (i := 16) (by decide +kernel)))
theorem fl_X2_149 : FL RX2 149 3 6 true := ⟨RX3, TX3, 8, tyX3, rfl, by decide, wi_X3, rfl, rfl, tyX3_ok, nmX3, Or.inr (List.mem_append_left _ (List.mem_of_getElem? (i := 12) (by decide +kernel)))⟩
abbrev mX2_hungers : wn_M := (yX2_hungers, cX2_hungers, 4, (some .int))
theorem gc_yX2_hungers : Cond.code yX2_hungers cX2_hungers 4 (some .int) ∈ gw := gw_in (List.mem_append_right _ (List.mem_of_getElem? (i := 449) (by decide +kernel))) (by decide +kernel)
theorem gm_yX2_hungers : Cond.instanceMethod yX2_hungers ∈ gw := gw_in (List.mem_append_right _ (List.mem_of_getElem? (i := 448) (by decide +kernel))) (by decide +kernel)
theorem gs_yX2_hungers : Cond.selects RX2 yX2_hungers yX2_hungers ∈ gw := gw_in (List.mem_append_left _ (List.mem_of_getElem? (i := 23) (by decide +kernel))) (by decide +kernel)
theorem mv_X2_hungers : MV mX2_hungers 2 2 := ⟨⟨gc_yX2_hungers, gi_FirstOne_Supper, ⟨by decide, by decide⟩, by decide +kernel, by decide⟩, gm_yX2_hungers, gs_yX2_hungers, TX2, 17, rfl⟩
theorem lm_X5_105 : LM RX5 105 yX2_hungers := Or.inr (List.mem_append_right _ (List.mem_of_getElem? (i := 15) (by decide +kernel)))
abbrev mX5_told : wn_M := (yX5_told, cX5_told, 3, (some .int))
abbrev mX6_eatsOf : wn_M := (yX6_eatsOf, cX6_eatsOf, 5, (some .int))
theorem gc_yX6_eatsOf : Cond.code yX6_eatsOf cX6_eatsOf 5 (some .int) ∈ gw := gw_in (List.mem_append_right _ (List.mem_of_getElem? (i := 971) (by decide +kernel))) (by decide +kernel)
theorem gm_yX6_eatsOf : Cond.instanceMethod yX6_eatsOf ∈ gw := gw_in (List.mem_append_right _ (List.mem_of_getElem? (i := 970) (by decide +kernel))) (by decide +kernel)
theorem gs_yX6_eatsOf : Cond.selects RX6 yX6_eatsOf yX6_eatsOf ∈ gw := gw_in (List.mem_append_left _ (List.mem_of_getElem? (i := 74) (by decide +kernel))) (by decide +kernel)
theorem mv_X6_eatsOf : MV mX6_eatsOf 6 1 := ⟨⟨gc_yX6_eatsOf, gi_FirstOneModel, ⟨by decide, by decide⟩, by decide +kernel, by decide⟩, gm_yX6_eatsOf, gs_yX6_eatsOf, TX6, 52, rfl⟩
theorem gl_X6_120 : Cond.methodLink RX6 120 yX6_eatsOf ∈ gw := gw_in (List.mem_append_right _ (List.mem_of_getElem? (i := 968) (by decide +kernel))) (by decide +kernel)
theorem lm_X6_120 : LM RX6 120 yX6_eatsOf := Or.inl gl_X6_120
theorem fl_X6_185 : FL RX6 185 6 15 false := ⟨RX6, TX6, 52, tyX6, rfl, by decide, wi_X6, rfl, rfl, tyX6_ok, nmX6, Or.inl (gw_in (List.mem_append_right _ (List.mem_of_getElem? (i := 721) (by decide +kernel))) (by decide +kernel))⟩
theorem ft_X6_15 : FTy 6 15 .int := by
  intro C T N h
  have h : some (RX6, TX6, 52) = some (C, T, N) := h
  cases h
  decide +kernel
theorem fl_X6_188 : FL RX6 188 6 16 false := ⟨RX6, TX6, 52, tyX6, rfl, by decide, wi_X6, rfl, rfl, tyX6_ok, nmX6, Or.inl (gw_in (List.mem_append_right _ (List.mem_of_getElem? (i := 722) (by decide +kernel))) (by decide +kernel))⟩
theorem ft_X6_16 : FTy 6 16 .int := by
  intro C T N h
  have h : some (RX6, TX6, 52) = some (C, T, N) := h
  cases h
  decide +kernel
theorem fl_X6_191 : FL RX6 191 6 17 false := ⟨RX6, TX6, 52, tyX6, rfl, by decide, wi_X6, rfl, rfl, tyX6_ok, nmX6, Or.inl (gw_in (List.mem_append_right _ (List.mem_of_getElem? (i := 723) (by decide +kernel))) (by decide +kernel))⟩
theorem ft_X6_17 : FTy 6 17 .int := by
  intro C T N h
  have h : some (RX6, TX6, 52) = some (C, T, N) := h
  cases h
  decide +kernel
theorem fl_X6_194 : FL RX6 194 6 18 false := ⟨RX6, TX6, 52, tyX6, rfl, by decide, wi_X6, rfl, rfl, tyX6_ok, nmX6, Or.inl (gw_in (List.mem_append_right _ (List.mem_of_getElem? (i := 724) (by decide +kernel))) (by decide +kernel))⟩
theorem ft_X6_18 : FTy 6 18 .int := by
  intro C T N h
  have h : some (RX6, TX6, 52) = some (C, T, N) := h
  cases h
  decide +kernel
theorem fl_X6_197 : FL RX6 197 6 19 false := ⟨RX6, TX6, 52, tyX6, rfl, by decide, wi_X6, rfl, rfl, tyX6_ok, nmX6, Or.inl (gw_in (List.mem_append_right _ (List.mem_of_getElem? (i := 725) (by decide +kernel))) (by decide +kernel))⟩
theorem ft_X6_19 : FTy 6 19 .int := by
  intro C T N h
  have h : some (RX6, TX6, 52) = some (C, T, N) := h
  cases h
  decide +kernel
theorem fl_X6_200 : FL RX6 200 6 20 false := ⟨RX6, TX6, 52, tyX6, rfl, by decide, wi_X6, rfl, rfl, tyX6_ok, nmX6, Or.inl (gw_in (List.mem_append_right _ (List.mem_of_getElem? (i := 726) (by decide +kernel))) (by decide +kernel))⟩
theorem ft_X6_20 : FTy 6 20 .int := by
  intro C T N h
  have h : some (RX6, TX6, 52) = some (C, T, N) := h
  cases h
  decide +kernel
theorem fl_X6_244 : FL RX6 244 6 4 false := ⟨RX6, TX6, 52, tyX6, rfl, by decide, wi_X6, rfl, rfl, tyX6_ok, nmX6, Or.inl (gw_in (List.mem_append_right _ (List.mem_of_getElem? (i := 710) (by decide +kernel))) (by decide +kernel))⟩
theorem fl_X6_132 : FL RX6 132 6 21 false := ⟨RX6, TX6, 52, tyX6, rfl, by decide, wi_X6, rfl, rfl, tyX6_ok, nmX6, Or.inl (gw_in (List.mem_append_right _ (List.mem_of_getElem? (i := 727) (by decide +kernel))) (by decide +kernel))⟩
theorem ft_X6_21 : FTy 6 21 .int := by
  intro C T N h
  have h : some (RX6, TX6, 52) = some (C, T, N) := h
  cases h
  decide +kernel
theorem fl_X6_17 : FL RX6 17 6 2 true := ⟨RX6, TX6, 52, tyX6, rfl, by decide, wi_X6, rfl, rfl, tyX6_ok, nmX6, Or.inl (gw_in (List.mem_append_right _ (List.mem_of_getElem? (i := 708) (by decide +kernel))) (by decide +kernel))⟩
theorem so_S2_2 : S2[2]? = some (0, 6, []) := rfl
theorem fl_X6_129 : FL RX6 129 6 22 false := ⟨RX6, TX6, 52, tyX6, rfl, by decide, wi_X6, rfl, rfl, tyX6_ok, nmX6, Or.inl (gw_in (List.mem_append_right _ (List.mem_of_getElem? (i := 728) (by decide +kernel))) (by decide +kernel))⟩
theorem ft_X6_22 : FTy 6 22 .int := by
  intro C T N h
  have h : some (RX6, TX6, 52) = some (C, T, N) := h
  cases h
  decide +kernel
theorem fl_X6_135 : FL RX6 135 6 23 false := ⟨RX6, TX6, 52, tyX6, rfl, by decide, wi_X6, rfl, rfl, tyX6_ok, nmX6, Or.inl (gw_in (List.mem_append_right _ (List.mem_of_getElem? (i := 729) (by decide +kernel))) (by decide +kernel))⟩
theorem ft_X6_23 : FTy 6 23 .int := by
  intro C T N h
  have h : some (RX6, TX6, 52) = some (C, T, N) := h
  cases h
  decide +kernel
theorem fl_X6_172 : FL RX6 172 6 27 false := ⟨RX6, TX6, 52, tyX6, rfl, by decide, wi_X6, rfl, rfl, tyX6_ok, nmX6, Or.inl (gw_in (List.mem_append_right _ (List.mem_of_getElem? (i := 733) (by decide +kernel))) (by decide +kernel))⟩
theorem ft_X6_27 : FTy 6 27 .int := by
  intro C T N h
  have h : some (RX6, TX6, 52) = some (C, T, N) := h
  cases h
  decide +kernel
theorem fl_X6_161 : FL RX6 161 6 28 false := ⟨RX6, TX6, 52, tyX6, rfl, by decide, wi_X6, rfl, rfl, tyX6_ok, nmX6, Or.inl (gw_in (List.mem_append_right _ (List.mem_of_getElem? (i := 734) (by decide +kernel))) (by decide +kernel))⟩
theorem ft_X6_28 : FTy 6 28 .boolean := by
  intro C T N h
  have h : some (RX6, TX6, 52) = some (C, T, N) := h
  cases h
  decide +kernel
theorem fl_X6_13 : FL RX6 13 6 1 true := ⟨RX6, TX6, 52, tyX6, rfl, by decide, wi_X6, rfl, rfl, tyX6_ok, nmX6, Or.inl (gw_in (List.mem_append_right _ (List.mem_of_getElem? (i := 707) (by decide +kernel))) (by decide +kernel))⟩
theorem so_S2_1 : S2[1]? = some (0, 960, []) := rfl
abbrev mX6_byteAt : wn_M := (yX6_byteAt, cX6_byteAt, 2, (some .int))
theorem gc_yX6_byteAt : Cond.code yX6_byteAt cX6_byteAt 2 (some .int) ∈ gw := gw_in (List.mem_append_right _ (List.mem_of_getElem? (i := 905) (by decide +kernel))) (by decide +kernel)
theorem gm_yX6_byteAt : Cond.instanceMethod yX6_byteAt ∈ gw := gw_in (List.mem_append_right _ (List.mem_of_getElem? (i := 904) (by decide +kernel))) (by decide +kernel)
theorem gs_yX6_byteAt : Cond.selects RX6 yX6_byteAt yX6_byteAt ∈ gw := gw_in (List.mem_append_left _ (List.mem_of_getElem? (i := 60) (by decide +kernel))) (by decide +kernel)
theorem mv_X6_byteAt : MV mX6_byteAt 6 1 := ⟨⟨gc_yX6_byteAt, gi_FirstOneModel, ⟨by decide, by decide⟩, by decide +kernel, by decide⟩, gm_yX6_byteAt, gs_yX6_byteAt, TX6, 52, rfl⟩
theorem gl_X6_138 : Cond.methodLink RX6 138 yX6_byteAt ∈ gw := gw_in (List.mem_append_right _ (List.mem_of_getElem? (i := 902) (by decide +kernel))) (by decide +kernel)
theorem lm_X6_138 : LM RX6 138 yX6_byteAt := Or.inl gl_X6_138
theorem fl_X6_141 : FL RX6 141 6 25 false := ⟨RX6, TX6, 52, tyX6, rfl, by decide, wi_X6, rfl, rfl, tyX6_ok, nmX6, Or.inl (gw_in (List.mem_append_right _ (List.mem_of_getElem? (i := 731) (by decide +kernel))) (by decide +kernel))⟩
theorem ft_X6_25 : FTy 6 25 .int := by
  intro C T N h
  have h : some (RX6, TX6, 52) = some (C, T, N) := h
  cases h
  decide +kernel
theorem fl_X6_144 : FL RX6 144 6 24 false := ⟨RX6, TX6, 52, tyX6, rfl, by decide, wi_X6, rfl, rfl, tyX6_ok, nmX6, Or.inl (gw_in (List.mem_append_right _ (List.mem_of_getElem? (i := 730) (by decide +kernel))) (by decide +kernel))⟩
theorem ft_X6_24 : FTy 6 24 .int := by
  intro C T N h
  have h : some (RX6, TX6, 52) = some (C, T, N) := h
  cases h
  decide +kernel
theorem gk_X6_147 : Cond.constantLong RX6 147 (97) ∈ gw := gw_in (List.mem_append_right _ (List.mem_of_getElem? (i := 906) (by decide +kernel))) (by decide +kernel)
theorem gk_X6_149 : Cond.constantLong RX6 149 (122) ∈ gw := gw_in (List.mem_append_right _ (List.mem_of_getElem? (i := 907) (by decide +kernel))) (by decide +kernel)
theorem gk_X6_151 : Cond.constantLong RX6 151 (48) ∈ gw := gw_in (List.mem_append_right _ (List.mem_of_getElem? (i := 908) (by decide +kernel))) (by decide +kernel)
theorem gk_X6_153 : Cond.constantLong RX6 153 (57) ∈ gw := gw_in (List.mem_append_right _ (List.mem_of_getElem? (i := 909) (by decide +kernel))) (by decide +kernel)
theorem fl_X6_155 : FL RX6 155 6 26 false := ⟨RX6, TX6, 52, tyX6, rfl, by decide, wi_X6, rfl, rfl, tyX6_ok, nmX6, Or.inl (gw_in (List.mem_append_right _ (List.mem_of_getElem? (i := 732) (by decide +kernel))) (by decide +kernel))⟩
theorem ft_X6_26 : FTy 6 26 .long := by
  intro C T N h
  have h : some (RX6, TX6, 52) = some (C, T, N) := h
  cases h
  decide +kernel
theorem gk_X6_159 : Cond.constantLong RX6 159 (10) ∈ gw := gw_in (List.mem_append_right _ (List.mem_of_getElem? (i := 910) (by decide +kernel))) (by decide +kernel)
abbrev mX6_next : wn_M := (yX6_next, cX6_next, 3, none)
theorem gc_yX6_next : Cond.code yX6_next cX6_next 3 none ∈ gw := gw_in (List.mem_append_right _ (List.mem_of_getElem? (i := 901) (by decide +kernel))) (by decide +kernel)
theorem gm_yX6_next : Cond.instanceMethod yX6_next ∈ gw := gw_in (List.mem_append_right _ (List.mem_of_getElem? (i := 900) (by decide +kernel))) (by decide +kernel)
theorem gs_yX6_next : Cond.selects RX6 yX6_next yX6_next ∈ gw := gw_in (List.mem_append_left _ (List.mem_of_getElem? (i := 59) (by decide +kernel))) (by decide +kernel)
theorem mv_X6_next : MV mX6_next 6 0 := ⟨⟨gc_yX6_next, gi_FirstOneModel, ⟨by decide, by decide⟩, by decide +kernel, by decide⟩, gm_yX6_next, gs_yX6_next, TX6, 52, rfl⟩
theorem gl_X6_178 : Cond.methodLink RX6 178 yX6_next ∈ gw := gw_in (List.mem_append_right _ (List.mem_of_getElem? (i := 898) (by decide +kernel))) (by decide +kernel)
theorem lm_X6_178 : LM RX6 178 yX6_next := Or.inl gl_X6_178
abbrev mX6_isLetter : wn_M := (yX6_isLetter, cX6_isLetter, 3, (some .boolean))
theorem gc_yX6_isLetter : Cond.code yX6_isLetter cX6_isLetter 3 (some .boolean) ∈ gw := gw_in (List.mem_append_right _ (List.mem_of_getElem? (i := 918) (by decide +kernel))) (by decide +kernel)
theorem gm_yX6_isLetter : Cond.instanceMethod yX6_isLetter ∈ gw := gw_in (List.mem_append_right _ (List.mem_of_getElem? (i := 917) (by decide +kernel))) (by decide +kernel)
theorem gs_yX6_isLetter : Cond.selects RX6 yX6_isLetter yX6_isLetter ∈ gw := gw_in (List.mem_append_left _ (List.mem_of_getElem? (i := 62) (by decide +kernel))) (by decide +kernel)
theorem mv_X6_isLetter : MV mX6_isLetter 6 2 := ⟨⟨gc_yX6_isLetter, gi_FirstOneModel, ⟨by decide, by decide⟩, by decide +kernel, by decide⟩, gm_yX6_isLetter, gs_yX6_isLetter, TX6, 52, rfl⟩
theorem gl_X6_168 : Cond.methodLink RX6 168 yX6_isLetter ∈ gw := gw_in (List.mem_append_right _ (List.mem_of_getElem? (i := 915) (by decide +kernel))) (by decide +kernel)
theorem lm_X6_168 : LM RX6 168 yX6_isLetter := Or.inl gl_X6_168
abbrev mX6_isWord : wn_M := (yX6_isWord, cX6_isWord, 9, (some .boolean))
theorem gc_yX6_isWord : Cond.code yX6_isWord cX6_isWord 9 (some .boolean) ∈ gw := gw_in (List.mem_append_right _ (List.mem_of_getElem? (i := 914) (by decide +kernel))) (by decide +kernel)
theorem gm_yX6_isWord : Cond.instanceMethod yX6_isWord ∈ gw := gw_in (List.mem_append_right _ (List.mem_of_getElem? (i := 913) (by decide +kernel))) (by decide +kernel)
theorem gs_yX6_isWord : Cond.selects RX6 yX6_isWord yX6_isWord ∈ gw := gw_in (List.mem_append_left _ (List.mem_of_getElem? (i := 61) (by decide +kernel))) (by decide +kernel)
theorem mv_X6_isWord : MV mX6_isWord 6 8 := ⟨⟨gc_yX6_isWord, gi_FirstOneModel, ⟨by decide, by decide⟩, by decide +kernel, by decide⟩, gm_yX6_isWord, gs_yX6_isWord, TX6, 52, rfl⟩
theorem gl_X6_181 : Cond.methodLink RX6 181 yX6_isWord ∈ gw := gw_in (List.mem_append_right _ (List.mem_of_getElem? (i := 911) (by decide +kernel))) (by decide +kernel)
theorem lm_X6_181 : LM RX6 181 yX6_isWord := Or.inl gl_X6_181
abbrev mX6_both : wn_M := (yX6_both, cX6_both, 3, (some .int))
theorem gc_yX6_both : Cond.code yX6_both cX6_both 3 (some .int) ∈ gw := gw_in (List.mem_append_right _ (List.mem_of_getElem? (i := 934) (by decide +kernel))) (by decide +kernel)
theorem gm_yX6_both : Cond.instanceMethod yX6_both ∈ gw := gw_in (List.mem_append_right _ (List.mem_of_getElem? (i := 933) (by decide +kernel))) (by decide +kernel)
theorem gs_yX6_both : Cond.selects RX6 yX6_both yX6_both ∈ gw := gw_in (List.mem_append_left _ (List.mem_of_getElem? (i := 66) (by decide +kernel))) (by decide +kernel)
theorem mv_X6_both : MV mX6_both 6 0 := ⟨⟨gc_yX6_both, gi_FirstOneModel, ⟨by decide, by decide⟩, by decide +kernel, by decide⟩, gm_yX6_both, gs_yX6_both, TX6, 52, rfl⟩
theorem gl_X6_233 : Cond.methodLink RX6 233 yX6_both ∈ gw := gw_in (List.mem_append_right _ (List.mem_of_getElem? (i := 931) (by decide +kernel))) (by decide +kernel)
theorem lm_X6_233 : LM RX6 233 yX6_both := Or.inl gl_X6_233
abbrev mX6_either : wn_M := (yX6_either, cX6_either, 3, (some .int))
abbrev mX6_not : wn_M := (yX6_not, cX6_not, 4, (some .int))
abbrev mX6_added : wn_M := (yX6_added, cX6_added, 4, (some .int))
abbrev mX6_term : wn_M := (yX6_term, cX6_term, 2, (some .int))
abbrev mX6_atom : wn_M := (yX6_atom, cX6_atom, 2, (some .int))
theorem gc_yX6_not : Cond.code yX6_not cX6_not 4 (some .int) ∈ gw := gw_in (List.mem_append_right _ (List.mem_of_getElem? (i := 938) (by decide +kernel))) (by decide +kernel)
theorem gm_yX6_not : Cond.instanceMethod yX6_not ∈ gw := gw_in (List.mem_append_right _ (List.mem_of_getElem? (i := 937) (by decide +kernel))) (by decide +kernel)
theorem gs_yX6_not : Cond.selects RX6 yX6_not yX6_not ∈ gw := gw_in (List.mem_append_left _ (List.mem_of_getElem? (i := 67) (by decide +kernel))) (by decide +kernel)
theorem mv_X6_not : MV mX6_not 6 0 := ⟨⟨gc_yX6_not, gi_FirstOneModel, ⟨by decide, by decide⟩, by decide +kernel, by decide⟩, gm_yX6_not, gs_yX6_not, TX6, 52, rfl⟩
theorem gl_X6_225 : Cond.methodLink RX6 225 yX6_not ∈ gw := gw_in (List.mem_append_right _ (List.mem_of_getElem? (i := 935) (by decide +kernel))) (by decide +kernel)
theorem lm_X6_225 : LM RX6 225 yX6_not := Or.inl gl_X6_225
theorem gc_yX6_added : Cond.code yX6_added cX6_added 4 (some .int) ∈ gw := gw_in (List.mem_append_right _ (List.mem_of_getElem? (i := 946) (by decide +kernel))) (by decide +kernel)
theorem gm_yX6_added : Cond.instanceMethod yX6_added ∈ gw := gw_in (List.mem_append_right _ (List.mem_of_getElem? (i := 945) (by decide +kernel))) (by decide +kernel)
theorem gs_yX6_added : Cond.selects RX6 yX6_added yX6_added ∈ gw := gw_in (List.mem_append_left _ (List.mem_of_getElem? (i := 69) (by decide +kernel))) (by decide +kernel)
theorem mv_X6_added : MV mX6_added 6 0 := ⟨⟨gc_yX6_added, gi_FirstOneModel, ⟨by decide, by decide⟩, by decide +kernel, by decide⟩, gm_yX6_added, gs_yX6_added, TX6, 52, rfl⟩
theorem gl_X6_228 : Cond.methodLink RX6 228 yX6_added ∈ gw := gw_in (List.mem_append_right _ (List.mem_of_getElem? (i := 943) (by decide +kernel))) (by decide +kernel)
theorem lm_X6_228 : LM RX6 228 yX6_added := Or.inl gl_X6_228
abbrev mX6_isSign : wn_M := (yX6_isSign, cX6_isSign, 2, (some .boolean))
theorem gc_yX6_isSign : Cond.code yX6_isSign cX6_isSign 2 (some .boolean) ∈ gw := gw_in (List.mem_append_right _ (List.mem_of_getElem? (i := 958) (by decide +kernel))) (by decide +kernel)
theorem gm_yX6_isSign : Cond.instanceMethod yX6_isSign ∈ gw := gw_in (List.mem_append_right _ (List.mem_of_getElem? (i := 957) (by decide +kernel))) (by decide +kernel)
theorem gs_yX6_isSign : Cond.selects RX6 yX6_isSign yX6_isSign ∈ gw := gw_in (List.mem_append_left _ (List.mem_of_getElem? (i := 72) (by decide +kernel))) (by decide +kernel)
theorem mv_X6_isSign : MV mX6_isSign 6 1 := ⟨⟨gc_yX6_isSign, gi_FirstOneModel, ⟨by decide, by decide⟩, by decide +kernel, by decide⟩, gm_yX6_isSign, gs_yX6_isSign, TX6, 52, rfl⟩
theorem gl_X6_203 : Cond.methodLink RX6 203 yX6_isSign ∈ gw := gw_in (List.mem_append_right _ (List.mem_of_getElem? (i := 955) (by decide +kernel))) (by decide +kernel)
theorem lm_X6_203 : LM RX6 203 yX6_isSign := Or.inl gl_X6_203
theorem gk_X6_231 : Cond.constantLong RX6 231 (60) ∈ gw := gw_in (List.mem_append_right _ (List.mem_of_getElem? (i := 964) (by decide +kernel))) (by decide +kernel)
theorem fl_X6_165 : FL RX6 165 6 29 false := ⟨RX6, TX6, 52, tyX6, rfl, by decide, wi_X6, rfl, rfl, tyX6_ok, nmX6, Or.inl (gw_in (List.mem_append_right _ (List.mem_of_getElem? (i := 735) (by decide +kernel))) (by decide +kernel))⟩
theorem ft_X6_29 : FTy 6 29 .int := by
  intro C T N h
  have h : some (RX6, TX6, 52) = some (C, T, N) := h
  cases h
  decide +kernel
abbrev mX6_fail : wn_M := (yX6_fail, cX6_fail, 1, none)
theorem gc_yX6_fail : Cond.code yX6_fail cX6_fail 1 none ∈ gw := gw_in (List.mem_append_right _ (List.mem_of_getElem? (i := 926) (by decide +kernel))) (by decide +kernel)
theorem gm_yX6_fail : Cond.instanceMethod yX6_fail ∈ gw := gw_in (List.mem_append_right _ (List.mem_of_getElem? (i := 925) (by decide +kernel))) (by decide +kernel)
theorem gs_yX6_fail : Cond.selects RX6 yX6_fail yX6_fail ∈ gw := gw_in (List.mem_append_left _ (List.mem_of_getElem? (i := 64) (by decide +kernel))) (by decide +kernel)
theorem mv_X6_fail : MV mX6_fail 6 0 := ⟨⟨gc_yX6_fail, gi_FirstOneModel, ⟨by decide, by decide⟩, by decide +kernel, by decide⟩, gm_yX6_fail, gs_yX6_fail, TX6, 52, rfl⟩
theorem gl_X6_175 : Cond.methodLink RX6 175 yX6_fail ∈ gw := gw_in (List.mem_append_right _ (List.mem_of_getElem? (i := 923) (by decide +kernel))) (by decide +kernel)
theorem lm_X6_175 : LM RX6 175 yX6_fail := Or.inl gl_X6_175
abbrev mX6_opens : wn_M := (yX6_opens, cX6_opens, 1, (some .boolean))
theorem gc_yX6_opens : Cond.code yX6_opens cX6_opens 1 (some .boolean) ∈ gw := gw_in (List.mem_append_right _ (List.mem_of_getElem? (i := 942) (by decide +kernel))) (by decide +kernel)
theorem gm_yX6_opens : Cond.instanceMethod yX6_opens ∈ gw := gw_in (List.mem_append_right _ (List.mem_of_getElem? (i := 941) (by decide +kernel))) (by decide +kernel)
theorem gs_yX6_opens : Cond.selects RX6 yX6_opens yX6_opens ∈ gw := gw_in (List.mem_append_left _ (List.mem_of_getElem? (i := 68) (by decide +kernel))) (by decide +kernel)
theorem mv_X6_opens : MV mX6_opens 6 0 := ⟨⟨gc_yX6_opens, gi_FirstOneModel, ⟨by decide, by decide⟩, by decide +kernel, by decide⟩, gm_yX6_opens, gs_yX6_opens, TX6, 52, rfl⟩
theorem gl_X6_206 : Cond.methodLink RX6 206 yX6_opens ∈ gw := gw_in (List.mem_append_right _ (List.mem_of_getElem? (i := 939) (by decide +kernel))) (by decide +kernel)
theorem lm_X6_206 : LM RX6 206 yX6_opens := Or.inl gl_X6_206
theorem gc_yX6_term : Cond.code yX6_term cX6_term 2 (some .int) ∈ gw := gw_in (List.mem_append_right _ (List.mem_of_getElem? (i := 950) (by decide +kernel))) (by decide +kernel)
theorem gm_yX6_term : Cond.instanceMethod yX6_term ∈ gw := gw_in (List.mem_append_right _ (List.mem_of_getElem? (i := 949) (by decide +kernel))) (by decide +kernel)
theorem gs_yX6_term : Cond.selects RX6 yX6_term yX6_term ∈ gw := gw_in (List.mem_append_left _ (List.mem_of_getElem? (i := 70) (by decide +kernel))) (by decide +kernel)
theorem mv_X6_term : MV mX6_term 6 0 := ⟨⟨gc_yX6_term, gi_FirstOneModel, ⟨by decide, by decide⟩, by decide +kernel, by decide⟩, gm_yX6_term, gs_yX6_term, TX6, 52, rfl⟩
theorem gl_X6_220 : Cond.methodLink RX6 220 yX6_term ∈ gw := gw_in (List.mem_append_right _ (List.mem_of_getElem? (i := 947) (by decide +kernel))) (by decide +kernel)
theorem lm_X6_220 : LM RX6 220 yX6_term := Or.inl gl_X6_220
theorem gk_X6_223 : Cond.constantLong RX6 223 (43) ∈ gw := gw_in (List.mem_append_right _ (List.mem_of_getElem? (i := 963) (by decide +kernel))) (by decide +kernel)
theorem gc_yX6_atom : Cond.code yX6_atom cX6_atom 2 (some .int) ∈ gw := gw_in (List.mem_append_right _ (List.mem_of_getElem? (i := 954) (by decide +kernel))) (by decide +kernel)
theorem gm_yX6_atom : Cond.instanceMethod yX6_atom ∈ gw := gw_in (List.mem_append_right _ (List.mem_of_getElem? (i := 953) (by decide +kernel))) (by decide +kernel)
theorem gs_yX6_atom : Cond.selects RX6 yX6_atom yX6_atom ∈ gw := gw_in (List.mem_append_left _ (List.mem_of_getElem? (i := 71) (by decide +kernel))) (by decide +kernel)
theorem mv_X6_atom : MV mX6_atom 6 0 := ⟨⟨gc_yX6_atom, gi_FirstOneModel, ⟨by decide, by decide⟩, by decide +kernel, by decide⟩, gm_yX6_atom, gs_yX6_atom, TX6, 52, rfl⟩
theorem gl_X6_210 : Cond.methodLink RX6 210 yX6_atom ∈ gw := gw_in (List.mem_append_right _ (List.mem_of_getElem? (i := 951) (by decide +kernel))) (by decide +kernel)
theorem lm_X6_210 : LM RX6 210 yX6_atom := Or.inl gl_X6_210
abbrev mX6_name : wn_M := (yX6_name, cX6_name, 1, (some .int))
theorem gc_yX6_name : Cond.code yX6_name cX6_name 1 (some .int) ∈ gw := gw_in (List.mem_append_right _ (List.mem_of_getElem? (i := 962) (by decide +kernel))) (by decide +kernel)
theorem gm_yX6_name : Cond.instanceMethod yX6_name ∈ gw := gw_in (List.mem_append_right _ (List.mem_of_getElem? (i := 961) (by decide +kernel))) (by decide +kernel)
theorem gs_yX6_name : Cond.selects RX6 yX6_name yX6_name ∈ gw := gw_in (List.mem_append_left _ (List.mem_of_getElem? (i := 73) (by decide +kernel))) (by decide +kernel)
theorem mv_X6_name : MV mX6_name 6 0 := ⟨⟨gc_yX6_name, gi_FirstOneModel, ⟨by decide, by decide⟩, by decide +kernel, by decide⟩, gm_yX6_name, gs_yX6_name, TX6, 52, rfl⟩
theorem gl_X6_217 : Cond.methodLink RX6 217 yX6_name ∈ gw := gw_in (List.mem_append_right _ (List.mem_of_getElem? (i := 959) (by decide +kernel))) (by decide +kernel)
theorem lm_X6_217 : LM RX6 217 yX6_name := Or.inl gl_X6_217
theorem gc_yX6_either : Cond.code yX6_either cX6_either 3 (some .int) ∈ gw := gw_in (List.mem_append_right _ (List.mem_of_getElem? (i := 930) (by decide +kernel))) (by decide +kernel)
theorem gm_yX6_either : Cond.instanceMethod yX6_either ∈ gw := gw_in (List.mem_append_right _ (List.mem_of_getElem? (i := 929) (by decide +kernel))) (by decide +kernel)
theorem gs_yX6_either : Cond.selects RX6 yX6_either yX6_either ∈ gw := gw_in (List.mem_append_left _ (List.mem_of_getElem? (i := 65) (by decide +kernel))) (by decide +kernel)
theorem mv_X6_either : MV mX6_either 6 0 := ⟨⟨gc_yX6_either, gi_FirstOneModel, ⟨by decide, by decide⟩, by decide +kernel, by decide⟩, gm_yX6_either, gs_yX6_either, TX6, 52, rfl⟩
theorem gl_X6_214 : Cond.methodLink RX6 214 yX6_either ∈ gw := gw_in (List.mem_append_right _ (List.mem_of_getElem? (i := 927) (by decide +kernel))) (by decide +kernel)
theorem lm_X6_214 : LM RX6 214 yX6_either := Or.inl gl_X6_214
abbrev mX6_part : wn_M := (yX6_part, cX6_part, 3, (some .int))
theorem gc_yX6_part : Cond.code yX6_part cX6_part 3 (some .int) ∈ gw := gw_in (List.mem_append_right _ (List.mem_of_getElem? (i := 922) (by decide +kernel))) (by decide +kernel)
theorem gm_yX6_part : Cond.instanceMethod yX6_part ∈ gw := gw_in (List.mem_append_right _ (List.mem_of_getElem? (i := 921) (by decide +kernel))) (by decide +kernel)
theorem gs_yX6_part : Cond.selects RX6 yX6_part yX6_part ∈ gw := gw_in (List.mem_append_left _ (List.mem_of_getElem? (i := 63) (by decide +kernel))) (by decide +kernel)
theorem mv_X6_part : MV mX6_part 6 1 := ⟨⟨gc_yX6_part, gi_FirstOneModel, ⟨by decide, by decide⟩, by decide +kernel, by decide⟩, gm_yX6_part, gs_yX6_part, TX6, 52, rfl⟩
theorem gl_X6_236 : Cond.methodLink RX6 236 yX6_part ∈ gw := gw_in (List.mem_append_right _ (List.mem_of_getElem? (i := 919) (by decide +kernel))) (by decide +kernel)
theorem lm_X6_236 : LM RX6 236 yX6_part := Or.inl gl_X6_236
abbrev mX6_read : wn_M := (yX6_read, cX6_read, 6, (some .int))
theorem gc_yX6_read : Cond.code yX6_read cX6_read 6 (some .int) ∈ gw := gw_in (List.mem_append_right _ (List.mem_of_getElem? (i := 897) (by decide +kernel))) (by decide +kernel)
theorem gm_yX6_read : Cond.instanceMethod yX6_read ∈ gw := gw_in (List.mem_append_right _ (List.mem_of_getElem? (i := 896) (by decide +kernel))) (by decide +kernel)
theorem gs_yX6_read : Cond.selects RX6 yX6_read yX6_read ∈ gw := gw_in (List.mem_append_left _ (List.mem_of_getElem? (i := 58) (by decide +kernel))) (by decide +kernel)
theorem mv_X6_read : MV mX6_read 6 2 := ⟨⟨gc_yX6_read, gi_FirstOneModel, ⟨by decide, by decide⟩, by decide +kernel, by decide⟩, gm_yX6_read, gs_yX6_read, TX6, 52, rfl⟩
theorem gl_X6_240 : Cond.methodLink RX6 240 yX6_read ∈ gw := gw_in (List.mem_append_right _ (List.mem_of_getElem? (i := 894) (by decide +kernel))) (by decide +kernel)
theorem lm_X6_240 : LM RX6 240 yX6_read := Or.inl gl_X6_240
abbrev mX6_within : wn_M := (yX6_within, cX6_within, 3, (some .int))
theorem gc_yX6_within : Cond.code yX6_within cX6_within 3 (some .int) ∈ gw := gw_in (List.mem_append_right _ (List.mem_of_getElem? (i := 967) (by decide +kernel))) (by decide +kernel)
theorem gt_yX6_within : Cond.static yX6_within ∈ gw := gw_in (List.mem_append_right _ (List.mem_of_getElem? (i := 966) (by decide +kernel))) (by decide +kernel)
theorem mst_X6_within : MS mX6_within 3 := ⟨⟨gc_yX6_within, gi_FirstOneModel, ⟨by decide, by decide⟩, by decide +kernel, by decide⟩, gt_yX6_within⟩
theorem gl_X6_247 : Cond.methodLink RX6 247 yX6_within ∈ gw := gw_in (List.mem_append_right _ (List.mem_of_getElem? (i := 965) (by decide +kernel))) (by decide +kernel)
theorem lm_X6_247 : LM RX6 247 yX6_within := Or.inl gl_X6_247
abbrev mX6_hungersOf : wn_M := (yX6_hungersOf, cX6_hungersOf, 8, (some .int))
theorem gc_yX6_hungersOf : Cond.code yX6_hungersOf cX6_hungersOf 8 (some .int) ∈ gw := gw_in (List.mem_append_right _ (List.mem_of_getElem? (i := 893) (by decide +kernel))) (by decide +kernel)
theorem gm_yX6_hungersOf : Cond.instanceMethod yX6_hungersOf ∈ gw := gw_in (List.mem_append_right _ (List.mem_of_getElem? (i := 892) (by decide +kernel))) (by decide +kernel)
theorem gs_yX6_hungersOf : Cond.selects RX6 yX6_hungersOf yX6_hungersOf ∈ gw := gw_in (List.mem_append_left _ (List.mem_of_getElem? (i := 57) (by decide +kernel))) (by decide +kernel)
theorem mv_X6_hungersOf : MV mX6_hungersOf 6 4 := ⟨⟨gc_yX6_hungersOf, gi_FirstOneModel, ⟨by decide, by decide⟩, by decide +kernel, by decide⟩, gm_yX6_hungersOf, gs_yX6_hungersOf, TX6, 52, rfl⟩
theorem gl_X6_116 : Cond.methodLink RX6 116 yX6_hungersOf ∈ gw := gw_in (List.mem_append_right _ (List.mem_of_getElem? (i := 890) (by decide +kernel))) (by decide +kernel)
theorem lm_X6_116 : LM RX6 116 yX6_hungersOf := Or.inl gl_X6_116
abbrev mX6_told : wn_M := (yX6_told, cX6_told, 3, (some .int))
theorem fl_X5_108 : FL RX5 108 3 0 false := ⟨RX3, TX3, 8, tyX3, rfl, by decide, wi_X3, rfl, rfl, tyX3_ok, nmX3, Or.inr (List.mem_append_left _ (List.mem_of_getElem? (i := 1) (by decide +kernel)))⟩
theorem lm_X5_111 : LM RX5 111 yX2_bake := Or.inr (List.mem_append_right _ (List.mem_of_getElem? (i := 17) (by decide +kernel)))
theorem fl_X5_114 : FL RX5 114 2 2 true := ⟨RX2, TX2, 17, tyX2, rfl, by decide, wi_X2, rfl, rfl, tyX2_ok, nmX2, Or.inr (List.mem_append_left _ (List.mem_of_getElem? (i := 20) (by decide +kernel)))⟩
abbrev mX5_ready : wn_M := (yX5_ready, cX5_ready, 2, (some .int))
abbrev mX6_isCake : wn_M := (yX6_isCake, cX6_isCake, 2, (some .boolean))
theorem gc_yX6_isCake : Cond.code yX6_isCake cX6_isCake 2 (some .boolean) ∈ gw := gw_in (List.mem_append_right _ (List.mem_of_getElem? (i := 992) (by decide +kernel))) (by decide +kernel)
theorem gm_yX6_isCake : Cond.instanceMethod yX6_isCake ∈ gw := gw_in (List.mem_append_right _ (List.mem_of_getElem? (i := 991) (by decide +kernel))) (by decide +kernel)
theorem gs_yX6_isCake : Cond.selects RX6 yX6_isCake yX6_isCake ∈ gw := gw_in (List.mem_append_left _ (List.mem_of_getElem? (i := 75) (by decide +kernel))) (by decide +kernel)
theorem mv_X6_isCake : MV mX6_isCake 6 1 := ⟨⟨gc_yX6_isCake, gi_FirstOneModel, ⟨by decide, by decide⟩, by decide +kernel, by decide⟩, gm_yX6_isCake, gs_yX6_isCake, TX6, 52, rfl⟩
theorem gl_X6_254 : Cond.methodLink RX6 254 yX6_isCake ∈ gw := gw_in (List.mem_append_right _ (List.mem_of_getElem? (i := 989) (by decide +kernel))) (by decide +kernel)
theorem lm_X6_254 : LM RX6 254 yX6_isCake := Or.inl gl_X6_254
abbrev mX6_takesOf : wn_M := (yX6_takesOf, cX6_takesOf, 2, (some .int))
theorem gc_yX6_takesOf : Cond.code yX6_takesOf cX6_takesOf 2 (some .int) ∈ gw := gw_in (List.mem_append_right _ (List.mem_of_getElem? (i := 1000) (by decide +kernel))) (by decide +kernel)
theorem gm_yX6_takesOf : Cond.instanceMethod yX6_takesOf ∈ gw := gw_in (List.mem_append_right _ (List.mem_of_getElem? (i := 999) (by decide +kernel))) (by decide +kernel)
theorem gs_yX6_takesOf : Cond.selects RX6 yX6_takesOf yX6_takesOf ∈ gw := gw_in (List.mem_append_left _ (List.mem_of_getElem? (i := 77) (by decide +kernel))) (by decide +kernel)
theorem mv_X6_takesOf : MV mX6_takesOf 6 1 := ⟨⟨gc_yX6_takesOf, gi_FirstOneModel, ⟨by decide, by decide⟩, by decide +kernel, by decide⟩, gm_yX6_takesOf, gs_yX6_takesOf, TX6, 52, rfl⟩
theorem gl_X6_251 : Cond.methodLink RX6 251 yX6_takesOf ∈ gw := gw_in (List.mem_append_right _ (List.mem_of_getElem? (i := 997) (by decide +kernel))) (by decide +kernel)
theorem lm_X6_251 : LM RX6 251 yX6_takesOf := Or.inl gl_X6_251
abbrev mX6_readyOf : wn_M := (yX6_readyOf, cX6_readyOf, 4, (some .int))
theorem gc_yX6_readyOf : Cond.code yX6_readyOf cX6_readyOf 4 (some .int) ∈ gw := gw_in (List.mem_append_right _ (List.mem_of_getElem? (i := 996) (by decide +kernel))) (by decide +kernel)
theorem gm_yX6_readyOf : Cond.instanceMethod yX6_readyOf ∈ gw := gw_in (List.mem_append_right _ (List.mem_of_getElem? (i := 995) (by decide +kernel))) (by decide +kernel)
theorem gs_yX6_readyOf : Cond.selects RX6 yX6_readyOf yX6_readyOf ∈ gw := gw_in (List.mem_append_left _ (List.mem_of_getElem? (i := 76) (by decide +kernel))) (by decide +kernel)
theorem mv_X6_readyOf : MV mX6_readyOf 6 1 := ⟨⟨gc_yX6_readyOf, gi_FirstOneModel, ⟨by decide, by decide⟩, by decide +kernel, by decide⟩, gm_yX6_readyOf, gs_yX6_readyOf, TX6, 52, rfl⟩
theorem gl_X6_257 : Cond.methodLink RX6 257 yX6_readyOf ∈ gw := gw_in (List.mem_append_right _ (List.mem_of_getElem? (i := 993) (by decide +kernel))) (by decide +kernel)
theorem lm_X6_257 : LM RX6 257 yX6_readyOf := Or.inl gl_X6_257
abbrev mX6_ready : wn_M := (yX6_ready, cX6_ready, 2, (some .int))
theorem fl_X5_22 : FL RX5 22 5 3 true := ⟨RX5, TX5, 7, tyX5, rfl, by decide, wi_X5, rfl, rfl, tyX5_ok, nmX5, Or.inl (gw_in (List.mem_append_right _ (List.mem_of_getElem? (i := 349) (by decide +kernel))) (by decide +kernel))⟩
theorem wi_X0_a : ∀ w ∈ u_ws RX0 TX0 10, w ∈ lw_tbl := by decide +kernel
theorem wi_X0_b : ∀ w ∈ u_ws RX0 TX0 10, goodWord w = true := by decide +kernel
theorem wi_X0 : ∀ w ∈ u_ws RX0 TX0 10, w ∈ gw := fun w h => gw_in (wi_X0_a w h) (wi_X0_b w h)
theorem fl_X0_21 : FL RX0 21 0 1 false := ⟨RX0, TX0, 10, tyX0, rfl, by decide, wi_X0, rfl, rfl, tyX0_ok, nmX0, Or.inl (gw_in (List.mem_append_right _ (List.mem_of_getElem? (i := 77) (by decide +kernel))) (by decide +kernel))⟩
theorem so_S1_3 : S1[3]? = some (2, 0, [17, 0, 0, 0, 0, 0, 0, 18, 0, 19]) := rfl
theorem fl_X0_11 : FL RX0 11 0 0 true := ⟨RX0, TX0, 10, tyX0, rfl, by decide, wi_X0, rfl, rfl, tyX0_ok, nmX0, Or.inl (gw_in (List.mem_append_right _ (List.mem_of_getElem? (i := 76) (by decide +kernel))) (by decide +kernel))⟩
theorem so_S1_15 : S1[15]? = some (0, 160, []) := rfl
theorem ft_X0_1 : FTy 0 1 .int := by
  intro C T N h
  have h : some (RX0, TX0, 10) = some (C, T, N) := h
  cases h
  decide +kernel
abbrev mX0_append : wn_M := (yX0_append, cX0_append, 2, (some .boolean))
theorem gc_yX0_append : Cond.code yX0_append cX0_append 2 (some .boolean) ∈ gw := gw_in (List.mem_append_right _ (List.mem_of_getElem? (i := 270) (by decide +kernel))) (by decide +kernel)
theorem gi_FirstOne_Reader : Cond.initialized RX0 ∈ gw := gw_in (List.mem_append_right _ (List.mem_of_getElem? (i := 3) (by decide +kernel))) (by decide +kernel)
theorem gm_yX0_append : Cond.instanceMethod yX0_append ∈ gw := gw_in (List.mem_append_right _ (List.mem_of_getElem? (i := 269) (by decide +kernel))) (by decide +kernel)
theorem gs_yX0_append : Cond.selects RX0 yX0_append yX0_append ∈ gw := gw_in (List.mem_append_left _ (List.mem_of_getElem? (i := 1) (by decide +kernel))) (by decide +kernel)
theorem mv_X0_append : MV mX0_append 0 1 := ⟨⟨gc_yX0_append, gi_FirstOne_Reader, ⟨by decide, by decide⟩, by decide +kernel, by decide⟩, gm_yX0_append, gs_yX0_append, TX0, 10, rfl⟩
theorem lm_X5_117 : LM RX5 117 yX0_append := Or.inr (List.mem_append_right _ (List.mem_of_getElem? (i := 18) (by decide +kernel)))
theorem fl_X5_120 : FL RX5 120 0 1 false := ⟨RX0, TX0, 10, tyX0, rfl, by decide, wi_X0, rfl, rfl, tyX0_ok, nmX0, Or.inr (List.mem_append_left _ (List.mem_of_getElem? (i := 15) (by decide +kernel)))⟩
abbrev mX5_feed : wn_M := (yX5_feed, cX5_feed, 2, (some .int))
theorem gk_X6_124 : Cond.constantLong RX6 124 (255) ∈ gw := gw_in (List.mem_append_right _ (List.mem_of_getElem? (i := 976) (by decide +kernel))) (by decide +kernel)
theorem fl_X6_126 : FL RX6 126 6 6 false := ⟨RX6, TX6, 52, tyX6, rfl, by decide, wi_X6, rfl, rfl, tyX6_ok, nmX6, Or.inl (gw_in (List.mem_append_right _ (List.mem_of_getElem? (i := 712) (by decide +kernel))) (by decide +kernel))⟩
theorem fl_X6_20 : FL RX6 20 6 5 true := ⟨RX6, TX6, 52, tyX6, rfl, by decide, wi_X6, rfl, rfl, tyX6_ok, nmX6, Or.inl (gw_in (List.mem_append_right _ (List.mem_of_getElem? (i := 711) (by decide +kernel))) (by decide +kernel))⟩
theorem so_S2_3 : S2[3]? = some (0, 160, []) := rfl
theorem ft_X6_6 : FTy 6 6 .int := by
  intro C T N h
  have h : some (RX6, TX6, 52) = some (C, T, N) := h
  cases h
  decide +kernel
abbrev mX6_feed : wn_M := (yX6_feed, cX6_feed, 2, (some .int))
theorem fl_X5_29 : FL RX5 29 5 4 true := ⟨RX5, TX5, 7, tyX5, rfl, by decide, wi_X5, rfl, rfl, tyX5_ok, nmX5, Or.inl (gw_in (List.mem_append_right _ (List.mem_of_getElem? (i := 350) (by decide +kernel))) (by decide +kernel))⟩
theorem fl_X5_123 : FL RX5 123 4 0 false := ⟨RX4, TX4, 5, tyX4, rfl, by decide, wi_X4, rfl, rfl, tyX4_ok, nmX4, Or.inr (List.mem_append_left _ (List.mem_of_getElem? (i := 19) (by decide +kernel)))⟩
theorem fl_X0_39 : FL RX0 39 0 2 false := ⟨RX0, TX0, 10, tyX0, rfl, by decide, wi_X0, rfl, rfl, tyX0_ok, nmX0, Or.inl (gw_in (List.mem_append_right _ (List.mem_of_getElem? (i := 79) (by decide +kernel))) (by decide +kernel))⟩
theorem ft_X0_2 : FTy 0 2 .int := by
  intro C T N h
  have h : some (RX0, TX0, 10) = some (C, T, N) := h
  cases h
  decide +kernel
theorem fl_X0_42 : FL RX0 42 0 8 false := ⟨RX0, TX0, 10, tyX0, rfl, by decide, wi_X0, rfl, rfl, tyX0_ok, nmX0, Or.inl (gw_in (List.mem_append_right _ (List.mem_of_getElem? (i := 87) (by decide +kernel))) (by decide +kernel))⟩
theorem ft_X0_8 : FTy 0 8 .int := by
  intro C T N h
  have h : some (RX0, TX0, 10) = some (C, T, N) := h
  cases h
  decide +kernel
theorem fl_X0_44 : FL RX0 44 0 6 false := ⟨RX0, TX0, 10, tyX0, rfl, by decide, wi_X0, rfl, rfl, tyX0_ok, nmX0, Or.inl (gw_in (List.mem_append_right _ (List.mem_of_getElem? (i := 83) (by decide +kernel))) (by decide +kernel))⟩
theorem ft_X0_6 : FTy 0 6 .int := by
  intro C T N h
  have h : some (RX0, TX0, 10) = some (C, T, N) := h
  cases h
  decide +kernel
theorem fl_X0_64 : FL RX0 64 0 4 false := ⟨RX0, TX0, 10, tyX0, rfl, by decide, wi_X0, rfl, rfl, tyX0_ok, nmX0, Or.inl (gw_in (List.mem_append_right _ (List.mem_of_getElem? (i := 81) (by decide +kernel))) (by decide +kernel))⟩
theorem ft_X0_4 : FTy 0 4 .int := by
  intro C T N h
  have h : some (RX0, TX0, 10) = some (C, T, N) := h
  cases h
  decide +kernel
abbrev mX0_byteAt : wn_M := (yX0_byteAt, cX0_byteAt, 2, (some .int))
theorem gc_yX0_byteAt : Cond.code yX0_byteAt cX0_byteAt 2 (some .int) ∈ gw := gw_in (List.mem_append_right _ (List.mem_of_getElem? (i := 282) (by decide +kernel))) (by decide +kernel)
theorem gm_yX0_byteAt : Cond.instanceMethod yX0_byteAt ∈ gw := gw_in (List.mem_append_right _ (List.mem_of_getElem? (i := 281) (by decide +kernel))) (by decide +kernel)
theorem gs_yX0_byteAt : Cond.selects RX0 yX0_byteAt yX0_byteAt ∈ gw := gw_in (List.mem_append_left _ (List.mem_of_getElem? (i := 4) (by decide +kernel))) (by decide +kernel)
theorem mv_X0_byteAt : MV mX0_byteAt 0 1 := ⟨⟨gc_yX0_byteAt, gi_FirstOne_Reader, ⟨by decide, by decide⟩, by decide +kernel, by decide⟩, gm_yX0_byteAt, gs_yX0_byteAt, TX0, 10, rfl⟩
theorem gl_X0_80 : Cond.methodLink RX0 80 yX0_byteAt ∈ gw := gw_in (List.mem_append_right _ (List.mem_of_getElem? (i := 279) (by decide +kernel))) (by decide +kernel)
theorem lm_X0_80 : LM RX0 80 yX0_byteAt := Or.inl gl_X0_80
abbrev mX0_isLetter : wn_M := (yX0_isLetter, cX0_isLetter, 1, (some .boolean))
theorem gc_yX0_isLetter : Cond.code yX0_isLetter cX0_isLetter 1 (some .boolean) ∈ gw := gw_in (List.mem_append_right _ (List.mem_of_getElem? (i := 285) (by decide +kernel))) (by decide +kernel)
theorem gt_yX0_isLetter : Cond.static yX0_isLetter ∈ gw := gw_in (List.mem_append_right _ (List.mem_of_getElem? (i := 284) (by decide +kernel))) (by decide +kernel)
theorem mst_X0_isLetter : MS mX0_isLetter 1 := ⟨⟨gc_yX0_isLetter, gi_FirstOne_Reader, ⟨by decide, by decide⟩, by decide +kernel, by decide⟩, gt_yX0_isLetter⟩
theorem gl_X0_83 : Cond.methodLink RX0 83 yX0_isLetter ∈ gw := gw_in (List.mem_append_right _ (List.mem_of_getElem? (i := 283) (by decide +kernel))) (by decide +kernel)
theorem lm_X0_83 : LM RX0 83 yX0_isLetter := Or.inl gl_X0_83
abbrev mX0_isDigit : wn_M := (yX0_isDigit, cX0_isDigit, 1, (some .boolean))
theorem gc_yX0_isDigit : Cond.code yX0_isDigit cX0_isDigit 1 (some .boolean) ∈ gw := gw_in (List.mem_append_right _ (List.mem_of_getElem? (i := 311) (by decide +kernel))) (by decide +kernel)
theorem gt_yX0_isDigit : Cond.static yX0_isDigit ∈ gw := gw_in (List.mem_append_right _ (List.mem_of_getElem? (i := 310) (by decide +kernel))) (by decide +kernel)
theorem mst_X0_isDigit : MS mX0_isDigit 1 := ⟨⟨gc_yX0_isDigit, gi_FirstOne_Reader, ⟨by decide, by decide⟩, by decide +kernel, by decide⟩, gt_yX0_isDigit⟩
theorem gl_X0_89 : Cond.methodLink RX0 89 yX0_isDigit ∈ gw := gw_in (List.mem_append_right _ (List.mem_of_getElem? (i := 309) (by decide +kernel))) (by decide +kernel)
theorem lm_X0_89 : LM RX0 89 yX0_isDigit := Or.inl gl_X0_89
abbrev mX0_isSign : wn_M := (yX0_isSign, cX0_isSign, 1, (some .boolean))
theorem gc_yX0_isSign : Cond.code yX0_isSign cX0_isSign 1 (some .boolean) ∈ gw := gw_in (List.mem_append_right _ (List.mem_of_getElem? (i := 318) (by decide +kernel))) (by decide +kernel)
theorem gt_yX0_isSign : Cond.static yX0_isSign ∈ gw := gw_in (List.mem_append_right _ (List.mem_of_getElem? (i := 317) (by decide +kernel))) (by decide +kernel)
theorem mst_X0_isSign : MS mX0_isSign 1 := ⟨⟨gc_yX0_isSign, gi_FirstOne_Reader, ⟨by decide, by decide⟩, by decide +kernel, by decide⟩, gt_yX0_isSign⟩
theorem gl_X0_95 : Cond.methodLink RX0 95 yX0_isSign ∈ gw := gw_in (List.mem_append_right _ (List.mem_of_getElem? (i := 316) (by decide +kernel))) (by decide +kernel)
theorem lm_X0_95 : LM RX0 95 yX0_isSign := Or.inl gl_X0_95
theorem fl_X0_58 : FL RX0 58 0 3 false := ⟨RX0, TX0, 10, tyX0, rfl, by decide, wi_X0, rfl, rfl, tyX0_ok, nmX0, Or.inl (gw_in (List.mem_append_right _ (List.mem_of_getElem? (i := 80) (by decide +kernel))) (by decide +kernel))⟩
theorem ft_X0_3 : FTy 0 3 .int := by
  intro C T N h
  have h : some (RX0, TX0, 10) = some (C, T, N) := h
  cases h
  decide +kernel
theorem fl_X0_77 : FL RX0 77 0 5 false := ⟨RX0, TX0, 10, tyX0, rfl, by decide, wi_X0, rfl, rfl, tyX0_ok, nmX0, Or.inl (gw_in (List.mem_append_right _ (List.mem_of_getElem? (i := 82) (by decide +kernel))) (by decide +kernel))⟩
theorem ft_X0_5 : FTy 0 5 .int := by
  intro C T N h
  have h : some (RX0, TX0, 10) = some (C, T, N) := h
  cases h
  decide +kernel
abbrev mX0_readNumber : wn_M := (yX0_readNumber, cX0_readNumber, 4, none)
theorem gc_yX0_readNumber : Cond.code yX0_readNumber cX0_readNumber 4 none ∈ gw := gw_in (List.mem_append_right _ (List.mem_of_getElem? (i := 315) (by decide +kernel))) (by decide +kernel)
theorem gm_yX0_readNumber : Cond.instanceMethod yX0_readNumber ∈ gw := gw_in (List.mem_append_right _ (List.mem_of_getElem? (i := 314) (by decide +kernel))) (by decide +kernel)
theorem gs_yX0_readNumber : Cond.selects RX0 yX0_readNumber yX0_readNumber ∈ gw := gw_in (List.mem_append_left _ (List.mem_of_getElem? (i := 7) (by decide +kernel))) (by decide +kernel)
theorem mv_X0_readNumber : MV mX0_readNumber 0 0 := ⟨⟨gc_yX0_readNumber, gi_FirstOne_Reader, ⟨by decide, by decide⟩, by decide +kernel, by decide⟩, gm_yX0_readNumber, gs_yX0_readNumber, TX0, 10, rfl⟩
theorem gl_X0_92 : Cond.methodLink RX0 92 yX0_readNumber ∈ gw := gw_in (List.mem_append_right _ (List.mem_of_getElem? (i := 312) (by decide +kernel))) (by decide +kernel)
theorem lm_X0_92 : LM RX0 92 yX0_readNumber := Or.inl gl_X0_92
abbrev mX0_wordOf : wn_M := (yX0_wordOf, cX0_wordOf, 1, (some (.object "java/lang/String")))
theorem gc_yX0_wordOf : Cond.code yX0_wordOf cX0_wordOf 1 (some (.object "java/lang/String")) ∈ gw := gw_in (List.mem_append_right _ (List.mem_of_getElem? (i := 292) (by decide +kernel))) (by decide +kernel)
theorem gt_yX0_wordOf : Cond.static yX0_wordOf ∈ gw := gw_in (List.mem_append_right _ (List.mem_of_getElem? (i := 291) (by decide +kernel))) (by decide +kernel)
theorem mst_X0_wordOf : MS mX0_wordOf 1 := ⟨⟨gc_yX0_wordOf, gi_FirstOne_Reader, ⟨by decide, by decide⟩, by decide +kernel, by decide⟩, gt_yX0_wordOf⟩
theorem gl_X0_98 : Cond.methodLink RX0 98 yX0_wordOf ∈ gw := gw_in (List.mem_append_right _ (List.mem_of_getElem? (i := 290) (by decide +kernel))) (by decide +kernel)
theorem lm_X0_98 : LM RX0 98 yX0_wordOf := Or.inl gl_X0_98
theorem gl_X0_25 : Cond.methodLink RX0 25 yJ0_length_8abf5 ∈ gw := gw_in (List.mem_append_right _ (List.mem_of_getElem? (i := 219) (by decide +kernel))) (by decide +kernel)
theorem lm_X0_25 : LM RX0 25 yJ0_length_8abf5 := Or.inl gl_X0_25
theorem gl_X0_31 : Cond.methodLink RX0 31 yJ0_charAt_5068e ∈ gw := gw_in (List.mem_append_right _ (List.mem_of_getElem? (i := 229) (by decide +kernel))) (by decide +kernel)
theorem lm_X0_31 : LM RX0 31 yJ0_charAt_5068e := Or.inl gl_X0_31
abbrev mX0_isWord : wn_M := (yX0_isWord, cX0_isWord, 3, (some .boolean))
theorem gc_yX0_isWord : Cond.code yX0_isWord cX0_isWord 3 (some .boolean) ∈ gw := gw_in (List.mem_append_right _ (List.mem_of_getElem? (i := 308) (by decide +kernel))) (by decide +kernel)
theorem gm_yX0_isWord : Cond.instanceMethod yX0_isWord ∈ gw := gw_in (List.mem_append_right _ (List.mem_of_getElem? (i := 307) (by decide +kernel))) (by decide +kernel)
theorem gs_yX0_isWord : Cond.selects RX0 yX0_isWord yX0_isWord ∈ gw := gw_in (List.mem_append_left _ (List.mem_of_getElem? (i := 6) (by decide +kernel))) (by decide +kernel)
theorem mv_X0_isWord : MV mX0_isWord 0 1 := ⟨⟨gc_yX0_isWord, gi_FirstOne_Reader, ⟨by decide, by decide⟩, by decide +kernel, by decide⟩, gm_yX0_isWord, gs_yX0_isWord, TX0, 10, rfl⟩
theorem gl_X0_102 : Cond.methodLink RX0 102 yX0_isWord ∈ gw := gw_in (List.mem_append_right _ (List.mem_of_getElem? (i := 305) (by decide +kernel))) (by decide +kernel)
theorem lm_X0_102 : LM RX0 102 yX0_isWord := Or.inl gl_X0_102
abbrev mX0_readWord : wn_M := (yX0_readWord, cX0_readWord, 2, none)
theorem gc_yX0_readWord : Cond.code yX0_readWord cX0_readWord 2 none ∈ gw := gw_in (List.mem_append_right _ (List.mem_of_getElem? (i := 289) (by decide +kernel))) (by decide +kernel)
theorem gm_yX0_readWord : Cond.instanceMethod yX0_readWord ∈ gw := gw_in (List.mem_append_right _ (List.mem_of_getElem? (i := 288) (by decide +kernel))) (by decide +kernel)
theorem gs_yX0_readWord : Cond.selects RX0 yX0_readWord yX0_readWord ∈ gw := gw_in (List.mem_append_left _ (List.mem_of_getElem? (i := 5) (by decide +kernel))) (by decide +kernel)
theorem mv_X0_readWord : MV mX0_readWord 0 0 := ⟨⟨gc_yX0_readWord, gi_FirstOne_Reader, ⟨by decide, by decide⟩, by decide +kernel, by decide⟩, gm_yX0_readWord, gs_yX0_readWord, TX0, 10, rfl⟩
theorem gl_X0_86 : Cond.methodLink RX0 86 yX0_readWord ∈ gw := gw_in (List.mem_append_right _ (List.mem_of_getElem? (i := 286) (by decide +kernel))) (by decide +kernel)
theorem lm_X0_86 : LM RX0 86 yX0_readWord := Or.inl gl_X0_86
abbrev mX0_step : wn_M := (yX0_step, cX0_step, 2, none)
theorem gc_yX0_step : Cond.code yX0_step cX0_step 2 none ∈ gw := gw_in (List.mem_append_right _ (List.mem_of_getElem? (i := 278) (by decide +kernel))) (by decide +kernel)
theorem gm_yX0_step : Cond.instanceMethod yX0_step ∈ gw := gw_in (List.mem_append_right _ (List.mem_of_getElem? (i := 277) (by decide +kernel))) (by decide +kernel)
theorem gs_yX0_step : Cond.selects RX0 yX0_step yX0_step ∈ gw := gw_in (List.mem_append_left _ (List.mem_of_getElem? (i := 3) (by decide +kernel))) (by decide +kernel)
theorem mv_X0_step : MV mX0_step 0 0 := ⟨⟨gc_yX0_step, gi_FirstOne_Reader, ⟨by decide, by decide⟩, by decide +kernel, by decide⟩, gm_yX0_step, gs_yX0_step, TX0, 10, rfl⟩
theorem gl_X0_47 : Cond.methodLink RX0 47 yX0_step ∈ gw := gw_in (List.mem_append_right _ (List.mem_of_getElem? (i := 275) (by decide +kernel))) (by decide +kernel)
theorem lm_X0_47 : LM RX0 47 yX0_step := Or.inl gl_X0_47
abbrev mX0_breakOff : wn_M := (yX0_breakOff, cX0_breakOff, 1, none)
theorem gc_yX0_breakOff : Cond.code yX0_breakOff cX0_breakOff 1 none ∈ gw := gw_in (List.mem_append_right _ (List.mem_of_getElem? (i := 326) (by decide +kernel))) (by decide +kernel)
theorem gm_yX0_breakOff : Cond.instanceMethod yX0_breakOff ∈ gw := gw_in (List.mem_append_right _ (List.mem_of_getElem? (i := 325) (by decide +kernel))) (by decide +kernel)
theorem gs_yX0_breakOff : Cond.selects RX0 yX0_breakOff yX0_breakOff ∈ gw := gw_in (List.mem_append_left _ (List.mem_of_getElem? (i := 9) (by decide +kernel))) (by decide +kernel)
theorem mv_X0_breakOff : MV mX0_breakOff 0 0 := ⟨⟨gc_yX0_breakOff, gi_FirstOne_Reader, ⟨by decide, by decide⟩, by decide +kernel, by decide⟩, gm_yX0_breakOff, gs_yX0_breakOff, TX0, 10, rfl⟩
theorem gl_X0_61 : Cond.methodLink RX0 61 yX0_breakOff ∈ gw := gw_in (List.mem_append_right _ (List.mem_of_getElem? (i := 323) (by decide +kernel))) (by decide +kernel)
theorem lm_X0_61 : LM RX0 61 yX0_breakOff := Or.inl gl_X0_61
abbrev mX0_demand : wn_M := (yX0_demand, cX0_demand, 2, none)
theorem gc_yX0_demand : Cond.code yX0_demand cX0_demand 2 none ∈ gw := gw_in (List.mem_append_right _ (List.mem_of_getElem? (i := 322) (by decide +kernel))) (by decide +kernel)
theorem gm_yX0_demand : Cond.instanceMethod yX0_demand ∈ gw := gw_in (List.mem_append_right _ (List.mem_of_getElem? (i := 321) (by decide +kernel))) (by decide +kernel)
theorem gs_yX0_demand : Cond.selects RX0 yX0_demand yX0_demand ∈ gw := gw_in (List.mem_append_left _ (List.mem_of_getElem? (i := 8) (by decide +kernel))) (by decide +kernel)
theorem mv_X0_demand : MV mX0_demand 0 1 := ⟨⟨gc_yX0_demand, gi_FirstOne_Reader, ⟨by decide, by decide⟩, by decide +kernel, by decide⟩, gm_yX0_demand, gs_yX0_demand, TX0, 10, rfl⟩
theorem gl_X0_50 : Cond.methodLink RX0 50 yX0_demand ∈ gw := gw_in (List.mem_append_right _ (List.mem_of_getElem? (i := 319) (by decide +kernel))) (by decide +kernel)
theorem lm_X0_50 : LM RX0 50 yX0_demand := Or.inl gl_X0_50
abbrev mX0_reckon : wn_M := (yX0_reckon, cX0_reckon, 6, none)
theorem gc_yX0_reckon : Cond.code yX0_reckon cX0_reckon 6 none ∈ gw := gw_in (List.mem_append_right _ (List.mem_of_getElem? (i := 330) (by decide +kernel))) (by decide +kernel)
theorem gm_yX0_reckon : Cond.instanceMethod yX0_reckon ∈ gw := gw_in (List.mem_append_right _ (List.mem_of_getElem? (i := 329) (by decide +kernel))) (by decide +kernel)
theorem gs_yX0_reckon : Cond.selects RX0 yX0_reckon yX0_reckon ∈ gw := gw_in (List.mem_append_left _ (List.mem_of_getElem? (i := 10) (by decide +kernel))) (by decide +kernel)
theorem mv_X0_reckon : MV mX0_reckon 0 2 := ⟨⟨gc_yX0_reckon, gi_FirstOne_Reader, ⟨by decide, by decide⟩, by decide +kernel, by decide⟩, gm_yX0_reckon, gs_yX0_reckon, TX0, 10, rfl⟩
theorem gl_X0_54 : Cond.methodLink RX0 54 yX0_reckon ∈ gw := gw_in (List.mem_append_right _ (List.mem_of_getElem? (i := 327) (by decide +kernel))) (by decide +kernel)
theorem lm_X0_54 : LM RX0 54 yX0_reckon := Or.inl gl_X0_54
abbrev mX0_levelOf : wn_M := (yX0_levelOf, cX0_levelOf, 1, (some .int))
theorem gc_yX0_levelOf : Cond.code yX0_levelOf cX0_levelOf 1 (some .int) ∈ gw := gw_in (List.mem_append_right _ (List.mem_of_getElem? (i := 341) (by decide +kernel))) (by decide +kernel)
theorem gt_yX0_levelOf : Cond.static yX0_levelOf ∈ gw := gw_in (List.mem_append_right _ (List.mem_of_getElem? (i := 340) (by decide +kernel))) (by decide +kernel)
theorem mst_X0_levelOf : MS mX0_levelOf 1 := ⟨⟨gc_yX0_levelOf, gi_FirstOne_Reader, ⟨by decide, by decide⟩, by decide +kernel, by decide⟩, gt_yX0_levelOf⟩
theorem gl_X0_73 : Cond.methodLink RX0 73 yX0_levelOf ∈ gw := gw_in (List.mem_append_right _ (List.mem_of_getElem? (i := 339) (by decide +kernel))) (by decide +kernel)
theorem lm_X0_73 : LM RX0 73 yX0_levelOf := Or.inl gl_X0_73
theorem fl_X0_15 : FL RX0 15 0 7 true := ⟨RX0, TX0, 10, tyX0, rfl, by decide, wi_X0, rfl, rfl, tyX0_ok, nmX0, Or.inl (gw_in (List.mem_append_right _ (List.mem_of_getElem? (i := 85) (by decide +kernel))) (by decide +kernel))⟩
theorem so_S1_16 : S1[16]? = some (0, 160, []) := rfl
abbrev mX0_put : wn_M := (yX0_put, cX0_put, 2, none)
theorem gc_yX0_put : Cond.code yX0_put cX0_put 2 none ∈ gw := gw_in (List.mem_append_right _ (List.mem_of_getElem? (i := 338) (by decide +kernel))) (by decide +kernel)
theorem gm_yX0_put : Cond.instanceMethod yX0_put ∈ gw := gw_in (List.mem_append_right _ (List.mem_of_getElem? (i := 337) (by decide +kernel))) (by decide +kernel)
theorem gs_yX0_put : Cond.selects RX0 yX0_put yX0_put ∈ gw := gw_in (List.mem_append_left _ (List.mem_of_getElem? (i := 12) (by decide +kernel))) (by decide +kernel)
theorem mv_X0_put : MV mX0_put 0 1 := ⟨⟨gc_yX0_put, gi_FirstOne_Reader, ⟨by decide, by decide⟩, by decide +kernel, by decide⟩, gm_yX0_put, gs_yX0_put, TX0, 10, rfl⟩
theorem gl_X0_70 : Cond.methodLink RX0 70 yX0_put ∈ gw := gw_in (List.mem_append_right _ (List.mem_of_getElem? (i := 335) (by decide +kernel))) (by decide +kernel)
theorem lm_X0_70 : LM RX0 70 yX0_put := Or.inl gl_X0_70
abbrev mX0_one : wn_M := (yX0_one, cX0_one, 3, none)
theorem gc_yX0_one : Cond.code yX0_one cX0_one 3 none ∈ gw := gw_in (List.mem_append_right _ (List.mem_of_getElem? (i := 334) (by decide +kernel))) (by decide +kernel)
theorem gm_yX0_one : Cond.instanceMethod yX0_one ∈ gw := gw_in (List.mem_append_right _ (List.mem_of_getElem? (i := 333) (by decide +kernel))) (by decide +kernel)
theorem gs_yX0_one : Cond.selects RX0 yX0_one yX0_one ∈ gw := gw_in (List.mem_append_left _ (List.mem_of_getElem? (i := 11) (by decide +kernel))) (by decide +kernel)
theorem mv_X0_one : MV mX0_one 0 1 := ⟨⟨gc_yX0_one, gi_FirstOne_Reader, ⟨by decide, by decide⟩, by decide +kernel, by decide⟩, gm_yX0_one, gs_yX0_one, TX0, 10, rfl⟩
theorem gl_X0_67 : Cond.methodLink RX0 67 yX0_one ∈ gw := gw_in (List.mem_append_right _ (List.mem_of_getElem? (i := 331) (by decide +kernel))) (by decide +kernel)
theorem lm_X0_67 : LM RX0 67 yX0_one := Or.inl gl_X0_67
theorem fl_X0_18 : FL RX0 18 0 9 true := ⟨RX0, TX0, 10, tyX0, rfl, by decide, wi_X0, rfl, rfl, tyX0_ok, nmX0, Or.inl (gw_in (List.mem_append_right _ (List.mem_of_getElem? (i := 88) (by decide +kernel))) (by decide +kernel))⟩
theorem so_S1_17 : S1[17]? = some (0, 3, []) := rfl
abbrev mX0_reads : wn_M := (yX0_reads, cX0_reads, 2, (some .boolean))
theorem gc_yX0_reads : Cond.code yX0_reads cX0_reads 2 (some .boolean) ∈ gw := gw_in (List.mem_append_right _ (List.mem_of_getElem? (i := 274) (by decide +kernel))) (by decide +kernel)
theorem gm_yX0_reads : Cond.instanceMethod yX0_reads ∈ gw := gw_in (List.mem_append_right _ (List.mem_of_getElem? (i := 273) (by decide +kernel))) (by decide +kernel)
theorem gs_yX0_reads : Cond.selects RX0 yX0_reads yX0_reads ∈ gw := gw_in (List.mem_append_left _ (List.mem_of_getElem? (i := 2) (by decide +kernel))) (by decide +kernel)
theorem mv_X0_reads : MV mX0_reads 0 0 := ⟨⟨gc_yX0_reads, gi_FirstOne_Reader, ⟨by decide, by decide⟩, by decide +kernel, by decide⟩, gm_yX0_reads, gs_yX0_reads, TX0, 10, rfl⟩
theorem lm_X5_55 : LM RX5 55 yX0_reads := Or.inr (List.mem_append_right _ (List.mem_of_getElem? (i := 6) (by decide +kernel)))
theorem fl_X4_24 : FL RX4 24 4 0 false := ⟨RX4, TX4, 5, tyX4, rfl, by decide, wi_X4, rfl, rfl, tyX4_ok, nmX4, Or.inl (gw_in (List.mem_append_right _ (List.mem_of_getElem? (i := 117) (by decide +kernel))) (by decide +kernel))⟩
theorem ft_X4_0 : FTy 4 0 .int := by
  intro C T N h
  have h : some (RX4, TX4, 5) = some (C, T, N) := h
  cases h
  decide +kernel
theorem fl_X4_33 : FL RX4 33 0 9 true := ⟨RX0, TX0, 10, tyX0, rfl, by decide, wi_X0, rfl, rfl, tyX0_ok, nmX0, Or.inr (List.mem_append_left _ (List.mem_of_getElem? (i := 18) (by decide +kernel)))⟩
theorem fl_X4_28 : FL RX4 28 0 7 true := ⟨RX0, TX0, 10, tyX0, rfl, by decide, wi_X0, rfl, rfl, tyX0_ok, nmX0, Or.inr (List.mem_append_left _ (List.mem_of_getElem? (i := 17) (by decide +kernel)))⟩
abbrev mX4_add : wn_M := (yX4_add, cX4_add, 3, (some .int))
theorem gc_yX4_add : Cond.code yX4_add cX4_add 3 (some .int) ∈ gw := gw_in (List.mem_append_right _ (List.mem_of_getElem? (i := 345) (by decide +kernel))) (by decide +kernel)
theorem gm_yX4_add : Cond.instanceMethod yX4_add ∈ gw := gw_in (List.mem_append_right _ (List.mem_of_getElem? (i := 344) (by decide +kernel))) (by decide +kernel)
theorem gs_yX4_add : Cond.selects RX4 yX4_add yX4_add ∈ gw := gw_in (List.mem_append_left _ (List.mem_of_getElem? (i := 13) (by decide +kernel))) (by decide +kernel)
theorem mv_X4_add : MV mX4_add 4 1 := ⟨⟨gc_yX4_add, gi_FirstOne_Texts, ⟨by decide, by decide⟩, by decide +kernel, by decide⟩, gm_yX4_add, gs_yX4_add, TX4, 5, rfl⟩
theorem lm_X5_59 : LM RX5 59 yX4_add := Or.inr (List.mem_append_right _ (List.mem_of_getElem? (i := 7) (by decide +kernel)))
theorem fl_X5_126 : FL RX5 126 0 6 false := ⟨RX0, TX0, 10, tyX0, rfl, by decide, wi_X0, rfl, rfl, tyX0_ok, nmX0, Or.inr (List.mem_append_left _ (List.mem_of_getElem? (i := 16) (by decide +kernel)))⟩
abbrev mX5_text : wn_M := (yX5_text, cX5_text, 1, (some .int))
theorem fl_X6_88 : FL RX6 88 6 3 false := ⟨RX6, TX6, 52, tyX6, rfl, by decide, wi_X6, rfl, rfl, tyX6_ok, nmX6, Or.inl (gw_in (List.mem_append_right _ (List.mem_of_getElem? (i := 709) (by decide +kernel))) (by decide +kernel))⟩
theorem ft_X6_3 : FTy 6 3 .int := by
  intro C T N h
  have h : some (RX6, TX6, 52) = some (C, T, N) := h
  cases h
  decide +kernel
abbrev mX6_text : wn_M := (yX6_text, cX6_text, 2, (some .int))
theorem fl_X5_129 : FL RX5 129 3 2 false := ⟨RX3, TX3, 8, tyX3, rfl, by decide, wi_X3, rfl, rfl, tyX3_ok, nmX3, Or.inr (List.mem_append_left _ (List.mem_of_getElem? (i := 4) (by decide +kernel)))⟩
theorem ft_X3_2 : FTy 3 2 .int := by
  intro C T N h
  have h : some (RX3, TX3, 8) = some (C, T, N) := h
  cases h
  decide +kernel
abbrev mX5_force : wn_M := (yX5_force, cX5_force, 3, (some .int))
theorem ft_X6_4 : FTy 6 4 .int := by
  intro C T N h
  have h : some (RX6, TX6, 52) = some (C, T, N) := h
  cases h
  decide +kernel
abbrev mX6_force : wn_M := (yX6_force, cX6_force, 3, (some .int))
theorem gk_X5_135 : Cond.constant RX5 135 (-100000) ∈ gw := gw_in (List.mem_append_right _ (List.mem_of_getElem? (i := 481) (by decide +kernel))) (by decide +kernel)
theorem lm_X2_155 : LM RX2 155 yX3_has := Or.inr (List.mem_append_right _ (List.mem_of_getElem? (i := 20) (by decide +kernel)))
abbrev mX2_isAnswer : wn_M := (yX2_isAnswer, cX2_isAnswer, 2, (some .boolean))
theorem gc_yX2_isAnswer : Cond.code yX2_isAnswer cX2_isAnswer 2 (some .boolean) ∈ gw := gw_in (List.mem_append_right _ (List.mem_of_getElem? (i := 479) (by decide +kernel))) (by decide +kernel)
theorem gm_yX2_isAnswer : Cond.instanceMethod yX2_isAnswer ∈ gw := gw_in (List.mem_append_right _ (List.mem_of_getElem? (i := 478) (by decide +kernel))) (by decide +kernel)
theorem gs_yX2_isAnswer : Cond.selects RX2 yX2_isAnswer yX2_isAnswer ∈ gw := gw_in (List.mem_append_left _ (List.mem_of_getElem? (i := 24) (by decide +kernel))) (by decide +kernel)
theorem mv_X2_isAnswer : MV mX2_isAnswer 2 1 := ⟨⟨gc_yX2_isAnswer, gi_FirstOne_Supper, ⟨by decide, by decide⟩, by decide +kernel, by decide⟩, gm_yX2_isAnswer, gs_yX2_isAnswer, TX2, 17, rfl⟩
theorem lm_X5_132 : LM RX5 132 yX2_isAnswer := Or.inr (List.mem_append_right _ (List.mem_of_getElem? (i := 19) (by decide +kernel)))
theorem fl_X2_111 : FL RX2 111 2 12 false := ⟨RX2, TX2, 17, tyX2, rfl, by decide, wi_X2, rfl, rfl, tyX2_ok, nmX2, Or.inl (gw_in (List.mem_append_right _ (List.mem_of_getElem? (i := 173) (by decide +kernel))) (by decide +kernel))⟩
theorem ft_X2_12 : FTy 2 12 .int := by
  intro C T N h
  have h : some (RX2, TX2, 17) = some (C, T, N) := h
  cases h
  decide +kernel
theorem fl_X2_114 : FL RX2 114 2 13 false := ⟨RX2, TX2, 17, tyX2, rfl, by decide, wi_X2, rfl, rfl, tyX2_ok, nmX2, Or.inl (gw_in (List.mem_append_right _ (List.mem_of_getElem? (i := 175) (by decide +kernel))) (by decide +kernel))⟩
theorem ft_X2_13 : FTy 2 13 .int := by
  intro C T N h
  have h : some (RX2, TX2, 17) = some (C, T, N) := h
  cases h
  decide +kernel
theorem fl_X2_117 : FL RX2 117 2 14 false := ⟨RX2, TX2, 17, tyX2, rfl, by decide, wi_X2, rfl, rfl, tyX2_ok, nmX2, Or.inl (gw_in (List.mem_append_right _ (List.mem_of_getElem? (i := 176) (by decide +kernel))) (by decide +kernel))⟩
theorem ft_X2_14 : FTy 2 14 .int := by
  intro C T N h
  have h : some (RX2, TX2, 17) = some (C, T, N) := h
  cases h
  decide +kernel
theorem fl_X2_120 : FL RX2 120 2 15 false := ⟨RX2, TX2, 17, tyX2, rfl, by decide, wi_X2, rfl, rfl, tyX2_ok, nmX2, Or.inl (gw_in (List.mem_append_right _ (List.mem_of_getElem? (i := 177) (by decide +kernel))) (by decide +kernel))⟩
theorem ft_X2_15 : FTy 2 15 .int := by
  intro C T N h
  have h : some (RX2, TX2, 17) = some (C, T, N) := h
  cases h
  decide +kernel
abbrev mX2_sits : wn_M := (yX2_sits, cX2_sits, 2, (some .boolean))
theorem gc_yX2_sits : Cond.code yX2_sits cX2_sits 2 (some .boolean) ∈ gw := gw_in (List.mem_append_right _ (List.mem_of_getElem? (i := 518) (by decide +kernel))) (by decide +kernel)
theorem gm_yX2_sits : Cond.instanceMethod yX2_sits ∈ gw := gw_in (List.mem_append_right _ (List.mem_of_getElem? (i := 517) (by decide +kernel))) (by decide +kernel)
theorem gs_yX2_sits : Cond.selects RX2 yX2_sits yX2_sits ∈ gw := gw_in (List.mem_append_left _ (List.mem_of_getElem? (i := 33) (by decide +kernel))) (by decide +kernel)
theorem mv_X2_sits : MV mX2_sits 2 1 := ⟨⟨gc_yX2_sits, gi_FirstOne_Supper, ⟨by decide, by decide⟩, by decide +kernel, by decide⟩, gm_yX2_sits, gs_yX2_sits, TX2, 17, rfl⟩
theorem gl_X2_145 : Cond.methodLink RX2 145 yX2_sits ∈ gw := gw_in (List.mem_append_right _ (List.mem_of_getElem? (i := 515) (by decide +kernel))) (by decide +kernel)
theorem lm_X2_145 : LM RX2 145 yX2_sits := Or.inl gl_X2_145
theorem fl_X2_30 : FL RX2 30 2 10 true := ⟨RX2, TX2, 17, tyX2, rfl, by decide, wi_X2, rfl, rfl, tyX2_ok, nmX2, Or.inl (gw_in (List.mem_append_right _ (List.mem_of_getElem? (i := 171) (by decide +kernel))) (by decide +kernel))⟩
theorem so_S1_31 : S1[31]? = some (0, 5, []) := rfl
theorem fl_X2_27 : FL RX2 27 2 9 true := ⟨RX2, TX2, 17, tyX2, rfl, by decide, wi_X2, rfl, rfl, tyX2_ok, nmX2, Or.inl (gw_in (List.mem_append_right _ (List.mem_of_getElem? (i := 170) (by decide +kernel))) (by decide +kernel))⟩
theorem so_S1_30 : S1[30]? = some (0, 5, []) := rfl
theorem gl_X2_152 : Cond.methodLink RX2 152 yX2_hungers ∈ gw := gw_in (List.mem_append_right _ (List.mem_of_getElem? (i := 519) (by decide +kernel))) (by decide +kernel)
theorem lm_X2_152 : LM RX2 152 yX2_hungers := Or.inl gl_X2_152
abbrev mX2_pass : wn_M := (yX2_pass, cX2_pass, 3, none)
theorem gc_yX2_pass : Cond.code yX2_pass cX2_pass 3 none ∈ gw := gw_in (List.mem_append_right _ (List.mem_of_getElem? (i := 535) (by decide +kernel))) (by decide +kernel)
theorem gm_yX2_pass : Cond.instanceMethod yX2_pass ∈ gw := gw_in (List.mem_append_right _ (List.mem_of_getElem? (i := 534) (by decide +kernel))) (by decide +kernel)
theorem gs_yX2_pass : Cond.selects RX2 yX2_pass yX2_pass ∈ gw := gw_in (List.mem_append_left _ (List.mem_of_getElem? (i := 37) (by decide +kernel))) (by decide +kernel)
theorem mv_X2_pass : MV mX2_pass 2 1 := ⟨⟨gc_yX2_pass, gi_FirstOne_Supper, ⟨by decide, by decide⟩, by decide +kernel, by decide⟩, gm_yX2_pass, gs_yX2_pass, TX2, 17, rfl⟩
theorem gl_X2_131 : Cond.methodLink RX2 131 yX2_pass ∈ gw := gw_in (List.mem_append_right _ (List.mem_of_getElem? (i := 532) (by decide +kernel))) (by decide +kernel)
theorem lm_X2_131 : LM RX2 131 yX2_pass := Or.inl gl_X2_131
abbrev mX2_firstOfLeast : wn_M := (yX2_firstOfLeast, cX2_firstOfLeast, 4, (some .int))
theorem gc_yX2_firstOfLeast : Cond.code yX2_firstOfLeast cX2_firstOfLeast 4 (some .int) ∈ gw := gw_in (List.mem_append_right _ (List.mem_of_getElem? (i := 523) (by decide +kernel))) (by decide +kernel)
theorem gm_yX2_firstOfLeast : Cond.instanceMethod yX2_firstOfLeast ∈ gw := gw_in (List.mem_append_right _ (List.mem_of_getElem? (i := 522) (by decide +kernel))) (by decide +kernel)
theorem gs_yX2_firstOfLeast : Cond.selects RX2 yX2_firstOfLeast yX2_firstOfLeast ∈ gw := gw_in (List.mem_append_left _ (List.mem_of_getElem? (i := 34) (by decide +kernel))) (by decide +kernel)
theorem mv_X2_firstOfLeast : MV mX2_firstOfLeast 2 0 := ⟨⟨gc_yX2_firstOfLeast, gi_FirstOne_Supper, ⟨by decide, by decide⟩, by decide +kernel, by decide⟩, gm_yX2_firstOfLeast, gs_yX2_firstOfLeast, TX2, 17, rfl⟩
theorem gl_X2_138 : Cond.methodLink RX2 138 yX2_firstOfLeast ∈ gw := gw_in (List.mem_append_right _ (List.mem_of_getElem? (i := 520) (by decide +kernel))) (by decide +kernel)
theorem lm_X2_138 : LM RX2 138 yX2_firstOfLeast := Or.inl gl_X2_138
abbrev mX2_give : wn_M := (yX2_give, cX2_give, 6, none)
theorem gc_yX2_give : Cond.code yX2_give cX2_give 6 none ∈ gw := gw_in (List.mem_append_right _ (List.mem_of_getElem? (i := 527) (by decide +kernel))) (by decide +kernel)
theorem gm_yX2_give : Cond.instanceMethod yX2_give ∈ gw := gw_in (List.mem_append_right _ (List.mem_of_getElem? (i := 526) (by decide +kernel))) (by decide +kernel)
theorem gs_yX2_give : Cond.selects RX2 yX2_give yX2_give ∈ gw := gw_in (List.mem_append_left _ (List.mem_of_getElem? (i := 35) (by decide +kernel))) (by decide +kernel)
theorem mv_X2_give : MV mX2_give 2 3 := ⟨⟨gc_yX2_give, gi_FirstOne_Supper, ⟨by decide, by decide⟩, by decide +kernel, by decide⟩, gm_yX2_give, gs_yX2_give, TX2, 17, rfl⟩
theorem gl_X2_141 : Cond.methodLink RX2 141 yX2_give ∈ gw := gw_in (List.mem_append_right _ (List.mem_of_getElem? (i := 524) (by decide +kernel))) (by decide +kernel)
theorem lm_X2_141 : LM RX2 141 yX2_give := Or.inl gl_X2_141
abbrev mX2_hungriest : wn_M := (yX2_hungriest, cX2_hungriest, 6, (some .int))
theorem gc_yX2_hungriest : Cond.code yX2_hungriest cX2_hungriest 6 (some .int) ∈ gw := gw_in (List.mem_append_right _ (List.mem_of_getElem? (i := 514) (by decide +kernel))) (by decide +kernel)
theorem gm_yX2_hungriest : Cond.instanceMethod yX2_hungriest ∈ gw := gw_in (List.mem_append_right _ (List.mem_of_getElem? (i := 513) (by decide +kernel))) (by decide +kernel)
theorem gs_yX2_hungriest : Cond.selects RX2 yX2_hungriest yX2_hungriest ∈ gw := gw_in (List.mem_append_left _ (List.mem_of_getElem? (i := 32) (by decide +kernel))) (by decide +kernel)
theorem mv_X2_hungriest : MV mX2_hungriest 2 1 := ⟨⟨gc_yX2_hungriest, gi_FirstOne_Supper, ⟨by decide, by decide⟩, by decide +kernel, by decide⟩, gm_yX2_hungriest, gs_yX2_hungriest, TX2, 17, rfl⟩
theorem gl_X2_134 : Cond.methodLink RX2 134 yX2_hungriest ∈ gw := gw_in (List.mem_append_right _ (List.mem_of_getElem? (i := 511) (by decide +kernel))) (by decide +kernel)
theorem lm_X2_134 : LM RX2 134 yX2_hungriest := Or.inl gl_X2_134
theorem fl_X2_104 : FL RX2 104 3 3 false := ⟨RX3, TX3, 8, tyX3, rfl, by decide, wi_X3, rfl, rfl, tyX3_ok, nmX3, Or.inr (List.mem_append_left _ (List.mem_of_getElem? (i := 5) (by decide +kernel)))⟩
theorem fl_X2_18 : FL RX2 18 2 5 true := ⟨RX2, TX2, 17, tyX2, rfl, by decide, wi_X2, rfl, rfl, tyX2_ok, nmX2, Or.inl (gw_in (List.mem_append_right _ (List.mem_of_getElem? (i := 162) (by decide +kernel))) (by decide +kernel))⟩
theorem so_S1_27 : S1[27]? = some (0, 12, []) := rfl
abbrev mX2_serve : wn_M := (yX2_serve, cX2_serve, 5, none)
theorem gc_yX2_serve : Cond.code yX2_serve cX2_serve 5 none ∈ gw := gw_in (List.mem_append_right _ (List.mem_of_getElem? (i := 510) (by decide +kernel))) (by decide +kernel)
theorem gm_yX2_serve : Cond.instanceMethod yX2_serve ∈ gw := gw_in (List.mem_append_right _ (List.mem_of_getElem? (i := 509) (by decide +kernel))) (by decide +kernel)
theorem gs_yX2_serve : Cond.selects RX2 yX2_serve yX2_serve ∈ gw := gw_in (List.mem_append_left _ (List.mem_of_getElem? (i := 31) (by decide +kernel))) (by decide +kernel)
theorem mv_X2_serve : MV mX2_serve 2 2 := ⟨⟨gc_yX2_serve, gi_FirstOne_Supper, ⟨by decide, by decide⟩, by decide +kernel, by decide⟩, gm_yX2_serve, gs_yX2_serve, TX2, 17, rfl⟩
theorem gl_X2_123 : Cond.methodLink RX2 123 yX2_serve ∈ gw := gw_in (List.mem_append_right _ (List.mem_of_getElem? (i := 507) (by decide +kernel))) (by decide +kernel)
theorem lm_X2_123 : LM RX2 123 yX2_serve := Or.inl gl_X2_123
abbrev mX2_mostHad : wn_M := (yX2_mostHad, cX2_mostHad, 3, (some .int))
theorem gc_yX2_mostHad : Cond.code yX2_mostHad cX2_mostHad 3 (some .int) ∈ gw := gw_in (List.mem_append_right _ (List.mem_of_getElem? (i := 531) (by decide +kernel))) (by decide +kernel)
theorem gm_yX2_mostHad : Cond.instanceMethod yX2_mostHad ∈ gw := gw_in (List.mem_append_right _ (List.mem_of_getElem? (i := 530) (by decide +kernel))) (by decide +kernel)
theorem gs_yX2_mostHad : Cond.selects RX2 yX2_mostHad yX2_mostHad ∈ gw := gw_in (List.mem_append_left _ (List.mem_of_getElem? (i := 36) (by decide +kernel))) (by decide +kernel)
theorem mv_X2_mostHad : MV mX2_mostHad 2 0 := ⟨⟨gc_yX2_mostHad, gi_FirstOne_Supper, ⟨by decide, by decide⟩, by decide +kernel, by decide⟩, gm_yX2_mostHad, gs_yX2_mostHad, TX2, 17, rfl⟩
theorem gl_X2_127 : Cond.methodLink RX2 127 yX2_mostHad ∈ gw := gw_in (List.mem_append_right _ (List.mem_of_getElem? (i := 528) (by decide +kernel))) (by decide +kernel)
theorem lm_X2_127 : LM RX2 127 yX2_mostHad := Or.inl gl_X2_127
abbrev mX2_run : wn_M := (yX2_run, cX2_run, 3, none)
theorem gc_yX2_run : Cond.code yX2_run cX2_run 3 none ∈ gw := gw_in (List.mem_append_right _ (List.mem_of_getElem? (i := 506) (by decide +kernel))) (by decide +kernel)
theorem gm_yX2_run : Cond.instanceMethod yX2_run ∈ gw := gw_in (List.mem_append_right _ (List.mem_of_getElem? (i := 505) (by decide +kernel))) (by decide +kernel)
theorem gs_yX2_run : Cond.selects RX2 yX2_run yX2_run ∈ gw := gw_in (List.mem_append_left _ (List.mem_of_getElem? (i := 30) (by decide +kernel))) (by decide +kernel)
theorem mv_X2_run : MV mX2_run 2 1 := ⟨⟨gc_yX2_run, gi_FirstOne_Supper, ⟨by decide, by decide⟩, by decide +kernel, by decide⟩, gm_yX2_run, gs_yX2_run, TX2, 17, rfl⟩
theorem lm_X5_149 : LM RX5 149 yX2_run := Or.inr (List.mem_append_right _ (List.mem_of_getElem? (i := 24) (by decide +kernel)))
theorem gk_X2_168 : Cond.constant RX2 168 (-100000) ∈ gw := gw_in (List.mem_append_right _ (List.mem_of_getElem? (i := 544) (by decide +kernel))) (by decide +kernel)
abbrev mX2_ofOne : wn_M := (yX2_ofOne, cX2_ofOne, 3, (some .int))
theorem gc_yX2_ofOne : Cond.code yX2_ofOne cX2_ofOne 3 (some .int) ∈ gw := gw_in (List.mem_append_right _ (List.mem_of_getElem? (i := 543) (by decide +kernel))) (by decide +kernel)
theorem gm_yX2_ofOne : Cond.instanceMethod yX2_ofOne ∈ gw := gw_in (List.mem_append_right _ (List.mem_of_getElem? (i := 542) (by decide +kernel))) (by decide +kernel)
theorem gs_yX2_ofOne : Cond.selects RX2 yX2_ofOne yX2_ofOne ∈ gw := gw_in (List.mem_append_left _ (List.mem_of_getElem? (i := 39) (by decide +kernel))) (by decide +kernel)
theorem mv_X2_ofOne : MV mX2_ofOne 2 2 := ⟨⟨gc_yX2_ofOne, gi_FirstOne_Supper, ⟨by decide, by decide⟩, by decide +kernel, by decide⟩, gm_yX2_ofOne, gs_yX2_ofOne, TX2, 17, rfl⟩
theorem gl_X2_165 : Cond.methodLink RX2 165 yX2_ofOne ∈ gw := gw_in (List.mem_append_right _ (List.mem_of_getElem? (i := 540) (by decide +kernel))) (by decide +kernel)
theorem lm_X2_165 : LM RX2 165 yX2_ofOne := Or.inl gl_X2_165
abbrev mX2_answer : wn_M := (yX2_answer, cX2_answer, 2, (some .int))
theorem gc_yX2_answer : Cond.code yX2_answer cX2_answer 2 (some .int) ∈ gw := gw_in (List.mem_append_right _ (List.mem_of_getElem? (i := 539) (by decide +kernel))) (by decide +kernel)
theorem gm_yX2_answer : Cond.instanceMethod yX2_answer ∈ gw := gw_in (List.mem_append_right _ (List.mem_of_getElem? (i := 538) (by decide +kernel))) (by decide +kernel)
theorem gs_yX2_answer : Cond.selects RX2 yX2_answer yX2_answer ∈ gw := gw_in (List.mem_append_left _ (List.mem_of_getElem? (i := 38) (by decide +kernel))) (by decide +kernel)
theorem mv_X2_answer : MV mX2_answer 2 1 := ⟨⟨gc_yX2_answer, gi_FirstOne_Supper, ⟨by decide, by decide⟩, by decide +kernel, by decide⟩, gm_yX2_answer, gs_yX2_answer, TX2, 17, rfl⟩
theorem lm_X5_152 : LM RX5 152 yX2_answer := Or.inr (List.mem_append_right _ (List.mem_of_getElem? (i := 25) (by decide +kernel)))
theorem fl_X5_36 : FL RX5 36 5 5 true := ⟨RX5, TX5, 7, tyX5, rfl, by decide, wi_X5, rfl, rfl, tyX5_ok, nmX5, Or.inl (gw_in (List.mem_append_right _ (List.mem_of_getElem? (i := 351) (by decide +kernel))) (by decide +kernel))⟩
abbrev mX1_has : wn_M := (yX1_has, cX1_has, 2, (some .boolean))
theorem gc_yX1_has : Cond.code yX1_has cX1_has 2 (some .boolean) ∈ gw := gw_in (List.mem_append_right _ (List.mem_of_getElem? (i := 489) (by decide +kernel))) (by decide +kernel)
theorem gi_FirstOne_Sheets : Cond.initialized RX1 ∈ gw := gw_in (List.mem_append_right _ (List.mem_of_getElem? (i := 5) (by decide +kernel))) (by decide +kernel)
theorem gm_yX1_has : Cond.instanceMethod yX1_has ∈ gw := gw_in (List.mem_append_right _ (List.mem_of_getElem? (i := 488) (by decide +kernel))) (by decide +kernel)
theorem gs_yX1_has : Cond.selects RX1 yX1_has yX1_has ∈ gw := gw_in (List.mem_append_left _ (List.mem_of_getElem? (i := 26) (by decide +kernel))) (by decide +kernel)
theorem mv_X1_has : MV mX1_has 1 1 := ⟨⟨gc_yX1_has, gi_FirstOne_Sheets, ⟨by decide, by decide⟩, by decide +kernel, by decide⟩, gm_yX1_has, gs_yX1_has, TX1, 3, rfl⟩
theorem gl_X1_21 : Cond.methodLink RX1 21 yX1_has ∈ gw := gw_in (List.mem_append_right _ (List.mem_of_getElem? (i := 486) (by decide +kernel))) (by decide +kernel)
theorem lm_X1_21 : LM RX1 21 yX1_has := Or.inl gl_X1_21
theorem so_S1_5 : S1[5]? = some (3, 0, [24, 25, 26]) := rfl
theorem wi_X1_a : ∀ w ∈ u_ws RX1 TX1 3, w ∈ lw_tbl := by decide +kernel
theorem wi_X1_b : ∀ w ∈ u_ws RX1 TX1 3, goodWord w = true := by decide +kernel
theorem wi_X1 : ∀ w ∈ u_ws RX1 TX1 3, w ∈ gw := fun w h => gw_in (wi_X1_a w h) (wi_X1_b w h)
theorem fl_X1_9 : FL RX1 9 1 0 true := ⟨RX1, TX1, 3, tyX1, rfl, by decide, wi_X1, rfl, rfl, tyX1_ok, nmX1, Or.inl (gw_in (List.mem_append_right _ (List.mem_of_getElem? (i := 140) (by decide +kernel))) (by decide +kernel))⟩
theorem so_S1_22 : S1[22]? = some (0, 4, []) := rfl
abbrev mX1_isMissing : wn_M := (yX1_isMissing, cX1_isMissing, 2, (some .boolean))
theorem gc_yX1_isMissing : Cond.code yX1_isMissing cX1_isMissing 2 (some .boolean) ∈ gw := gw_in (List.mem_append_right _ (List.mem_of_getElem? (i := 485) (by decide +kernel))) (by decide +kernel)
theorem gm_yX1_isMissing : Cond.instanceMethod yX1_isMissing ∈ gw := gw_in (List.mem_append_right _ (List.mem_of_getElem? (i := 484) (by decide +kernel))) (by decide +kernel)
theorem gs_yX1_isMissing : Cond.selects RX1 yX1_isMissing yX1_isMissing ∈ gw := gw_in (List.mem_append_left _ (List.mem_of_getElem? (i := 25) (by decide +kernel))) (by decide +kernel)
theorem mv_X1_isMissing : MV mX1_isMissing 1 1 := ⟨⟨gc_yX1_isMissing, gi_FirstOne_Sheets, ⟨by decide, by decide⟩, by decide +kernel, by decide⟩, gm_yX1_isMissing, gs_yX1_isMissing, TX1, 3, rfl⟩
theorem lm_X5_136 : LM RX5 136 yX1_isMissing := Or.inr (List.mem_append_right _ (List.mem_of_getElem? (i := 21) (by decide +kernel)))
theorem fl_X5_139 : FL RX5 139 2 5 true := ⟨RX2, TX2, 17, tyX2, rfl, by decide, wi_X2, rfl, rfl, tyX2_ok, nmX2, Or.inr (List.mem_append_left _ (List.mem_of_getElem? (i := 21) (by decide +kernel)))⟩
theorem fl_X1_15 : FL RX1 15 1 1 true := ⟨RX1, TX1, 3, tyX1, rfl, by decide, wi_X1, rfl, rfl, tyX1_ok, nmX1, Or.inl (gw_in (List.mem_append_right _ (List.mem_of_getElem? (i := 141) (by decide +kernel))) (by decide +kernel))⟩
theorem so_S1_23 : S1[23]? = some (0, 4, []) := rfl
abbrev mX1_sizeOf : wn_M := (yX1_sizeOf, cX1_sizeOf, 2, (some .int))
theorem gc_yX1_sizeOf : Cond.code yX1_sizeOf cX1_sizeOf 2 (some .int) ∈ gw := gw_in (List.mem_append_right _ (List.mem_of_getElem? (i := 493) (by decide +kernel))) (by decide +kernel)
theorem gm_yX1_sizeOf : Cond.instanceMethod yX1_sizeOf ∈ gw := gw_in (List.mem_append_right _ (List.mem_of_getElem? (i := 492) (by decide +kernel))) (by decide +kernel)
theorem gs_yX1_sizeOf : Cond.selects RX1 yX1_sizeOf yX1_sizeOf ∈ gw := gw_in (List.mem_append_left _ (List.mem_of_getElem? (i := 27) (by decide +kernel))) (by decide +kernel)
theorem mv_X1_sizeOf : MV mX1_sizeOf 1 1 := ⟨⟨gc_yX1_sizeOf, gi_FirstOne_Sheets, ⟨by decide, by decide⟩, by decide +kernel, by decide⟩, gm_yX1_sizeOf, gs_yX1_sizeOf, TX1, 3, rfl⟩
theorem lm_X5_142 : LM RX5 142 yX1_sizeOf := Or.inr (List.mem_append_right _ (List.mem_of_getElem? (i := 22) (by decide +kernel)))
theorem gl_X1_25 : Cond.methodLink RX1 25 yX1_sizeOf ∈ gw := gw_in (List.mem_append_right _ (List.mem_of_getElem? (i := 502) (by decide +kernel))) (by decide +kernel)
theorem lm_X1_25 : LM RX1 25 yX1_sizeOf := Or.inl gl_X1_25
abbrev mX1_spans : wn_M := (yX1_spans, cX1_spans, 4, (some .boolean))
theorem gc_yX1_spans : Cond.code yX1_spans cX1_spans 4 (some .boolean) ∈ gw := gw_in (List.mem_append_right _ (List.mem_of_getElem? (i := 501) (by decide +kernel))) (by decide +kernel)
theorem gm_yX1_spans : Cond.instanceMethod yX1_spans ∈ gw := gw_in (List.mem_append_right _ (List.mem_of_getElem? (i := 500) (by decide +kernel))) (by decide +kernel)
theorem gs_yX1_spans : Cond.selects RX1 yX1_spans yX1_spans ∈ gw := gw_in (List.mem_append_left _ (List.mem_of_getElem? (i := 29) (by decide +kernel))) (by decide +kernel)
theorem mv_X1_spans : MV mX1_spans 1 3 := ⟨⟨gc_yX1_spans, gi_FirstOne_Sheets, ⟨by decide, by decide⟩, by decide +kernel, by decide⟩, gm_yX1_spans, gs_yX1_spans, TX1, 3, rfl⟩
theorem gl_X1_29 : Cond.methodLink RX1 29 yX1_spans ∈ gw := gw_in (List.mem_append_right _ (List.mem_of_getElem? (i := 498) (by decide +kernel))) (by decide +kernel)
theorem lm_X1_29 : LM RX1 29 yX1_spans := Or.inl gl_X1_29
theorem fl_X1_18 : FL RX1 18 1 2 true := ⟨RX1, TX1, 3, tyX1, rfl, by decide, wi_X1, rfl, rfl, tyX1_ok, nmX1, Or.inl (gw_in (List.mem_append_right _ (List.mem_of_getElem? (i := 142) (by decide +kernel))) (by decide +kernel))⟩
theorem so_S1_24 : S1[24]? = some (0, 160, []) := rfl
abbrev mX1_item : wn_M := (yX1_item, cX1_item, 3, (some .int))
theorem gc_yX1_item : Cond.code yX1_item cX1_item 3 (some .int) ∈ gw := gw_in (List.mem_append_right _ (List.mem_of_getElem? (i := 497) (by decide +kernel))) (by decide +kernel)
theorem gm_yX1_item : Cond.instanceMethod yX1_item ∈ gw := gw_in (List.mem_append_right _ (List.mem_of_getElem? (i := 496) (by decide +kernel))) (by decide +kernel)
theorem gs_yX1_item : Cond.selects RX1 yX1_item yX1_item ∈ gw := gw_in (List.mem_append_left _ (List.mem_of_getElem? (i := 28) (by decide +kernel))) (by decide +kernel)
theorem mv_X1_item : MV mX1_item 1 2 := ⟨⟨gc_yX1_item, gi_FirstOne_Sheets, ⟨by decide, by decide⟩, by decide +kernel, by decide⟩, gm_yX1_item, gs_yX1_item, TX1, 3, rfl⟩
theorem lm_X5_146 : LM RX5 146 yX1_item := Or.inr (List.mem_append_right _ (List.mem_of_getElem? (i := 23) (by decide +kernel)))
abbrev mX5_supper : wn_M := (yX5_supper, cX5_supper, 5, (some .int))
theorem gk_X6_299 : Cond.constantLong RX6 299 (3) ∈ gw := gw_in (List.mem_append_right _ (List.mem_of_getElem? (i := 1005) (by decide +kernel))) (by decide +kernel)
theorem gk_X6_309 : Cond.constant RX6 309 (-100000) ∈ gw := gw_in (List.mem_append_right _ (List.mem_of_getElem? (i := 1014) (by decide +kernel))) (by decide +kernel)
theorem gk_X6_301 : Cond.constantLong RX6 301 (34) ∈ gw := gw_in (List.mem_append_right _ (List.mem_of_getElem? (i := 1013) (by decide +kernel))) (by decide +kernel)
abbrev mX6_isTells : wn_M := (yX6_isTells, cX6_isTells, 2, (some .boolean))
theorem gc_yX6_isTells : Cond.code yX6_isTells cX6_isTells 2 (some .boolean) ∈ gw := gw_in (List.mem_append_right _ (List.mem_of_getElem? (i := 1012) (by decide +kernel))) (by decide +kernel)
theorem gm_yX6_isTells : Cond.instanceMethod yX6_isTells ∈ gw := gw_in (List.mem_append_right _ (List.mem_of_getElem? (i := 1011) (by decide +kernel))) (by decide +kernel)
theorem gs_yX6_isTells : Cond.selects RX6 yX6_isTells yX6_isTells ∈ gw := gw_in (List.mem_append_left _ (List.mem_of_getElem? (i := 78) (by decide +kernel))) (by decide +kernel)
theorem mv_X6_isTells : MV mX6_isTells 6 1 := ⟨⟨gc_yX6_isTells, gi_FirstOneModel, ⟨by decide, by decide⟩, by decide +kernel, by decide⟩, gm_yX6_isTells, gs_yX6_isTells, TX6, 52, rfl⟩
theorem gl_X6_306 : Cond.methodLink RX6 306 yX6_isTells ∈ gw := gw_in (List.mem_append_right _ (List.mem_of_getElem? (i := 1009) (by decide +kernel))) (by decide +kernel)
theorem lm_X6_306 : LM RX6 306 yX6_isTells := Or.inl gl_X6_306
theorem fl_X6_272 : FL RX6 272 6 36 false := ⟨RX6, TX6, 52, tyX6, rfl, by decide, wi_X6, rfl, rfl, tyX6_ok, nmX6, Or.inl (gw_in (List.mem_append_right _ (List.mem_of_getElem? (i := 742) (by decide +kernel))) (by decide +kernel))⟩
theorem ft_X6_36 : FTy 6 36 .int := by
  intro C T N h
  have h : some (RX6, TX6, 52) = some (C, T, N) := h
  cases h
  decide +kernel
theorem fl_X6_282 : FL RX6 282 6 37 false := ⟨RX6, TX6, 52, tyX6, rfl, by decide, wi_X6, rfl, rfl, tyX6_ok, nmX6, Or.inl (gw_in (List.mem_append_right _ (List.mem_of_getElem? (i := 743) (by decide +kernel))) (by decide +kernel))⟩
theorem ft_X6_37 : FTy 6 37 .int := by
  intro C T N h
  have h : some (RX6, TX6, 52) = some (C, T, N) := h
  cases h
  decide +kernel
theorem fl_X6_279 : FL RX6 279 6 38 false := ⟨RX6, TX6, 52, tyX6, rfl, by decide, wi_X6, rfl, rfl, tyX6_ok, nmX6, Or.inl (gw_in (List.mem_append_right _ (List.mem_of_getElem? (i := 744) (by decide +kernel))) (by decide +kernel))⟩
theorem ft_X6_38 : FTy 6 38 .int := by
  intro C T N h
  have h : some (RX6, TX6, 52) = some (C, T, N) := h
  cases h
  decide +kernel
theorem fl_X6_269 : FL RX6 269 6 39 false := ⟨RX6, TX6, 52, tyX6, rfl, by decide, wi_X6, rfl, rfl, tyX6_ok, nmX6, Or.inl (gw_in (List.mem_append_right _ (List.mem_of_getElem? (i := 745) (by decide +kernel))) (by decide +kernel))⟩
theorem ft_X6_39 : FTy 6 39 .int := by
  intro C T N h
  have h : some (RX6, TX6, 52) = some (C, T, N) := h
  cases h
  decide +kernel
theorem fl_X6_56 : FL RX6 56 6 34 true := ⟨RX6, TX6, 52, tyX6, rfl, by decide, wi_X6, rfl, rfl, tyX6_ok, nmX6, Or.inl (gw_in (List.mem_append_right _ (List.mem_of_getElem? (i := 740) (by decide +kernel))) (by decide +kernel))⟩
theorem fl_X6_53 : FL RX6 53 6 33 true := ⟨RX6, TX6, 52, tyX6, rfl, by decide, wi_X6, rfl, rfl, tyX6_ok, nmX6, Or.inl (gw_in (List.mem_append_right _ (List.mem_of_getElem? (i := 739) (by decide +kernel))) (by decide +kernel))⟩
theorem so_S2_11 : S2[11]? = some (0, 12, []) := rfl
theorem so_S2_12 : S2[12]? = some (0, 12, []) := rfl
abbrev mX6_bakes : wn_M := (yX6_bakes, cX6_bakes, 6, none)
theorem gc_yX6_bakes : Cond.code yX6_bakes cX6_bakes 6 none ∈ gw := gw_in (List.mem_append_right _ (List.mem_of_getElem? (i := 1022) (by decide +kernel))) (by decide +kernel)
theorem gm_yX6_bakes : Cond.instanceMethod yX6_bakes ∈ gw := gw_in (List.mem_append_right _ (List.mem_of_getElem? (i := 1021) (by decide +kernel))) (by decide +kernel)
theorem gs_yX6_bakes : Cond.selects RX6 yX6_bakes yX6_bakes ∈ gw := gw_in (List.mem_append_left _ (List.mem_of_getElem? (i := 80) (by decide +kernel))) (by decide +kernel)
theorem mv_X6_bakes : MV mX6_bakes 6 2 := ⟨⟨gc_yX6_bakes, gi_FirstOneModel, ⟨by decide, by decide⟩, by decide +kernel, by decide⟩, gm_yX6_bakes, gs_yX6_bakes, TX6, 52, rfl⟩
theorem gl_X6_285 : Cond.methodLink RX6 285 yX6_bakes ∈ gw := gw_in (List.mem_append_right _ (List.mem_of_getElem? (i := 1019) (by decide +kernel))) (by decide +kernel)
theorem lm_X6_285 : LM RX6 285 yX6_bakes := Or.inl gl_X6_285
theorem fl_X6_41 : FL RX6 41 6 14 false := ⟨RX6, TX6, 52, tyX6, rfl, by decide, wi_X6, rfl, rfl, tyX6_ok, nmX6, Or.inl (gw_in (List.mem_append_right _ (List.mem_of_getElem? (i := 720) (by decide +kernel))) (by decide +kernel))⟩
theorem fl_X6_44 : FL RX6 44 6 30 true := ⟨RX6, TX6, 52, tyX6, rfl, by decide, wi_X6, rfl, rfl, tyX6_ok, nmX6, Or.inl (gw_in (List.mem_append_right _ (List.mem_of_getElem? (i := 736) (by decide +kernel))) (by decide +kernel))⟩
theorem so_S2_8 : S2[8]? = some (0, 5, []) := rfl
abbrev mX6_leastHad : wn_M := (yX6_leastHad, cX6_leastHad, 3, (some .int))
theorem gc_yX6_leastHad : Cond.code yX6_leastHad cX6_leastHad 3 (some .int) ∈ gw := gw_in (List.mem_append_right _ (List.mem_of_getElem? (i := 1034) (by decide +kernel))) (by decide +kernel)
theorem gm_yX6_leastHad : Cond.instanceMethod yX6_leastHad ∈ gw := gw_in (List.mem_append_right _ (List.mem_of_getElem? (i := 1033) (by decide +kernel))) (by decide +kernel)
theorem gs_yX6_leastHad : Cond.selects RX6 yX6_leastHad yX6_leastHad ∈ gw := gw_in (List.mem_append_left _ (List.mem_of_getElem? (i := 83) (by decide +kernel))) (by decide +kernel)
theorem mv_X6_leastHad : MV mX6_leastHad 6 0 := ⟨⟨gc_yX6_leastHad, gi_FirstOneModel, ⟨by decide, by decide⟩, by decide +kernel, by decide⟩, gm_yX6_leastHad, gs_yX6_leastHad, TX6, 52, rfl⟩
theorem gl_X6_260 : Cond.methodLink RX6 260 yX6_leastHad ∈ gw := gw_in (List.mem_append_right _ (List.mem_of_getElem? (i := 1031) (by decide +kernel))) (by decide +kernel)
theorem lm_X6_260 : LM RX6 260 yX6_leastHad := Or.inl gl_X6_260
abbrev mX6_mostHad : wn_M := (yX6_mostHad, cX6_mostHad, 3, (some .int))
theorem gc_yX6_mostHad : Cond.code yX6_mostHad cX6_mostHad 3 (some .int) ∈ gw := gw_in (List.mem_append_right _ (List.mem_of_getElem? (i := 1050) (by decide +kernel))) (by decide +kernel)
theorem gm_yX6_mostHad : Cond.instanceMethod yX6_mostHad ∈ gw := gw_in (List.mem_append_right _ (List.mem_of_getElem? (i := 1049) (by decide +kernel))) (by decide +kernel)
theorem gs_yX6_mostHad : Cond.selects RX6 yX6_mostHad yX6_mostHad ∈ gw := gw_in (List.mem_append_left _ (List.mem_of_getElem? (i := 87) (by decide +kernel))) (by decide +kernel)
theorem mv_X6_mostHad : MV mX6_mostHad 6 0 := ⟨⟨gc_yX6_mostHad, gi_FirstOneModel, ⟨by decide, by decide⟩, by decide +kernel, by decide⟩, gm_yX6_mostHad, gs_yX6_mostHad, TX6, 52, rfl⟩
theorem gl_X6_296 : Cond.methodLink RX6 296 yX6_mostHad ∈ gw := gw_in (List.mem_append_right _ (List.mem_of_getElem? (i := 1047) (by decide +kernel))) (by decide +kernel)
theorem lm_X6_296 : LM RX6 296 yX6_mostHad := Or.inl gl_X6_296
theorem fl_X6_47 : FL RX6 47 6 31 true := ⟨RX6, TX6, 52, tyX6, rfl, by decide, wi_X6, rfl, rfl, tyX6_ok, nmX6, Or.inl (gw_in (List.mem_append_right _ (List.mem_of_getElem? (i := 737) (by decide +kernel))) (by decide +kernel))⟩
theorem so_S2_9 : S2[9]? = some (0, 5, []) := rfl
theorem fl_X6_50 : FL RX6 50 6 32 true := ⟨RX6, TX6, 52, tyX6, rfl, by decide, wi_X6, rfl, rfl, tyX6_ok, nmX6, Or.inl (gw_in (List.mem_append_right _ (List.mem_of_getElem? (i := 738) (by decide +kernel))) (by decide +kernel))⟩
theorem so_S2_10 : S2[10]? = some (0, 5, []) := rfl
abbrev mX6_whoHas : wn_M := (yX6_whoHas, cX6_whoHas, 2, (some .int))
theorem gc_yX6_whoHas : Cond.code yX6_whoHas cX6_whoHas 2 (some .int) ∈ gw := gw_in (List.mem_append_right _ (List.mem_of_getElem? (i := 1038) (by decide +kernel))) (by decide +kernel)
theorem gm_yX6_whoHas : Cond.instanceMethod yX6_whoHas ∈ gw := gw_in (List.mem_append_right _ (List.mem_of_getElem? (i := 1037) (by decide +kernel))) (by decide +kernel)
theorem gs_yX6_whoHas : Cond.selects RX6 yX6_whoHas yX6_whoHas ∈ gw := gw_in (List.mem_append_left _ (List.mem_of_getElem? (i := 84) (by decide +kernel))) (by decide +kernel)
theorem mv_X6_whoHas : MV mX6_whoHas 6 0 := ⟨⟨gc_yX6_whoHas, gi_FirstOneModel, ⟨by decide, by decide⟩, by decide +kernel, by decide⟩, gm_yX6_whoHas, gs_yX6_whoHas, TX6, 52, rfl⟩
theorem gl_X6_266 : Cond.methodLink RX6 266 yX6_whoHas ∈ gw := gw_in (List.mem_append_right _ (List.mem_of_getElem? (i := 1035) (by decide +kernel))) (by decide +kernel)
theorem lm_X6_266 : LM RX6 266 yX6_whoHas := Or.inl gl_X6_266
abbrev mX6_hungriest : wn_M := (yX6_hungriest, cX6_hungriest, 7, (some .int))
theorem gc_yX6_hungriest : Cond.code yX6_hungriest cX6_hungriest 7 (some .int) ∈ gw := gw_in (List.mem_append_right _ (List.mem_of_getElem? (i := 1030) (by decide +kernel))) (by decide +kernel)
theorem gm_yX6_hungriest : Cond.instanceMethod yX6_hungriest ∈ gw := gw_in (List.mem_append_right _ (List.mem_of_getElem? (i := 1029) (by decide +kernel))) (by decide +kernel)
theorem gs_yX6_hungriest : Cond.selects RX6 yX6_hungriest yX6_hungriest ∈ gw := gw_in (List.mem_append_left _ (List.mem_of_getElem? (i := 82) (by decide +kernel))) (by decide +kernel)
theorem mv_X6_hungriest : MV mX6_hungriest 6 1 := ⟨⟨gc_yX6_hungriest, gi_FirstOneModel, ⟨by decide, by decide⟩, by decide +kernel, by decide⟩, gm_yX6_hungriest, gs_yX6_hungriest, TX6, 52, rfl⟩
theorem gl_X6_263 : Cond.methodLink RX6 263 yX6_hungriest ∈ gw := gw_in (List.mem_append_right _ (List.mem_of_getElem? (i := 1027) (by decide +kernel))) (by decide +kernel)
theorem lm_X6_263 : LM RX6 263 yX6_hungriest := Or.inl gl_X6_263
theorem fl_X6_59 : FL RX6 59 6 35 true := ⟨RX6, TX6, 52, tyX6, rfl, by decide, wi_X6, rfl, rfl, tyX6_ok, nmX6, Or.inl (gw_in (List.mem_append_right _ (List.mem_of_getElem? (i := 741) (by decide +kernel))) (by decide +kernel))⟩
theorem so_S2_13 : S2[13]? = some (0, 12, []) := rfl
theorem fl_X6_78 : FL RX6 78 6 50 true := ⟨RX6, TX6, 52, tyX6, rfl, by decide, wi_X6, rfl, rfl, tyX6_ok, nmX6, Or.inl (gw_in (List.mem_append_right _ (List.mem_of_getElem? (i := 756) (by decide +kernel))) (by decide +kernel))⟩
theorem so_S2_18 : S2[18]? = some (0, 4, []) := rfl
theorem fl_X6_81 : FL RX6 81 6 51 true := ⟨RX6, TX6, 52, tyX6, rfl, by decide, wi_X6, rfl, rfl, tyX6_ok, nmX6, Or.inl (gw_in (List.mem_append_right _ (List.mem_of_getElem? (i := 757) (by decide +kernel))) (by decide +kernel))⟩
theorem so_S2_19 : S2[19]? = some (0, 160, []) := rfl
abbrev mX6_towards : wn_M := (yX6_towards, cX6_towards, 6, (some .int))
theorem gc_yX6_towards : Cond.code yX6_towards cX6_towards 6 (some .int) ∈ gw := gw_in (List.mem_append_right _ (List.mem_of_getElem? (i := 1026) (by decide +kernel))) (by decide +kernel)
theorem gm_yX6_towards : Cond.instanceMethod yX6_towards ∈ gw := gw_in (List.mem_append_right _ (List.mem_of_getElem? (i := 1025) (by decide +kernel))) (by decide +kernel)
theorem gs_yX6_towards : Cond.selects RX6 yX6_towards yX6_towards ∈ gw := gw_in (List.mem_append_left _ (List.mem_of_getElem? (i := 81) (by decide +kernel))) (by decide +kernel)
theorem mv_X6_towards : MV mX6_towards 6 4 := ⟨⟨gc_yX6_towards, gi_FirstOneModel, ⟨by decide, by decide⟩, by decide +kernel, by decide⟩, gm_yX6_towards, gs_yX6_towards, TX6, 52, rfl⟩
theorem gl_X6_289 : Cond.methodLink RX6 289 yX6_towards ∈ gw := gw_in (List.mem_append_right _ (List.mem_of_getElem? (i := 1023) (by decide +kernel))) (by decide +kernel)
theorem lm_X6_289 : LM RX6 289 yX6_towards := Or.inl gl_X6_289
abbrev mX6_worthOf : wn_M := (yX6_worthOf, cX6_worthOf, 6, (some .int))
theorem gc_yX6_worthOf : Cond.code yX6_worthOf cX6_worthOf 6 (some .int) ∈ gw := gw_in (List.mem_append_right _ (List.mem_of_getElem? (i := 1046) (by decide +kernel))) (by decide +kernel)
theorem gm_yX6_worthOf : Cond.instanceMethod yX6_worthOf ∈ gw := gw_in (List.mem_append_right _ (List.mem_of_getElem? (i := 1045) (by decide +kernel))) (by decide +kernel)
theorem gs_yX6_worthOf : Cond.selects RX6 yX6_worthOf yX6_worthOf ∈ gw := gw_in (List.mem_append_left _ (List.mem_of_getElem? (i := 86) (by decide +kernel))) (by decide +kernel)
theorem mv_X6_worthOf : MV mX6_worthOf 6 5 := ⟨⟨gc_yX6_worthOf, gi_FirstOneModel, ⟨by decide, by decide⟩, by decide +kernel, by decide⟩, gm_yX6_worthOf, gs_yX6_worthOf, TX6, 52, rfl⟩
theorem gl_X6_275 : Cond.methodLink RX6 275 yX6_worthOf ∈ gw := gw_in (List.mem_append_right _ (List.mem_of_getElem? (i := 1043) (by decide +kernel))) (by decide +kernel)
theorem lm_X6_275 : LM RX6 275 yX6_worthOf := Or.inl gl_X6_275
abbrev mX6_gives : wn_M := (yX6_gives, cX6_gives, 5, none)
theorem gc_yX6_gives : Cond.code yX6_gives cX6_gives 5 none ∈ gw := gw_in (List.mem_append_right _ (List.mem_of_getElem? (i := 1042) (by decide +kernel))) (by decide +kernel)
theorem gm_yX6_gives : Cond.instanceMethod yX6_gives ∈ gw := gw_in (List.mem_append_right _ (List.mem_of_getElem? (i := 1041) (by decide +kernel))) (by decide +kernel)
theorem gs_yX6_gives : Cond.selects RX6 yX6_gives yX6_gives ∈ gw := gw_in (List.mem_append_left _ (List.mem_of_getElem? (i := 85) (by decide +kernel))) (by decide +kernel)
theorem mv_X6_gives : MV mX6_gives 6 3 := ⟨⟨gc_yX6_gives, gi_FirstOneModel, ⟨by decide, by decide⟩, by decide +kernel, by decide⟩, gm_yX6_gives, gs_yX6_gives, TX6, 52, rfl⟩
theorem gl_X6_292 : Cond.methodLink RX6 292 yX6_gives ∈ gw := gw_in (List.mem_append_right _ (List.mem_of_getElem? (i := 1039) (by decide +kernel))) (by decide +kernel)
theorem lm_X6_292 : LM RX6 292 yX6_gives := Or.inl gl_X6_292
abbrev mX6_sups : wn_M := (yX6_sups, cX6_sups, 6, none)
theorem gc_yX6_sups : Cond.code yX6_sups cX6_sups 6 none ∈ gw := gw_in (List.mem_append_right _ (List.mem_of_getElem? (i := 1018) (by decide +kernel))) (by decide +kernel)
theorem gm_yX6_sups : Cond.instanceMethod yX6_sups ∈ gw := gw_in (List.mem_append_right _ (List.mem_of_getElem? (i := 1017) (by decide +kernel))) (by decide +kernel)
theorem gs_yX6_sups : Cond.selects RX6 yX6_sups yX6_sups ∈ gw := gw_in (List.mem_append_left _ (List.mem_of_getElem? (i := 79) (by decide +kernel))) (by decide +kernel)
theorem mv_X6_sups : MV mX6_sups 6 2 := ⟨⟨gc_yX6_sups, gi_FirstOneModel, ⟨by decide, by decide⟩, by decide +kernel, by decide⟩, gm_yX6_sups, gs_yX6_sups, TX6, 52, rfl⟩
theorem gl_X6_310 : Cond.methodLink RX6 310 yX6_sups ∈ gw := gw_in (List.mem_append_right _ (List.mem_of_getElem? (i := 1015) (by decide +kernel))) (by decide +kernel)
theorem lm_X6_310 : LM RX6 310 yX6_sups := Or.inl gl_X6_310
abbrev mX6_tells : wn_M := (yX6_tells, cX6_tells, 3, (some .int))
theorem gc_yX6_tells : Cond.code yX6_tells cX6_tells 3 (some .int) ∈ gw := gw_in (List.mem_append_right _ (List.mem_of_getElem? (i := 1054) (by decide +kernel))) (by decide +kernel)
theorem gm_yX6_tells : Cond.instanceMethod yX6_tells ∈ gw := gw_in (List.mem_append_right _ (List.mem_of_getElem? (i := 1053) (by decide +kernel))) (by decide +kernel)
theorem gs_yX6_tells : Cond.selects RX6 yX6_tells yX6_tells ∈ gw := gw_in (List.mem_append_left _ (List.mem_of_getElem? (i := 88) (by decide +kernel))) (by decide +kernel)
theorem mv_X6_tells : MV mX6_tells 6 1 := ⟨⟨gc_yX6_tells, gi_FirstOneModel, ⟨by decide, by decide⟩, by decide +kernel, by decide⟩, gm_yX6_tells, gs_yX6_tells, TX6, 52, rfl⟩
theorem gl_X6_313 : Cond.methodLink RX6 313 yX6_tells ∈ gw := gw_in (List.mem_append_right _ (List.mem_of_getElem? (i := 1051) (by decide +kernel))) (by decide +kernel)
theorem lm_X6_313 : LM RX6 313 yX6_tells := Or.inl gl_X6_313
abbrev mX6_isSheet : wn_M := (yX6_isSheet, cX6_isSheet, 1, (some .boolean))
theorem gc_yX6_isSheet : Cond.code yX6_isSheet cX6_isSheet 1 (some .boolean) ∈ gw := gw_in (List.mem_append_right _ (List.mem_of_getElem? (i := 1008) (by decide +kernel))) (by decide +kernel)
theorem gt_yX6_isSheet : Cond.static yX6_isSheet ∈ gw := gw_in (List.mem_append_right _ (List.mem_of_getElem? (i := 1007) (by decide +kernel))) (by decide +kernel)
theorem mst_X6_isSheet : MS mX6_isSheet 1 := ⟨⟨gc_yX6_isSheet, gi_FirstOneModel, ⟨by decide, by decide⟩, by decide +kernel, by decide⟩, gt_yX6_isSheet⟩
theorem gl_X6_303 : Cond.methodLink RX6 303 yX6_isSheet ∈ gw := gw_in (List.mem_append_right _ (List.mem_of_getElem? (i := 1006) (by decide +kernel))) (by decide +kernel)
theorem lm_X6_303 : LM RX6 303 yX6_isSheet := Or.inl gl_X6_303
theorem fl_X6_71 : FL RX6 71 6 48 true := ⟨RX6, TX6, 52, tyX6, rfl, by decide, wi_X6, rfl, rfl, tyX6_ok, nmX6, Or.inl (gw_in (List.mem_append_right _ (List.mem_of_getElem? (i := 754) (by decide +kernel))) (by decide +kernel))⟩
theorem so_S2_16 : S2[16]? = some (1, 4, []) := rfl
abbrev mX6_supper : wn_M := (yX6_supper, cX6_supper, 4, (some .int))
theorem lm_X5_155 : LM RX5 155 yX2_heapUp := Or.inr (List.mem_append_right _ (List.mem_of_getElem? (i := 26) (by decide +kernel)))
abbrev mX5_heap : wn_M := (yX5_heap, cX5_heap, 3, (some .int))
abbrev mX6_heap : wn_M := (yX6_heap, cX6_heap, 3, (some .int))
theorem fl_X5_158 : FL RX5 158 3 3 false := ⟨RX3, TX3, 8, tyX3, rfl, by decide, wi_X3, rfl, rfl, tyX3_ok, nmX3, Or.inr (List.mem_append_left _ (List.mem_of_getElem? (i := 6) (by decide +kernel)))⟩
abbrev mX2_planTurns : wn_M := (yX2_planTurns, cX2_planTurns, 3, none)
theorem gc_yX2_planTurns : Cond.code yX2_planTurns cX2_planTurns 3 none ∈ gw := gw_in (List.mem_append_right _ (List.mem_of_getElem? (i := 557) (by decide +kernel))) (by decide +kernel)
theorem gm_yX2_planTurns : Cond.instanceMethod yX2_planTurns ∈ gw := gw_in (List.mem_append_right _ (List.mem_of_getElem? (i := 556) (by decide +kernel))) (by decide +kernel)
theorem gs_yX2_planTurns : Cond.selects RX2 yX2_planTurns yX2_planTurns ∈ gw := gw_in (List.mem_append_left _ (List.mem_of_getElem? (i := 40) (by decide +kernel))) (by decide +kernel)
theorem mv_X2_planTurns : MV mX2_planTurns 2 0 := ⟨⟨gc_yX2_planTurns, gi_FirstOne_Supper, ⟨by decide, by decide⟩, by decide +kernel, by decide⟩, gm_yX2_planTurns, gs_yX2_planTurns, TX2, 17, rfl⟩
theorem lm_X5_161 : LM RX5 161 yX2_planTurns := Or.inr (List.mem_append_right _ (List.mem_of_getElem? (i := 27) (by decide +kernel)))
abbrev mX2_planFirst : wn_M := (yX2_planFirst, cX2_planFirst, 6, none)
theorem gc_yX2_planFirst : Cond.code yX2_planFirst cX2_planFirst 6 none ∈ gw := gw_in (List.mem_append_right _ (List.mem_of_getElem? (i := 561) (by decide +kernel))) (by decide +kernel)
theorem gm_yX2_planFirst : Cond.instanceMethod yX2_planFirst ∈ gw := gw_in (List.mem_append_right _ (List.mem_of_getElem? (i := 560) (by decide +kernel))) (by decide +kernel)
theorem gs_yX2_planFirst : Cond.selects RX2 yX2_planFirst yX2_planFirst ∈ gw := gw_in (List.mem_append_left _ (List.mem_of_getElem? (i := 41) (by decide +kernel))) (by decide +kernel)
theorem mv_X2_planFirst : MV mX2_planFirst 2 2 := ⟨⟨gc_yX2_planFirst, gi_FirstOne_Supper, ⟨by decide, by decide⟩, by decide +kernel, by decide⟩, gm_yX2_planFirst, gs_yX2_planFirst, TX2, 17, rfl⟩
theorem lm_X5_164 : LM RX5 164 yX2_planFirst := Or.inr (List.mem_append_right _ (List.mem_of_getElem? (i := 28) (by decide +kernel)))
theorem fl_X5_168 : FL RX5 168 2 12 false := ⟨RX2, TX2, 17, tyX2, rfl, by decide, wi_X2, rfl, rfl, tyX2_ok, nmX2, Or.inr (List.mem_append_left _ (List.mem_of_getElem? (i := 25) (by decide +kernel)))⟩
abbrev mX5_best : wn_M := (yX5_best, cX5_best, 7, (some .int))
theorem fl_X6_316 : FL RX6 316 6 42 false := ⟨RX6, TX6, 52, tyX6, rfl, by decide, wi_X6, rfl, rfl, tyX6_ok, nmX6, Or.inl (gw_in (List.mem_append_right _ (List.mem_of_getElem? (i := 748) (by decide +kernel))) (by decide +kernel))⟩
theorem ft_X6_42 : FTy 6 42 .boolean := by
  intro C T N h
  have h : some (RX6, TX6, 52) = some (C, T, N) := h
  cases h
  decide +kernel
abbrev mX6_tries : wn_M := (yX6_tries, cX6_tries, 4, none)
theorem gc_yX6_tries : Cond.code yX6_tries cX6_tries 4 none ∈ gw := gw_in (List.mem_append_right _ (List.mem_of_getElem? (i := 1066) (by decide +kernel))) (by decide +kernel)
theorem gm_yX6_tries : Cond.instanceMethod yX6_tries ∈ gw := gw_in (List.mem_append_right _ (List.mem_of_getElem? (i := 1065) (by decide +kernel))) (by decide +kernel)
theorem gs_yX6_tries : Cond.selects RX6 yX6_tries yX6_tries ∈ gw := gw_in (List.mem_append_left _ (List.mem_of_getElem? (i := 89) (by decide +kernel))) (by decide +kernel)
theorem mv_X6_tries : MV mX6_tries 6 2 := ⟨⟨gc_yX6_tries, gi_FirstOneModel, ⟨by decide, by decide⟩, by decide +kernel, by decide⟩, gm_yX6_tries, gs_yX6_tries, TX6, 52, rfl⟩
theorem gl_X6_322 : Cond.methodLink RX6 322 yX6_tries ∈ gw := gw_in (List.mem_append_right _ (List.mem_of_getElem? (i := 1063) (by decide +kernel))) (by decide +kernel)
theorem lm_X6_322 : LM RX6 322 yX6_tries := Or.inl gl_X6_322
theorem fl_X6_319 : FL RX6 319 6 41 false := ⟨RX6, TX6, 52, tyX6, rfl, by decide, wi_X6, rfl, rfl, tyX6_ok, nmX6, Or.inl (gw_in (List.mem_append_right _ (List.mem_of_getElem? (i := 747) (by decide +kernel))) (by decide +kernel))⟩
theorem ft_X6_41 : FTy 6 41 .int := by
  intro C T N h
  have h : some (RX6, TX6, 52) = some (C, T, N) := h
  cases h
  decide +kernel
theorem fl_X6_62 : FL RX6 62 6 40 true := ⟨RX6, TX6, 52, tyX6, rfl, by decide, wi_X6, rfl, rfl, tyX6_ok, nmX6, Or.inl (gw_in (List.mem_append_right _ (List.mem_of_getElem? (i := 746) (by decide +kernel))) (by decide +kernel))⟩
theorem so_S2_14 : S2[14]? = some (0, 12, []) := rfl
abbrev mX6_best : wn_M := (yX6_best, cX6_best, 3, (some .int))
abbrev mX5_keep : wn_M := (yX5_keep, cX5_keep, 5, (some .int))
abbrev mX6_keep : wn_M := (yX6_keep, cX6_keep, 5, (some .int))
abbrev mX5_second : wn_M := (yX5_second, cX5_second, 2, (some .int))
abbrev mX6_second : wn_M := (yX6_second, cX6_second, 3, (some .int))
theorem fl_X5_171 : FL RX5 171 2 7 false := ⟨RX2, TX2, 17, tyX2, rfl, by decide, wi_X2, rfl, rfl, tyX2_ok, nmX2, Or.inr (List.mem_append_left _ (List.mem_of_getElem? (i := 23) (by decide +kernel)))⟩
abbrev mX5_leave : wn_M := (yX5_leave, cX5_leave, 4, (some .int))
theorem ft_X6_14 : FTy 6 14 .int := by
  intro C T N h
  have h : some (RX6, TX6, 52) = some (C, T, N) := h
  cases h
  decide +kernel
abbrev mX6_leave : wn_M := (yX6_leave, cX6_leave, 4, (some .int))
theorem gk_X5_174 : Cond.constantLong RX5 174 (-4611686018427387904) ∈ gw := gw_in (List.mem_append_right _ (List.mem_of_getElem? (i := 578) (by decide +kernel))) (by decide +kernel)
abbrev mX2_servedCakes : wn_M := (yX2_servedCakes, cX2_servedCakes, 3, (some .int))
theorem gc_yX2_servedCakes : Cond.code yX2_servedCakes cX2_servedCakes 3 (some .int) ∈ gw := gw_in (List.mem_append_right _ (List.mem_of_getElem? (i := 590) (by decide +kernel))) (by decide +kernel)
theorem gm_yX2_servedCakes : Cond.instanceMethod yX2_servedCakes ∈ gw := gw_in (List.mem_append_right _ (List.mem_of_getElem? (i := 589) (by decide +kernel))) (by decide +kernel)
theorem gs_yX2_servedCakes : Cond.selects RX2 yX2_servedCakes yX2_servedCakes ∈ gw := gw_in (List.mem_append_left _ (List.mem_of_getElem? (i := 44) (by decide +kernel))) (by decide +kernel)
theorem mv_X2_servedCakes : MV mX2_servedCakes 2 0 := ⟨⟨gc_yX2_servedCakes, gi_FirstOne_Supper, ⟨by decide, by decide⟩, by decide +kernel, by decide⟩, gm_yX2_servedCakes, gs_yX2_servedCakes, TX2, 17, rfl⟩
theorem lm_X5_218 : LM RX5 218 yX2_servedCakes := Or.inr (List.mem_append_right _ (List.mem_of_getElem? (i := 29) (by decide +kernel)))
abbrev mX5_choices : wn_M := (yX5_choices, cX5_choices, 5, (some .long))
theorem gc_yX5_choices : Cond.code yX5_choices cX5_choices 5 (some .long) ∈ gw := gw_in (List.mem_append_right _ (List.mem_of_getElem? (i := 593) (by decide +kernel))) (by decide +kernel)
theorem gt_yX5_choices : Cond.static yX5_choices ∈ gw := gw_in (List.mem_append_right _ (List.mem_of_getElem? (i := 592) (by decide +kernel))) (by decide +kernel)
theorem mst_X5_choices : MS mX5_choices 2 := ⟨⟨gc_yX5_choices, gi_FirstOne, ⟨by decide, by decide⟩, by decide +kernel, by decide⟩, gt_yX5_choices⟩
theorem gl_X5_246 : Cond.methodLink RX5 246 yX5_choices ∈ gw := gw_in (List.mem_append_right _ (List.mem_of_getElem? (i := 591) (by decide +kernel))) (by decide +kernel)
theorem lm_X5_246 : LM RX5 246 yX5_choices := Or.inl gl_X5_246
abbrev mX5_ordersTo : wn_M := (yX5_ordersTo, cX5_ordersTo, 7, (some .long))
theorem gc_yX5_ordersTo : Cond.code yX5_ordersTo cX5_ordersTo 7 (some .long) ∈ gw := gw_in (List.mem_append_right _ (List.mem_of_getElem? (i := 586) (by decide +kernel))) (by decide +kernel)
theorem gm_yX5_ordersTo : Cond.instanceMethod yX5_ordersTo ∈ gw := gw_in (List.mem_append_right _ (List.mem_of_getElem? (i := 585) (by decide +kernel))) (by decide +kernel)
theorem gs_yX5_ordersTo : Cond.selects RX5 yX5_ordersTo yX5_ordersTo ∈ gw := gw_in (List.mem_append_left _ (List.mem_of_getElem? (i := 43) (by decide +kernel))) (by decide +kernel)
theorem mv_X5_ordersTo : MV mX5_ordersTo 5 1 := ⟨⟨gc_yX5_ordersTo, gi_FirstOne, ⟨by decide, by decide⟩, by decide +kernel, by decide⟩, gm_yX5_ordersTo, gs_yX5_ordersTo, TX5, 7, rfl⟩
theorem gl_X5_179 : Cond.methodLink RX5 179 yX5_ordersTo ∈ gw := gw_in (List.mem_append_right _ (List.mem_of_getElem? (i := 583) (by decide +kernel))) (by decide +kernel)
theorem lm_X5_179 : LM RX5 179 yX5_ordersTo := Or.inl gl_X5_179
theorem fl_X5_193 : FL RX5 193 2 8 true := ⟨RX2, TX2, 17, tyX2, rfl, by decide, wi_X2, rfl, rfl, tyX2_ok, nmX2, Or.inr (List.mem_append_left _ (List.mem_of_getElem? (i := 24) (by decide +kernel)))⟩
abbrev mX5_waysTo : wn_M := (yX5_waysTo, cX5_waysTo, 6, (some .int))
theorem gc_yX5_waysTo : Cond.code yX5_waysTo cX5_waysTo 6 (some .int) ∈ gw := gw_in (List.mem_append_right _ (List.mem_of_getElem? (i := 582) (by decide +kernel))) (by decide +kernel)
theorem gm_yX5_waysTo : Cond.instanceMethod yX5_waysTo ∈ gw := gw_in (List.mem_append_right _ (List.mem_of_getElem? (i := 581) (by decide +kernel))) (by decide +kernel)
theorem gs_yX5_waysTo : Cond.selects RX5 yX5_waysTo yX5_waysTo ∈ gw := gw_in (List.mem_append_left _ (List.mem_of_getElem? (i := 42) (by decide +kernel))) (by decide +kernel)
theorem mv_X5_waysTo : MV mX5_waysTo 5 1 := ⟨⟨gc_yX5_waysTo, gi_FirstOne, ⟨by decide, by decide⟩, by decide +kernel, by decide⟩, gm_yX5_waysTo, gs_yX5_waysTo, TX5, 7, rfl⟩
theorem gl_X5_176 : Cond.methodLink RX5 176 yX5_waysTo ∈ gw := gw_in (List.mem_append_right _ (List.mem_of_getElem? (i := 579) (by decide +kernel))) (by decide +kernel)
theorem lm_X5_176 : LM RX5 176 yX5_waysTo := Or.inl gl_X5_176
abbrev mX5_plates : wn_M := (yX5_plates, cX5_plates, 3, (some .long))
theorem gk_X6_332 : Cond.constantLong RX6 332 (-4611686018427387904) ∈ gw := gw_in (List.mem_append_right _ (List.mem_of_getElem? (i := 1083) (by decide +kernel))) (by decide +kernel)
abbrev mX6_servedMany : wn_M := (yX6_servedMany, cX6_servedMany, 3, (some .int))
theorem gc_yX6_servedMany : Cond.code yX6_servedMany cX6_servedMany 3 (some .int) ∈ gw := gw_in (List.mem_append_right _ (List.mem_of_getElem? (i := 1091) (by decide +kernel))) (by decide +kernel)
theorem gm_yX6_servedMany : Cond.instanceMethod yX6_servedMany ∈ gw := gw_in (List.mem_append_right _ (List.mem_of_getElem? (i := 1090) (by decide +kernel))) (by decide +kernel)
theorem gs_yX6_servedMany : Cond.selects RX6 yX6_servedMany yX6_servedMany ∈ gw := gw_in (List.mem_append_left _ (List.mem_of_getElem? (i := 91) (by decide +kernel))) (by decide +kernel)
theorem mv_X6_servedMany : MV mX6_servedMany 6 0 := ⟨⟨gc_yX6_servedMany, gi_FirstOneModel, ⟨by decide, by decide⟩, by decide +kernel, by decide⟩, gm_yX6_servedMany, gs_yX6_servedMany, TX6, 52, rfl⟩
theorem gl_X6_325 : Cond.methodLink RX6 325 yX6_servedMany ∈ gw := gw_in (List.mem_append_right _ (List.mem_of_getElem? (i := 1088) (by decide +kernel))) (by decide +kernel)
theorem lm_X6_325 : LM RX6 325 yX6_servedMany := Or.inl gl_X6_325
abbrev mX6_waysOf : wn_M := (yX6_waysOf, cX6_waysOf, 4, (some .long))
theorem gc_yX6_waysOf : Cond.code yX6_waysOf cX6_waysOf 4 (some .long) ∈ gw := gw_in (List.mem_append_right _ (List.mem_of_getElem? (i := 1094) (by decide +kernel))) (by decide +kernel)
theorem gt_yX6_waysOf : Cond.static yX6_waysOf ∈ gw := gw_in (List.mem_append_right _ (List.mem_of_getElem? (i := 1093) (by decide +kernel))) (by decide +kernel)
theorem mst_X6_waysOf : MS mX6_waysOf 1 := ⟨⟨gc_yX6_waysOf, gi_FirstOneModel, ⟨by decide, by decide⟩, by decide +kernel, by decide⟩, gt_yX6_waysOf⟩
theorem gl_X6_328 : Cond.methodLink RX6 328 yX6_waysOf ∈ gw := gw_in (List.mem_append_right _ (List.mem_of_getElem? (i := 1092) (by decide +kernel))) (by decide +kernel)
theorem lm_X6_328 : LM RX6 328 yX6_waysOf := Or.inl gl_X6_328
abbrev mX6_ordersOf : wn_M := (yX6_ordersOf, cX6_ordersOf, 7, (some .long))
theorem gc_yX6_ordersOf : Cond.code yX6_ordersOf cX6_ordersOf 7 (some .long) ∈ gw := gw_in (List.mem_append_right _ (List.mem_of_getElem? (i := 1087) (by decide +kernel))) (by decide +kernel)
theorem gm_yX6_ordersOf : Cond.instanceMethod yX6_ordersOf ∈ gw := gw_in (List.mem_append_right _ (List.mem_of_getElem? (i := 1086) (by decide +kernel))) (by decide +kernel)
theorem gs_yX6_ordersOf : Cond.selects RX6 yX6_ordersOf yX6_ordersOf ∈ gw := gw_in (List.mem_append_left _ (List.mem_of_getElem? (i := 90) (by decide +kernel))) (by decide +kernel)
theorem mv_X6_ordersOf : MV mX6_ordersOf 6 1 := ⟨⟨gc_yX6_ordersOf, gi_FirstOneModel, ⟨by decide, by decide⟩, by decide +kernel, by decide⟩, gm_yX6_ordersOf, gs_yX6_ordersOf, TX6, 52, rfl⟩
theorem gl_X6_334 : Cond.methodLink RX6 334 yX6_ordersOf ∈ gw := gw_in (List.mem_append_right _ (List.mem_of_getElem? (i := 1084) (by decide +kernel))) (by decide +kernel)
theorem lm_X6_334 : LM RX6 334 yX6_ordersOf := Or.inl gl_X6_334
abbrev mX6_plates : wn_M := (yX6_plates, cX6_plates, 8, (some .long))
theorem lm_X5_183 : LM RX5 183 yX1_has := Or.inr (List.mem_append_right _ (List.mem_of_getElem? (i := 30) (by decide +kernel)))
theorem fl_X5_253 : FL RX5 253 2 6 true := ⟨RX2, TX2, 17, tyX2, rfl, by decide, wi_X2, rfl, rfl, tyX2_ok, nmX2, Or.inr (List.mem_append_left _ (List.mem_of_getElem? (i := 22) (by decide +kernel)))⟩
abbrev mX2_lastTold : wn_M := (yX2_lastTold, cX2_lastTold, 2, (some .int))
theorem gc_yX2_lastTold : Cond.code yX2_lastTold cX2_lastTold 2 (some .int) ∈ gw := gw_in (List.mem_append_right _ (List.mem_of_getElem? (i := 606) (by decide +kernel))) (by decide +kernel)
theorem gm_yX2_lastTold : Cond.instanceMethod yX2_lastTold ∈ gw := gw_in (List.mem_append_right _ (List.mem_of_getElem? (i := 605) (by decide +kernel))) (by decide +kernel)
theorem gs_yX2_lastTold : Cond.selects RX2 yX2_lastTold yX2_lastTold ∈ gw := gw_in (List.mem_append_left _ (List.mem_of_getElem? (i := 46) (by decide +kernel))) (by decide +kernel)
theorem mv_X2_lastTold : MV mX2_lastTold 2 1 := ⟨⟨gc_yX2_lastTold, gi_FirstOne_Supper, ⟨by decide, by decide⟩, by decide +kernel, by decide⟩, gm_yX2_lastTold, gs_yX2_lastTold, TX2, 17, rfl⟩
theorem lm_X5_250 : LM RX5 250 yX2_lastTold := Or.inr (List.mem_append_right _ (List.mem_of_getElem? (i := 31) (by decide +kernel)))
abbrev mX5_pacesOf : wn_M := (yX5_pacesOf, cX5_pacesOf, 5, (some .int))
theorem gc_yX5_pacesOf : Cond.code yX5_pacesOf cX5_pacesOf 5 (some .int) ∈ gw := gw_in (List.mem_append_right _ (List.mem_of_getElem? (i := 610) (by decide +kernel))) (by decide +kernel)
theorem gm_yX5_pacesOf : Cond.instanceMethod yX5_pacesOf ∈ gw := gw_in (List.mem_append_right _ (List.mem_of_getElem? (i := 609) (by decide +kernel))) (by decide +kernel)
theorem gs_yX5_pacesOf : Cond.selects RX5 yX5_pacesOf yX5_pacesOf ∈ gw := gw_in (List.mem_append_left _ (List.mem_of_getElem? (i := 47) (by decide +kernel))) (by decide +kernel)
theorem mv_X5_pacesOf : MV mX5_pacesOf 5 2 := ⟨⟨gc_yX5_pacesOf, gi_FirstOne, ⟨by decide, by decide⟩, by decide +kernel, by decide⟩, gm_yX5_pacesOf, gs_yX5_pacesOf, TX5, 7, rfl⟩
theorem gl_X5_187 : Cond.methodLink RX5 187 yX5_pacesOf ∈ gw := gw_in (List.mem_append_right _ (List.mem_of_getElem? (i := 607) (by decide +kernel))) (by decide +kernel)
theorem lm_X5_187 : LM RX5 187 yX5_pacesOf := Or.inl gl_X5_187
abbrev mX5_notSo : wn_M := (yX5_notSo, cX5_notSo, 4, (some .int))
theorem gc_yX5_notSo : Cond.code yX5_notSo cX5_notSo 4 (some .int) ∈ gw := gw_in (List.mem_append_right _ (List.mem_of_getElem? (i := 602) (by decide +kernel))) (by decide +kernel)
theorem gm_yX5_notSo : Cond.instanceMethod yX5_notSo ∈ gw := gw_in (List.mem_append_right _ (List.mem_of_getElem? (i := 601) (by decide +kernel))) (by decide +kernel)
theorem gs_yX5_notSo : Cond.selects RX5 yX5_notSo yX5_notSo ∈ gw := gw_in (List.mem_append_left _ (List.mem_of_getElem? (i := 45) (by decide +kernel))) (by decide +kernel)
theorem mv_X5_notSo : MV mX5_notSo 5 1 := ⟨⟨gc_yX5_notSo, gi_FirstOne, ⟨by decide, by decide⟩, by decide +kernel, by decide⟩, gm_yX5_notSo, gs_yX5_notSo, TX5, 7, rfl⟩
theorem gl_X5_184 : Cond.methodLink RX5 184 yX5_notSo ∈ gw := gw_in (List.mem_append_right _ (List.mem_of_getElem? (i := 599) (by decide +kernel))) (by decide +kernel)
theorem lm_X5_184 : LM RX5 184 yX5_notSo := Or.inl gl_X5_184
abbrev mX5_eaten : wn_M := (yX5_eaten, cX5_eaten, 3, (some .int))
abbrev mX6_isEatenSo : wn_M := (yX6_isEatenSo, cX6_isEatenSo, 4, (some .boolean))
theorem gc_yX6_isEatenSo : Cond.code yX6_isEatenSo cX6_isEatenSo 4 (some .boolean) ∈ gw := gw_in (List.mem_append_right _ (List.mem_of_getElem? (i := 1102) (by decide +kernel))) (by decide +kernel)
theorem gm_yX6_isEatenSo : Cond.instanceMethod yX6_isEatenSo ∈ gw := gw_in (List.mem_append_right _ (List.mem_of_getElem? (i := 1101) (by decide +kernel))) (by decide +kernel)
theorem gs_yX6_isEatenSo : Cond.selects RX6 yX6_isEatenSo yX6_isEatenSo ∈ gw := gw_in (List.mem_append_left _ (List.mem_of_getElem? (i := 92) (by decide +kernel))) (by decide +kernel)
theorem mv_X6_isEatenSo : MV mX6_isEatenSo 6 2 := ⟨⟨gc_yX6_isEatenSo, gi_FirstOneModel, ⟨by decide, by decide⟩, by decide +kernel, by decide⟩, gm_yX6_isEatenSo, gs_yX6_isEatenSo, TX6, 52, rfl⟩
theorem gl_X6_337 : Cond.methodLink RX6 337 yX6_isEatenSo ∈ gw := gw_in (List.mem_append_right _ (List.mem_of_getElem? (i := 1099) (by decide +kernel))) (by decide +kernel)
theorem lm_X6_337 : LM RX6 337 yX6_isEatenSo := Or.inl gl_X6_337
abbrev mX6_eaten : wn_M := (yX6_eaten, cX6_eaten, 6, (some .int))
abbrev mX1_lay : wn_M := (yX1_lay, cX1_lay, 5, none)
theorem gc_yX1_lay : Cond.code yX1_lay cX1_lay 5 none ∈ gw := gw_in (List.mem_append_right _ (List.mem_of_getElem? (i := 618) (by decide +kernel))) (by decide +kernel)
theorem gm_yX1_lay : Cond.instanceMethod yX1_lay ∈ gw := gw_in (List.mem_append_right _ (List.mem_of_getElem? (i := 617) (by decide +kernel))) (by decide +kernel)
theorem gs_yX1_lay : Cond.selects RX1 yX1_lay yX1_lay ∈ gw := gw_in (List.mem_append_left _ (List.mem_of_getElem? (i := 48) (by decide +kernel))) (by decide +kernel)
theorem mv_X1_lay : MV mX1_lay 1 3 := ⟨⟨gc_yX1_lay, gi_FirstOne_Sheets, ⟨by decide, by decide⟩, by decide +kernel, by decide⟩, gm_yX1_lay, gs_yX1_lay, TX1, 3, rfl⟩
theorem lm_X5_190 : LM RX5 190 yX1_lay := Or.inr (List.mem_append_right _ (List.mem_of_getElem? (i := 32) (by decide +kernel)))
abbrev mX1_put : wn_M := (yX1_put, cX1_put, 5, none)
theorem gc_yX1_put : Cond.code yX1_put cX1_put 5 none ∈ gw := gw_in (List.mem_append_right _ (List.mem_of_getElem? (i := 622) (by decide +kernel))) (by decide +kernel)
theorem gm_yX1_put : Cond.instanceMethod yX1_put ∈ gw := gw_in (List.mem_append_right _ (List.mem_of_getElem? (i := 621) (by decide +kernel))) (by decide +kernel)
theorem gs_yX1_put : Cond.selects RX1 yX1_put yX1_put ∈ gw := gw_in (List.mem_append_left _ (List.mem_of_getElem? (i := 49) (by decide +kernel))) (by decide +kernel)
theorem mv_X1_put : MV mX1_put 1 3 := ⟨⟨gc_yX1_put, gi_FirstOne_Sheets, ⟨by decide, by decide⟩, by decide +kernel, by decide⟩, gm_yX1_put, gs_yX1_put, TX1, 3, rfl⟩
theorem lm_X5_196 : LM RX5 196 yX1_put := Or.inr (List.mem_append_right _ (List.mem_of_getElem? (i := 33) (by decide +kernel)))
abbrev mX5_film : wn_M := (yX5_film, cX5_film, 4, (some .int))
theorem gk_X6_358 : Cond.constantLong RX6 358 (-1) ∈ gw := gw_in (List.mem_append_right _ (List.mem_of_getElem? (i := 1111) (by decide +kernel))) (by decide +kernel)
theorem fl_X6_75 : FL RX6 75 6 49 true := ⟨RX6, TX6, 52, tyX6, rfl, by decide, wi_X6, rfl, rfl, tyX6_ok, nmX6, Or.inl (gw_in (List.mem_append_right _ (List.mem_of_getElem? (i := 755) (by decide +kernel))) (by decide +kernel))⟩
theorem so_S2_17 : S2[17]? = some (0, 4, []) := rfl
abbrev mX6_sheet : wn_M := (yX6_sheet, cX6_sheet, 5, (some .int))
theorem gc_yX6_sheet : Cond.code yX6_sheet cX6_sheet 5 (some .int) ∈ gw := gw_in (List.mem_append_right _ (List.mem_of_getElem? (i := 1110) (by decide +kernel))) (by decide +kernel)
theorem gm_yX6_sheet : Cond.instanceMethod yX6_sheet ∈ gw := gw_in (List.mem_append_right _ (List.mem_of_getElem? (i := 1108) (by decide +kernel))) (by decide +kernel)
theorem gs_yX6_sheet : Cond.selects RX6 yX6_sheet yX6_sheet ∈ gw := gw_in (List.mem_append_right _ (List.mem_of_getElem? (i := 1109) (by decide +kernel))) (by decide +kernel)
theorem mv_X6_sheet : MV mX6_sheet 6 3 := ⟨⟨gc_yX6_sheet, gi_FirstOneModel, ⟨by decide, by decide⟩, by decide +kernel, by decide⟩, gm_yX6_sheet, gs_yX6_sheet, TX6, 52, rfl⟩
theorem gl_X6_340 : Cond.methodLink RX6 340 yX6_sheet ∈ gw := gw_in (List.mem_append_right _ (List.mem_of_getElem? (i := 1107) (by decide +kernel))) (by decide +kernel)
theorem lm_X6_340 : LM RX6 340 yX6_sheet := Or.inl gl_X6_340
abbrev mX6_film : wn_M := (yX6_film, cX6_film, 4, (some .int))
theorem gk_X2_110 : Cond.constant RX2 110 (1103515245) ∈ gw := gw_in (List.mem_append_right _ (List.mem_of_getElem? (i := 631) (by decide +kernel))) (by decide +kernel)
abbrev mX2_planDrawn : wn_M := (yX2_planDrawn, cX2_planDrawn, 5, none)
theorem gc_yX2_planDrawn : Cond.code yX2_planDrawn cX2_planDrawn 5 none ∈ gw := gw_in (List.mem_append_right _ (List.mem_of_getElem? (i := 630) (by decide +kernel))) (by decide +kernel)
theorem gm_yX2_planDrawn : Cond.instanceMethod yX2_planDrawn ∈ gw := gw_in (List.mem_append_right _ (List.mem_of_getElem? (i := 629) (by decide +kernel))) (by decide +kernel)
theorem gs_yX2_planDrawn : Cond.selects RX2 yX2_planDrawn yX2_planDrawn ∈ gw := gw_in (List.mem_append_left _ (List.mem_of_getElem? (i := 50) (by decide +kernel))) (by decide +kernel)
theorem mv_X2_planDrawn : MV mX2_planDrawn 2 1 := ⟨⟨gc_yX2_planDrawn, gi_FirstOne_Supper, ⟨by decide, by decide⟩, by decide +kernel, by decide⟩, gm_yX2_planDrawn, gs_yX2_planDrawn, TX2, 17, rfl⟩
theorem lm_X5_199 : LM RX5 199 yX2_planDrawn := Or.inr (List.mem_append_right _ (List.mem_of_getElem? (i := 34) (by decide +kernel)))
abbrev mX5_drawn : wn_M := (yX5_drawn, cX5_drawn, 2, (some .long))
theorem gk_X6_343 : Cond.constant RX6 343 (1103515245) ∈ gw := gw_in (List.mem_append_right _ (List.mem_of_getElem? (i := 1120) (by decide +kernel))) (by decide +kernel)
abbrev mX6_draws : wn_M := (yX6_draws, cX6_draws, 4, (some .int))
theorem gc_yX6_draws : Cond.code yX6_draws cX6_draws 4 (some .int) ∈ gw := gw_in (List.mem_append_right _ (List.mem_of_getElem? (i := 1119) (by decide +kernel))) (by decide +kernel)
theorem gm_yX6_draws : Cond.instanceMethod yX6_draws ∈ gw := gw_in (List.mem_append_right _ (List.mem_of_getElem? (i := 1118) (by decide +kernel))) (by decide +kernel)
theorem gs_yX6_draws : Cond.selects RX6 yX6_draws yX6_draws ∈ gw := gw_in (List.mem_append_left _ (List.mem_of_getElem? (i := 93) (by decide +kernel))) (by decide +kernel)
theorem mv_X6_draws : MV mX6_draws 6 1 := ⟨⟨gc_yX6_draws, gi_FirstOneModel, ⟨by decide, by decide⟩, by decide +kernel, by decide⟩, gm_yX6_draws, gs_yX6_draws, TX6, 52, rfl⟩
theorem gl_X6_344 : Cond.methodLink RX6 344 yX6_draws ∈ gw := gw_in (List.mem_append_right _ (List.mem_of_getElem? (i := 1116) (by decide +kernel))) (by decide +kernel)
theorem lm_X6_344 : LM RX6 344 yX6_draws := Or.inl gl_X6_344
abbrev mX6_drawn : wn_M := (yX6_drawn, cX6_drawn, 2, (some .long))
abbrev mX5_commonDivisor : wn_M := (yX5_commonDivisor, cX5_commonDivisor, 6, (some .int))
theorem gc_yX5_commonDivisor : Cond.code yX5_commonDivisor cX5_commonDivisor 6 (some .int) ∈ gw := gw_in (List.mem_append_right _ (List.mem_of_getElem? (i := 638) (by decide +kernel))) (by decide +kernel)
theorem gt_yX5_commonDivisor : Cond.static yX5_commonDivisor ∈ gw := gw_in (List.mem_append_right _ (List.mem_of_getElem? (i := 637) (by decide +kernel))) (by decide +kernel)
theorem mst_X5_commonDivisor : MS mX5_commonDivisor 2 := ⟨⟨gc_yX5_commonDivisor, gi_FirstOne, ⟨by decide, by decide⟩, by decide +kernel, by decide⟩, gt_yX5_commonDivisor⟩
theorem gl_X5_202 : Cond.methodLink RX5 202 yX5_commonDivisor ∈ gw := gw_in (List.mem_append_right _ (List.mem_of_getElem? (i := 636) (by decide +kernel))) (by decide +kernel)
theorem lm_X5_202 : LM RX5 202 yX5_commonDivisor := Or.inl gl_X5_202
abbrev mX5_chance : wn_M := (yX5_chance, cX5_chance, 7, (some .long))
abbrev mX6_chance : wn_M := (yX6_chance, cX6_chance, 13, (some .long))
theorem fl_X5_16 : FL RX5 16 5 1 true := ⟨RX5, TX5, 7, tyX5, rfl, by decide, wi_X5, rfl, rfl, tyX5_ok, nmX5, Or.inl (gw_in (List.mem_append_right _ (List.mem_of_getElem? (i := 347) (by decide +kernel))) (by decide +kernel))⟩
theorem so_S1_2 : S1[2]? = some (5, 0, [0, 0, 0, 0, 13, 14, 15, 16]) := rfl
theorem fl_X3_38 : FL RX3 38 3 2 false := ⟨RX3, TX3, 8, tyX3, rfl, by decide, wi_X3, rfl, rfl, tyX3_ok, nmX3, Or.inl (gw_in (List.mem_append_right _ (List.mem_of_getElem? (i := 35) (by decide +kernel))) (by decide +kernel))⟩
theorem so_S1_11 : S1[11]? = some (0, 5, []) := rfl
theorem so_S1_12 : S1[12]? = some (0, 5, []) := rfl
theorem so_S1_13 : S1[13]? = some (0, 5, []) := rfl
theorem so_S1_14 : S1[14]? = some (0, 5, []) := rfl
abbrev mX3_become : wn_M := (yX3_become, cX3_become, 3, none)
theorem gc_yX3_become : Cond.code yX3_become cX3_become 3 none ∈ gw := gw_in (List.mem_append_right _ (List.mem_of_getElem? (i := 646) (by decide +kernel))) (by decide +kernel)
theorem gm_yX3_become : Cond.instanceMethod yX3_become ∈ gw := gw_in (List.mem_append_right _ (List.mem_of_getElem? (i := 645) (by decide +kernel))) (by decide +kernel)
theorem gs_yX3_become : Cond.selects RX3 yX3_become yX3_become ∈ gw := gw_in (List.mem_append_left _ (List.mem_of_getElem? (i := 51) (by decide +kernel))) (by decide +kernel)
theorem mv_X3_become : MV mX3_become 3 1 := ⟨⟨gc_yX3_become, gi_FirstOne_Table, ⟨by decide, by decide⟩, by decide +kernel, by decide⟩, gm_yX3_become, gs_yX3_become, TX3, 8, rfl⟩
theorem lm_X5_210 : LM RX5 210 yX3_become := Or.inr (List.mem_append_right _ (List.mem_of_getElem? (i := 35) (by decide +kernel)))
theorem fl_X5_214 : FL RX5 214 5 2 false := ⟨RX5, TX5, 7, tyX5, rfl, by decide, wi_X5, rfl, rfl, tyX5_ok, nmX5, Or.inl (gw_in (List.mem_append_right _ (List.mem_of_getElem? (i := 348) (by decide +kernel))) (by decide +kernel))⟩
theorem ft_X5_2 : FTy 5 2 .boolean := by
  intro C T N h
  have h : some (RX5, TX5, 7) = some (C, T, N) := h
  cases h
  decide +kernel
abbrev mX5_image : wn_M := (yX5_image, cX5_image, 1, (some .int))
theorem fl_X6_68 : FL RX6 68 6 44 false := ⟨RX6, TX6, 52, tyX6, rfl, by decide, wi_X6, rfl, rfl, tyX6_ok, nmX6, Or.inl (gw_in (List.mem_append_right _ (List.mem_of_getElem? (i := 750) (by decide +kernel))) (by decide +kernel))⟩
theorem ft_X6_44 : FTy 6 44 .int := by
  intro C T N h
  have h : some (RX6, TX6, 52) = some (C, T, N) := h
  cases h
  decide +kernel
theorem fl_X6_347 : FL RX6 347 6 45 false := ⟨RX6, TX6, 52, tyX6, rfl, by decide, wi_X6, rfl, rfl, tyX6_ok, nmX6, Or.inl (gw_in (List.mem_append_right _ (List.mem_of_getElem? (i := 751) (by decide +kernel))) (by decide +kernel))⟩
theorem ft_X6_45 : FTy 6 45 .int := by
  intro C T N h
  have h : some (RX6, TX6, 52) = some (C, T, N) := h
  cases h
  decide +kernel
theorem fl_X6_350 : FL RX6 350 6 46 false := ⟨RX6, TX6, 52, tyX6, rfl, by decide, wi_X6, rfl, rfl, tyX6_ok, nmX6, Or.inl (gw_in (List.mem_append_right _ (List.mem_of_getElem? (i := 752) (by decide +kernel))) (by decide +kernel))⟩
theorem ft_X6_46 : FTy 6 46 .int := by
  intro C T N h
  have h : some (RX6, TX6, 52) = some (C, T, N) := h
  cases h
  decide +kernel
theorem fl_X6_353 : FL RX6 353 6 47 false := ⟨RX6, TX6, 52, tyX6, rfl, by decide, wi_X6, rfl, rfl, tyX6_ok, nmX6, Or.inl (gw_in (List.mem_append_right _ (List.mem_of_getElem? (i := 753) (by decide +kernel))) (by decide +kernel))⟩
theorem ft_X6_47 : FTy 6 47 .int := by
  intro C T N h
  have h : some (RX6, TX6, 52) = some (C, T, N) := h
  cases h
  decide +kernel
theorem fl_X6_65 : FL RX6 65 6 43 true := ⟨RX6, TX6, 52, tyX6, rfl, by decide, wi_X6, rfl, rfl, tyX6_ok, nmX6, Or.inl (gw_in (List.mem_append_right _ (List.mem_of_getElem? (i := 749) (by decide +kernel))) (by decide +kernel))⟩
theorem so_S2_15 : S2[15]? = some (0, 15, []) := rfl
abbrev mX6_image : wn_M := (yX6_image, cX6_image, 2, (some .int))
abbrev mX5_back : wn_M := (yX5_back, cX5_back, 1, (some .int))
abbrev mX6_back : wn_M := (yX6_back, cX6_back, 2, (some .int))
abbrev mX3_wantOfAll : wn_M := (yX3_wantOfAll, cX3_wantOfAll, 3, (some .int))
theorem gc_yX3_wantOfAll : Cond.code yX3_wantOfAll cX3_wantOfAll 3 (some .int) ∈ gw := gw_in (List.mem_append_right _ (List.mem_of_getElem? (i := 658) (by decide +kernel))) (by decide +kernel)
theorem gm_yX3_wantOfAll : Cond.instanceMethod yX3_wantOfAll ∈ gw := gw_in (List.mem_append_right _ (List.mem_of_getElem? (i := 657) (by decide +kernel))) (by decide +kernel)
theorem gs_yX3_wantOfAll : Cond.selects RX3 yX3_wantOfAll yX3_wantOfAll ∈ gw := gw_in (List.mem_append_left _ (List.mem_of_getElem? (i := 52) (by decide +kernel))) (by decide +kernel)
theorem mv_X3_wantOfAll : MV mX3_wantOfAll 3 0 := ⟨⟨gc_yX3_wantOfAll, gi_FirstOne_Table, ⟨by decide, by decide⟩, by decide +kernel, by decide⟩, gm_yX3_wantOfAll, gs_yX3_wantOfAll, TX3, 8, rfl⟩
theorem lm_X5_222 : LM RX5 222 yX3_wantOfAll := Or.inr (List.mem_append_right _ (List.mem_of_getElem? (i := 36) (by decide +kernel)))
abbrev mX5_count : wn_M := (yX5_count, cX5_count, 2, (some .int))
theorem gk_X6_356 : Cond.constantLong RX6 356 (7) ∈ gw := gw_in (List.mem_append_right _ (List.mem_of_getElem? (i := 1137) (by decide +kernel))) (by decide +kernel)
abbrev mX6_count : wn_M := (yX6_count, cX6_count, 4, (some .int))
abbrev mX5_sheet : wn_M := (yX5_sheet, cX5_sheet, 4, (some .int))
abbrev mX5_cell : wn_M := (yX5_cell, cX5_cell, 4, (some .int))
abbrev mX6_cell : wn_M := (yX6_cell, cX6_cell, 4, (some .int))
abbrev mX1_sortOf : wn_M := (yX1_sortOf, cX1_sortOf, 2, (some .int))
theorem gc_yX1_sortOf : Cond.code yX1_sortOf cX1_sortOf 2 (some .int) ∈ gw := gw_in (List.mem_append_right _ (List.mem_of_getElem? (i := 674) (by decide +kernel))) (by decide +kernel)
theorem gm_yX1_sortOf : Cond.instanceMethod yX1_sortOf ∈ gw := gw_in (List.mem_append_right _ (List.mem_of_getElem? (i := 673) (by decide +kernel))) (by decide +kernel)
theorem gs_yX1_sortOf : Cond.selects RX1 yX1_sortOf yX1_sortOf ∈ gw := gw_in (List.mem_append_left _ (List.mem_of_getElem? (i := 53) (by decide +kernel))) (by decide +kernel)
theorem mv_X1_sortOf : MV mX1_sortOf 1 1 := ⟨⟨gc_yX1_sortOf, gi_FirstOne_Sheets, ⟨by decide, by decide⟩, by decide +kernel, by decide⟩, gm_yX1_sortOf, gs_yX1_sortOf, TX1, 3, rfl⟩
theorem lm_X5_225 : LM RX5 225 yX1_sortOf := Or.inr (List.mem_append_right _ (List.mem_of_getElem? (i := 37) (by decide +kernel)))
theorem lm_X5_228 : LM RX5 228 yX1_spans := Or.inr (List.mem_append_right _ (List.mem_of_getElem? (i := 38) (by decide +kernel)))
theorem gl_X1_33 : Cond.methodLink RX1 33 arraycopyName ∈ gw := gw_in (List.mem_append_right _ (List.mem_of_getElem? (i := 680) (by decide +kernel))) (by decide +kernel)
theorem gn_copy : Cond.native arraycopyName ∈ gw := gw_in (List.mem_append_right _ (List.mem_of_getElem? (i := 682) (by decide +kernel))) (by decide +kernel)
theorem gt_copy : Cond.static arraycopyName ∈ gw := gw_in (List.mem_append_right _ (List.mem_of_getElem? (i := 681) (by decide +kernel))) (by decide +kernel)
theorem gi_java_lang_System : Cond.initialized "java/lang/System" ∈ gw := gw_in (List.mem_append_right _ (List.mem_of_getElem? (i := 14) (by decide +kernel))) (by decide +kernel)
abbrev mX1_move : wn_M := (yX1_move, cX1_move, 6, none)
theorem gc_yX1_move : Cond.code yX1_move cX1_move 6 none ∈ gw := gw_in (List.mem_append_right _ (List.mem_of_getElem? (i := 679) (by decide +kernel))) (by decide +kernel)
theorem gm_yX1_move : Cond.instanceMethod yX1_move ∈ gw := gw_in (List.mem_append_right _ (List.mem_of_getElem? (i := 678) (by decide +kernel))) (by decide +kernel)
theorem gs_yX1_move : Cond.selects RX1 yX1_move yX1_move ∈ gw := gw_in (List.mem_append_left _ (List.mem_of_getElem? (i := 54) (by decide +kernel))) (by decide +kernel)
theorem mv_X1_move : MV mX1_move 1 5 := ⟨⟨gc_yX1_move, gi_FirstOne_Sheets, ⟨by decide, by decide⟩, by decide +kernel, by decide⟩, gm_yX1_move, gs_yX1_move, TX1, 3, rfl⟩
theorem lm_X5_232 : LM RX5 232 yX1_move := Or.inr (List.mem_append_right _ (List.mem_of_getElem? (i := 39) (by decide +kernel)))
abbrev mX5_copy : wn_M := (yX5_copy, cX5_copy, 6, (some .int))
abbrev mX6_copy : wn_M := (yX6_copy, cX6_copy, 9, (some .int))
abbrev mX5_eaters : wn_M := (yX5_eaters, cX5_eaters, 10, (some .int))
theorem gc_yX6_eater : Cond.code yX6_eater cX6_eater 4 (some .int) ∈ gw := gw_in (List.mem_append_right _ (List.mem_of_getElem? (i := 883) (by decide +kernel))) (by decide +kernel)
theorem gm_yX6_eater : Cond.instanceMethod yX6_eater ∈ gw := gw_in (List.mem_append_right _ (List.mem_of_getElem? (i := 881) (by decide +kernel))) (by decide +kernel)
theorem gs_yX6_eater : Cond.selects RX6 yX6_eater yX6_eater ∈ gw := gw_in (List.mem_append_right _ (List.mem_of_getElem? (i := 882) (by decide +kernel))) (by decide +kernel)
theorem mv_X6_eater : MV mX6_eater 6 3 := ⟨⟨gc_yX6_eater, gi_FirstOneModel, ⟨by decide, by decide⟩, by decide +kernel, by decide⟩, gm_yX6_eater, gs_yX6_eater, TX6, 52, rfl⟩
theorem gl_X6_360 : Cond.methodLink RX6 360 yX6_eater ∈ gw := gw_in (List.mem_append_right _ (List.mem_of_getElem? (i := 1151) (by decide +kernel))) (by decide +kernel)
theorem lm_X6_360 : LM RX6 360 yX6_eater := Or.inl gl_X6_360
abbrev mX6_eaters : wn_M := (yX6_eaters, cX6_eaters, 8, (some .int))
abbrev mX5_kindAbove : wn_M := (yX5_kindAbove, cX5_kindAbove, 1, (some .int))
theorem gc_yX5_kindAbove : Cond.code yX5_kindAbove cX5_kindAbove 1 (some .int) ∈ gw := gw_in (List.mem_append_right _ (List.mem_of_getElem? (i := 696) (by decide +kernel))) (by decide +kernel)
theorem gt_yX5_kindAbove : Cond.static yX5_kindAbove ∈ gw := gw_in (List.mem_append_right _ (List.mem_of_getElem? (i := 695) (by decide +kernel))) (by decide +kernel)
theorem mst_X5_kindAbove : MS mX5_kindAbove 1 := ⟨⟨gc_yX5_kindAbove, gi_FirstOne, ⟨by decide, by decide⟩, by decide +kernel, by decide⟩, gt_yX5_kindAbove⟩
theorem gl_X5_243 : Cond.methodLink RX5 243 yX5_kindAbove ∈ gw := gw_in (List.mem_append_right _ (List.mem_of_getElem? (i := 694) (by decide +kernel))) (by decide +kernel)
theorem lm_X5_243 : LM RX5 243 yX5_kindAbove := Or.inl gl_X5_243
abbrev mX5_isUnder : wn_M := (yX5_isUnder, cX5_isUnder, 4, (some .boolean))
theorem gc_yX5_isUnder : Cond.code yX5_isUnder cX5_isUnder 4 (some .boolean) ∈ gw := gw_in (List.mem_append_right _ (List.mem_of_getElem? (i := 693) (by decide +kernel))) (by decide +kernel)
theorem gt_yX5_isUnder : Cond.static yX5_isUnder ∈ gw := gw_in (List.mem_append_right _ (List.mem_of_getElem? (i := 692) (by decide +kernel))) (by decide +kernel)
theorem mst_X5_isUnder : MS mX5_isUnder 2 := ⟨⟨gc_yX5_isUnder, gi_FirstOne, ⟨by decide, by decide⟩, by decide +kernel, by decide⟩, gt_yX5_isUnder⟩
theorem gl_X5_236 : Cond.methodLink RX5 236 yX5_isUnder ∈ gw := gw_in (List.mem_append_right _ (List.mem_of_getElem? (i := 691) (by decide +kernel))) (by decide +kernel)
theorem lm_X5_236 : LM RX5 236 yX5_isUnder := Or.inl gl_X5_236
abbrev mX5_taken : wn_M := (yX5_taken, cX5_taken, 3, (some .int))
abbrev mX6_over : wn_M := (yX6_over, cX6_over, 1, (some .int))
theorem gc_yX6_over : Cond.code yX6_over cX6_over 1 (some .int) ∈ gw := gw_in (List.mem_append_right _ (List.mem_of_getElem? (i := 1158) (by decide +kernel))) (by decide +kernel)
theorem gt_yX6_over : Cond.static yX6_over ∈ gw := gw_in (List.mem_append_right _ (List.mem_of_getElem? (i := 1157) (by decide +kernel))) (by decide +kernel)
theorem mst_X6_over : MS mX6_over 1 := ⟨⟨gc_yX6_over, gi_FirstOneModel, ⟨by decide, by decide⟩, by decide +kernel, by decide⟩, gt_yX6_over⟩
theorem gl_X6_363 : Cond.methodLink RX6 363 yX6_over ∈ gw := gw_in (List.mem_append_right _ (List.mem_of_getElem? (i := 1156) (by decide +kernel))) (by decide +kernel)
theorem lm_X6_363 : LM RX6 363 yX6_over := Or.inl gl_X6_363
abbrev mX6_taken : wn_M := (yX6_taken, cX6_taken, 4, (some .int))
theorem gl_X0_35 : Cond.methodLink RX0 35 yX0_append ∈ gw := gw_in (List.mem_append_right _ (List.mem_of_getElem? (i := 267) (by decide +kernel))) (by decide +kernel)
theorem lm_X0_35 : LM RX0 35 yX0_append := Or.inl gl_X0_35
abbrev mX0_write : wn_M := (yX0_write, cX0_write, 3, none)
abbrev mX6_spell : wn_M := (yX6_spell, cX6_spell, 10, none)
abbrev mX5_init : wn_M := (yX5_init, cX5_init, 1, none)
theorem gl_X5_1 : Cond.methodLink RX5 1 objectInit ∈ gw := gw_in (List.mem_append_right _ (List.mem_of_getElem? (i := 20) (by decide +kernel))) (by decide +kernel)
theorem gm_obj : Cond.instanceMethod objectInit ∈ gw := gw_in (List.mem_append_right _ (List.mem_of_getElem? (i := 21) (by decide +kernel))) (by decide +kernel)
theorem gc_obj : Cond.code objectInit ⟨#[0xb1]⟩ 1 none ∈ gw := gw_in (List.mem_append_right _ (List.mem_of_getElem? (i := 22) (by decide +kernel))) (by decide +kernel)
theorem gx_X5_7 : Cond.classLink RX5 7 RX3 ∈ gw := gw_in (List.mem_append_right _ (List.mem_of_getElem? (i := 23) (by decide +kernel))) (by decide +kernel)
theorem gw_X3 : Cond.instantiable RX3 8 ∈ gw := gw_in (List.mem_append_right _ (List.mem_of_getElem? (i := 24) (by decide +kernel))) (by decide +kernel)
theorem fd_X3 : ∀ j, j < 8 → defaultValue (tyX3 j) = vp_V [.int 0, .int 0, .int 0, .int 0, .null, .null, .null, .null] j := by decide +kernel
abbrev mX3_init : wn_M := (yX3_init, cX3_init, 1, none)
theorem gl_X3_3 : Cond.methodLink RX3 3 objectInit ∈ gw := gw_in (List.mem_append_right _ (List.mem_of_getElem? (i := 28) (by decide +kernel))) (by decide +kernel)
theorem fr_X3_0 : FTr 3 0 .int := by
  intro C T N h
  have h : some (RX3, TX3, 8) = some (C, T, N) := h
  cases h
  decide +kernel
theorem fr_X3_1 : FTr 3 1 .int := by
  intro C T N h
  have h : some (RX3, TX3, 8) = some (C, T, N) := h
  cases h
  decide +kernel
theorem ga_int : Cond.arrayClass .int ∈ gw := gw_in (List.mem_append_right _ (List.mem_of_getElem? (i := 69) (by decide +kernel))) (by decide +kernel)
theorem fr_X3_4 : FTr 3 4 (.array .int) := by
  intro C T N h
  have h : some (RX3, TX3, 8) = some (C, T, N) := h
  cases h
  decide +kernel
theorem fr_X3_5 : FTr 3 5 (.array .int) := by
  intro C T N h
  have h : some (RX3, TX3, 8) = some (C, T, N) := h
  cases h
  decide +kernel
theorem fr_X3_6 : FTr 3 6 (.array .int) := by
  intro C T N h
  have h : some (RX3, TX3, 8) = some (C, T, N) := h
  cases h
  decide +kernel
theorem fr_X3_7 : FTr 3 7 (.array .int) := by
  intro C T N h
  have h : some (RX3, TX3, 8) = some (C, T, N) := h
  cases h
  decide +kernel
theorem lm_X5_9 : LM RX5 9 yX3_init := Or.inr (List.mem_append_right _ (List.mem_of_getElem? (i := 0) (by decide +kernel)))
theorem gc_yX3_init : Cond.code yX3_init cX3_init 1 none ∈ gw := gw_in (List.mem_append_right _ (List.mem_of_getElem? (i := 27) (by decide +kernel))) (by decide +kernel)
theorem gm_yX3_init : Cond.instanceMethod yX3_init ∈ gw := gw_in (List.mem_append_right _ (List.mem_of_getElem? (i := 26) (by decide +kernel))) (by decide +kernel)
theorem mc_X3 : MO mX3_init 0 ∧ Cond.instanceMethod yX3_init ∈ gw ∧ mX3_init.1.name = "<init>" ∧ mX3_init.2.2.2 = none := ⟨⟨gc_yX3_init, gi_FirstOne_Table, ⟨by decide, by decide⟩, by decide +kernel, by decide⟩, gm_yX3_init, rfl, rfl⟩
theorem fr_X5_0 : FTr 5 0 (.object "FirstOne$Table") := by
  intro C T N h
  have h : some (RX5, TX5, 7) = some (C, T, N) := h
  cases h
  decide +kernel
theorem fr_X5_1 : FTr 5 1 (.object "FirstOne$Table") := by
  intro C T N h
  have h : some (RX5, TX5, 7) = some (C, T, N) := h
  cases h
  decide +kernel
theorem gx_X5_19 : Cond.classLink RX5 19 RX0 ∈ gw := gw_in (List.mem_append_right _ (List.mem_of_getElem? (i := 70) (by decide +kernel))) (by decide +kernel)
theorem gw_X0 : Cond.instantiable RX0 10 ∈ gw := gw_in (List.mem_append_right _ (List.mem_of_getElem? (i := 71) (by decide +kernel))) (by decide +kernel)
theorem fd_X0 : ∀ j, j < 10 → defaultValue (tyX0 j) = vp_V [.null, .int 0, .int 0, .int 0, .int 0, .int 0, .int 0, .null, .int 0, .null] j := by decide +kernel
abbrev mX0_init : wn_M := (yX0_init, cX0_init, 1, none)
theorem gl_X0_5 : Cond.methodLink RX0 5 objectInit ∈ gw := gw_in (List.mem_append_right _ (List.mem_of_getElem? (i := 75) (by decide +kernel))) (by decide +kernel)
theorem fr_X0_0 : FTr 0 0 (.array .int) := by
  intro C T N h
  have h : some (RX0, TX0, 10) = some (C, T, N) := h
  cases h
  decide +kernel
theorem fr_X0_7 : FTr 0 7 (.array .int) := by
  intro C T N h
  have h : some (RX0, TX0, 10) = some (C, T, N) := h
  cases h
  decide +kernel
theorem fr_X0_9 : FTr 0 9 (.array .int) := by
  intro C T N h
  have h : some (RX0, TX0, 10) = some (C, T, N) := h
  cases h
  decide +kernel
theorem lm_X5_21 : LM RX5 21 yX0_init := Or.inr (List.mem_append_right _ (List.mem_of_getElem? (i := 1) (by decide +kernel)))
theorem gc_yX0_init : Cond.code yX0_init cX0_init 1 none ∈ gw := gw_in (List.mem_append_right _ (List.mem_of_getElem? (i := 74) (by decide +kernel))) (by decide +kernel)
theorem gm_yX0_init : Cond.instanceMethod yX0_init ∈ gw := gw_in (List.mem_append_right _ (List.mem_of_getElem? (i := 73) (by decide +kernel))) (by decide +kernel)
theorem mc_X0 : MO mX0_init 0 ∧ Cond.instanceMethod yX0_init ∈ gw ∧ mX0_init.1.name = "<init>" ∧ mX0_init.2.2.2 = none := ⟨⟨gc_yX0_init, gi_FirstOne_Reader, ⟨by decide, by decide⟩, by decide +kernel, by decide⟩, gm_yX0_init, rfl, rfl⟩
theorem fr_X5_3 : FTr 5 3 (.object "FirstOne$Reader") := by
  intro C T N h
  have h : some (RX5, TX5, 7) = some (C, T, N) := h
  cases h
  decide +kernel
theorem gx_X5_26 : Cond.classLink RX5 26 RX4 ∈ gw := gw_in (List.mem_append_right _ (List.mem_of_getElem? (i := 111) (by decide +kernel))) (by decide +kernel)
theorem gw_X4 : Cond.instantiable RX4 5 ∈ gw := gw_in (List.mem_append_right _ (List.mem_of_getElem? (i := 112) (by decide +kernel))) (by decide +kernel)
theorem fd_X4 : ∀ j, j < 5 → defaultValue (tyX4 j) = vp_V [.int 0, .null, .null, .null, .null] j := by decide +kernel
abbrev mX4_init : wn_M := (yX4_init, cX4_init, 1, none)
theorem gl_X4_3 : Cond.methodLink RX4 3 objectInit ∈ gw := gw_in (List.mem_append_right _ (List.mem_of_getElem? (i := 116) (by decide +kernel))) (by decide +kernel)
theorem fr_X4_1 : FTr 4 1 (.array .int) := by
  intro C T N h
  have h : some (RX4, TX4, 5) = some (C, T, N) := h
  cases h
  decide +kernel
theorem fr_X4_2 : FTr 4 2 (.array .int) := by
  intro C T N h
  have h : some (RX4, TX4, 5) = some (C, T, N) := h
  cases h
  decide +kernel
theorem fr_X4_3 : FTr 4 3 (.array .int) := by
  intro C T N h
  have h : some (RX4, TX4, 5) = some (C, T, N) := h
  cases h
  decide +kernel
theorem fr_X4_4 : FTr 4 4 (.array .int) := by
  intro C T N h
  have h : some (RX4, TX4, 5) = some (C, T, N) := h
  cases h
  decide +kernel
theorem lm_X5_28 : LM RX5 28 yX4_init := Or.inr (List.mem_append_right _ (List.mem_of_getElem? (i := 2) (by decide +kernel)))
theorem gc_yX4_init : Cond.code yX4_init cX4_init 1 none ∈ gw := gw_in (List.mem_append_right _ (List.mem_of_getElem? (i := 115) (by decide +kernel))) (by decide +kernel)
theorem gm_yX4_init : Cond.instanceMethod yX4_init ∈ gw := gw_in (List.mem_append_right _ (List.mem_of_getElem? (i := 114) (by decide +kernel))) (by decide +kernel)
theorem mc_X4 : MO mX4_init 0 ∧ Cond.instanceMethod yX4_init ∈ gw ∧ mX4_init.1.name = "<init>" ∧ mX4_init.2.2.2 = none := ⟨⟨gc_yX4_init, gi_FirstOne_Texts, ⟨by decide, by decide⟩, by decide +kernel, by decide⟩, gm_yX4_init, rfl, rfl⟩
theorem fr_X5_4 : FTr 5 4 (.object "FirstOne$Texts") := by
  intro C T N h
  have h : some (RX5, TX5, 7) = some (C, T, N) := h
  cases h
  decide +kernel
theorem gx_X5_33 : Cond.classLink RX5 33 RX1 ∈ gw := gw_in (List.mem_append_right _ (List.mem_of_getElem? (i := 134) (by decide +kernel))) (by decide +kernel)
theorem gw_X1 : Cond.instantiable RX1 3 ∈ gw := gw_in (List.mem_append_right _ (List.mem_of_getElem? (i := 135) (by decide +kernel))) (by decide +kernel)
theorem fd_X1 : ∀ j, j < 3 → defaultValue (tyX1 j) = vp_V [.null, .null, .null] j := by decide +kernel
abbrev mX1_init : wn_M := (yX1_init, cX1_init, 1, none)
theorem gl_X1_3 : Cond.methodLink RX1 3 objectInit ∈ gw := gw_in (List.mem_append_right _ (List.mem_of_getElem? (i := 139) (by decide +kernel))) (by decide +kernel)
theorem fr_X1_0 : FTr 1 0 (.array .int) := by
  intro C T N h
  have h : some (RX1, TX1, 3) = some (C, T, N) := h
  cases h
  decide +kernel
theorem fr_X1_1 : FTr 1 1 (.array .int) := by
  intro C T N h
  have h : some (RX1, TX1, 3) = some (C, T, N) := h
  cases h
  decide +kernel
theorem fr_X1_2 : FTr 1 2 (.array .int) := by
  intro C T N h
  have h : some (RX1, TX1, 3) = some (C, T, N) := h
  cases h
  decide +kernel
theorem lm_X5_35 : LM RX5 35 yX1_init := Or.inr (List.mem_append_right _ (List.mem_of_getElem? (i := 3) (by decide +kernel)))
theorem gc_yX1_init : Cond.code yX1_init cX1_init 1 none ∈ gw := gw_in (List.mem_append_right _ (List.mem_of_getElem? (i := 138) (by decide +kernel))) (by decide +kernel)
theorem gm_yX1_init : Cond.instanceMethod yX1_init ∈ gw := gw_in (List.mem_append_right _ (List.mem_of_getElem? (i := 137) (by decide +kernel))) (by decide +kernel)
theorem mc_X1 : MO mX1_init 0 ∧ Cond.instanceMethod yX1_init ∈ gw ∧ mX1_init.1.name = "<init>" ∧ mX1_init.2.2.2 = none := ⟨⟨gc_yX1_init, gi_FirstOne_Sheets, ⟨by decide, by decide⟩, by decide +kernel, by decide⟩, gm_yX1_init, rfl, rfl⟩
theorem fr_X5_5 : FTr 5 5 (.object "FirstOne$Sheets") := by
  intro C T N h
  have h : some (RX5, TX5, 7) = some (C, T, N) := h
  cases h
  decide +kernel
theorem gx_X5_40 : Cond.classLink RX5 40 RX2 ∈ gw := gw_in (List.mem_append_right _ (List.mem_of_getElem? (i := 150) (by decide +kernel))) (by decide +kernel)
theorem gw_X2 : Cond.instantiable RX2 17 ∈ gw := gw_in (List.mem_append_right _ (List.mem_of_getElem? (i := 151) (by decide +kernel))) (by decide +kernel)
theorem fd_X2 : ∀ j, j < 17 → defaultValue (tyX2 j) = vp_V [.null, .null, .null, .null, .long 0, .null, .null, .int 0, .null, .null, .null, .int 0, .int 0, .int 0, .int 0, .int 0, .null] j := by decide +kernel
abbrev mX2_init : wn_M := (yX2_init, cX2_init, 3, none)
theorem gl_X2_3 : Cond.methodLink RX2 3 objectInit ∈ gw := gw_in (List.mem_append_right _ (List.mem_of_getElem? (i := 155) (by decide +kernel))) (by decide +kernel)
theorem fr_X2_2 : FTr 2 2 (.array .int) := by
  intro C T N h
  have h : some (RX2, TX2, 17) = some (C, T, N) := h
  cases h
  decide +kernel
theorem fr_X2_3 : FTr 2 3 (.array .int) := by
  intro C T N h
  have h : some (RX2, TX2, 17) = some (C, T, N) := h
  cases h
  decide +kernel
theorem fr_X2_5 : FTr 2 5 (.array .int) := by
  intro C T N h
  have h : some (RX2, TX2, 17) = some (C, T, N) := h
  cases h
  decide +kernel
theorem fr_X2_6 : FTr 2 6 (.array .int) := by
  intro C T N h
  have h : some (RX2, TX2, 17) = some (C, T, N) := h
  cases h
  decide +kernel
theorem fr_X2_8 : FTr 2 8 (.array .int) := by
  intro C T N h
  have h : some (RX2, TX2, 17) = some (C, T, N) := h
  cases h
  decide +kernel
theorem fr_X2_9 : FTr 2 9 (.array .int) := by
  intro C T N h
  have h : some (RX2, TX2, 17) = some (C, T, N) := h
  cases h
  decide +kernel
theorem fr_X2_10 : FTr 2 10 (.array .int) := by
  intro C T N h
  have h : some (RX2, TX2, 17) = some (C, T, N) := h
  cases h
  decide +kernel
theorem fr_X2_16 : FTr 2 16 (.array .int) := by
  intro C T N h
  have h : some (RX2, TX2, 17) = some (C, T, N) := h
  cases h
  decide +kernel
theorem fr_X2_0 : FTr 2 0 (.object "FirstOne$Table") := by
  intro C T N h
  have h : some (RX2, TX2, 17) = some (C, T, N) := h
  cases h
  decide +kernel
theorem fr_X2_1 : FTr 2 1 (.object "FirstOne$Texts") := by
  intro C T N h
  have h : some (RX2, TX2, 17) = some (C, T, N) := h
  cases h
  decide +kernel
theorem lm_X5_42 : LM RX5 42 yX2_init := Or.inr (List.mem_append_right _ (List.mem_of_getElem? (i := 4) (by decide +kernel)))
theorem gc_yX2_init : Cond.code yX2_init cX2_init 3 none ∈ gw := gw_in (List.mem_append_right _ (List.mem_of_getElem? (i := 154) (by decide +kernel))) (by decide +kernel)
theorem gm_yX2_init : Cond.instanceMethod yX2_init ∈ gw := gw_in (List.mem_append_right _ (List.mem_of_getElem? (i := 153) (by decide +kernel))) (by decide +kernel)
theorem mc_X2 : MO mX2_init 2 ∧ Cond.instanceMethod yX2_init ∈ gw ∧ mX2_init.1.name = "<init>" ∧ mX2_init.2.2.2 = none := ⟨⟨gc_yX2_init, gi_FirstOne_Supper, ⟨by decide, by decide⟩, by decide +kernel, by decide⟩, gm_yX2_init, rfl, rfl⟩
theorem fr_X5_6 : FTr 5 6 (.object "FirstOne$Supper") := by
  intro C T N h
  have h : some (RX5, TX5, 7) = some (C, T, N) := h
  cases h
  decide +kernel
theorem gc_yX0_write : Cond.code yX0_write cX0_write 3 none ∈ gw := gw_in (List.mem_append_right _ (List.mem_of_getElem? (i := 218) (by decide +kernel))) (by decide +kernel)
theorem gm_yX0_write : Cond.instanceMethod yX0_write ∈ gw := gw_in (List.mem_append_right _ (List.mem_of_getElem? (i := 217) (by decide +kernel))) (by decide +kernel)
theorem gs_yX0_write : Cond.selects RX0 yX0_write yX0_write ∈ gw := gw_in (List.mem_append_left _ (List.mem_of_getElem? (i := 0) (by decide +kernel))) (by decide +kernel)
theorem mv_X0_write : MV mX0_write 0 1 := ⟨⟨gc_yX0_write, gi_FirstOne_Reader, ⟨by decide, by decide⟩, by decide +kernel, by decide⟩, gm_yX0_write, gs_yX0_write, TX0, 10, rfl⟩
theorem lm_X5_51 : LM RX5 51 yX0_write := Or.inr (List.mem_append_right _ (List.mem_of_getElem? (i := 5) (by decide +kernel)))
abbrev mX6_init : wn_M := (yX6_init, cX6_init, 1, none)
theorem gl_X6_7 : Cond.methodLink RX6 7 objectInit ∈ gw := gw_in (List.mem_append_right _ (List.mem_of_getElem? (i := 702) (by decide +kernel))) (by decide +kernel)
theorem fr_X6_1 : FTr 6 1 (.array .int) := by
  intro C T N h
  have h : some (RX6, TX6, 52) = some (C, T, N) := h
  cases h
  decide +kernel
theorem fr_X6_2 : FTr 6 2 (.array .int) := by
  intro C T N h
  have h : some (RX6, TX6, 52) = some (C, T, N) := h
  cases h
  decide +kernel
theorem fr_X6_5 : FTr 6 5 (.array .int) := by
  intro C T N h
  have h : some (RX6, TX6, 52) = some (C, T, N) := h
  cases h
  decide +kernel
theorem fr_X6_7 : FTr 6 7 .int := by
  intro C T N h
  have h : some (RX6, TX6, 52) = some (C, T, N) := h
  cases h
  decide +kernel
theorem fr_X6_8 : FTr 6 8 .int := by
  intro C T N h
  have h : some (RX6, TX6, 52) = some (C, T, N) := h
  cases h
  decide +kernel
theorem fr_X6_9 : FTr 6 9 (.array .int) := by
  intro C T N h
  have h : some (RX6, TX6, 52) = some (C, T, N) := h
  cases h
  decide +kernel
theorem fr_X6_10 : FTr 6 10 (.array .int) := by
  intro C T N h
  have h : some (RX6, TX6, 52) = some (C, T, N) := h
  cases h
  decide +kernel
theorem fr_X6_11 : FTr 6 11 (.array .int) := by
  intro C T N h
  have h : some (RX6, TX6, 52) = some (C, T, N) := h
  cases h
  decide +kernel
theorem fr_X6_12 : FTr 6 12 (.array .int) := by
  intro C T N h
  have h : some (RX6, TX6, 52) = some (C, T, N) := h
  cases h
  decide +kernel
theorem fr_X6_14 : FTr 6 14 .int := by
  intro C T N h
  have h : some (RX6, TX6, 52) = some (C, T, N) := h
  cases h
  decide +kernel
theorem fr_X6_30 : FTr 6 30 (.array .int) := by
  intro C T N h
  have h : some (RX6, TX6, 52) = some (C, T, N) := h
  cases h
  decide +kernel
theorem fr_X6_31 : FTr 6 31 (.array .int) := by
  intro C T N h
  have h : some (RX6, TX6, 52) = some (C, T, N) := h
  cases h
  decide +kernel
theorem fr_X6_32 : FTr 6 32 (.array .int) := by
  intro C T N h
  have h : some (RX6, TX6, 52) = some (C, T, N) := h
  cases h
  decide +kernel
theorem fr_X6_33 : FTr 6 33 (.array .int) := by
  intro C T N h
  have h : some (RX6, TX6, 52) = some (C, T, N) := h
  cases h
  decide +kernel
theorem fr_X6_34 : FTr 6 34 (.array .int) := by
  intro C T N h
  have h : some (RX6, TX6, 52) = some (C, T, N) := h
  cases h
  decide +kernel
theorem fr_X6_35 : FTr 6 35 (.array .int) := by
  intro C T N h
  have h : some (RX6, TX6, 52) = some (C, T, N) := h
  cases h
  decide +kernel
theorem fr_X6_40 : FTr 6 40 (.array .int) := by
  intro C T N h
  have h : some (RX6, TX6, 52) = some (C, T, N) := h
  cases h
  decide +kernel
theorem fr_X6_43 : FTr 6 43 (.array .int) := by
  intro C T N h
  have h : some (RX6, TX6, 52) = some (C, T, N) := h
  cases h
  decide +kernel
theorem fr_X6_44 : FTr 6 44 .int := by
  intro C T N h
  have h : some (RX6, TX6, 52) = some (C, T, N) := h
  cases h
  decide +kernel
theorem ga_boolean : Cond.arrayClass .boolean ∈ gw := gw_in (List.mem_append_right _ (List.mem_of_getElem? (i := 863) (by decide +kernel))) (by decide +kernel)
theorem fr_X6_48 : FTr 6 48 (.array .boolean) := by
  intro C T N h
  have h : some (RX6, TX6, 52) = some (C, T, N) := h
  cases h
  decide +kernel
theorem fr_X6_49 : FTr 6 49 (.array .int) := by
  intro C T N h
  have h : some (RX6, TX6, 52) = some (C, T, N) := h
  cases h
  decide +kernel
theorem fr_X6_50 : FTr 6 50 (.array .int) := by
  intro C T N h
  have h : some (RX6, TX6, 52) = some (C, T, N) := h
  cases h
  decide +kernel
theorem fr_X6_51 : FTr 6 51 (.array .int) := by
  intro C T N h
  have h : some (RX6, TX6, 52) = some (C, T, N) := h
  cases h
  decide +kernel
theorem gc_yX6_spell : Cond.code yX6_spell cX6_spell 10 none ∈ gw := gw_in (List.mem_append_right _ (List.mem_of_getElem? (i := 706) (by decide +kernel))) (by decide +kernel)
theorem gm_yX6_spell : Cond.instanceMethod yX6_spell ∈ gw := gw_in (List.mem_append_right _ (List.mem_of_getElem? (i := 705) (by decide +kernel))) (by decide +kernel)
theorem gs_yX6_spell : Cond.selects RX6 yX6_spell yX6_spell ∈ gw := gw_in (List.mem_append_left _ (List.mem_of_getElem? (i := 55) (by decide +kernel))) (by decide +kernel)
theorem mv_X6_spell : MV mX6_spell 6 9 := ⟨⟨gc_yX6_spell, gi_FirstOneModel, ⟨by decide, by decide⟩, by decide +kernel, by decide⟩, gm_yX6_spell, gs_yX6_spell, TX6, 52, rfl⟩
theorem gl_X6_84 : Cond.methodLink RX6 84 yX6_spell ∈ gw := gw_in (List.mem_append_right _ (List.mem_of_getElem? (i := 703) (by decide +kernel))) (by decide +kernel)
theorem lm_X6_84 : LM RX6 84 yX6_spell := Or.inl gl_X6_84
theorem gx_L_7 : Cond.classLink RL 7 RX5 ∈ gw := gw_in (List.mem_append_right _ (List.mem_of_getElem? (i := 15) (by decide +kernel))) (by decide +kernel)
theorem gw_X5 : Cond.instantiable RX5 7 ∈ gw := gw_in (List.mem_append_right _ (List.mem_of_getElem? (i := 16) (by decide +kernel))) (by decide +kernel)
theorem fd_X5 : ∀ j, j < 7 → defaultValue (tyX5 j) = vp_V [.null, .null, .int 0, .null, .null, .null, .null] j := by decide +kernel
theorem gl_L_9 : Cond.methodLink RL 9 yX5_init ∈ gw := gw_in (List.mem_append_right _ (List.mem_of_getElem? (i := 17) (by decide +kernel))) (by decide +kernel)
theorem lm_L_9 : LM RL 9 yX5_init := Or.inl gl_L_9
theorem gc_yX5_init : Cond.code yX5_init cX5_init 1 none ∈ gw := gw_in (List.mem_append_right _ (List.mem_of_getElem? (i := 19) (by decide +kernel))) (by decide +kernel)
theorem gm_yX5_init : Cond.instanceMethod yX5_init ∈ gw := gw_in (List.mem_append_right _ (List.mem_of_getElem? (i := 18) (by decide +kernel))) (by decide +kernel)
theorem mc_X5 : MO mX5_init 0 ∧ Cond.instanceMethod yX5_init ∈ gw ∧ mX5_init.1.name = "<init>" ∧ mX5_init.2.2.2 = none := ⟨⟨gc_yX5_init, gi_FirstOne, ⟨by decide, by decide⟩, by decide +kernel, by decide⟩, gm_yX5_init, rfl, rfl⟩
theorem gx_L_10 : Cond.classLink RL 10 RX6 ∈ gw := gw_in (List.mem_append_right _ (List.mem_of_getElem? (i := 697) (by decide +kernel))) (by decide +kernel)
theorem gw_X6 : Cond.instantiable RX6 52 ∈ gw := gw_in (List.mem_append_right _ (List.mem_of_getElem? (i := 698) (by decide +kernel))) (by decide +kernel)
theorem fd_X6 : ∀ j, j < 52 → defaultValue (tyX6 j) = vp_V [.int 0, .null, .null, .int 0, .int 0, .null, .int 0, .int 0, .int 0, .null, .null, .null, .null, .int 0, .int 0, .int 0, .int 0, .int 0, .int 0, .int 0, .int 0, .int 0, .int 0, .int 0, .int 0, .int 0, .long 0, .int 0, .int 0, .int 0, .null, .null, .null, .null, .null, .null, .int 0, .int 0, .int 0, .int 0, .null, .int 0, .int 0, .null, .int 0, .int 0, .int 0, .int 0, .null, .null, .null, .null] j := by decide +kernel
theorem gl_L_12 : Cond.methodLink RL 12 yX6_init ∈ gw := gw_in (List.mem_append_right _ (List.mem_of_getElem? (i := 699) (by decide +kernel))) (by decide +kernel)
theorem lm_L_12 : LM RL 12 yX6_init := Or.inl gl_L_12
theorem gc_yX6_init : Cond.code yX6_init cX6_init 1 none ∈ gw := gw_in (List.mem_append_right _ (List.mem_of_getElem? (i := 701) (by decide +kernel))) (by decide +kernel)
theorem gm_yX6_init : Cond.instanceMethod yX6_init ∈ gw := gw_in (List.mem_append_right _ (List.mem_of_getElem? (i := 700) (by decide +kernel))) (by decide +kernel)
theorem mc_X6 : MO mX6_init 0 ∧ Cond.instanceMethod yX6_init ∈ gw ∧ mX6_init.1.name = "<init>" ∧ mX6_init.2.2.2 = none := ⟨⟨gc_yX6_init, gi_FirstOneModel, ⟨by decide, by decide⟩, by decide +kernel, by decide⟩, gm_yX6_init, rfl, rfl⟩
theorem gl_L_13 : Cond.methodLink RL 13 yX5_set ∈ gw := gw_in (List.mem_append_right _ (List.mem_of_getElem? (i := 369) (by decide +kernel))) (by decide +kernel)
theorem lm_L_13 : LM RL 13 yX5_set := Or.inl gl_L_13
theorem gc_yX5_set : Cond.code yX5_set cX5_set 4 (some .int) ∈ gw := gw_in (List.mem_append_right _ (List.mem_of_getElem? (i := 372) (by decide +kernel))) (by decide +kernel)
theorem gm_yX5_set : Cond.instanceMethod yX5_set ∈ gw := gw_in (List.mem_append_right _ (List.mem_of_getElem? (i := 370) (by decide +kernel))) (by decide +kernel)
theorem gs_yX5_set : Cond.selects RX5 yX5_set yX5_set ∈ gw := gw_in (List.mem_append_right _ (List.mem_of_getElem? (i := 371) (by decide +kernel))) (by decide +kernel)
theorem mv_X5_set : MV mX5_set 5 3 := ⟨⟨gc_yX5_set, gi_FirstOne, ⟨by decide, by decide⟩, by decide +kernel, by decide⟩, gm_yX5_set, gs_yX5_set, TX5, 7, rfl⟩
theorem gl_L_17 : Cond.methodLink RL 17 yX6_set ∈ gw := gw_in (List.mem_append_right _ (List.mem_of_getElem? (i := 864) (by decide +kernel))) (by decide +kernel)
theorem lm_L_17 : LM RL 17 yX6_set := Or.inl gl_L_17
theorem gc_yX6_set : Cond.code yX6_set cX6_set 5 (some .int) ∈ gw := gw_in (List.mem_append_right _ (List.mem_of_getElem? (i := 867) (by decide +kernel))) (by decide +kernel)
theorem gm_yX6_set : Cond.instanceMethod yX6_set ∈ gw := gw_in (List.mem_append_right _ (List.mem_of_getElem? (i := 865) (by decide +kernel))) (by decide +kernel)
theorem gs_yX6_set : Cond.selects RX6 yX6_set yX6_set ∈ gw := gw_in (List.mem_append_right _ (List.mem_of_getElem? (i := 866) (by decide +kernel))) (by decide +kernel)
theorem mv_X6_set : MV mX6_set 6 3 := ⟨⟨gc_yX6_set, gi_FirstOneModel, ⟨by decide, by decide⟩, by decide +kernel, by decide⟩, gm_yX6_set, gs_yX6_set, TX6, 52, rfl⟩
theorem gl_L_18 : Cond.methodLink RL 18 yX5_eater ∈ gw := gw_in (List.mem_append_right _ (List.mem_of_getElem? (i := 385) (by decide +kernel))) (by decide +kernel)
theorem lm_L_18 : LM RL 18 yX5_eater := Or.inl gl_L_18
theorem gc_yX5_eater : Cond.code yX5_eater cX5_eater 4 (some .int) ∈ gw := gw_in (List.mem_append_right _ (List.mem_of_getElem? (i := 388) (by decide +kernel))) (by decide +kernel)
theorem gm_yX5_eater : Cond.instanceMethod yX5_eater ∈ gw := gw_in (List.mem_append_right _ (List.mem_of_getElem? (i := 386) (by decide +kernel))) (by decide +kernel)
theorem gs_yX5_eater : Cond.selects RX5 yX5_eater yX5_eater ∈ gw := gw_in (List.mem_append_right _ (List.mem_of_getElem? (i := 387) (by decide +kernel))) (by decide +kernel)
theorem mv_X5_eater : MV mX5_eater 5 3 := ⟨⟨gc_yX5_eater, gi_FirstOne, ⟨by decide, by decide⟩, by decide +kernel, by decide⟩, gm_yX5_eater, gs_yX5_eater, TX5, 7, rfl⟩
theorem gl_L_21 : Cond.methodLink RL 21 yX6_eater ∈ gw := gw_in (List.mem_append_right _ (List.mem_of_getElem? (i := 880) (by decide +kernel))) (by decide +kernel)
theorem lm_L_21 : LM RL 21 yX6_eater := Or.inl gl_L_21
theorem gl_L_22 : Cond.methodLink RL 22 yX5_told ∈ gw := gw_in (List.mem_append_right _ (List.mem_of_getElem? (i := 393) (by decide +kernel))) (by decide +kernel)
theorem lm_L_22 : LM RL 22 yX5_told := Or.inl gl_L_22
theorem gc_yX5_told : Cond.code yX5_told cX5_told 3 (some .int) ∈ gw := gw_in (List.mem_append_right _ (List.mem_of_getElem? (i := 396) (by decide +kernel))) (by decide +kernel)
theorem gm_yX5_told : Cond.instanceMethod yX5_told ∈ gw := gw_in (List.mem_append_right _ (List.mem_of_getElem? (i := 394) (by decide +kernel))) (by decide +kernel)
theorem gs_yX5_told : Cond.selects RX5 yX5_told yX5_told ∈ gw := gw_in (List.mem_append_right _ (List.mem_of_getElem? (i := 395) (by decide +kernel))) (by decide +kernel)
theorem mv_X5_told : MV mX5_told 5 2 := ⟨⟨gc_yX5_told, gi_FirstOne, ⟨by decide, by decide⟩, by decide +kernel, by decide⟩, gm_yX5_told, gs_yX5_told, TX5, 7, rfl⟩
theorem gl_L_26 : Cond.methodLink RL 26 yX6_told ∈ gw := gw_in (List.mem_append_right _ (List.mem_of_getElem? (i := 886) (by decide +kernel))) (by decide +kernel)
theorem lm_L_26 : LM RL 26 yX6_told := Or.inl gl_L_26
theorem gc_yX6_told : Cond.code yX6_told cX6_told 3 (some .int) ∈ gw := gw_in (List.mem_append_right _ (List.mem_of_getElem? (i := 889) (by decide +kernel))) (by decide +kernel)
theorem gm_yX6_told : Cond.instanceMethod yX6_told ∈ gw := gw_in (List.mem_append_right _ (List.mem_of_getElem? (i := 887) (by decide +kernel))) (by decide +kernel)
theorem gs_yX6_told : Cond.selects RX6 yX6_told yX6_told ∈ gw := gw_in (List.mem_append_right _ (List.mem_of_getElem? (i := 888) (by decide +kernel))) (by decide +kernel)
theorem mv_X6_told : MV mX6_told 6 2 := ⟨⟨gc_yX6_told, gi_FirstOneModel, ⟨by decide, by decide⟩, by decide +kernel, by decide⟩, gm_yX6_told, gs_yX6_told, TX6, 52, rfl⟩
theorem gl_L_27 : Cond.methodLink RL 27 yX5_ready ∈ gw := gw_in (List.mem_append_right _ (List.mem_of_getElem? (i := 454) (by decide +kernel))) (by decide +kernel)
theorem lm_L_27 : LM RL 27 yX5_ready := Or.inl gl_L_27
theorem gc_yX5_ready : Cond.code yX5_ready cX5_ready 2 (some .int) ∈ gw := gw_in (List.mem_append_right _ (List.mem_of_getElem? (i := 457) (by decide +kernel))) (by decide +kernel)
theorem gm_yX5_ready : Cond.instanceMethod yX5_ready ∈ gw := gw_in (List.mem_append_right _ (List.mem_of_getElem? (i := 455) (by decide +kernel))) (by decide +kernel)
theorem gs_yX5_ready : Cond.selects RX5 yX5_ready yX5_ready ∈ gw := gw_in (List.mem_append_right _ (List.mem_of_getElem? (i := 456) (by decide +kernel))) (by decide +kernel)
theorem mv_X5_ready : MV mX5_ready 5 1 := ⟨⟨gc_yX5_ready, gi_FirstOne, ⟨by decide, by decide⟩, by decide +kernel, by decide⟩, gm_yX5_ready, gs_yX5_ready, TX5, 7, rfl⟩
theorem gl_L_31 : Cond.methodLink RL 31 yX6_ready ∈ gw := gw_in (List.mem_append_right _ (List.mem_of_getElem? (i := 985) (by decide +kernel))) (by decide +kernel)
theorem lm_L_31 : LM RL 31 yX6_ready := Or.inl gl_L_31
theorem gc_yX6_ready : Cond.code yX6_ready cX6_ready 2 (some .int) ∈ gw := gw_in (List.mem_append_right _ (List.mem_of_getElem? (i := 988) (by decide +kernel))) (by decide +kernel)
theorem gm_yX6_ready : Cond.instanceMethod yX6_ready ∈ gw := gw_in (List.mem_append_right _ (List.mem_of_getElem? (i := 986) (by decide +kernel))) (by decide +kernel)
theorem gs_yX6_ready : Cond.selects RX6 yX6_ready yX6_ready ∈ gw := gw_in (List.mem_append_right _ (List.mem_of_getElem? (i := 987) (by decide +kernel))) (by decide +kernel)
theorem mv_X6_ready : MV mX6_ready 6 1 := ⟨⟨gc_yX6_ready, gi_FirstOneModel, ⟨by decide, by decide⟩, by decide +kernel, by decide⟩, gm_yX6_ready, gs_yX6_ready, TX6, 52, rfl⟩
theorem gl_L_32 : Cond.methodLink RL 32 yX5_feed ∈ gw := gw_in (List.mem_append_right _ (List.mem_of_getElem? (i := 459) (by decide +kernel))) (by decide +kernel)
theorem lm_L_32 : LM RL 32 yX5_feed := Or.inl gl_L_32
theorem gc_yX5_feed : Cond.code yX5_feed cX5_feed 2 (some .int) ∈ gw := gw_in (List.mem_append_right _ (List.mem_of_getElem? (i := 462) (by decide +kernel))) (by decide +kernel)
theorem gm_yX5_feed : Cond.instanceMethod yX5_feed ∈ gw := gw_in (List.mem_append_right _ (List.mem_of_getElem? (i := 460) (by decide +kernel))) (by decide +kernel)
theorem gs_yX5_feed : Cond.selects RX5 yX5_feed yX5_feed ∈ gw := gw_in (List.mem_append_right _ (List.mem_of_getElem? (i := 461) (by decide +kernel))) (by decide +kernel)
theorem mv_X5_feed : MV mX5_feed 5 1 := ⟨⟨gc_yX5_feed, gi_FirstOne, ⟨by decide, by decide⟩, by decide +kernel, by decide⟩, gm_yX5_feed, gs_yX5_feed, TX5, 7, rfl⟩
theorem gl_L_35 : Cond.methodLink RL 35 yX6_feed ∈ gw := gw_in (List.mem_append_right _ (List.mem_of_getElem? (i := 972) (by decide +kernel))) (by decide +kernel)
theorem lm_L_35 : LM RL 35 yX6_feed := Or.inl gl_L_35
theorem gc_yX6_feed : Cond.code yX6_feed cX6_feed 2 (some .int) ∈ gw := gw_in (List.mem_append_right _ (List.mem_of_getElem? (i := 975) (by decide +kernel))) (by decide +kernel)
theorem gm_yX6_feed : Cond.instanceMethod yX6_feed ∈ gw := gw_in (List.mem_append_right _ (List.mem_of_getElem? (i := 973) (by decide +kernel))) (by decide +kernel)
theorem gs_yX6_feed : Cond.selects RX6 yX6_feed yX6_feed ∈ gw := gw_in (List.mem_append_right _ (List.mem_of_getElem? (i := 974) (by decide +kernel))) (by decide +kernel)
theorem mv_X6_feed : MV mX6_feed 6 1 := ⟨⟨gc_yX6_feed, gi_FirstOneModel, ⟨by decide, by decide⟩, by decide +kernel, by decide⟩, gm_yX6_feed, gs_yX6_feed, TX6, 52, rfl⟩
theorem gl_L_36 : Cond.methodLink RL 36 yX5_text ∈ gw := gw_in (List.mem_append_right _ (List.mem_of_getElem? (i := 464) (by decide +kernel))) (by decide +kernel)
theorem lm_L_36 : LM RL 36 yX5_text := Or.inl gl_L_36
theorem gc_yX5_text : Cond.code yX5_text cX5_text 1 (some .int) ∈ gw := gw_in (List.mem_append_right _ (List.mem_of_getElem? (i := 467) (by decide +kernel))) (by decide +kernel)
theorem gm_yX5_text : Cond.instanceMethod yX5_text ∈ gw := gw_in (List.mem_append_right _ (List.mem_of_getElem? (i := 465) (by decide +kernel))) (by decide +kernel)
theorem gs_yX5_text : Cond.selects RX5 yX5_text yX5_text ∈ gw := gw_in (List.mem_append_right _ (List.mem_of_getElem? (i := 466) (by decide +kernel))) (by decide +kernel)
theorem mv_X5_text : MV mX5_text 5 0 := ⟨⟨gc_yX5_text, gi_FirstOne, ⟨by decide, by decide⟩, by decide +kernel, by decide⟩, gm_yX5_text, gs_yX5_text, TX5, 7, rfl⟩
theorem gl_L_40 : Cond.methodLink RL 40 yX6_text ∈ gw := gw_in (List.mem_append_right _ (List.mem_of_getElem? (i := 977) (by decide +kernel))) (by decide +kernel)
theorem lm_L_40 : LM RL 40 yX6_text := Or.inl gl_L_40
theorem gc_yX6_text : Cond.code yX6_text cX6_text 2 (some .int) ∈ gw := gw_in (List.mem_append_right _ (List.mem_of_getElem? (i := 980) (by decide +kernel))) (by decide +kernel)
theorem gm_yX6_text : Cond.instanceMethod yX6_text ∈ gw := gw_in (List.mem_append_right _ (List.mem_of_getElem? (i := 978) (by decide +kernel))) (by decide +kernel)
theorem gs_yX6_text : Cond.selects RX6 yX6_text yX6_text ∈ gw := gw_in (List.mem_append_right _ (List.mem_of_getElem? (i := 979) (by decide +kernel))) (by decide +kernel)
theorem mv_X6_text : MV mX6_text 6 0 := ⟨⟨gc_yX6_text, gi_FirstOneModel, ⟨by decide, by decide⟩, by decide +kernel, by decide⟩, gm_yX6_text, gs_yX6_text, TX6, 52, rfl⟩
theorem gl_L_41 : Cond.methodLink RL 41 yX5_force ∈ gw := gw_in (List.mem_append_right _ (List.mem_of_getElem? (i := 468) (by decide +kernel))) (by decide +kernel)
theorem lm_L_41 : LM RL 41 yX5_force := Or.inl gl_L_41
theorem gc_yX5_force : Cond.code yX5_force cX5_force 3 (some .int) ∈ gw := gw_in (List.mem_append_right _ (List.mem_of_getElem? (i := 471) (by decide +kernel))) (by decide +kernel)
theorem gm_yX5_force : Cond.instanceMethod yX5_force ∈ gw := gw_in (List.mem_append_right _ (List.mem_of_getElem? (i := 469) (by decide +kernel))) (by decide +kernel)
theorem gs_yX5_force : Cond.selects RX5 yX5_force yX5_force ∈ gw := gw_in (List.mem_append_right _ (List.mem_of_getElem? (i := 470) (by decide +kernel))) (by decide +kernel)
theorem mv_X5_force : MV mX5_force 5 1 := ⟨⟨gc_yX5_force, gi_FirstOne, ⟨by decide, by decide⟩, by decide +kernel, by decide⟩, gm_yX5_force, gs_yX5_force, TX5, 7, rfl⟩
theorem gl_L_44 : Cond.methodLink RL 44 yX6_force ∈ gw := gw_in (List.mem_append_right _ (List.mem_of_getElem? (i := 981) (by decide +kernel))) (by decide +kernel)
theorem lm_L_44 : LM RL 44 yX6_force := Or.inl gl_L_44
theorem gc_yX6_force : Cond.code yX6_force cX6_force 3 (some .int) ∈ gw := gw_in (List.mem_append_right _ (List.mem_of_getElem? (i := 984) (by decide +kernel))) (by decide +kernel)
theorem gm_yX6_force : Cond.instanceMethod yX6_force ∈ gw := gw_in (List.mem_append_right _ (List.mem_of_getElem? (i := 982) (by decide +kernel))) (by decide +kernel)
theorem gs_yX6_force : Cond.selects RX6 yX6_force yX6_force ∈ gw := gw_in (List.mem_append_right _ (List.mem_of_getElem? (i := 983) (by decide +kernel))) (by decide +kernel)
theorem mv_X6_force : MV mX6_force 6 1 := ⟨⟨gc_yX6_force, gi_FirstOneModel, ⟨by decide, by decide⟩, by decide +kernel, by decide⟩, gm_yX6_force, gs_yX6_force, TX6, 52, rfl⟩
theorem gl_L_45 : Cond.methodLink RL 45 yX5_supper ∈ gw := gw_in (List.mem_append_right _ (List.mem_of_getElem? (i := 472) (by decide +kernel))) (by decide +kernel)
theorem lm_L_45 : LM RL 45 yX5_supper := Or.inl gl_L_45
theorem gc_yX5_supper : Cond.code yX5_supper cX5_supper 5 (some .int) ∈ gw := gw_in (List.mem_append_right _ (List.mem_of_getElem? (i := 475) (by decide +kernel))) (by decide +kernel)
theorem gm_yX5_supper : Cond.instanceMethod yX5_supper ∈ gw := gw_in (List.mem_append_right _ (List.mem_of_getElem? (i := 473) (by decide +kernel))) (by decide +kernel)
theorem gs_yX5_supper : Cond.selects RX5 yX5_supper yX5_supper ∈ gw := gw_in (List.mem_append_right _ (List.mem_of_getElem? (i := 474) (by decide +kernel))) (by decide +kernel)
theorem mv_X5_supper : MV mX5_supper 5 3 := ⟨⟨gc_yX5_supper, gi_FirstOne, ⟨by decide, by decide⟩, by decide +kernel, by decide⟩, gm_yX5_supper, gs_yX5_supper, TX5, 7, rfl⟩
theorem gl_L_48 : Cond.methodLink RL 48 yX6_supper ∈ gw := gw_in (List.mem_append_right _ (List.mem_of_getElem? (i := 1001) (by decide +kernel))) (by decide +kernel)
theorem lm_L_48 : LM RL 48 yX6_supper := Or.inl gl_L_48
theorem gc_yX6_supper : Cond.code yX6_supper cX6_supper 4 (some .int) ∈ gw := gw_in (List.mem_append_right _ (List.mem_of_getElem? (i := 1004) (by decide +kernel))) (by decide +kernel)
theorem gm_yX6_supper : Cond.instanceMethod yX6_supper ∈ gw := gw_in (List.mem_append_right _ (List.mem_of_getElem? (i := 1002) (by decide +kernel))) (by decide +kernel)
theorem gs_yX6_supper : Cond.selects RX6 yX6_supper yX6_supper ∈ gw := gw_in (List.mem_append_right _ (List.mem_of_getElem? (i := 1003) (by decide +kernel))) (by decide +kernel)
theorem mv_X6_supper : MV mX6_supper 6 3 := ⟨⟨gc_yX6_supper, gi_FirstOneModel, ⟨by decide, by decide⟩, by decide +kernel, by decide⟩, gm_yX6_supper, gs_yX6_supper, TX6, 52, rfl⟩
theorem gl_L_49 : Cond.methodLink RL 49 yX5_heap ∈ gw := gw_in (List.mem_append_right _ (List.mem_of_getElem? (i := 545) (by decide +kernel))) (by decide +kernel)
theorem lm_L_49 : LM RL 49 yX5_heap := Or.inl gl_L_49
theorem gc_yX5_heap : Cond.code yX5_heap cX5_heap 3 (some .int) ∈ gw := gw_in (List.mem_append_right _ (List.mem_of_getElem? (i := 548) (by decide +kernel))) (by decide +kernel)
theorem gm_yX5_heap : Cond.instanceMethod yX5_heap ∈ gw := gw_in (List.mem_append_right _ (List.mem_of_getElem? (i := 546) (by decide +kernel))) (by decide +kernel)
theorem gs_yX5_heap : Cond.selects RX5 yX5_heap yX5_heap ∈ gw := gw_in (List.mem_append_right _ (List.mem_of_getElem? (i := 547) (by decide +kernel))) (by decide +kernel)
theorem mv_X5_heap : MV mX5_heap 5 2 := ⟨⟨gc_yX5_heap, gi_FirstOne, ⟨by decide, by decide⟩, by decide +kernel, by decide⟩, gm_yX5_heap, gs_yX5_heap, TX5, 7, rfl⟩
theorem gl_L_52 : Cond.methodLink RL 52 yX6_heap ∈ gw := gw_in (List.mem_append_right _ (List.mem_of_getElem? (i := 1055) (by decide +kernel))) (by decide +kernel)
theorem lm_L_52 : LM RL 52 yX6_heap := Or.inl gl_L_52
theorem gc_yX6_heap : Cond.code yX6_heap cX6_heap 3 (some .int) ∈ gw := gw_in (List.mem_append_right _ (List.mem_of_getElem? (i := 1058) (by decide +kernel))) (by decide +kernel)
theorem gm_yX6_heap : Cond.instanceMethod yX6_heap ∈ gw := gw_in (List.mem_append_right _ (List.mem_of_getElem? (i := 1056) (by decide +kernel))) (by decide +kernel)
theorem gs_yX6_heap : Cond.selects RX6 yX6_heap yX6_heap ∈ gw := gw_in (List.mem_append_right _ (List.mem_of_getElem? (i := 1057) (by decide +kernel))) (by decide +kernel)
theorem mv_X6_heap : MV mX6_heap 6 2 := ⟨⟨gc_yX6_heap, gi_FirstOneModel, ⟨by decide, by decide⟩, by decide +kernel, by decide⟩, gm_yX6_heap, gs_yX6_heap, TX6, 52, rfl⟩
theorem gl_L_53 : Cond.methodLink RL 53 yX5_best ∈ gw := gw_in (List.mem_append_right _ (List.mem_of_getElem? (i := 550) (by decide +kernel))) (by decide +kernel)
theorem lm_L_53 : LM RL 53 yX5_best := Or.inl gl_L_53
theorem gc_yX5_best : Cond.code yX5_best cX5_best 7 (some .int) ∈ gw := gw_in (List.mem_append_right _ (List.mem_of_getElem? (i := 553) (by decide +kernel))) (by decide +kernel)
theorem gm_yX5_best : Cond.instanceMethod yX5_best ∈ gw := gw_in (List.mem_append_right _ (List.mem_of_getElem? (i := 551) (by decide +kernel))) (by decide +kernel)
theorem gs_yX5_best : Cond.selects RX5 yX5_best yX5_best ∈ gw := gw_in (List.mem_append_right _ (List.mem_of_getElem? (i := 552) (by decide +kernel))) (by decide +kernel)
theorem mv_X5_best : MV mX5_best 5 2 := ⟨⟨gc_yX5_best, gi_FirstOne, ⟨by decide, by decide⟩, by decide +kernel, by decide⟩, gm_yX5_best, gs_yX5_best, TX5, 7, rfl⟩
theorem gl_L_56 : Cond.methodLink RL 56 yX6_best ∈ gw := gw_in (List.mem_append_right _ (List.mem_of_getElem? (i := 1059) (by decide +kernel))) (by decide +kernel)
theorem lm_L_56 : LM RL 56 yX6_best := Or.inl gl_L_56
theorem gc_yX6_best : Cond.code yX6_best cX6_best 3 (some .int) ∈ gw := gw_in (List.mem_append_right _ (List.mem_of_getElem? (i := 1062) (by decide +kernel))) (by decide +kernel)
theorem gm_yX6_best : Cond.instanceMethod yX6_best ∈ gw := gw_in (List.mem_append_right _ (List.mem_of_getElem? (i := 1060) (by decide +kernel))) (by decide +kernel)
theorem gs_yX6_best : Cond.selects RX6 yX6_best yX6_best ∈ gw := gw_in (List.mem_append_right _ (List.mem_of_getElem? (i := 1061) (by decide +kernel))) (by decide +kernel)
theorem mv_X6_best : MV mX6_best 6 2 := ⟨⟨gc_yX6_best, gi_FirstOneModel, ⟨by decide, by decide⟩, by decide +kernel, by decide⟩, gm_yX6_best, gs_yX6_best, TX6, 52, rfl⟩
theorem gl_L_57 : Cond.methodLink RL 57 yX5_keep ∈ gw := gw_in (List.mem_append_right _ (List.mem_of_getElem? (i := 562) (by decide +kernel))) (by decide +kernel)
theorem lm_L_57 : LM RL 57 yX5_keep := Or.inl gl_L_57
theorem gc_yX5_keep : Cond.code yX5_keep cX5_keep 5 (some .int) ∈ gw := gw_in (List.mem_append_right _ (List.mem_of_getElem? (i := 565) (by decide +kernel))) (by decide +kernel)
theorem gm_yX5_keep : Cond.instanceMethod yX5_keep ∈ gw := gw_in (List.mem_append_right _ (List.mem_of_getElem? (i := 563) (by decide +kernel))) (by decide +kernel)
theorem gs_yX5_keep : Cond.selects RX5 yX5_keep yX5_keep ∈ gw := gw_in (List.mem_append_right _ (List.mem_of_getElem? (i := 564) (by decide +kernel))) (by decide +kernel)
theorem mv_X5_keep : MV mX5_keep 5 1 := ⟨⟨gc_yX5_keep, gi_FirstOne, ⟨by decide, by decide⟩, by decide +kernel, by decide⟩, gm_yX5_keep, gs_yX5_keep, TX5, 7, rfl⟩
theorem gl_L_60 : Cond.methodLink RL 60 yX6_keep ∈ gw := gw_in (List.mem_append_right _ (List.mem_of_getElem? (i := 1067) (by decide +kernel))) (by decide +kernel)
theorem lm_L_60 : LM RL 60 yX6_keep := Or.inl gl_L_60
theorem gc_yX6_keep : Cond.code yX6_keep cX6_keep 5 (some .int) ∈ gw := gw_in (List.mem_append_right _ (List.mem_of_getElem? (i := 1070) (by decide +kernel))) (by decide +kernel)
theorem gm_yX6_keep : Cond.instanceMethod yX6_keep ∈ gw := gw_in (List.mem_append_right _ (List.mem_of_getElem? (i := 1068) (by decide +kernel))) (by decide +kernel)
theorem gs_yX6_keep : Cond.selects RX6 yX6_keep yX6_keep ∈ gw := gw_in (List.mem_append_right _ (List.mem_of_getElem? (i := 1069) (by decide +kernel))) (by decide +kernel)
theorem mv_X6_keep : MV mX6_keep 6 1 := ⟨⟨gc_yX6_keep, gi_FirstOneModel, ⟨by decide, by decide⟩, by decide +kernel, by decide⟩, gm_yX6_keep, gs_yX6_keep, TX6, 52, rfl⟩
theorem gl_L_61 : Cond.methodLink RL 61 yX5_second ∈ gw := gw_in (List.mem_append_right _ (List.mem_of_getElem? (i := 566) (by decide +kernel))) (by decide +kernel)
theorem lm_L_61 : LM RL 61 yX5_second := Or.inl gl_L_61
theorem gc_yX5_second : Cond.code yX5_second cX5_second 2 (some .int) ∈ gw := gw_in (List.mem_append_right _ (List.mem_of_getElem? (i := 569) (by decide +kernel))) (by decide +kernel)
theorem gm_yX5_second : Cond.instanceMethod yX5_second ∈ gw := gw_in (List.mem_append_right _ (List.mem_of_getElem? (i := 567) (by decide +kernel))) (by decide +kernel)
theorem gs_yX5_second : Cond.selects RX5 yX5_second yX5_second ∈ gw := gw_in (List.mem_append_right _ (List.mem_of_getElem? (i := 568) (by decide +kernel))) (by decide +kernel)
theorem mv_X5_second : MV mX5_second 5 0 := ⟨⟨gc_yX5_second, gi_FirstOne, ⟨by decide, by decide⟩, by decide +kernel, by decide⟩, gm_yX5_second, gs_yX5_second, TX5, 7, rfl⟩
theorem gl_L_64 : Cond.methodLink RL 64 yX6_second ∈ gw := gw_in (List.mem_append_right _ (List.mem_of_getElem? (i := 1071) (by decide +kernel))) (by decide +kernel)
theorem lm_L_64 : LM RL 64 yX6_second := Or.inl gl_L_64
theorem gc_yX6_second : Cond.code yX6_second cX6_second 3 (some .int) ∈ gw := gw_in (List.mem_append_right _ (List.mem_of_getElem? (i := 1074) (by decide +kernel))) (by decide +kernel)
theorem gm_yX6_second : Cond.instanceMethod yX6_second ∈ gw := gw_in (List.mem_append_right _ (List.mem_of_getElem? (i := 1072) (by decide +kernel))) (by decide +kernel)
theorem gs_yX6_second : Cond.selects RX6 yX6_second yX6_second ∈ gw := gw_in (List.mem_append_right _ (List.mem_of_getElem? (i := 1073) (by decide +kernel))) (by decide +kernel)
theorem mv_X6_second : MV mX6_second 6 0 := ⟨⟨gc_yX6_second, gi_FirstOneModel, ⟨by decide, by decide⟩, by decide +kernel, by decide⟩, gm_yX6_second, gs_yX6_second, TX6, 52, rfl⟩
theorem gl_L_65 : Cond.methodLink RL 65 yX5_leave ∈ gw := gw_in (List.mem_append_right _ (List.mem_of_getElem? (i := 570) (by decide +kernel))) (by decide +kernel)
theorem lm_L_65 : LM RL 65 yX5_leave := Or.inl gl_L_65
theorem gc_yX5_leave : Cond.code yX5_leave cX5_leave 4 (some .int) ∈ gw := gw_in (List.mem_append_right _ (List.mem_of_getElem? (i := 573) (by decide +kernel))) (by decide +kernel)
theorem gm_yX5_leave : Cond.instanceMethod yX5_leave ∈ gw := gw_in (List.mem_append_right _ (List.mem_of_getElem? (i := 571) (by decide +kernel))) (by decide +kernel)
theorem gs_yX5_leave : Cond.selects RX5 yX5_leave yX5_leave ∈ gw := gw_in (List.mem_append_right _ (List.mem_of_getElem? (i := 572) (by decide +kernel))) (by decide +kernel)
theorem mv_X5_leave : MV mX5_leave 5 0 := ⟨⟨gc_yX5_leave, gi_FirstOne, ⟨by decide, by decide⟩, by decide +kernel, by decide⟩, gm_yX5_leave, gs_yX5_leave, TX5, 7, rfl⟩
theorem gl_L_68 : Cond.methodLink RL 68 yX6_leave ∈ gw := gw_in (List.mem_append_right _ (List.mem_of_getElem? (i := 1075) (by decide +kernel))) (by decide +kernel)
theorem lm_L_68 : LM RL 68 yX6_leave := Or.inl gl_L_68
theorem gc_yX6_leave : Cond.code yX6_leave cX6_leave 4 (some .int) ∈ gw := gw_in (List.mem_append_right _ (List.mem_of_getElem? (i := 1078) (by decide +kernel))) (by decide +kernel)
theorem gm_yX6_leave : Cond.instanceMethod yX6_leave ∈ gw := gw_in (List.mem_append_right _ (List.mem_of_getElem? (i := 1076) (by decide +kernel))) (by decide +kernel)
theorem gs_yX6_leave : Cond.selects RX6 yX6_leave yX6_leave ∈ gw := gw_in (List.mem_append_right _ (List.mem_of_getElem? (i := 1077) (by decide +kernel))) (by decide +kernel)
theorem mv_X6_leave : MV mX6_leave 6 0 := ⟨⟨gc_yX6_leave, gi_FirstOneModel, ⟨by decide, by decide⟩, by decide +kernel, by decide⟩, gm_yX6_leave, gs_yX6_leave, TX6, 52, rfl⟩
theorem gl_L_69 : Cond.methodLink RL 69 yX5_plates ∈ gw := gw_in (List.mem_append_right _ (List.mem_of_getElem? (i := 574) (by decide +kernel))) (by decide +kernel)
theorem lm_L_69 : LM RL 69 yX5_plates := Or.inl gl_L_69
theorem gc_yX5_plates : Cond.code yX5_plates cX5_plates 3 (some .long) ∈ gw := gw_in (List.mem_append_right _ (List.mem_of_getElem? (i := 577) (by decide +kernel))) (by decide +kernel)
theorem gm_yX5_plates : Cond.instanceMethod yX5_plates ∈ gw := gw_in (List.mem_append_right _ (List.mem_of_getElem? (i := 575) (by decide +kernel))) (by decide +kernel)
theorem gs_yX5_plates : Cond.selects RX5 yX5_plates yX5_plates ∈ gw := gw_in (List.mem_append_right _ (List.mem_of_getElem? (i := 576) (by decide +kernel))) (by decide +kernel)
theorem mv_X5_plates : MV mX5_plates 5 2 := ⟨⟨gc_yX5_plates, gi_FirstOne, ⟨by decide, by decide⟩, by decide +kernel, by decide⟩, gm_yX5_plates, gs_yX5_plates, TX5, 7, rfl⟩
theorem gl_L_73 : Cond.methodLink RL 73 yX6_plates ∈ gw := gw_in (List.mem_append_right _ (List.mem_of_getElem? (i := 1079) (by decide +kernel))) (by decide +kernel)
theorem lm_L_73 : LM RL 73 yX6_plates := Or.inl gl_L_73
theorem gc_yX6_plates : Cond.code yX6_plates cX6_plates 8 (some .long) ∈ gw := gw_in (List.mem_append_right _ (List.mem_of_getElem? (i := 1082) (by decide +kernel))) (by decide +kernel)
theorem gm_yX6_plates : Cond.instanceMethod yX6_plates ∈ gw := gw_in (List.mem_append_right _ (List.mem_of_getElem? (i := 1080) (by decide +kernel))) (by decide +kernel)
theorem gs_yX6_plates : Cond.selects RX6 yX6_plates yX6_plates ∈ gw := gw_in (List.mem_append_right _ (List.mem_of_getElem? (i := 1081) (by decide +kernel))) (by decide +kernel)
theorem mv_X6_plates : MV mX6_plates 6 2 := ⟨⟨gc_yX6_plates, gi_FirstOneModel, ⟨by decide, by decide⟩, by decide +kernel, by decide⟩, gm_yX6_plates, gs_yX6_plates, TX6, 52, rfl⟩
theorem gl_L_74 : Cond.methodLink RL 74 yX5_eaten ∈ gw := gw_in (List.mem_append_right _ (List.mem_of_getElem? (i := 594) (by decide +kernel))) (by decide +kernel)
theorem lm_L_74 : LM RL 74 yX5_eaten := Or.inl gl_L_74
theorem gc_yX5_eaten : Cond.code yX5_eaten cX5_eaten 3 (some .int) ∈ gw := gw_in (List.mem_append_right _ (List.mem_of_getElem? (i := 597) (by decide +kernel))) (by decide +kernel)
theorem gm_yX5_eaten : Cond.instanceMethod yX5_eaten ∈ gw := gw_in (List.mem_append_right _ (List.mem_of_getElem? (i := 595) (by decide +kernel))) (by decide +kernel)
theorem gs_yX5_eaten : Cond.selects RX5 yX5_eaten yX5_eaten ∈ gw := gw_in (List.mem_append_right _ (List.mem_of_getElem? (i := 596) (by decide +kernel))) (by decide +kernel)
theorem mv_X5_eaten : MV mX5_eaten 5 2 := ⟨⟨gc_yX5_eaten, gi_FirstOne, ⟨by decide, by decide⟩, by decide +kernel, by decide⟩, gm_yX5_eaten, gs_yX5_eaten, TX5, 7, rfl⟩
theorem gl_L_77 : Cond.methodLink RL 77 yX6_eaten ∈ gw := gw_in (List.mem_append_right _ (List.mem_of_getElem? (i := 1095) (by decide +kernel))) (by decide +kernel)
theorem lm_L_77 : LM RL 77 yX6_eaten := Or.inl gl_L_77
theorem gc_yX6_eaten : Cond.code yX6_eaten cX6_eaten 6 (some .int) ∈ gw := gw_in (List.mem_append_right _ (List.mem_of_getElem? (i := 1098) (by decide +kernel))) (by decide +kernel)
theorem gm_yX6_eaten : Cond.instanceMethod yX6_eaten ∈ gw := gw_in (List.mem_append_right _ (List.mem_of_getElem? (i := 1096) (by decide +kernel))) (by decide +kernel)
theorem gs_yX6_eaten : Cond.selects RX6 yX6_eaten yX6_eaten ∈ gw := gw_in (List.mem_append_right _ (List.mem_of_getElem? (i := 1097) (by decide +kernel))) (by decide +kernel)
theorem mv_X6_eaten : MV mX6_eaten 6 2 := ⟨⟨gc_yX6_eaten, gi_FirstOneModel, ⟨by decide, by decide⟩, by decide +kernel, by decide⟩, gm_yX6_eaten, gs_yX6_eaten, TX6, 52, rfl⟩
theorem gl_L_78 : Cond.methodLink RL 78 yX5_film ∈ gw := gw_in (List.mem_append_right _ (List.mem_of_getElem? (i := 611) (by decide +kernel))) (by decide +kernel)
theorem lm_L_78 : LM RL 78 yX5_film := Or.inl gl_L_78
theorem gc_yX5_film : Cond.code yX5_film cX5_film 4 (some .int) ∈ gw := gw_in (List.mem_append_right _ (List.mem_of_getElem? (i := 614) (by decide +kernel))) (by decide +kernel)
theorem gm_yX5_film : Cond.instanceMethod yX5_film ∈ gw := gw_in (List.mem_append_right _ (List.mem_of_getElem? (i := 612) (by decide +kernel))) (by decide +kernel)
theorem gs_yX5_film : Cond.selects RX5 yX5_film yX5_film ∈ gw := gw_in (List.mem_append_right _ (List.mem_of_getElem? (i := 613) (by decide +kernel))) (by decide +kernel)
theorem mv_X5_film : MV mX5_film 5 2 := ⟨⟨gc_yX5_film, gi_FirstOne, ⟨by decide, by decide⟩, by decide +kernel, by decide⟩, gm_yX5_film, gs_yX5_film, TX5, 7, rfl⟩
theorem gl_L_81 : Cond.methodLink RL 81 yX6_film ∈ gw := gw_in (List.mem_append_right _ (List.mem_of_getElem? (i := 1103) (by decide +kernel))) (by decide +kernel)
theorem lm_L_81 : LM RL 81 yX6_film := Or.inl gl_L_81
theorem gc_yX6_film : Cond.code yX6_film cX6_film 4 (some .int) ∈ gw := gw_in (List.mem_append_right _ (List.mem_of_getElem? (i := 1106) (by decide +kernel))) (by decide +kernel)
theorem gm_yX6_film : Cond.instanceMethod yX6_film ∈ gw := gw_in (List.mem_append_right _ (List.mem_of_getElem? (i := 1104) (by decide +kernel))) (by decide +kernel)
theorem gs_yX6_film : Cond.selects RX6 yX6_film yX6_film ∈ gw := gw_in (List.mem_append_right _ (List.mem_of_getElem? (i := 1105) (by decide +kernel))) (by decide +kernel)
theorem mv_X6_film : MV mX6_film 6 2 := ⟨⟨gc_yX6_film, gi_FirstOneModel, ⟨by decide, by decide⟩, by decide +kernel, by decide⟩, gm_yX6_film, gs_yX6_film, TX6, 52, rfl⟩
theorem gl_L_82 : Cond.methodLink RL 82 yX5_drawn ∈ gw := gw_in (List.mem_append_right _ (List.mem_of_getElem? (i := 623) (by decide +kernel))) (by decide +kernel)
theorem lm_L_82 : LM RL 82 yX5_drawn := Or.inl gl_L_82
theorem gc_yX5_drawn : Cond.code yX5_drawn cX5_drawn 2 (some .long) ∈ gw := gw_in (List.mem_append_right _ (List.mem_of_getElem? (i := 626) (by decide +kernel))) (by decide +kernel)
theorem gm_yX5_drawn : Cond.instanceMethod yX5_drawn ∈ gw := gw_in (List.mem_append_right _ (List.mem_of_getElem? (i := 624) (by decide +kernel))) (by decide +kernel)
theorem gs_yX5_drawn : Cond.selects RX5 yX5_drawn yX5_drawn ∈ gw := gw_in (List.mem_append_right _ (List.mem_of_getElem? (i := 625) (by decide +kernel))) (by decide +kernel)
theorem mv_X5_drawn : MV mX5_drawn 5 1 := ⟨⟨gc_yX5_drawn, gi_FirstOne, ⟨by decide, by decide⟩, by decide +kernel, by decide⟩, gm_yX5_drawn, gs_yX5_drawn, TX5, 7, rfl⟩
theorem gl_L_86 : Cond.methodLink RL 86 yX6_drawn ∈ gw := gw_in (List.mem_append_right _ (List.mem_of_getElem? (i := 1112) (by decide +kernel))) (by decide +kernel)
theorem lm_L_86 : LM RL 86 yX6_drawn := Or.inl gl_L_86
theorem gc_yX6_drawn : Cond.code yX6_drawn cX6_drawn 2 (some .long) ∈ gw := gw_in (List.mem_append_right _ (List.mem_of_getElem? (i := 1115) (by decide +kernel))) (by decide +kernel)
theorem gm_yX6_drawn : Cond.instanceMethod yX6_drawn ∈ gw := gw_in (List.mem_append_right _ (List.mem_of_getElem? (i := 1113) (by decide +kernel))) (by decide +kernel)
theorem gs_yX6_drawn : Cond.selects RX6 yX6_drawn yX6_drawn ∈ gw := gw_in (List.mem_append_right _ (List.mem_of_getElem? (i := 1114) (by decide +kernel))) (by decide +kernel)
theorem mv_X6_drawn : MV mX6_drawn 6 1 := ⟨⟨gc_yX6_drawn, gi_FirstOneModel, ⟨by decide, by decide⟩, by decide +kernel, by decide⟩, gm_yX6_drawn, gs_yX6_drawn, TX6, 52, rfl⟩
theorem gl_L_87 : Cond.methodLink RL 87 yX5_chance ∈ gw := gw_in (List.mem_append_right _ (List.mem_of_getElem? (i := 632) (by decide +kernel))) (by decide +kernel)
theorem lm_L_87 : LM RL 87 yX5_chance := Or.inl gl_L_87
theorem gc_yX5_chance : Cond.code yX5_chance cX5_chance 7 (some .long) ∈ gw := gw_in (List.mem_append_right _ (List.mem_of_getElem? (i := 635) (by decide +kernel))) (by decide +kernel)
theorem gm_yX5_chance : Cond.instanceMethod yX5_chance ∈ gw := gw_in (List.mem_append_right _ (List.mem_of_getElem? (i := 633) (by decide +kernel))) (by decide +kernel)
theorem gs_yX5_chance : Cond.selects RX5 yX5_chance yX5_chance ∈ gw := gw_in (List.mem_append_right _ (List.mem_of_getElem? (i := 634) (by decide +kernel))) (by decide +kernel)
theorem mv_X5_chance : MV mX5_chance 5 3 := ⟨⟨gc_yX5_chance, gi_FirstOne, ⟨by decide, by decide⟩, by decide +kernel, by decide⟩, gm_yX5_chance, gs_yX5_chance, TX5, 7, rfl⟩
theorem gl_L_91 : Cond.methodLink RL 91 yX6_chance ∈ gw := gw_in (List.mem_append_right _ (List.mem_of_getElem? (i := 1121) (by decide +kernel))) (by decide +kernel)
theorem lm_L_91 : LM RL 91 yX6_chance := Or.inl gl_L_91
theorem gc_yX6_chance : Cond.code yX6_chance cX6_chance 13 (some .long) ∈ gw := gw_in (List.mem_append_right _ (List.mem_of_getElem? (i := 1124) (by decide +kernel))) (by decide +kernel)
theorem gm_yX6_chance : Cond.instanceMethod yX6_chance ∈ gw := gw_in (List.mem_append_right _ (List.mem_of_getElem? (i := 1122) (by decide +kernel))) (by decide +kernel)
theorem gs_yX6_chance : Cond.selects RX6 yX6_chance yX6_chance ∈ gw := gw_in (List.mem_append_right _ (List.mem_of_getElem? (i := 1123) (by decide +kernel))) (by decide +kernel)
theorem mv_X6_chance : MV mX6_chance 6 3 := ⟨⟨gc_yX6_chance, gi_FirstOneModel, ⟨by decide, by decide⟩, by decide +kernel, by decide⟩, gm_yX6_chance, gs_yX6_chance, TX6, 52, rfl⟩
theorem gl_L_92 : Cond.methodLink RL 92 yX5_image ∈ gw := gw_in (List.mem_append_right _ (List.mem_of_getElem? (i := 639) (by decide +kernel))) (by decide +kernel)
theorem lm_L_92 : LM RL 92 yX5_image := Or.inl gl_L_92
theorem gc_yX5_image : Cond.code yX5_image cX5_image 1 (some .int) ∈ gw := gw_in (List.mem_append_right _ (List.mem_of_getElem? (i := 642) (by decide +kernel))) (by decide +kernel)
theorem gm_yX5_image : Cond.instanceMethod yX5_image ∈ gw := gw_in (List.mem_append_right _ (List.mem_of_getElem? (i := 640) (by decide +kernel))) (by decide +kernel)
theorem gs_yX5_image : Cond.selects RX5 yX5_image yX5_image ∈ gw := gw_in (List.mem_append_right _ (List.mem_of_getElem? (i := 641) (by decide +kernel))) (by decide +kernel)
theorem mv_X5_image : MV mX5_image 5 0 := ⟨⟨gc_yX5_image, gi_FirstOne, ⟨by decide, by decide⟩, by decide +kernel, by decide⟩, gm_yX5_image, gs_yX5_image, TX5, 7, rfl⟩
theorem gl_L_95 : Cond.methodLink RL 95 yX6_image ∈ gw := gw_in (List.mem_append_right _ (List.mem_of_getElem? (i := 1125) (by decide +kernel))) (by decide +kernel)
theorem lm_L_95 : LM RL 95 yX6_image := Or.inl gl_L_95
theorem gc_yX6_image : Cond.code yX6_image cX6_image 2 (some .int) ∈ gw := gw_in (List.mem_append_right _ (List.mem_of_getElem? (i := 1128) (by decide +kernel))) (by decide +kernel)
theorem gm_yX6_image : Cond.instanceMethod yX6_image ∈ gw := gw_in (List.mem_append_right _ (List.mem_of_getElem? (i := 1126) (by decide +kernel))) (by decide +kernel)
theorem gs_yX6_image : Cond.selects RX6 yX6_image yX6_image ∈ gw := gw_in (List.mem_append_right _ (List.mem_of_getElem? (i := 1127) (by decide +kernel))) (by decide +kernel)
theorem mv_X6_image : MV mX6_image 6 0 := ⟨⟨gc_yX6_image, gi_FirstOneModel, ⟨by decide, by decide⟩, by decide +kernel, by decide⟩, gm_yX6_image, gs_yX6_image, TX6, 52, rfl⟩
theorem gl_L_96 : Cond.methodLink RL 96 yX5_back ∈ gw := gw_in (List.mem_append_right _ (List.mem_of_getElem? (i := 647) (by decide +kernel))) (by decide +kernel)
theorem lm_L_96 : LM RL 96 yX5_back := Or.inl gl_L_96
theorem gc_yX5_back : Cond.code yX5_back cX5_back 1 (some .int) ∈ gw := gw_in (List.mem_append_right _ (List.mem_of_getElem? (i := 650) (by decide +kernel))) (by decide +kernel)
theorem gm_yX5_back : Cond.instanceMethod yX5_back ∈ gw := gw_in (List.mem_append_right _ (List.mem_of_getElem? (i := 648) (by decide +kernel))) (by decide +kernel)
theorem gs_yX5_back : Cond.selects RX5 yX5_back yX5_back ∈ gw := gw_in (List.mem_append_right _ (List.mem_of_getElem? (i := 649) (by decide +kernel))) (by decide +kernel)
theorem mv_X5_back : MV mX5_back 5 0 := ⟨⟨gc_yX5_back, gi_FirstOne, ⟨by decide, by decide⟩, by decide +kernel, by decide⟩, gm_yX5_back, gs_yX5_back, TX5, 7, rfl⟩
theorem gl_L_99 : Cond.methodLink RL 99 yX6_back ∈ gw := gw_in (List.mem_append_right _ (List.mem_of_getElem? (i := 1129) (by decide +kernel))) (by decide +kernel)
theorem lm_L_99 : LM RL 99 yX6_back := Or.inl gl_L_99
theorem gc_yX6_back : Cond.code yX6_back cX6_back 2 (some .int) ∈ gw := gw_in (List.mem_append_right _ (List.mem_of_getElem? (i := 1132) (by decide +kernel))) (by decide +kernel)
theorem gm_yX6_back : Cond.instanceMethod yX6_back ∈ gw := gw_in (List.mem_append_right _ (List.mem_of_getElem? (i := 1130) (by decide +kernel))) (by decide +kernel)
theorem gs_yX6_back : Cond.selects RX6 yX6_back yX6_back ∈ gw := gw_in (List.mem_append_right _ (List.mem_of_getElem? (i := 1131) (by decide +kernel))) (by decide +kernel)
theorem mv_X6_back : MV mX6_back 6 0 := ⟨⟨gc_yX6_back, gi_FirstOneModel, ⟨by decide, by decide⟩, by decide +kernel, by decide⟩, gm_yX6_back, gs_yX6_back, TX6, 52, rfl⟩
theorem gl_L_100 : Cond.methodLink RL 100 yX5_count ∈ gw := gw_in (List.mem_append_right _ (List.mem_of_getElem? (i := 651) (by decide +kernel))) (by decide +kernel)
theorem lm_L_100 : LM RL 100 yX5_count := Or.inl gl_L_100
theorem gc_yX5_count : Cond.code yX5_count cX5_count 2 (some .int) ∈ gw := gw_in (List.mem_append_right _ (List.mem_of_getElem? (i := 654) (by decide +kernel))) (by decide +kernel)
theorem gm_yX5_count : Cond.instanceMethod yX5_count ∈ gw := gw_in (List.mem_append_right _ (List.mem_of_getElem? (i := 652) (by decide +kernel))) (by decide +kernel)
theorem gs_yX5_count : Cond.selects RX5 yX5_count yX5_count ∈ gw := gw_in (List.mem_append_right _ (List.mem_of_getElem? (i := 653) (by decide +kernel))) (by decide +kernel)
theorem mv_X5_count : MV mX5_count 5 1 := ⟨⟨gc_yX5_count, gi_FirstOne, ⟨by decide, by decide⟩, by decide +kernel, by decide⟩, gm_yX5_count, gs_yX5_count, TX5, 7, rfl⟩
theorem gl_L_103 : Cond.methodLink RL 103 yX6_count ∈ gw := gw_in (List.mem_append_right _ (List.mem_of_getElem? (i := 1133) (by decide +kernel))) (by decide +kernel)
theorem lm_L_103 : LM RL 103 yX6_count := Or.inl gl_L_103
theorem gc_yX6_count : Cond.code yX6_count cX6_count 4 (some .int) ∈ gw := gw_in (List.mem_append_right _ (List.mem_of_getElem? (i := 1136) (by decide +kernel))) (by decide +kernel)
theorem gm_yX6_count : Cond.instanceMethod yX6_count ∈ gw := gw_in (List.mem_append_right _ (List.mem_of_getElem? (i := 1134) (by decide +kernel))) (by decide +kernel)
theorem gs_yX6_count : Cond.selects RX6 yX6_count yX6_count ∈ gw := gw_in (List.mem_append_right _ (List.mem_of_getElem? (i := 1135) (by decide +kernel))) (by decide +kernel)
theorem mv_X6_count : MV mX6_count 6 1 := ⟨⟨gc_yX6_count, gi_FirstOneModel, ⟨by decide, by decide⟩, by decide +kernel, by decide⟩, gm_yX6_count, gs_yX6_count, TX6, 52, rfl⟩
theorem gl_L_104 : Cond.methodLink RL 104 yX5_sheet ∈ gw := gw_in (List.mem_append_right _ (List.mem_of_getElem? (i := 659) (by decide +kernel))) (by decide +kernel)
theorem lm_L_104 : LM RL 104 yX5_sheet := Or.inl gl_L_104
theorem gc_yX5_sheet : Cond.code yX5_sheet cX5_sheet 4 (some .int) ∈ gw := gw_in (List.mem_append_right _ (List.mem_of_getElem? (i := 662) (by decide +kernel))) (by decide +kernel)
theorem gm_yX5_sheet : Cond.instanceMethod yX5_sheet ∈ gw := gw_in (List.mem_append_right _ (List.mem_of_getElem? (i := 660) (by decide +kernel))) (by decide +kernel)
theorem gs_yX5_sheet : Cond.selects RX5 yX5_sheet yX5_sheet ∈ gw := gw_in (List.mem_append_right _ (List.mem_of_getElem? (i := 661) (by decide +kernel))) (by decide +kernel)
theorem mv_X5_sheet : MV mX5_sheet 5 3 := ⟨⟨gc_yX5_sheet, gi_FirstOne, ⟨by decide, by decide⟩, by decide +kernel, by decide⟩, gm_yX5_sheet, gs_yX5_sheet, TX5, 7, rfl⟩
theorem gl_L_107 : Cond.methodLink RL 107 yX6_sheet ∈ gw := gw_in (List.mem_append_right _ (List.mem_of_getElem? (i := 1138) (by decide +kernel))) (by decide +kernel)
theorem lm_L_107 : LM RL 107 yX6_sheet := Or.inl gl_L_107
theorem gl_L_108 : Cond.methodLink RL 108 yX5_cell ∈ gw := gw_in (List.mem_append_right _ (List.mem_of_getElem? (i := 663) (by decide +kernel))) (by decide +kernel)
theorem lm_L_108 : LM RL 108 yX5_cell := Or.inl gl_L_108
theorem gc_yX5_cell : Cond.code yX5_cell cX5_cell 4 (some .int) ∈ gw := gw_in (List.mem_append_right _ (List.mem_of_getElem? (i := 666) (by decide +kernel))) (by decide +kernel)
theorem gm_yX5_cell : Cond.instanceMethod yX5_cell ∈ gw := gw_in (List.mem_append_right _ (List.mem_of_getElem? (i := 664) (by decide +kernel))) (by decide +kernel)
theorem gs_yX5_cell : Cond.selects RX5 yX5_cell yX5_cell ∈ gw := gw_in (List.mem_append_right _ (List.mem_of_getElem? (i := 665) (by decide +kernel))) (by decide +kernel)
theorem mv_X5_cell : MV mX5_cell 5 3 := ⟨⟨gc_yX5_cell, gi_FirstOne, ⟨by decide, by decide⟩, by decide +kernel, by decide⟩, gm_yX5_cell, gs_yX5_cell, TX5, 7, rfl⟩
theorem gl_L_111 : Cond.methodLink RL 111 yX6_cell ∈ gw := gw_in (List.mem_append_right _ (List.mem_of_getElem? (i := 1139) (by decide +kernel))) (by decide +kernel)
theorem lm_L_111 : LM RL 111 yX6_cell := Or.inl gl_L_111
theorem gc_yX6_cell : Cond.code yX6_cell cX6_cell 4 (some .int) ∈ gw := gw_in (List.mem_append_right _ (List.mem_of_getElem? (i := 1142) (by decide +kernel))) (by decide +kernel)
theorem gm_yX6_cell : Cond.instanceMethod yX6_cell ∈ gw := gw_in (List.mem_append_right _ (List.mem_of_getElem? (i := 1140) (by decide +kernel))) (by decide +kernel)
theorem gs_yX6_cell : Cond.selects RX6 yX6_cell yX6_cell ∈ gw := gw_in (List.mem_append_right _ (List.mem_of_getElem? (i := 1141) (by decide +kernel))) (by decide +kernel)
theorem mv_X6_cell : MV mX6_cell 6 3 := ⟨⟨gc_yX6_cell, gi_FirstOneModel, ⟨by decide, by decide⟩, by decide +kernel, by decide⟩, gm_yX6_cell, gs_yX6_cell, TX6, 52, rfl⟩
theorem gl_L_112 : Cond.methodLink RL 112 yX5_copy ∈ gw := gw_in (List.mem_append_right _ (List.mem_of_getElem? (i := 667) (by decide +kernel))) (by decide +kernel)
theorem lm_L_112 : LM RL 112 yX5_copy := Or.inl gl_L_112
theorem gc_yX5_copy : Cond.code yX5_copy cX5_copy 6 (some .int) ∈ gw := gw_in (List.mem_append_right _ (List.mem_of_getElem? (i := 670) (by decide +kernel))) (by decide +kernel)
theorem gm_yX5_copy : Cond.instanceMethod yX5_copy ∈ gw := gw_in (List.mem_append_right _ (List.mem_of_getElem? (i := 668) (by decide +kernel))) (by decide +kernel)
theorem gs_yX5_copy : Cond.selects RX5 yX5_copy yX5_copy ∈ gw := gw_in (List.mem_append_right _ (List.mem_of_getElem? (i := 669) (by decide +kernel))) (by decide +kernel)
theorem mv_X5_copy : MV mX5_copy 5 5 := ⟨⟨gc_yX5_copy, gi_FirstOne, ⟨by decide, by decide⟩, by decide +kernel, by decide⟩, gm_yX5_copy, gs_yX5_copy, TX5, 7, rfl⟩
theorem gl_L_116 : Cond.methodLink RL 116 yX6_copy ∈ gw := gw_in (List.mem_append_right _ (List.mem_of_getElem? (i := 1143) (by decide +kernel))) (by decide +kernel)
theorem lm_L_116 : LM RL 116 yX6_copy := Or.inl gl_L_116
theorem gc_yX6_copy : Cond.code yX6_copy cX6_copy 9 (some .int) ∈ gw := gw_in (List.mem_append_right _ (List.mem_of_getElem? (i := 1146) (by decide +kernel))) (by decide +kernel)
theorem gm_yX6_copy : Cond.instanceMethod yX6_copy ∈ gw := gw_in (List.mem_append_right _ (List.mem_of_getElem? (i := 1144) (by decide +kernel))) (by decide +kernel)
theorem gs_yX6_copy : Cond.selects RX6 yX6_copy yX6_copy ∈ gw := gw_in (List.mem_append_right _ (List.mem_of_getElem? (i := 1145) (by decide +kernel))) (by decide +kernel)
theorem mv_X6_copy : MV mX6_copy 6 5 := ⟨⟨gc_yX6_copy, gi_FirstOneModel, ⟨by decide, by decide⟩, by decide +kernel, by decide⟩, gm_yX6_copy, gs_yX6_copy, TX6, 52, rfl⟩
theorem gl_L_117 : Cond.methodLink RL 117 yX5_eaters ∈ gw := gw_in (List.mem_append_right _ (List.mem_of_getElem? (i := 683) (by decide +kernel))) (by decide +kernel)
theorem lm_L_117 : LM RL 117 yX5_eaters := Or.inl gl_L_117
theorem gc_yX5_eaters : Cond.code yX5_eaters cX5_eaters 10 (some .int) ∈ gw := gw_in (List.mem_append_right _ (List.mem_of_getElem? (i := 686) (by decide +kernel))) (by decide +kernel)
theorem gm_yX5_eaters : Cond.instanceMethod yX5_eaters ∈ gw := gw_in (List.mem_append_right _ (List.mem_of_getElem? (i := 684) (by decide +kernel))) (by decide +kernel)
theorem gs_yX5_eaters : Cond.selects RX5 yX5_eaters yX5_eaters ∈ gw := gw_in (List.mem_append_right _ (List.mem_of_getElem? (i := 685) (by decide +kernel))) (by decide +kernel)
theorem mv_X5_eaters : MV mX5_eaters 5 4 := ⟨⟨gc_yX5_eaters, gi_FirstOne, ⟨by decide, by decide⟩, by decide +kernel, by decide⟩, gm_yX5_eaters, gs_yX5_eaters, TX5, 7, rfl⟩
theorem gl_L_121 : Cond.methodLink RL 121 yX6_eaters ∈ gw := gw_in (List.mem_append_right _ (List.mem_of_getElem? (i := 1147) (by decide +kernel))) (by decide +kernel)
theorem lm_L_121 : LM RL 121 yX6_eaters := Or.inl gl_L_121
theorem gc_yX6_eaters : Cond.code yX6_eaters cX6_eaters 8 (some .int) ∈ gw := gw_in (List.mem_append_right _ (List.mem_of_getElem? (i := 1150) (by decide +kernel))) (by decide +kernel)
theorem gm_yX6_eaters : Cond.instanceMethod yX6_eaters ∈ gw := gw_in (List.mem_append_right _ (List.mem_of_getElem? (i := 1148) (by decide +kernel))) (by decide +kernel)
theorem gs_yX6_eaters : Cond.selects RX6 yX6_eaters yX6_eaters ∈ gw := gw_in (List.mem_append_right _ (List.mem_of_getElem? (i := 1149) (by decide +kernel))) (by decide +kernel)
theorem mv_X6_eaters : MV mX6_eaters 6 4 := ⟨⟨gc_yX6_eaters, gi_FirstOneModel, ⟨by decide, by decide⟩, by decide +kernel, by decide⟩, gm_yX6_eaters, gs_yX6_eaters, TX6, 52, rfl⟩
theorem gl_L_122 : Cond.methodLink RL 122 yX5_taken ∈ gw := gw_in (List.mem_append_right _ (List.mem_of_getElem? (i := 687) (by decide +kernel))) (by decide +kernel)
theorem lm_L_122 : LM RL 122 yX5_taken := Or.inl gl_L_122
theorem gc_yX5_taken : Cond.code yX5_taken cX5_taken 3 (some .int) ∈ gw := gw_in (List.mem_append_right _ (List.mem_of_getElem? (i := 690) (by decide +kernel))) (by decide +kernel)
theorem gm_yX5_taken : Cond.instanceMethod yX5_taken ∈ gw := gw_in (List.mem_append_right _ (List.mem_of_getElem? (i := 688) (by decide +kernel))) (by decide +kernel)
theorem gs_yX5_taken : Cond.selects RX5 yX5_taken yX5_taken ∈ gw := gw_in (List.mem_append_right _ (List.mem_of_getElem? (i := 689) (by decide +kernel))) (by decide +kernel)
theorem mv_X5_taken : MV mX5_taken 5 2 := ⟨⟨gc_yX5_taken, gi_FirstOne, ⟨by decide, by decide⟩, by decide +kernel, by decide⟩, gm_yX5_taken, gs_yX5_taken, TX5, 7, rfl⟩
theorem gl_L_125 : Cond.methodLink RL 125 yX6_taken ∈ gw := gw_in (List.mem_append_right _ (List.mem_of_getElem? (i := 1152) (by decide +kernel))) (by decide +kernel)
theorem lm_L_125 : LM RL 125 yX6_taken := Or.inl gl_L_125
theorem gc_yX6_taken : Cond.code yX6_taken cX6_taken 4 (some .int) ∈ gw := gw_in (List.mem_append_right _ (List.mem_of_getElem? (i := 1155) (by decide +kernel))) (by decide +kernel)
theorem gm_yX6_taken : Cond.instanceMethod yX6_taken ∈ gw := gw_in (List.mem_append_right _ (List.mem_of_getElem? (i := 1153) (by decide +kernel))) (by decide +kernel)
theorem gs_yX6_taken : Cond.selects RX6 yX6_taken yX6_taken ∈ gw := gw_in (List.mem_append_right _ (List.mem_of_getElem? (i := 1154) (by decide +kernel))) (by decide +kernel)
theorem mv_X6_taken : MV mX6_taken 6 2 := ⟨⟨gc_yX6_taken, gi_FirstOneModel, ⟨by decide, by decide⟩, by decide +kernel, by decide⟩, gm_yX6_taken, gs_yX6_taken, TX6, 52, rfl⟩
theorem gc_yJ0_coder_7d493 : Cond.code yJ0_coder_7d493 cJ0_coder_7d493 1 (some .byte) ∈ gw := gw_in (List.mem_append_right _ (List.mem_of_getElem? (i := 226) (by decide +kernel))) (by decide +kernel)
theorem gi_java_lang_String : Cond.initialized RJ0 ∈ gw := gw_in (List.mem_append_right _ (List.mem_of_getElem? (i := 7) (by decide +kernel))) (by decide +kernel)
abbrev mJ0_coder_7d493 : wn_M := (yJ0_coder_7d493, cJ0_coder_7d493, 1, (some .byte))
theorem gm_yJ0_coder_7d493 : Cond.instanceMethod yJ0_coder_7d493 ∈ gw := gw_in (List.mem_append_right _ (List.mem_of_getElem? (i := 224) (by decide +kernel))) (by decide +kernel)
theorem gs_yJ0_coder_7d493 : Cond.selects RJ0 yJ0_coder_7d493 yJ0_coder_7d493 ∈ gw := gw_in (List.mem_append_right _ (List.mem_of_getElem? (i := 225) (by decide +kernel))) (by decide +kernel)
theorem mk_J0_coder_7d493 : MO mJ0_coder_7d493 0 ∧ Cond.instanceMethod yJ0_coder_7d493 ∈ gw ∧ Cond.selects yJ0_coder_7d493.cls yJ0_coder_7d493 yJ0_coder_7d493 ∈ gw ∧ yJ0_coder_7d493.cls = "java/lang/String" := ⟨⟨gc_yJ0_coder_7d493, gi_java_lang_String, ⟨by decide, by decide⟩, by decide +kernel, by decide⟩, gm_yJ0_coder_7d493, gs_yJ0_coder_7d493, rfl⟩
theorem gc_yJ0_isLatin1_aae02 : Cond.code yJ0_isLatin1_aae02 cJ0_isLatin1_aae02 1 (some .boolean) ∈ gw := gw_in (List.mem_append_right _ (List.mem_of_getElem? (i := 236) (by decide +kernel))) (by decide +kernel)
abbrev mJ0_isLatin1_aae02 : wn_M := (yJ0_isLatin1_aae02, cJ0_isLatin1_aae02, 1, (some .boolean))
theorem gm_yJ0_isLatin1_aae02 : Cond.instanceMethod yJ0_isLatin1_aae02 ∈ gw := gw_in (List.mem_append_right _ (List.mem_of_getElem? (i := 234) (by decide +kernel))) (by decide +kernel)
theorem gs_yJ0_isLatin1_aae02 : Cond.selects RJ0 yJ0_isLatin1_aae02 yJ0_isLatin1_aae02 ∈ gw := gw_in (List.mem_append_right _ (List.mem_of_getElem? (i := 235) (by decide +kernel))) (by decide +kernel)
theorem mk_J0_isLatin1_aae02 : MO mJ0_isLatin1_aae02 0 ∧ Cond.instanceMethod yJ0_isLatin1_aae02 ∈ gw ∧ Cond.selects yJ0_isLatin1_aae02.cls yJ0_isLatin1_aae02 yJ0_isLatin1_aae02 ∈ gw ∧ yJ0_isLatin1_aae02.cls = "java/lang/String" := ⟨⟨gc_yJ0_isLatin1_aae02, gi_java_lang_String, ⟨by decide, by decide⟩, by decide +kernel, by decide⟩, gm_yJ0_isLatin1_aae02, gs_yJ0_isLatin1_aae02, rfl⟩
theorem gc_yJ0_length_8abf5 : Cond.code yJ0_length_8abf5 cJ0_length_8abf5 1 (some .int) ∈ gw := gw_in (List.mem_append_right _ (List.mem_of_getElem? (i := 222) (by decide +kernel))) (by decide +kernel)
abbrev mJ0_length_8abf5 : wn_M := (yJ0_length_8abf5, cJ0_length_8abf5, 1, (some .int))
theorem gm_yJ0_length_8abf5 : Cond.instanceMethod yJ0_length_8abf5 ∈ gw := gw_in (List.mem_append_right _ (List.mem_of_getElem? (i := 220) (by decide +kernel))) (by decide +kernel)
theorem gs_yJ0_length_8abf5 : Cond.selects RJ0 yJ0_length_8abf5 yJ0_length_8abf5 ∈ gw := gw_in (List.mem_append_right _ (List.mem_of_getElem? (i := 221) (by decide +kernel))) (by decide +kernel)
theorem mk_J0_length_8abf5 : MO mJ0_length_8abf5 0 ∧ Cond.instanceMethod yJ0_length_8abf5 ∈ gw ∧ Cond.selects yJ0_length_8abf5.cls yJ0_length_8abf5 yJ0_length_8abf5 ∈ gw ∧ yJ0_length_8abf5.cls = "java/lang/String" := ⟨⟨gc_yJ0_length_8abf5, gi_java_lang_String, ⟨by decide, by decide⟩, by decide +kernel, by decide⟩, gm_yJ0_length_8abf5, gs_yJ0_length_8abf5, rfl⟩
theorem gc_yJ0_charAt_5068e : Cond.code yJ0_charAt_5068e cJ0_charAt_5068e 2 (some .char) ∈ gw := gw_in (List.mem_append_right _ (List.mem_of_getElem? (i := 232) (by decide +kernel))) (by decide +kernel)
abbrev mJ0_charAt_5068e : wn_M := (yJ0_charAt_5068e, cJ0_charAt_5068e, 2, (some .char))
theorem gm_yJ0_charAt_5068e : Cond.instanceMethod yJ0_charAt_5068e ∈ gw := gw_in (List.mem_append_right _ (List.mem_of_getElem? (i := 230) (by decide +kernel))) (by decide +kernel)
theorem gs_yJ0_charAt_5068e : Cond.selects RJ0 yJ0_charAt_5068e yJ0_charAt_5068e ∈ gw := gw_in (List.mem_append_right _ (List.mem_of_getElem? (i := 231) (by decide +kernel))) (by decide +kernel)
theorem mk_J0_charAt_5068e : MO mJ0_charAt_5068e 1 ∧ Cond.instanceMethod yJ0_charAt_5068e ∈ gw ∧ Cond.selects yJ0_charAt_5068e.cls yJ0_charAt_5068e yJ0_charAt_5068e ∈ gw ∧ yJ0_charAt_5068e.cls = "java/lang/String" := ⟨⟨gc_yJ0_charAt_5068e, gi_java_lang_String, ⟨by decide, by decide⟩, by decide +kernel, by decide⟩, gm_yJ0_charAt_5068e, gs_yJ0_charAt_5068e, rfl⟩
abbrev mJ0_checkIndex_df160 : wn_M := (yJ0_checkIndex_df160, cJ0_checkIndex_df160, 2, none)
theorem gc_yJ0_checkIndex_df160 : Cond.code yJ0_checkIndex_df160 cJ0_checkIndex_df160 2 none ∈ gw := gw_in (List.mem_append_right _ (List.mem_of_getElem? (i := 242) (by decide +kernel))) (by decide +kernel)
theorem gt_yJ0_checkIndex_df160 : Cond.static yJ0_checkIndex_df160 ∈ gw := gw_in (List.mem_append_right _ (List.mem_of_getElem? (i := 241) (by decide +kernel))) (by decide +kernel)
theorem mst_J0_checkIndex_df160 : MS mJ0_checkIndex_df160 2 := ⟨⟨gc_yJ0_checkIndex_df160, gi_java_lang_String, ⟨by decide, by decide⟩, by decide +kernel, by decide⟩, gt_yJ0_checkIndex_df160⟩
abbrev mJ1_charAt_3b067 : wn_M := (yJ1_charAt_3b067, cJ1_charAt_3b067, 2, (some .char))
theorem gc_yJ1_charAt_3b067 : Cond.code yJ1_charAt_3b067 cJ1_charAt_3b067 2 (some .char) ∈ gw := gw_in (List.mem_append_right _ (List.mem_of_getElem? (i := 239) (by decide +kernel))) (by decide +kernel)
theorem gi_java_lang_StringLatin1 : Cond.initialized RJ1 ∈ gw := gw_in (List.mem_append_right _ (List.mem_of_getElem? (i := 8) (by decide +kernel))) (by decide +kernel)
theorem gt_yJ1_charAt_3b067 : Cond.static yJ1_charAt_3b067 ∈ gw := gw_in (List.mem_append_right _ (List.mem_of_getElem? (i := 238) (by decide +kernel))) (by decide +kernel)
theorem mst_J1_charAt_3b067 : MS mJ1_charAt_3b067 2 := ⟨⟨gc_yJ1_charAt_3b067, gi_java_lang_StringLatin1, ⟨by decide, by decide⟩, by decide +kernel, by decide⟩, gt_yJ1_charAt_3b067⟩
abbrev mJ3_checkIndex_8e157 : wn_M := (yJ3_checkIndex_8e157, cJ3_checkIndex_8e157, 3, (some .int))
theorem gc_yJ3_checkIndex_8e157 : Cond.code yJ3_checkIndex_8e157 cJ3_checkIndex_8e157 3 (some .int) ∈ gw := gw_in (List.mem_append_right _ (List.mem_of_getElem? (i := 247) (by decide +kernel))) (by decide +kernel)
theorem gi_jdk_internal_util_Preconditions : Cond.initialized RJ3 ∈ gw := gw_in (List.mem_append_right _ (List.mem_of_getElem? (i := 9) (by decide +kernel))) (by decide +kernel)
theorem gt_yJ3_checkIndex_8e157 : Cond.static yJ3_checkIndex_8e157 ∈ gw := gw_in (List.mem_append_right _ (List.mem_of_getElem? (i := 246) (by decide +kernel))) (by decide +kernel)
theorem mst_J3_checkIndex_8e157 : MS mJ3_checkIndex_8e157 3 := ⟨⟨gc_yJ3_checkIndex_8e157, gi_jdk_internal_util_Preconditions, ⟨by decide, by decide⟩, by decide +kernel, by decide⟩, gt_yJ3_checkIndex_8e157⟩
theorem gl_J0_335 : Cond.methodLink RJ0 335 yJ0_coder_7d493 ∈ gw := gw_in (List.mem_append_right _ (List.mem_of_getElem? (i := 223) (by decide +kernel))) (by decide +kernel)
theorem lm_J0_335 : LM RJ0 335 yJ0_coder_7d493 := Or.inl gl_J0_335
theorem gl_J0_492 : Cond.methodLink RJ0 492 yJ0_isLatin1_aae02 ∈ gw := gw_in (List.mem_append_right _ (List.mem_of_getElem? (i := 233) (by decide +kernel))) (by decide +kernel)
theorem lm_J0_492 : LM RJ0 492 yJ0_isLatin1_aae02 := Or.inl gl_J0_492
theorem gl_J0_495 : Cond.methodLink RJ0 495 yJ1_charAt_3b067 ∈ gw := gw_in (List.mem_append_right _ (List.mem_of_getElem? (i := 237) (by decide +kernel))) (by decide +kernel)
theorem lm_J0_495 : LM RJ0 495 yJ1_charAt_3b067 := Or.inl gl_J0_495
theorem gl_J0_1059 : Cond.methodLink RJ0 1059 yJ3_checkIndex_8e157 ∈ gw := gw_in (List.mem_append_right _ (List.mem_of_getElem? (i := 245) (by decide +kernel))) (by decide +kernel)
theorem lm_J0_1059 : LM RJ0 1059 yJ3_checkIndex_8e157 := Or.inl gl_J0_1059
theorem gl_J1_9 : Cond.methodLink RJ1 9 yJ0_checkIndex_df160 ∈ gw := gw_in (List.mem_append_right _ (List.mem_of_getElem? (i := 240) (by decide +kernel))) (by decide +kernel)
theorem lm_J1_9 : LM RJ1 9 yJ0_checkIndex_df160 := Or.inl gl_J1_9
theorem gf_J0_38 : Cond.fieldLink RJ0 38 "java/lang/String" "COMPACT_STRINGS" "Z" ∈ gw := gw_in (List.mem_append_right _ (List.mem_of_getElem? (i := 227) (by decide +kernel))) (by decide +kernel)
theorem gf_J0_15 : Cond.fieldLink RJ0 15 "java/lang/String" "coder" "B" ∈ gw := gw_in (List.mem_append_right _ (List.mem_of_getElem? (i := 1160) (by decide +kernel))) (by decide +kernel)
theorem gf_J0_9 : Cond.fieldLink RJ0 9 "java/lang/String" "value" "[B" ∈ gw := gw_in (List.mem_append_right _ (List.mem_of_getElem? (i := 1159) (by decide +kernel))) (by decide +kernel)
theorem gf_J0_1053 : Cond.fieldLink RJ0 1053 "jdk/internal/util/Preconditions" "SIOOBE_FORMATTER" "Ljava/util/function/BiFunction;" ∈ gw := gw_in (List.mem_append_right _ (List.mem_of_getElem? (i := 243) (by decide +kernel))) (by decide +kernel)
