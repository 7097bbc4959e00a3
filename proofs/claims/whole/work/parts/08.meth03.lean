def f_X2_ofOne (x1 : Int32) (x2 : Int32) (M : Mm) : Option (Int32 × Mm) :=
  bd (f_X3_has_1 x2 M) fun r2 M1 =>
  if r2 = 0 then
    some ((-100000 : Int32), M1)
  else
    if x1 = (1 : Int32) then
      gd (bin x2 5 = true) inferInstance <|
      some ((M1.1 29 (Int32.toNatClampNeg x2)), M1)
    else
      if x1 = (2 : Int32) then
        gd (bin x2 5 = true) inferInstance <|
        some ((M1.1 30 (Int32.toNatClampNeg x2)), M1)
      else
        gd (bin x2 5 = true) inferInstance <|
        some ((M1.1 31 (Int32.toNatClampNeg x2)), M1)
set_option maxRecDepth 100000 in
set_option maxHeartbeats 4000000 in
theorem jf_X2_ofOne {G : wn_G} {ad : Nat → Nat} {X : wn_X} {d : Nat} (O : Ok G RX2 cX2_ofOne 3 d X) (hd0 : 2 ≤ d) (x1 : Int32) (x2 : Int32) (M : Mm) : JW G S1 ad X 0 [(0, .ref (ad 6)), (1, .int x1), (2, .int x2)] [] M (f_X2_ofOne x1 x2 M) (Kri G S1 ad X) := by
  unfold f_X2_ofOne
  refine j_aload_n (pc := 0) O 0 dX2_ofOne_0 rfl ?_
  refine j_getf (pc := 1) (v := .ref (ad 1)) O 6 0 dX2_ofOne_1 fl_X2_36 so_S1_6 rfl rfl ?_
  refine j_iload_n (pc := 4) O 2 dX2_ofOne_4 rfl ?_
  refine j_callVi (pc := 5) (dc := 1) (As := [.int x2]) (rest := []) O 1 (fun r M1 h => sp_X3_has_1 h) dX2_ofOne_5 mv_X3_has lm_X2_155 so_S1_1 rfl rfl (Nat.le_of_ble_eq_true rfl) (Nat.le_trans (Nat.le_of_ble_eq_true rfl) hd0) (fun r2 M1 => ?_)
  refine j_if_ne (pc := 8) (tgt := 14) O dX2_ofOne_8 (by decide) ?_ ?_
  · refine j_ldc (pc := 11) (v := -100000) O dX2_ofOne_11 gk_X2_168 ?_
    exact j_iret (pc := 13) O dX2_ofOne_13
  · refine j_iload_n (pc := 14) O 1 dX2_ofOne_14 rfl ?_
    refine j_iconst (pc := 15) (v := 1) O dX2_ofOne_15 (by decide) ?_
    refine j_icmp_ne (pc := 16) (tgt := 26) O dX2_ofOne_16 (by decide) ?_ ?_
    · refine j_aload_n (pc := 19) O 0 dX2_ofOne_19 rfl ?_
      refine j_getf (pc := 20) (v := .ref (ad 29)) O 6 8 dX2_ofOne_20 fl_X2_24 so_S1_6 rfl rfl ?_
      refine j_iload_n (pc := 23) O 2 dX2_ofOne_23 rfl ?_
      refine j_iald (pc := 24) O 29 dX2_ofOne_24 so_S1_29 ?_
      exact j_iret (pc := 25) O dX2_ofOne_25
    · refine j_iload_n (pc := 26) O 1 dX2_ofOne_26 rfl ?_
      refine j_iconst (pc := 27) (v := 2) O dX2_ofOne_27 (by decide) ?_
      refine j_icmp_ne (pc := 28) (tgt := 40) O dX2_ofOne_28 (by decide) ?_ ?_
      · refine j_aload_n (pc := 31) O 0 dX2_ofOne_31 rfl ?_
        refine j_getf (pc := 32) (v := .ref (ad 30)) O 6 9 dX2_ofOne_32 fl_X2_27 so_S1_6 rfl rfl ?_
        refine j_iload_n (pc := 35) O 2 dX2_ofOne_35 rfl ?_
        refine j_iald (pc := 36) O 30 dX2_ofOne_36 so_S1_30 ?_
        refine j_goto (pc := 37) (tgt := 46) O dX2_ofOne_37 (by decide) ?_
        exact j_iret (pc := 46) O dX2_ofOne_46
      · refine j_aload_n (pc := 40) O 0 dX2_ofOne_40 rfl ?_
        refine j_getf (pc := 41) (v := .ref (ad 31)) O 6 10 dX2_ofOne_41 fl_X2_30 so_S1_6 rfl rfl ?_
        refine j_iload_n (pc := 44) O 2 dX2_ofOne_44 rfl ?_
        refine j_iald (pc := 45) O 31 dX2_ofOne_45 so_S1_31 ?_
        exact j_iret (pc := 46) O dX2_ofOne_46
theorem sp_X2_ofOne {G : wn_G} {ad : Nat → Nat} {x1 : Int32} {x2 : Int32} {M : Mm} {r : Int32} {M1 : Mm} (h : f_X2_ofOne x1 x2 M = some (r, M1)) : Sp G S1 ad mX2_ofOne 2 [.ref (ad 6), .int x1, .int x2] M M1 (some (.int r)) :=
  sp_intro (own := RX2) (by decide +kernel) rfl (Nat.le_of_ble_eq_true rfl) (fun X O T => jf_X2_ofOne O (Nat.le_refl _) x1 x2 M (r, M1) h T)
def f_X2_answer (x1 : Int32) (M : Mm) : Option (Int32 × Mm) :=
  bi x1 fun y1 => swc y1 [
((0 : Int32),
    some ((M.1 6 12), M)),
((1 : Int32),
    some ((M.1 6 13), M)),
((2 : Int32),
    some ((M.1 6 14), M)),
((3 : Int32),
    some ((M.1 6 15), M))] (
    gd (¬ (10 : Int32) = 0) inferInstance <|
    gd (¬ (10 : Int32) = 0) inferInstance <|
    bd (f_X2_ofOne (x1 / (10 : Int32)) (irm x1 (10 : Int32)) M) fun r3 M2 =>
    some (r3, M2))
set_option maxRecDepth 100000 in
set_option maxHeartbeats 4000000 in
theorem jf_X2_answer {G : wn_G} {ad : Nat → Nat} {X : wn_X} {d : Nat} (O : Ok G RX2 cX2_answer 2 d X) (hd0 : 3 ≤ d) (x1 : Int32) (M : Mm) : JW G S1 ad X 0 [(0, .ref (ad 6)), (1, .int x1)] [] M (f_X2_answer x1 M) (Kri G S1 ad X) := by
  unfold f_X2_answer
  refine j_iload_n (pc := 0) O 1 dX2_answer_0 rfl ?_
  refine jw_bi fun y1 => ?_
  refine jw_swc (fun hc => ?_) (fun n0 => ?_)
  · subst hc
    refine j_tin (pc := 1) (tgt := 32) O dX2_answer_1 (by decide) (by decide) rfl (by decide) ?_
    refine j_aload_n (pc := 32) O 0 dX2_answer_32 rfl ?_
    refine j_getf (pc := 33) (v := .int (M.1 6 12)) O 6 12 dX2_answer_33 fl_X2_111 so_S1_6 rfl rfl ?_
    exact j_iret (pc := 36) O dX2_answer_36
  refine jw_swc (fun hc => ?_) (fun n1 => ?_)
  · subst hc
    refine j_tin (pc := 1) (tgt := 37) O dX2_answer_1 (by decide) (by decide) rfl (by decide) ?_
    refine j_aload_n (pc := 37) O 0 dX2_answer_37 rfl ?_
    refine j_getf (pc := 38) (v := .int (M.1 6 13)) O 6 13 dX2_answer_38 fl_X2_114 so_S1_6 rfl rfl ?_
    exact j_iret (pc := 41) O dX2_answer_41
  refine jw_swc (fun hc => ?_) (fun n2 => ?_)
  · subst hc
    refine j_tin (pc := 1) (tgt := 42) O dX2_answer_1 (by decide) (by decide) rfl (by decide) ?_
    refine j_aload_n (pc := 42) O 0 dX2_answer_42 rfl ?_
    refine j_getf (pc := 43) (v := .int (M.1 6 14)) O 6 14 dX2_answer_43 fl_X2_117 so_S1_6 rfl rfl ?_
    exact j_iret (pc := 46) O dX2_answer_46
  refine jw_swc (fun hc => ?_) (fun n3 => ?_)
  · subst hc
    refine j_tin (pc := 1) (tgt := 47) O dX2_answer_1 (by decide) (by decide) rfl (by decide) ?_
    refine j_aload_n (pc := 47) O 0 dX2_answer_47 rfl ?_
    refine j_getf (pc := 48) (v := .int (M.1 6 15)) O 6 15 dX2_answer_48 fl_X2_120 so_S1_6 rfl rfl ?_
    exact j_iret (pc := 51) O dX2_answer_51
  refine jw_swd ?_
  have q0 := lv_neT (a := 0) n0 (by decide)
  have q1 := lv_neT (a := 1) n1 (by decide)
  have q2 := lv_neT (a := 2) n2 (by decide)
  have q3 := lv_neT (a := 3) n3 (by decide)
  refine j_tout (pc := 1) (tgt := 52) O dX2_answer_1 (by omega) (by decide) ?_
  refine j_aload_n (pc := 52) O 0 dX2_answer_52 rfl ?_
  refine j_iload_n (pc := 53) O 1 dX2_answer_53 rfl ?_
  refine j_bipush (pc := 54) (v := 10) O dX2_answer_54 (by decide) ?_
  refine j_idiv (pc := 56) O dX2_answer_56 ?_
  refine j_iload_n (pc := 57) O 1 dX2_answer_57 rfl ?_
  refine j_bipush (pc := 58) (v := 10) O dX2_answer_58 (by decide) ?_
  refine j_irem (pc := 60) O dX2_answer_60 ?_
  refine j_callVi (pc := 61) (dc := 2) (As := [.int (x1 / (10 : Int32)), .int (irm x1 (10 : Int32))]) (rest := []) O 6 (fun r M1 h => sp_X2_ofOne h) dX2_answer_61 mv_X2_ofOne lm_X2_165 so_S1_6 rfl rfl (Nat.le_of_ble_eq_true rfl) (Nat.le_trans (Nat.le_of_ble_eq_true rfl) hd0) (fun r3 M2 => ?_)
  exact j_iret (pc := 64) O dX2_answer_64
theorem sp_X2_answer {G : wn_G} {ad : Nat → Nat} {x1 : Int32} {M : Mm} {r : Int32} {M1 : Mm} (h : f_X2_answer x1 M = some (r, M1)) : Sp G S1 ad mX2_answer 3 [.ref (ad 6), .int x1] M M1 (some (.int r)) :=
  sp_intro (own := RX2) (by decide +kernel) rfl (Nat.le_of_ble_eq_true rfl) (fun X O T => jf_X2_answer O (Nat.le_refl _) x1 M (r, M1) h T)
def f_X1_has (x1 : Int32) (M : Mm) : Option (Int32 × Mm) :=
  if x1 < 0 then
    some (0, M)
  else
    if (4 : Int32) ≤ x1 then
      some (0, M)
    else
      some (1, M)
set_option maxRecDepth 100000 in
set_option maxHeartbeats 4000000 in
theorem jf_X1_has {G : wn_G} {ad : Nat → Nat} {X : wn_X} {d : Nat} (O : Ok G RX1 cX1_has 2 d X) (hd0 : 1 ≤ d) (x1 : Int32) (M : Mm) : JW G S1 ad X 0 [(0, .ref (ad 5)), (1, .int x1)] [] M (f_X1_has x1 M) (Krz G S1 ad X) := by
  unfold f_X1_has
  refine j_iload_n (pc := 0) O 1 dX1_has_0 rfl ?_
  refine j_if_lt (pc := 1) (tgt := 13) O dX1_has_1 (by decide) ?_ ?_
  · refine j_iconst (pc := 13) (v := 0) O dX1_has_13 (by decide) ?_
    exact j_z0 (pc := 14) O dX1_has_14
  · refine j_iload_n (pc := 4) O 1 dX1_has_4 rfl ?_
    refine j_iconst (pc := 5) (v := 4) O dX1_has_5 (by decide) ?_
    refine j_icmp_ge (pc := 6) (tgt := 13) O dX1_has_6 (by decide) ?_ ?_
    · refine j_iconst (pc := 13) (v := 0) O dX1_has_13 (by decide) ?_
      exact j_z0 (pc := 14) O dX1_has_14
    · refine j_iconst (pc := 9) (v := 1) O dX1_has_9 (by decide) ?_
      refine j_goto (pc := 10) (tgt := 14) O dX1_has_10 (by decide) ?_
      exact j_z1 (pc := 14) O dX1_has_14
theorem sp_X1_has {G : wn_G} {ad : Nat → Nat} {x1 : Int32} {M : Mm} {r : Int32} {M1 : Mm} (h : f_X1_has x1 M = some (r, M1)) : Sp G S1 ad mX1_has 1 [.ref (ad 5), .int x1] M M1 (some (.int r)) :=
  sp_intro (own := RX1) (by decide +kernel) rfl (Nat.le_of_ble_eq_true rfl) (fun X O T => jf_X1_has O (Nat.le_refl _) x1 M (r, M1) h T)
def f_X1_isMissing (x1 : Int32) (M : Mm) : Option (Int32 × Mm) :=
  bd (f_X1_has x1 M) fun r2 M1 =>
  if r2 = 0 then
    some (1, M1)
  else
    gd (bin x1 4 = true) inferInstance <|
    if (M1.1 22 (Int32.toNatClampNeg x1)) = (-1 : Int32) then
      some (1, M1)
    else
      some (0, M1)
set_option maxRecDepth 100000 in
set_option maxHeartbeats 4000000 in
theorem jf_X1_isMissing {G : wn_G} {ad : Nat → Nat} {X : wn_X} {d : Nat} (O : Ok G RX1 cX1_isMissing 2 d X) (hd0 : 2 ≤ d) (x1 : Int32) (M : Mm) : JW G S1 ad X 0 [(0, .ref (ad 5)), (1, .int x1)] [] M (f_X1_isMissing x1 M) (Krz G S1 ad X) := by
  unfold f_X1_isMissing
  refine j_aload_n (pc := 0) O 0 dX1_isMissing_0 rfl ?_
  refine j_iload_n (pc := 1) O 1 dX1_isMissing_1 rfl ?_
  refine j_callVi (pc := 2) (dc := 1) (As := [.int x1]) (rest := []) O 5 (fun r M1 h => sp_X1_has h) dX1_isMissing_2 mv_X1_has lm_X1_21 so_S1_5 rfl rfl (Nat.le_of_ble_eq_true rfl) (Nat.le_trans (Nat.le_of_ble_eq_true rfl) hd0) (fun r2 M1 => ?_)
  refine j_if_eq (pc := 5) (tgt := 18) O dX1_isMissing_5 (by decide) ?_ ?_
  · refine j_iconst (pc := 18) (v := 1) O dX1_isMissing_18 (by decide) ?_
    refine j_goto (pc := 19) (tgt := 23) O dX1_isMissing_19 (by decide) ?_
    exact j_z1 (pc := 23) O dX1_isMissing_23
  · refine j_aload_n (pc := 8) O 0 dX1_isMissing_8 rfl ?_
    refine j_getf (pc := 9) (v := .ref (ad 22)) O 5 0 dX1_isMissing_9 fl_X1_9 so_S1_5 rfl rfl ?_
    refine j_iload_n (pc := 12) O 1 dX1_isMissing_12 rfl ?_
    refine j_iald (pc := 13) O 22 dX1_isMissing_13 so_S1_22 ?_
    refine j_iconst (pc := 14) (v := -1) O dX1_isMissing_14 (by decide) ?_
    refine j_icmp_ne (pc := 15) (tgt := 22) O dX1_isMissing_15 (by decide) ?_ ?_
    · refine j_iconst (pc := 18) (v := 1) O dX1_isMissing_18 (by decide) ?_
      refine j_goto (pc := 19) (tgt := 23) O dX1_isMissing_19 (by decide) ?_
      exact j_z1 (pc := 23) O dX1_isMissing_23
    · refine j_iconst (pc := 22) (v := 0) O dX1_isMissing_22 (by decide) ?_
      exact j_z0 (pc := 23) O dX1_isMissing_23
theorem sp_X1_isMissing {G : wn_G} {ad : Nat → Nat} {x1 : Int32} {M : Mm} {r : Int32} {M1 : Mm} (h : f_X1_isMissing x1 M = some (r, M1)) : Sp G S1 ad mX1_isMissing 2 [.ref (ad 5), .int x1] M M1 (some (.int r)) :=
  sp_intro (own := RX1) (by decide +kernel) rfl (Nat.le_of_ble_eq_true rfl) (fun X O T => jf_X1_isMissing O (Nat.le_refl _) x1 M (r, M1) h T)
def f_X1_sizeOf (x1 : Int32) (M : Mm) : Option (Int32 × Mm) :=
  bd (f_X1_has x1 M) fun r2 M1 =>
  if r2 = 0 then
    some ((0 : Int32), M1)
  else
    gd (bin x1 4 = true) inferInstance <|
    some ((M1.1 23 (Int32.toNatClampNeg x1)), M1)
set_option maxRecDepth 100000 in
set_option maxHeartbeats 4000000 in
theorem jf_X1_sizeOf {G : wn_G} {ad : Nat → Nat} {X : wn_X} {d : Nat} (O : Ok G RX1 cX1_sizeOf 2 d X) (hd0 : 2 ≤ d) (x1 : Int32) (M : Mm) : JW G S1 ad X 0 [(0, .ref (ad 5)), (1, .int x1)] [] M (f_X1_sizeOf x1 M) (Kri G S1 ad X) := by
  unfold f_X1_sizeOf
  refine j_aload_n (pc := 0) O 0 dX1_sizeOf_0 rfl ?_
  refine j_iload_n (pc := 1) O 1 dX1_sizeOf_1 rfl ?_
  refine j_callVi (pc := 2) (dc := 1) (As := [.int x1]) (rest := []) O 5 (fun r M1 h => sp_X1_has h) dX1_sizeOf_2 mv_X1_has lm_X1_21 so_S1_5 rfl rfl (Nat.le_of_ble_eq_true rfl) (Nat.le_trans (Nat.le_of_ble_eq_true rfl) hd0) (fun r2 M1 => ?_)
  refine j_if_eq (pc := 5) (tgt := 17) O dX1_sizeOf_5 (by decide) ?_ ?_
  · refine j_iconst (pc := 17) (v := 0) O dX1_sizeOf_17 (by decide) ?_
    exact j_iret (pc := 18) O dX1_sizeOf_18
  · refine j_aload_n (pc := 8) O 0 dX1_sizeOf_8 rfl ?_
    refine j_getf (pc := 9) (v := .ref (ad 23)) O 5 1 dX1_sizeOf_9 fl_X1_15 so_S1_5 rfl rfl ?_
    refine j_iload_n (pc := 12) O 1 dX1_sizeOf_12 rfl ?_
    refine j_iald (pc := 13) O 23 dX1_sizeOf_13 so_S1_23 ?_
    refine j_goto (pc := 14) (tgt := 18) O dX1_sizeOf_14 (by decide) ?_
    exact j_iret (pc := 18) O dX1_sizeOf_18
theorem sp_X1_sizeOf {G : wn_G} {ad : Nat → Nat} {x1 : Int32} {M : Mm} {r : Int32} {M1 : Mm} (h : f_X1_sizeOf x1 M = some (r, M1)) : Sp G S1 ad mX1_sizeOf 2 [.ref (ad 5), .int x1] M M1 (some (.int r)) :=
  sp_intro (own := RX1) (by decide +kernel) rfl (Nat.le_of_ble_eq_true rfl) (fun X O T => jf_X1_sizeOf O (Nat.le_refl _) x1 M (r, M1) h T)
def f_X1_spans (x1 : Int32) (x2 : Int32) (x3 : Int32) (M : Mm) : Option (Int32 × Mm) :=
  if x2 < 0 then
    some (0, M)
  else
    if x3 < 0 then
      some (0, M)
    else
      bd (f_X1_sizeOf x1 M) fun r2 M1 =>
      if r2 < x3 then
        some (0, M1)
      else
        bd (f_X1_sizeOf x1 M1) fun r4 M3 =>
        if (r4 - x3) < x2 then
          some (0, M3)
        else
          some (1, M3)
set_option maxRecDepth 100000 in
set_option maxHeartbeats 4000000 in
theorem jf_X1_spans {G : wn_G} {ad : Nat → Nat} {X : wn_X} {d : Nat} (O : Ok G RX1 cX1_spans 4 d X) (hd0 : 3 ≤ d) (x1 : Int32) (x2 : Int32) (x3 : Int32) (M : Mm) : JW G S1 ad X 0 [(0, .ref (ad 5)), (1, .int x1), (2, .int x2), (3, .int x3)] [] M (f_X1_spans x1 x2 x3 M) (Krz G S1 ad X) := by
  unfold f_X1_spans
  refine j_iload_n (pc := 0) O 2 dX1_spans_0 rfl ?_
  refine j_if_lt (pc := 1) (tgt := 32) O dX1_spans_1 (by decide) ?_ ?_
  · refine j_iconst (pc := 32) (v := 0) O dX1_spans_32 (by decide) ?_
    exact j_z0 (pc := 33) O dX1_spans_33
  · refine j_iload_n (pc := 4) O 3 dX1_spans_4 rfl ?_
    refine j_if_lt (pc := 5) (tgt := 32) O dX1_spans_5 (by decide) ?_ ?_
    · refine j_iconst (pc := 32) (v := 0) O dX1_spans_32 (by decide) ?_
      exact j_z0 (pc := 33) O dX1_spans_33
    · refine j_iload_n (pc := 8) O 3 dX1_spans_8 rfl ?_
      refine j_aload_n (pc := 9) O 0 dX1_spans_9 rfl ?_
      refine j_iload_n (pc := 10) O 1 dX1_spans_10 rfl ?_
      refine j_callVi (pc := 11) (dc := 2) (As := [.int x1]) (rest := [.int x3]) O 5 (fun r M1 h => sp_X1_sizeOf h) dX1_spans_11 mv_X1_sizeOf lm_X1_25 so_S1_5 rfl rfl (Nat.le_of_ble_eq_true rfl) (Nat.le_trans (Nat.le_of_ble_eq_true rfl) hd0) (fun r2 M1 => ?_)
      refine j_icmp_gt (pc := 14) (tgt := 32) O dX1_spans_14 (by decide) ?_ ?_
      · refine j_iconst (pc := 32) (v := 0) O dX1_spans_32 (by decide) ?_
        exact j_z0 (pc := 33) O dX1_spans_33
      · refine j_iload_n (pc := 17) O 2 dX1_spans_17 rfl ?_
        refine j_aload_n (pc := 18) O 0 dX1_spans_18 rfl ?_
        refine j_iload_n (pc := 19) O 1 dX1_spans_19 rfl ?_
        refine j_callVi (pc := 20) (dc := 2) (As := [.int x1]) (rest := [.int x2]) O 5 (fun r M1 h => sp_X1_sizeOf h) dX1_spans_20 mv_X1_sizeOf lm_X1_25 so_S1_5 rfl rfl (Nat.le_of_ble_eq_true rfl) (Nat.le_trans (Nat.le_of_ble_eq_true rfl) hd0) (fun r4 M3 => ?_)
        refine j_iload_n (pc := 23) O 3 dX1_spans_23 rfl ?_
        refine j_isub (pc := 24) O dX1_spans_24 ?_
        refine j_icmp_gt (pc := 25) (tgt := 32) O dX1_spans_25 (by decide) ?_ ?_
        · refine j_iconst (pc := 32) (v := 0) O dX1_spans_32 (by decide) ?_
          exact j_z0 (pc := 33) O dX1_spans_33
        · refine j_iconst (pc := 28) (v := 1) O dX1_spans_28 (by decide) ?_
          refine j_goto (pc := 29) (tgt := 33) O dX1_spans_29 (by decide) ?_
          exact j_z1 (pc := 33) O dX1_spans_33
theorem sp_X1_spans {G : wn_G} {ad : Nat → Nat} {x1 : Int32} {x2 : Int32} {x3 : Int32} {M : Mm} {r : Int32} {M1 : Mm} (h : f_X1_spans x1 x2 x3 M = some (r, M1)) : Sp G S1 ad mX1_spans 3 [.ref (ad 5), .int x1, .int x2, .int x3] M M1 (some (.int r)) :=
  sp_intro (own := RX1) (by decide +kernel) rfl (Nat.le_of_ble_eq_true rfl) (fun X O T => jf_X1_spans O (Nat.le_refl _) x1 x2 x3 M (r, M1) h T)
def f_X1_item (x1 : Int32) (x2 : Int32) (M : Mm) : Option (Int32 × Mm) :=
  bd (f_X1_spans x1 x2 (1 : Int32) M) fun r2 M1 =>
  if r2 = 0 then
    some ((0 : Int32), M1)
  else
    gd (bin ((x1 * (40 : Int32)) + x2) 160 = true) inferInstance <|
    some ((M1.1 24 (Int32.toNatClampNeg ((x1 * (40 : Int32)) + x2))), M1)
set_option maxRecDepth 100000 in
set_option maxHeartbeats 4000000 in
theorem jf_X1_item {G : wn_G} {ad : Nat → Nat} {X : wn_X} {d : Nat} (O : Ok G RX1 cX1_item 3 d X) (hd0 : 4 ≤ d) (x1 : Int32) (x2 : Int32) (M : Mm) : JW G S1 ad X 0 [(0, .ref (ad 5)), (1, .int x1), (2, .int x2)] [] M (f_X1_item x1 x2 M) (Kri G S1 ad X) := by
  unfold f_X1_item
  refine j_aload_n (pc := 0) O 0 dX1_item_0 rfl ?_
  refine j_iload_n (pc := 1) O 1 dX1_item_1 rfl ?_
  refine j_iload_n (pc := 2) O 2 dX1_item_2 rfl ?_
  refine j_iconst (pc := 3) (v := 1) O dX1_item_3 (by decide) ?_
  refine j_callVi (pc := 4) (dc := 3) (As := [.int x1, .int x2, .int (1 : Int32)]) (rest := []) O 5 (fun r M1 h => sp_X1_spans h) dX1_item_4 mv_X1_spans lm_X1_29 so_S1_5 rfl rfl (Nat.le_of_ble_eq_true rfl) (Nat.le_trans (Nat.le_of_ble_eq_true rfl) hd0) (fun r2 M1 => ?_)
  refine j_if_eq (pc := 7) (tgt := 24) O dX1_item_7 (by decide) ?_ ?_
  · refine j_iconst (pc := 24) (v := 0) O dX1_item_24 (by decide) ?_
    exact j_iret (pc := 25) O dX1_item_25
  · refine j_aload_n (pc := 10) O 0 dX1_item_10 rfl ?_
    refine j_getf (pc := 11) (v := .ref (ad 24)) O 5 2 dX1_item_11 fl_X1_18 so_S1_5 rfl rfl ?_
    refine j_iload_n (pc := 14) O 1 dX1_item_14 rfl ?_
    refine j_bipush (pc := 15) (v := 40) O dX1_item_15 (by decide) ?_
    refine j_imul (pc := 17) O dX1_item_17 ?_
    refine j_iload_n (pc := 18) O 2 dX1_item_18 rfl ?_
    refine j_iadd (pc := 19) O dX1_item_19 ?_
    refine j_iald (pc := 20) O 24 dX1_item_20 so_S1_24 ?_
    refine j_goto (pc := 21) (tgt := 25) O dX1_item_21 (by decide) ?_
    exact j_iret (pc := 25) O dX1_item_25
theorem sp_X1_item {G : wn_G} {ad : Nat → Nat} {x1 : Int32} {x2 : Int32} {M : Mm} {r : Int32} {M1 : Mm} (h : f_X1_item x1 x2 M = some (r, M1)) : Sp G S1 ad mX1_item 4 [.ref (ad 5), .int x1, .int x2] M M1 (some (.int r)) :=
  sp_intro (own := RX1) (by decide +kernel) rfl (Nat.le_of_ble_eq_true rfl) (fun X O T => jf_X1_item O (Nat.le_refl _) x1 x2 M (r, M1) h T)
def f_X5_supper_j94 (x1 : Int32) (x3 : Int32) (M : Mm) : Option (Int32 × Mm) :=
  bv (f_X2_lay (M.1 1 1) M) fun M3 =>
  bv (f_X2_run x1 M3) fun M4 =>
  bd (f_X2_answer x3 M4) fun r6 M5 =>
  some (r6, M5)
set_option maxRecDepth 100000 in
set_option maxHeartbeats 4000000 in
theorem jf_X5_supper_j94 {G : wn_G} {ad : Nat → Nat} {X : wn_X} {d : Nat} (O : Ok G RX5 cX5_supper 5 d X) (hd0 : 7 ≤ d) (x1 : Int32) (x3 : Int32) (M : Mm) : JW G S1 ad X 94 [(0, .ref (ad 0)), (1, .int x1), (3, .int x3)] [] M (f_X5_supper_j94 x1 x3 M) (Kri G S1 ad X) := by
  unfold f_X5_supper_j94
  refine j_aload_n (pc := 94) O 0 dX5_supper_94 rfl ?_
  refine j_getf (pc := 95) (v := .ref (ad 6)) O 0 6 dX5_supper_95 fl_X5_45 so_S1_0 rfl rfl ?_
  refine j_aload_n (pc := 98) O 0 dX5_supper_98 rfl ?_
  refine j_getf (pc := 99) (v := .ref (ad 1)) O 0 0 dX5_supper_99 fl_X5_10 so_S1_0 rfl rfl ?_
  refine j_getf (pc := 102) (v := .int (M.1 1 1)) O 1 1 dX5_supper_102 fl_X5_97 so_S1_1 rfl rfl ?_
  refine j_callVv (pc := 105) (dc := 4) (As := [.int (M.1 1 1)]) (rest := []) O 6 (fun M1 h => sp_X2_lay h) dX5_supper_105 mv_X2_lay lm_X5_101 so_S1_6 rfl rfl (Nat.le_of_ble_eq_true rfl) (Nat.le_trans (Nat.le_of_ble_eq_true rfl) hd0) (fun M3 => ?_)
  refine j_aload_n (pc := 108) O 0 dX5_supper_108 rfl ?_
  refine j_getf (pc := 109) (v := .ref (ad 6)) O 0 6 dX5_supper_109 fl_X5_45 so_S1_0 rfl rfl ?_
  refine j_iload_n (pc := 112) O 1 dX5_supper_112 rfl ?_
  refine j_callVv (pc := 113) (dc := 6) (As := [.int x1]) (rest := []) O 6 (fun M1 h => sp_X2_run h) dX5_supper_113 mv_X2_run lm_X5_149 so_S1_6 rfl rfl (Nat.le_of_ble_eq_true rfl) (Nat.le_trans (Nat.le_of_ble_eq_true rfl) hd0) (fun M4 => ?_)
  refine j_aload_n (pc := 116) O 0 dX5_supper_116 rfl ?_
  refine j_getf (pc := 117) (v := .ref (ad 6)) O 0 6 dX5_supper_117 fl_X5_45 so_S1_0 rfl rfl ?_
  refine j_iload_n (pc := 120) O 2 dX5_supper_120 rfl ?_
  refine j_callVi (pc := 121) (dc := 3) (As := [.int x3]) (rest := []) O 6 (fun r M1 h => sp_X2_answer h) dX5_supper_121 mv_X2_answer lm_X5_152 so_S1_6 rfl rfl (Nat.le_of_ble_eq_true rfl) (Nat.le_trans (Nat.le_of_ble_eq_true rfl) hd0) (fun r6 M5 => ?_)
  exact j_iret (pc := 124) O dX5_supper_124
def h_X5_supper_44 (G : wn_G) (ad : Nat → Nat) (X : wn_X) (x1 : Int32) (x2 : Int32) (x3 : Int32) : Int32 × Mm → Prop := fun s => PW G S1 ad X 44 [(0, .ref (ad 0)), (1, .int x1), (2, .int x2), (3, .int x3), (4, .int s.1)] [] s.2
def f_X5_supper_j87 (x1 : Int32) (x2 : Int32) (x3 : Int32) (x4 : Int32) (s0 : Int32) (s1 : Int32) (M : Mm) : Option ((Int32 × Mm) ⊕ (Int32 × Mm)) :=
  gd (bin s1 12 = true) inferInstance <| bm (ms M 27 (Int32.toNatClampNeg s1) s0) fun M11 =>
  bi (x4 + (1 : Int32)) fun y12 =>
  some (.inl (y12, M11))
set_option maxRecDepth 100000 in
set_option maxHeartbeats 4000000 in
theorem jf_X5_supper_j87 {G : wn_G} {ad : Nat → Nat} {X : wn_X} {d : Nat} (O : Ok G RX5 cX5_supper 5 d X) (hd0 : 7 ≤ d) (x1 : Int32) (x2 : Int32) (x3 : Int32) (x4 : Int32) (s0 : Int32) (s1 : Int32) (M : Mm) : JW G S1 ad X 87 [(0, .ref (ad 0)), (1, .int x1), (2, .int x2), (3, .int x3), (4, .int x4)] [.int s0, .int s1, .ref (ad 27)] M (f_X5_supper_j87 x1 x2 x3 x4 s0 s1 M) (Kl (h_X5_supper_44 G ad X x1 x2 x3) (Kri G S1 ad X)) := by
  unfold f_X5_supper_j87
  refine j_iast (pc := 87) O 27 dX5_supper_87 so_S1_27 (fun M11 => ?_)
  refine j_iinc (pc := 88) (v := 1) (L2 := fun y => [(4, .int y), (0, .ref (ad 0)), (1, .int x1), (2, .int x2), (3, .int x3)]) O 4 dX5_supper_88 rfl (by decide) (by decide) (fun _ => rfl) (fun y12 => ?_)
  refine j_goto (pc := 91) (tgt := 44) O dX5_supper_91 (by decide) ?_
  exact jw_next (fun hh => pw_sub [1, 2, 3, 4, 0] rfl hh)
def f_X5_supper_b44 (x1 : Int32) (x2 : Int32) (x3 : Int32) (x4 : Int32) (M : Mm) : Option ((Int32 × Mm) ⊕ (Int32 × Mm)) :=
  if (12 : Int32) ≤ x4 then
    ex (
    f_X5_supper_j94 x1 x3 M)
  else
    bd (f_X1_sizeOf x2 M) fun r10 M9 =>
    if r10 ≤ x4 then
      f_X5_supper_j87 x1 x2 x3 x4 (-1 : Int32) x4 M9
    else
      bd (f_X1_item x2 x4 M9) fun r14 M13 =>
      f_X5_supper_j87 x1 x2 x3 x4 r14 x4 M13
set_option maxRecDepth 100000 in
set_option maxHeartbeats 4000000 in
theorem jf_X5_supper_b44 {G : wn_G} {ad : Nat → Nat} {X : wn_X} {d : Nat} (O : Ok G RX5 cX5_supper 5 d X) (hd0 : 7 ≤ d) (x1 : Int32) (x2 : Int32) (x3 : Int32) (x4 : Int32) (M : Mm) : JW G S1 ad X 44 [(0, .ref (ad 0)), (1, .int x1), (2, .int x2), (3, .int x3), (4, .int x4)] [] M (f_X5_supper_b44 x1 x2 x3 x4 M) (Kl (h_X5_supper_44 G ad X x1 x2 x3) (Kri G S1 ad X)) := by
  unfold f_X5_supper_b44
  refine j_iload (pc := 44) O 4 dX5_supper_44 rfl ?_
  refine j_bipush (pc := 46) (v := 12) O dX5_supper_46 (by decide) ?_
  refine j_icmp_ge (pc := 48) (tgt := 94) O dX5_supper_48 (by decide) ?_ ?_
  · refine jw_ex ?_
    exact jw_sub [0, 1, 3] rfl (jf_X5_supper_j94 O hd0 x1 x3 M)
  · refine j_aload_n (pc := 51) O 0 dX5_supper_51 rfl ?_
    refine j_getf (pc := 52) (v := .ref (ad 6)) O 0 6 dX5_supper_52 fl_X5_45 so_S1_0 rfl rfl ?_
    refine j_getf (pc := 55) (v := .ref (ad 27)) O 6 5 dX5_supper_55 fl_X5_139 so_S1_6 rfl rfl ?_
    refine j_iload (pc := 58) O 4 dX5_supper_58 rfl ?_
    refine j_iload (pc := 60) O 4 dX5_supper_60 rfl ?_
    refine j_aload_n (pc := 62) O 0 dX5_supper_62 rfl ?_
    refine j_getf (pc := 63) (v := .ref (ad 5)) O 0 5 dX5_supper_63 fl_X5_36 so_S1_0 rfl rfl ?_
    refine j_iload_n (pc := 66) O 2 dX5_supper_66 rfl ?_
    refine j_callVi (pc := 67) (dc := 2) (As := [.int x2]) (rest := [.int x4, .int x4, .ref (ad 27)]) O 5 (fun r M1 h => sp_X1_sizeOf h) dX5_supper_67 mv_X1_sizeOf lm_X5_142 so_S1_5 rfl rfl (Nat.le_of_ble_eq_true rfl) (Nat.le_trans (Nat.le_of_ble_eq_true rfl) hd0) (fun r10 M9 => ?_)
    refine j_icmp_ge (pc := 70) (tgt := 86) O dX5_supper_70 (by decide) ?_ ?_
    · refine j_iconst (pc := 86) (v := -1) O dX5_supper_86 (by decide) ?_
      exact jw_sub [0, 1, 2, 3, 4] rfl (jf_X5_supper_j87 O hd0 x1 x2 x3 x4 (-1 : Int32) x4 M9)
    · refine j_aload_n (pc := 73) O 0 dX5_supper_73 rfl ?_
      refine j_getf (pc := 74) (v := .ref (ad 5)) O 0 5 dX5_supper_74 fl_X5_36 so_S1_0 rfl rfl ?_
      refine j_iload_n (pc := 77) O 2 dX5_supper_77 rfl ?_
      refine j_iload (pc := 78) O 4 dX5_supper_78 rfl ?_
      refine j_callVi (pc := 80) (dc := 4) (As := [.int x2, .int x4]) (rest := [.int x4, .ref (ad 27)]) O 5 (fun r M1 h => sp_X1_item h) dX5_supper_80 mv_X1_item lm_X5_146 so_S1_5 rfl rfl (Nat.le_of_ble_eq_true rfl) (Nat.le_trans (Nat.le_of_ble_eq_true rfl) hd0) (fun r14 M13 => ?_)
      refine j_goto (pc := 83) (tgt := 87) O dX5_supper_83 (by decide) ?_
      exact jw_sub [0, 1, 2, 3, 4] rfl (jf_X5_supper_j87 O hd0 x1 x2 x3 x4 r14 x4 M13)
def f_X5_supper (x1 : Int32) (x2 : Int32) (x3 : Int32) (M : Mm) : Option (Int32 × Mm) :=
  if x1 < 0 then
    some ((-100000 : Int32), M)
  else
    if (3 : Int32) < x1 then
      some ((-100000 : Int32), M)
    else
      bd (f_X2_isAnswer x3 M) fun r2 M1 =>
      if r2 = 0 then
        some ((-100000 : Int32), M1)
      else
        if x1 = 0 then
          bd (f_X1_isMissing x2 M1) fun r8 M7 =>
          if r8 = 0 then
            iter (fun s => f_X5_supper_b44 x1 x2 x3 s.1 s.2) fuel ((0 : Int32), M7)
          else
            some ((-100000 : Int32), M7)
        else
          f_X5_supper_j94 x1 x3 M1
set_option maxRecDepth 100000 in
set_option maxHeartbeats 4000000 in
theorem jf_X5_supper {G : wn_G} {ad : Nat → Nat} {X : wn_X} {d : Nat} (O : Ok G RX5 cX5_supper 5 d X) (hd0 : 7 ≤ d) (x1 : Int32) (x2 : Int32) (x3 : Int32) (M : Mm) : JW G S1 ad X 0 [(0, .ref (ad 0)), (1, .int x1), (2, .int x2), (3, .int x3)] [] M (f_X5_supper x1 x2 x3 M) (Kri G S1 ad X) := by
  unfold f_X5_supper
  refine j_iload_n (pc := 0) O 1 dX5_supper_0 rfl ?_
  refine j_if_lt (pc := 1) (tgt := 20) O dX5_supper_1 (by decide) ?_ ?_
  · refine j_ldc (pc := 20) (v := -100000) O dX5_supper_20 gk_X5_135 ?_
    exact j_iret (pc := 22) O dX5_supper_22
  · refine j_iload_n (pc := 4) O 1 dX5_supper_4 rfl ?_
    refine j_iconst (pc := 5) (v := 3) O dX5_supper_5 (by decide) ?_
    refine j_icmp_gt (pc := 6) (tgt := 20) O dX5_supper_6 (by decide) ?_ ?_
    · refine j_ldc (pc := 20) (v := -100000) O dX5_supper_20 gk_X5_135 ?_
      exact j_iret (pc := 22) O dX5_supper_22
    · refine j_aload_n (pc := 9) O 0 dX5_supper_9 rfl ?_
      refine j_getf (pc := 10) (v := .ref (ad 6)) O 0 6 dX5_supper_10 fl_X5_45 so_S1_0 rfl rfl ?_
      refine j_iload_n (pc := 13) O 3 dX5_supper_13 rfl ?_
      refine j_callVi (pc := 14) (dc := 2) (As := [.int x3]) (rest := []) O 6 (fun r M1 h => sp_X2_isAnswer h) dX5_supper_14 mv_X2_isAnswer lm_X5_132 so_S1_6 rfl rfl (Nat.le_of_ble_eq_true rfl) (Nat.le_trans (Nat.le_of_ble_eq_true rfl) hd0) (fun r2 M1 => ?_)
      refine j_if_ne (pc := 17) (tgt := 23) O dX5_supper_17 (by decide) ?_ ?_
      · refine j_ldc (pc := 20) (v := -100000) O dX5_supper_20 gk_X5_135 ?_
        exact j_iret (pc := 22) O dX5_supper_22
      · refine j_iload_n (pc := 23) O 1 dX5_supper_23 rfl ?_
        refine j_if_ne (pc := 24) (tgt := 94) O dX5_supper_24 (by decide) ?_ ?_
        · refine j_aload_n (pc := 27) O 0 dX5_supper_27 rfl ?_
          refine j_getf (pc := 28) (v := .ref (ad 5)) O 0 5 dX5_supper_28 fl_X5_36 so_S1_0 rfl rfl ?_
          refine j_iload_n (pc := 31) O 2 dX5_supper_31 rfl ?_
          refine j_callVi (pc := 32) (dc := 2) (As := [.int x2]) (rest := []) O 5 (fun r M1 h => sp_X1_isMissing h) dX5_supper_32 mv_X1_isMissing lm_X5_136 so_S1_5 rfl rfl (Nat.le_of_ble_eq_true rfl) (Nat.le_trans (Nat.le_of_ble_eq_true rfl) hd0) (fun r8 M7 => ?_)
          refine j_if_eq (pc := 35) (tgt := 41) O dX5_supper_35 (by decide) ?_ ?_
          · refine j_iconst (pc := 41) (v := 0) O dX5_supper_41 (by decide) ?_
            refine j_istore (pc := 42) (L' := [(4, .int (0 : Int32)), (0, .ref (ad 0)), (1, .int x1), (2, .int x2), (3, .int x3)]) O dX5_supper_42 (by decide) rfl ?_
            exact jw_iter (hd := h_X5_supper_44 G ad X x1 x2 x3) (fun hh => pw_sub [1, 2, 3, 4, 0] rfl hh) (fun s => jf_X5_supper_b44 O hd0 x1 x2 x3 s.1 s.2)
          · refine j_ldc (pc := 38) (v := -100000) O dX5_supper_38 gk_X5_135 ?_
            exact j_iret (pc := 40) O dX5_supper_40
        · exact jw_sub [0, 1, 3] rfl (jf_X5_supper_j94 O hd0 x1 x3 M1)
theorem sp_X5_supper {G : wn_G} {ad : Nat → Nat} {x1 : Int32} {x2 : Int32} {x3 : Int32} {M : Mm} {r : Int32} {M1 : Mm} (h : f_X5_supper x1 x2 x3 M = some (r, M1)) : Sp G S1 ad mX5_supper 7 [.ref (ad 0), .int x1, .int x2, .int x3] M M1 (some (.int r)) :=
  sp_intro (own := RX5) (by decide +kernel) rfl (Nat.le_of_ble_eq_true rfl) (fun X O T => jf_X5_supper O (Nat.le_refl _) x1 x2 x3 M (r, M1) h T)
def f_X6_isTells (x1 : Int32) (M : Mm) : Option (Int32 × Mm) :=
  bd (f_X6_in (Int32.toInt64 x1) (0 : Int64) (3 : Int64) M) fun r2 M1 =>
  if r2 = 0 then
    bd (f_X6_in (Int32.toInt64 x1) (10 : Int64) (34 : Int64) M1) fun r4 M3 =>
    if r4 = 0 then
      some (0, M3)
    else
      gd (¬ (10 : Int32) = 0) inferInstance <|
      if (5 : Int32) ≤ (irm x1 (10 : Int32)) then
        some (0, M3)
      else
        gd (¬ (10 : Int32) = 0) inferInstance <|
        bd (f_X6_isEater (irm x1 (10 : Int32)) M3) fun r6 M5 =>
        if r6 = 0 then
          some (0, M5)
        else
          some (1, M5)
  else
    some (1, M1)
set_option maxRecDepth 100000 in
set_option maxHeartbeats 4000000 in
theorem jf_X6_isTells {G : wn_G} {ad : Nat → Nat} {X : wn_X} {d : Nat} (O : Ok G RX6 cX6_isTells 2 d X) (hd0 : 3 ≤ d) (x1 : Int32) (M : Mm) : JW G S2 ad X 0 [(0, .ref (ad 0)), (1, .int x1)] [] M (f_X6_isTells x1 M) (Krz G S2 ad X) := by
  unfold f_X6_isTells
  refine j_iload_n (pc := 0) O 1 dX6_isTells_0 rfl ?_
  refine j_i2l (pc := 1) O dX6_isTells_1 ?_
  refine j_lconst (pc := 2) (v := 0) O dX6_isTells_2 (by decide) ?_
  refine j_ldc2 (pc := 3) (v := 3) O dX6_isTells_3 gk_X6_299 ?_
  refine j_callSi (pc := 6) (dc := 1) (As := [.long (Int32.toInt64 x1), .long (0 : Int64), .long (3 : Int64)]) (rest := []) O (fun r M1 h => sp_X6_in h) dX6_isTells_6 mst_X6_in lm_X6_94 rfl rfl (Nat.le_of_ble_eq_true rfl) (Nat.le_trans (Nat.le_of_ble_eq_true rfl) hd0) (fun r2 M1 => ?_)
  refine j_if_ne (pc := 9) (tgt := 45) O dX6_isTells_9 (by decide) ?_ ?_
  · refine j_iload_n (pc := 12) O 1 dX6_isTells_12 rfl ?_
    refine j_i2l (pc := 13) O dX6_isTells_13 ?_
    refine j_ldc2 (pc := 14) (v := 10) O dX6_isTells_14 gk_X6_159 ?_
    refine j_ldc2 (pc := 17) (v := 34) O dX6_isTells_17 gk_X6_301 ?_
    refine j_callSi (pc := 20) (dc := 1) (As := [.long (Int32.toInt64 x1), .long (10 : Int64), .long (34 : Int64)]) (rest := []) O (fun r M1 h => sp_X6_in h) dX6_isTells_20 mst_X6_in lm_X6_94 rfl rfl (Nat.le_of_ble_eq_true rfl) (Nat.le_trans (Nat.le_of_ble_eq_true rfl) hd0) (fun r4 M3 => ?_)
    refine j_if_eq (pc := 23) (tgt := 49) O dX6_isTells_23 (by decide) ?_ ?_
    · refine j_iconst (pc := 49) (v := 0) O dX6_isTells_49 (by decide) ?_
      exact j_z0 (pc := 50) O dX6_isTells_50
    · refine j_iload_n (pc := 26) O 1 dX6_isTells_26 rfl ?_
      refine j_bipush (pc := 27) (v := 10) O dX6_isTells_27 (by decide) ?_
      refine j_irem (pc := 29) O dX6_isTells_29 ?_
      refine j_iconst (pc := 30) (v := 5) O dX6_isTells_30 (by decide) ?_
      refine j_icmp_ge (pc := 31) (tgt := 49) O dX6_isTells_31 (by decide) ?_ ?_
      · refine j_iconst (pc := 49) (v := 0) O dX6_isTells_49 (by decide) ?_
        exact j_z0 (pc := 50) O dX6_isTells_50
      · refine j_aload_n (pc := 34) O 0 dX6_isTells_34 rfl ?_
        refine j_iload_n (pc := 35) O 1 dX6_isTells_35 rfl ?_
        refine j_bipush (pc := 36) (v := 10) O dX6_isTells_36 (by decide) ?_
        refine j_irem (pc := 38) O dX6_isTells_38 ?_
        refine j_callVi (pc := 39) (dc := 2) (As := [.int (irm x1 (10 : Int32))]) (rest := []) O 0 (fun r M1 h => sp_X6_isEater h) dX6_isTells_39 mv_X6_isEater lm_X6_100 so_S2_0 rfl rfl (Nat.le_of_ble_eq_true rfl) (Nat.le_trans (Nat.le_of_ble_eq_true rfl) hd0) (fun r6 M5 => ?_)
        refine j_if_eq (pc := 42) (tgt := 49) O dX6_isTells_42 (by decide) ?_ ?_
        · refine j_iconst (pc := 49) (v := 0) O dX6_isTells_49 (by decide) ?_
          exact j_z0 (pc := 50) O dX6_isTells_50
        · refine j_iconst (pc := 45) (v := 1) O dX6_isTells_45 (by decide) ?_
          refine j_goto (pc := 46) (tgt := 50) O dX6_isTells_46 (by decide) ?_
          exact j_z1 (pc := 50) O dX6_isTells_50
  · refine j_iconst (pc := 45) (v := 1) O dX6_isTells_45 (by decide) ?_
    refine j_goto (pc := 46) (tgt := 50) O dX6_isTells_46 (by decide) ?_
    exact j_z1 (pc := 50) O dX6_isTells_50
theorem sp_X6_isTells {G : wn_G} {ad : Nat → Nat} {x1 : Int32} {M : Mm} {r : Int32} {M1 : Mm} (h : f_X6_isTells x1 M = some (r, M1)) : Sp G S2 ad mX6_isTells 3 [.ref (ad 0), .int x1] M M1 (some (.int r)) :=
  sp_intro (own := RX6) (by decide +kernel) rfl (Nat.le_of_ble_eq_true rfl) (fun X O T => jf_X6_isTells O (Nat.le_refl _) x1 M (r, M1) h T)
def h_X6_bakes_2 (G : wn_G) (ad : Nat → Nat) (X : wn_X) (x1 : Int32) (x2 : Int32) : Int32 × Mm → Prop := fun s => PW G S2 ad X 2 [(0, .ref (ad 0)), (1, .int x1), (2, .int x2), (3, .int s.1)] [] s.2
def h_X6_bakes_29 (G : wn_G) (ad : Nat → Nat) (X : wn_X) (x1 : Int32) (x2 : Int32) : Int32 × Mm → Prop := fun s => PW G S2 ad X 29 [(0, .ref (ad 0)), (1, .int x1), (2, .int x2), (3, .int s.1)] [] s.2
def h_X6_bakes_72 (G : wn_G) (ad : Nat → Nat) (X : wn_X) (x1 : Int32) (x2 : Int32) (x3 : Int32) (x4 : Int32) : Int32 × Mm → Prop := fun s => PW G S2 ad X 72 [(0, .ref (ad 0)), (1, .int x1), (2, .int x2), (3, .int x3), (4, .int x4), (5, .int s.1)] [] s.2
def f_X6_bakes_j127 (x1 : Int32) (x2 : Int32) (x3 : Int32) (x4 : Int32) (x5 : Int32) (s0 : Int32) (s1 : Int32) (M : Mm) : Option ((Int32 × Mm) ⊕ ((Int32 × Mm) ⊕ (Mm))) :=
  gd (bin s1 12 = true) inferInstance <| bm (ms M 12 (Int32.toNatClampNeg s1) s0) fun M4 =>
  bi (x5 + (1 : Int32)) fun y5 =>
  some (.inl (y5, M4))
set_option maxRecDepth 100000 in
set_option maxHeartbeats 4000000 in
theorem jf_X6_bakes_j127 {G : wn_G} {ad : Nat → Nat} {X : wn_X} {d : Nat} (O : Ok G RX6 cX6_bakes 6 d X) (hd0 : 110 ≤ d) (x1 : Int32) (x2 : Int32) (x3 : Int32) (x4 : Int32) (x5 : Int32) (s0 : Int32) (s1 : Int32) (M : Mm) : JW G S2 ad X 127 [(0, .ref (ad 0)), (1, .int x1), (2, .int x2), (3, .int x3), (4, .int x4), (5, .int x5)] [.int s0, .int s1, .ref (ad 12)] M (f_X6_bakes_j127 x1 x2 x3 x4 x5 s0 s1 M) (Kl (h_X6_bakes_72 G ad X x1 x2 x3 x4) (Kl (h_X6_bakes_29 G ad X x1 x2) (Krv G S2 ad X))) := by
  unfold f_X6_bakes_j127
  refine j_iast (pc := 127) O 12 dX6_bakes_127 so_S2_12 (fun M4 => ?_)
  refine j_iinc (pc := 128) (v := 1) (L2 := fun y => [(5, .int y), (0, .ref (ad 0)), (1, .int x1), (2, .int x2), (3, .int x3), (4, .int x4)]) O 5 dX6_bakes_128 rfl (by decide) (by decide) (fun _ => rfl) (fun y5 => ?_)
  refine j_goto (pc := 131) (tgt := 72) O dX6_bakes_131 (by decide) ?_
  exact jw_next (fun hh => pw_sub [1, 2, 3, 4, 5, 0] rfl hh)
def f_X6_bakes_b72 (x1 : Int32) (x2 : Int32) (x3 : Int32) (x4 : Int32) (x5 : Int32) (M : Mm) : Option ((Int32 × Mm) ⊕ ((Int32 × Mm) ⊕ (Mm))) :=
  if (M.1 0 7) ≤ x5 then
    ex (
    bi (x3 + (1 : Int32)) fun y2 =>
    some (.inl (y2, M)))
  else
    if (x4 + x2) ≤ x5 then
      ex (
      bi (x3 + (1 : Int32)) fun y3 =>
      some (.inl (y3, M)))
    else
      gd (bin x5 12 = true) inferInstance <|
      gd (bin x3 12 = true) inferInstance <|
      if (M.1 11 (Int32.toNatClampNeg x5)) ≤ (M.1 12 (Int32.toNatClampNeg x3)) then
        gd (bin x3 12 = true) inferInstance <|
        f_X6_bakes_j127 x1 x2 x3 x4 x5 (M.1 12 (Int32.toNatClampNeg x3)) x3 M
      else
        gd (bin x5 12 = true) inferInstance <|
        f_X6_bakes_j127 x1 x2 x3 x4 x5 (M.1 11 (Int32.toNatClampNeg x5)) x3 M
set_option maxRecDepth 100000 in
set_option maxHeartbeats 4000000 in
theorem jf_X6_bakes_b72 {G : wn_G} {ad : Nat → Nat} {X : wn_X} {d : Nat} (O : Ok G RX6 cX6_bakes 6 d X) (hd0 : 110 ≤ d) (x1 : Int32) (x2 : Int32) (x3 : Int32) (x4 : Int32) (x5 : Int32) (M : Mm) : JW G S2 ad X 72 [(0, .ref (ad 0)), (1, .int x1), (2, .int x2), (3, .int x3), (4, .int x4), (5, .int x5)] [] M (f_X6_bakes_b72 x1 x2 x3 x4 x5 M) (Kl (h_X6_bakes_72 G ad X x1 x2 x3 x4) (Kl (h_X6_bakes_29 G ad X x1 x2) (Krv G S2 ad X))) := by
  unfold f_X6_bakes_b72
  refine j_iload (pc := 72) O 5 dX6_bakes_72 rfl ?_
  refine j_aload_n (pc := 74) O 0 dX6_bakes_74 rfl ?_
  refine j_getf (pc := 75) (v := .int (M.1 0 7)) O 0 7 dX6_bakes_75 fl_X6_23 so_S2_0 rfl rfl ?_
  refine j_icmp_ge (pc := 78) (tgt := 134) O dX6_bakes_78 (by decide) ?_ ?_
  · refine jw_ex ?_
    refine j_iinc (pc := 134) (v := 1) (L2 := fun y => [(3, .int y), (0, .ref (ad 0)), (1, .int x1), (2, .int x2), (4, .int x4), (5, .int x5)]) O 3 dX6_bakes_134 rfl (by decide) (by decide) (fun _ => rfl) (fun y2 => ?_)
    refine j_goto (pc := 137) (tgt := 29) O dX6_bakes_137 (by decide) ?_
    exact jw_next (fun hh => pw_sub [1, 2, 3, 0] rfl hh)
  · refine j_iload (pc := 81) O 5 dX6_bakes_81 rfl ?_
    refine j_iload (pc := 83) O 4 dX6_bakes_83 rfl ?_
    refine j_iload_n (pc := 85) O 2 dX6_bakes_85 rfl ?_
    refine j_iadd (pc := 86) O dX6_bakes_86 ?_
    refine j_icmp_ge (pc := 87) (tgt := 134) O dX6_bakes_87 (by decide) ?_ ?_
    · refine jw_ex ?_
      refine j_iinc (pc := 134) (v := 1) (L2 := fun y => [(3, .int y), (0, .ref (ad 0)), (1, .int x1), (2, .int x2), (4, .int x4), (5, .int x5)]) O 3 dX6_bakes_134 rfl (by decide) (by decide) (fun _ => rfl) (fun y3 => ?_)
      refine j_goto (pc := 137) (tgt := 29) O dX6_bakes_137 (by decide) ?_
      exact jw_next (fun hh => pw_sub [1, 2, 3, 0] rfl hh)
    · refine j_aload_n (pc := 90) O 0 dX6_bakes_90 rfl ?_
      refine j_getf (pc := 91) (v := .ref (ad 12)) O 0 34 dX6_bakes_91 fl_X6_56 so_S2_0 rfl rfl ?_
      refine j_iload_n (pc := 94) O 3 dX6_bakes_94 rfl ?_
      refine j_aload_n (pc := 95) O 0 dX6_bakes_95 rfl ?_
      refine j_getf (pc := 96) (v := .ref (ad 11)) O 0 33 dX6_bakes_96 fl_X6_53 so_S2_0 rfl rfl ?_
      refine j_iload (pc := 99) O 5 dX6_bakes_99 rfl ?_
      refine j_iald (pc := 101) O 11 dX6_bakes_101 so_S2_11 ?_
      refine j_aload_n (pc := 102) O 0 dX6_bakes_102 rfl ?_
      refine j_getf (pc := 103) (v := .ref (ad 12)) O 0 34 dX6_bakes_103 fl_X6_56 so_S2_0 rfl rfl ?_
      refine j_iload_n (pc := 106) O 3 dX6_bakes_106 rfl ?_
      refine j_iald (pc := 107) O 12 dX6_bakes_107 so_S2_12 ?_
      refine j_icmp_le (pc := 108) (tgt := 121) O dX6_bakes_108 (by decide) ?_ ?_
      · refine j_aload_n (pc := 121) O 0 dX6_bakes_121 rfl ?_
        refine j_getf (pc := 122) (v := .ref (ad 12)) O 0 34 dX6_bakes_122 fl_X6_56 so_S2_0 rfl rfl ?_
        refine j_iload_n (pc := 125) O 3 dX6_bakes_125 rfl ?_
        refine j_iald (pc := 126) O 12 dX6_bakes_126 so_S2_12 ?_
        exact jw_sub [0, 1, 2, 3, 4, 5] rfl (jf_X6_bakes_j127 O hd0 x1 x2 x3 x4 x5 (M.1 12 (Int32.toNatClampNeg x3)) x3 M)
      · refine j_aload_n (pc := 111) O 0 dX6_bakes_111 rfl ?_
        refine j_getf (pc := 112) (v := .ref (ad 11)) O 0 33 dX6_bakes_112 fl_X6_53 so_S2_0 rfl rfl ?_
        refine j_iload (pc := 115) O 5 dX6_bakes_115 rfl ?_
        refine j_iald (pc := 117) O 11 dX6_bakes_117 so_S2_11 ?_
        refine j_goto (pc := 118) (tgt := 127) O dX6_bakes_118 (by decide) ?_
        exact jw_sub [0, 1, 2, 3, 4, 5] rfl (jf_X6_bakes_j127 O hd0 x1 x2 x3 x4 x5 (M.1 11 (Int32.toNatClampNeg x5)) x3 M)
def f_X6_bakes_j66 (x1 : Int32) (x2 : Int32) (x3 : Int32) (s0 : Int32) (M : Mm) : Option ((Int32 × Mm) ⊕ (Mm)) :=
  iter (fun s => f_X6_bakes_b72 x1 x2 x3 s0 s.1 s.2) fuel (s0, M)
set_option maxRecDepth 100000 in
set_option maxHeartbeats 4000000 in
theorem jf_X6_bakes_j66 {G : wn_G} {ad : Nat → Nat} {X : wn_X} {d : Nat} (O : Ok G RX6 cX6_bakes 6 d X) (hd0 : 110 ≤ d) (x1 : Int32) (x2 : Int32) (x3 : Int32) (s0 : Int32) (M : Mm) : JW G S2 ad X 66 [(0, .ref (ad 0)), (1, .int x1), (2, .int x2), (3, .int x3)] [.int s0] M (f_X6_bakes_j66 x1 x2 x3 s0 M) (Kl (h_X6_bakes_29 G ad X x1 x2) (Krv G S2 ad X)) := by
  unfold f_X6_bakes_j66
  refine j_istore (pc := 66) (L' := [(4, .int s0), (0, .ref (ad 0)), (1, .int x1), (2, .int x2), (3, .int x3)]) O dX6_bakes_66 (by decide) rfl ?_
  refine j_iload (pc := 68) O 0 dX6_bakes_68 rfl ?_
  refine j_istore (pc := 70) (L' := [(5, .int s0), (4, .int s0), (0, .ref (ad 0)), (1, .int x1), (2, .int x2), (3, .int x3)]) O dX6_bakes_70 (by decide) rfl ?_
  exact jw_iter (hd := h_X6_bakes_72 G ad X x1 x2 x3 s0) (fun hh => pw_sub [2, 3, 4, 5, 1, 0] rfl hh) (fun s => jf_X6_bakes_b72 O hd0 x1 x2 x3 s0 s.1 s.2)
def f_X6_bakes_b29 (x1 : Int32) (x2 : Int32) (x3 : Int32) (M : Mm) : Option ((Int32 × Mm) ⊕ (Mm)) :=
  if (M.1 0 7) ≤ x3 then
    ex (
    some M)
  else
    gd (bin x3 12 = true) inferInstance <|
    gd (bin x3 12 = true) inferInstance <| bm (ms M 12 (Int32.toNatClampNeg x3) (M.1 11 (Int32.toNatClampNeg x3))) fun M1 =>
    if x1 = (5 : Int32) then
      gd (¬ x2 = 0) inferInstance <|
      f_X6_bakes_j66 x1 x2 x3 ((x3 / x2) * x2) M1
    else
      f_X6_bakes_j66 x1 x2 x3 (M1.1 0 7) M1
set_option maxRecDepth 100000 in
set_option maxHeartbeats 4000000 in
theorem jf_X6_bakes_b29 {G : wn_G} {ad : Nat → Nat} {X : wn_X} {d : Nat} (O : Ok G RX6 cX6_bakes 6 d X) (hd0 : 110 ≤ d) (x1 : Int32) (x2 : Int32) (x3 : Int32) (M : Mm) : JW G S2 ad X 29 [(0, .ref (ad 0)), (1, .int x1), (2, .int x2), (3, .int x3)] [] M (f_X6_bakes_b29 x1 x2 x3 M) (Kl (h_X6_bakes_29 G ad X x1 x2) (Krv G S2 ad X)) := by
  unfold f_X6_bakes_b29
  refine j_iload_n (pc := 29) O 3 dX6_bakes_29 rfl ?_
  refine j_aload_n (pc := 30) O 0 dX6_bakes_30 rfl ?_
  refine j_getf (pc := 31) (v := .int (M.1 0 7)) O 0 7 dX6_bakes_31 fl_X6_23 so_S2_0 rfl rfl ?_
  refine j_icmp_ge (pc := 34) (tgt := 140) O dX6_bakes_34 (by decide) ?_ ?_
  · refine jw_ex ?_
    exact j_vret (pc := 140) O dX6_bakes_140
  · refine j_aload_n (pc := 37) O 0 dX6_bakes_37 rfl ?_
    refine j_getf (pc := 38) (v := .ref (ad 12)) O 0 34 dX6_bakes_38 fl_X6_56 so_S2_0 rfl rfl ?_
    refine j_iload_n (pc := 41) O 3 dX6_bakes_41 rfl ?_
    refine j_aload_n (pc := 42) O 0 dX6_bakes_42 rfl ?_
    refine j_getf (pc := 43) (v := .ref (ad 11)) O 0 33 dX6_bakes_43 fl_X6_53 so_S2_0 rfl rfl ?_
    refine j_iload_n (pc := 46) O 3 dX6_bakes_46 rfl ?_
    refine j_iald (pc := 47) O 11 dX6_bakes_47 so_S2_11 ?_
    refine j_iast (pc := 48) O 12 dX6_bakes_48 so_S2_12 (fun M1 => ?_)
    refine j_iload_n (pc := 49) O 1 dX6_bakes_49 rfl ?_
    refine j_iconst (pc := 50) (v := 5) O dX6_bakes_50 (by decide) ?_
    refine j_icmp_ne (pc := 51) (tgt := 62) O dX6_bakes_51 (by decide) ?_ ?_
    · refine j_iload_n (pc := 54) O 3 dX6_bakes_54 rfl ?_
      refine j_iload_n (pc := 55) O 2 dX6_bakes_55 rfl ?_
      refine j_idiv (pc := 56) O dX6_bakes_56 ?_
      refine j_iload_n (pc := 57) O 2 dX6_bakes_57 rfl ?_
      refine j_imul (pc := 58) O dX6_bakes_58 ?_
      refine j_goto (pc := 59) (tgt := 66) O dX6_bakes_59 (by decide) ?_
      exact jw_sub [0, 1, 2, 3] rfl (jf_X6_bakes_j66 O hd0 x1 x2 x3 ((x3 / x2) * x2) M1)
    · refine j_aload_n (pc := 62) O 0 dX6_bakes_62 rfl ?_
      refine j_getf (pc := 63) (v := .int (M1.1 0 7)) O 0 7 dX6_bakes_63 fl_X6_23 so_S2_0 rfl rfl ?_
      exact jw_sub [0, 1, 2, 3] rfl (jf_X6_bakes_j66 O hd0 x1 x2 x3 (M1.1 0 7) M1)
def f_X6_bakes_b2 (x1 : Int32) (x2 : Int32) (x3 : Int32) (M : Mm) : Option ((Int32 × Mm) ⊕ (Mm)) :=
  if (M.1 0 7) ≤ x3 then
    ex (
    iter (fun s => f_X6_bakes_b29 x1 x2 s.1 s.2) fuel ((0 : Int32), M))
  else
    bd (f_X6_readyOf x3 M) fun r7 M6 =>
    gd (bin x3 12 = true) inferInstance <| bm (ms M6 11 (Int32.toNatClampNeg x3) r7) fun M8 =>
    bi (x3 + (1 : Int32)) fun y9 =>
    some (.inl (y9, M8))
set_option maxRecDepth 100000 in
set_option maxHeartbeats 4000000 in
theorem jf_X6_bakes_b2 {G : wn_G} {ad : Nat → Nat} {X : wn_X} {d : Nat} (O : Ok G RX6 cX6_bakes 6 d X) (hd0 : 110 ≤ d) (x1 : Int32) (x2 : Int32) (x3 : Int32) (M : Mm) : JW G S2 ad X 2 [(0, .ref (ad 0)), (1, .int x1), (2, .int x2), (3, .int x3)] [] M (f_X6_bakes_b2 x1 x2 x3 M) (Kl (h_X6_bakes_2 G ad X x1 x2) (Krv G S2 ad X)) := by
  unfold f_X6_bakes_b2
  refine j_iload_n (pc := 2) O 3 dX6_bakes_2 rfl ?_
  refine j_aload_n (pc := 3) O 0 dX6_bakes_3 rfl ?_
  refine j_getf (pc := 4) (v := .int (M.1 0 7)) O 0 7 dX6_bakes_4 fl_X6_23 so_S2_0 rfl rfl ?_
  refine j_icmp_ge (pc := 7) (tgt := 27) O dX6_bakes_7 (by decide) ?_ ?_
  · refine jw_ex ?_
    refine j_iconst (pc := 27) (v := 0) O dX6_bakes_27 (by decide) ?_
    refine j_istore_n (pc := 28) (L' := [(3, .int (0 : Int32)), (0, .ref (ad 0)), (1, .int x1), (2, .int x2)]) O dX6_bakes_28 (by decide) rfl ?_
    exact jw_iter (hd := h_X6_bakes_29 G ad X x1 x2) (fun hh => pw_sub [1, 2, 3, 0] rfl hh) (fun s => jf_X6_bakes_b29 O hd0 x1 x2 s.1 s.2)
  · refine j_aload_n (pc := 10) O 0 dX6_bakes_10 rfl ?_
    refine j_getf (pc := 11) (v := .ref (ad 11)) O 0 33 dX6_bakes_11 fl_X6_53 so_S2_0 rfl rfl ?_
    refine j_iload_n (pc := 14) O 3 dX6_bakes_14 rfl ?_
    refine j_aload_n (pc := 15) O 0 dX6_bakes_15 rfl ?_
    refine j_iload_n (pc := 16) O 3 dX6_bakes_16 rfl ?_
    refine j_callVi (pc := 17) (dc := 109) (As := [.int x3]) (rest := [.int x3, .ref (ad 11)]) O 0 (fun r M1 h => sp_X6_readyOf h) dX6_bakes_17 mv_X6_readyOf lm_X6_257 so_S2_0 rfl rfl (Nat.le_of_ble_eq_true rfl) (Nat.le_trans (Nat.le_of_ble_eq_true rfl) hd0) (fun r7 M6 => ?_)
    refine j_iast (pc := 20) O 11 dX6_bakes_20 so_S2_11 (fun M8 => ?_)
    refine j_iinc (pc := 21) (v := 1) (L2 := fun y => [(3, .int y), (0, .ref (ad 0)), (1, .int x1), (2, .int x2)]) O 3 dX6_bakes_21 rfl (by decide) (by decide) (fun _ => rfl) (fun y9 => ?_)
    refine j_goto (pc := 24) (tgt := 2) O dX6_bakes_24 (by decide) ?_
    exact jw_next (fun hh => pw_sub [1, 2, 3, 0] rfl hh)
def f_X6_bakes (x1 : Int32) (x2 : Int32) (M : Mm) : Option (Mm) :=
  iter (fun s => f_X6_bakes_b2 x1 x2 s.1 s.2) fuel ((0 : Int32), M)
set_option maxRecDepth 100000 in
set_option maxHeartbeats 4000000 in
theorem jf_X6_bakes {G : wn_G} {ad : Nat → Nat} {X : wn_X} {d : Nat} (O : Ok G RX6 cX6_bakes 6 d X) (hd0 : 110 ≤ d) (x1 : Int32) (x2 : Int32) (M : Mm) : JW G S2 ad X 0 [(0, .ref (ad 0)), (1, .int x1), (2, .int x2)] [] M (f_X6_bakes x1 x2 M) (Krv G S2 ad X) := by
  unfold f_X6_bakes
  refine j_iconst (pc := 0) (v := 0) O dX6_bakes_0 (by decide) ?_
  refine j_istore_n (pc := 1) (L' := [(3, .int (0 : Int32)), (0, .ref (ad 0)), (1, .int x1), (2, .int x2)]) O dX6_bakes_1 (by decide) rfl ?_
  exact jw_iter (hd := h_X6_bakes_2 G ad X x1 x2) (fun hh => pw_sub [1, 2, 3, 0] rfl hh) (fun s => jf_X6_bakes_b2 O hd0 x1 x2 s.1 s.2)
theorem sp_X6_bakes {G : wn_G} {ad : Nat → Nat} {x1 : Int32} {x2 : Int32} {M M1 : Mm} (h : f_X6_bakes x1 x2 M = some M1) : Sp G S2 ad mX6_bakes 110 [.ref (ad 0), .int x1, .int x2] M M1 none :=
  sp_intro (own := RX6) (by decide +kernel) rfl (Nat.le_of_ble_eq_true rfl) (fun X O T => jf_X6_bakes O (Nat.le_refl _) x1 x2 M M1 h T)
def h_X6_leastHad_4 (G : wn_G) (ad : Nat → Nat) (X : wn_X) : Int32 × Int32 × Mm → Prop := fun s => PW G S2 ad X 4 [(0, .ref (ad 0)), (1, .int s.1), (2, .int s.2.1)] [] s.2.2
def f_X6_leastHad_j35 (x2 : Int32) (M : Mm) : Option ((Int32 × Int32 × Mm) ⊕ (Int32 × Mm)) :=
  gd (bin x2 5 = true) inferInstance <|
  bi (M.1 8 (Int32.toNatClampNeg x2)) fun y2 =>
  bi (x2 + (1 : Int32)) fun y3 =>
  some (.inl (y2, y3, M))
set_option maxRecDepth 100000 in
set_option maxHeartbeats 4000000 in
theorem jf_X6_leastHad_j35 {G : wn_G} {ad : Nat → Nat} {X : wn_X} {d : Nat} (O : Ok G RX6 cX6_leastHad 3 d X) (hd0 : 1 ≤ d) (x2 : Int32) (M : Mm) : JW G S2 ad X 35 [(0, .ref (ad 0)), (2, .int x2)] [] M (f_X6_leastHad_j35 x2 M) (Kl (h_X6_leastHad_4 G ad X) (Kri G S2 ad X)) := by
  unfold f_X6_leastHad_j35
  refine j_aload_n (pc := 35) O 0 dX6_leastHad_35 rfl ?_
  refine j_getf (pc := 36) (v := .ref (ad 8)) O 0 30 dX6_leastHad_36 fl_X6_44 so_S2_0 rfl rfl ?_
  refine j_iload_n (pc := 39) O 1 dX6_leastHad_39 rfl ?_
  refine j_iald (pc := 40) O 8 dX6_leastHad_40 so_S2_8 ?_
  refine j_goto (pc := 41) (tgt := 45) O dX6_leastHad_41 (by decide) ?_
  refine jw_bi fun y2 => ?_
  refine j_istore_n (pc := 45) (L' := [(1, .int y2), (0, .ref (ad 0)), (2, .int x2)]) O dX6_leastHad_45 (by decide) rfl ?_
  refine j_iinc (pc := 46) (v := 1) (L2 := fun y => [(2, .int y), (1, .int y2), (0, .ref (ad 0))]) O 2 dX6_leastHad_46 rfl (by decide) (by decide) (fun _ => rfl) (fun y3 => ?_)
  refine j_goto (pc := 49) (tgt := 4) O dX6_leastHad_49 (by decide) ?_
  exact jw_next (fun hh => pw_sub [2, 1, 0] rfl hh)
def f_X6_leastHad_b4 (x1 : Int32) (x2 : Int32) (M : Mm) : Option ((Int32 × Int32 × Mm) ⊕ (Int32 × Mm)) :=
  if (M.1 0 13) ≤ x2 then
    ex (
    some (x1, M))
  else
    if x2 = (M.1 0 14) then
      bi (x2 + (1 : Int32)) fun y1 =>
      some (.inl (x1, y1, M))
    else
      if x1 = (-1 : Int32) then
        f_X6_leastHad_j35 x2 M
      else
        gd (bin x2 5 = true) inferInstance <|
        if x1 ≤ (M.1 8 (Int32.toNatClampNeg x2)) then
          bi (x2 + (1 : Int32)) fun y4 =>
          some (.inl (x1, y4, M))
        else
          f_X6_leastHad_j35 x2 M
set_option maxRecDepth 100000 in
set_option maxHeartbeats 4000000 in
theorem jf_X6_leastHad_b4 {G : wn_G} {ad : Nat → Nat} {X : wn_X} {d : Nat} (O : Ok G RX6 cX6_leastHad 3 d X) (hd0 : 1 ≤ d) (x1 : Int32) (x2 : Int32) (M : Mm) : JW G S2 ad X 4 [(0, .ref (ad 0)), (1, .int x1), (2, .int x2)] [] M (f_X6_leastHad_b4 x1 x2 M) (Kl (h_X6_leastHad_4 G ad X) (Kri G S2 ad X)) := by
  unfold f_X6_leastHad_b4
  refine j_iload_n (pc := 4) O 2 dX6_leastHad_4 rfl ?_
  refine j_aload_n (pc := 5) O 0 dX6_leastHad_5 rfl ?_
  refine j_getf (pc := 6) (v := .int (M.1 0 13)) O 0 13 dX6_leastHad_6 fl_X6_91 so_S2_0 rfl rfl ?_
  refine j_icmp_ge (pc := 9) (tgt := 52) O dX6_leastHad_9 (by decide) ?_ ?_
  · refine jw_ex ?_
    refine j_iload_n (pc := 52) O 1 dX6_leastHad_52 rfl ?_
    exact j_iret (pc := 53) O dX6_leastHad_53
  · refine j_iload_n (pc := 12) O 2 dX6_leastHad_12 rfl ?_
    refine j_aload_n (pc := 13) O 0 dX6_leastHad_13 rfl ?_
    refine j_getf (pc := 14) (v := .int (M.1 0 14)) O 0 14 dX6_leastHad_14 fl_X6_41 so_S2_0 rfl rfl ?_
    refine j_icmp_eq (pc := 17) (tgt := 44) O dX6_leastHad_17 (by decide) ?_ ?_
    · refine j_iload_n (pc := 44) O 1 dX6_leastHad_44 rfl ?_
      refine j_istore_n (pc := 45) (L' := [(1, .int x1), (0, .ref (ad 0)), (2, .int x2)]) O dX6_leastHad_45 (by decide) rfl ?_
      refine j_iinc (pc := 46) (v := 1) (L2 := fun y => [(2, .int y), (1, .int x1), (0, .ref (ad 0))]) O 2 dX6_leastHad_46 rfl (by decide) (by decide) (fun _ => rfl) (fun y1 => ?_)
      refine j_goto (pc := 49) (tgt := 4) O dX6_leastHad_49 (by decide) ?_
      exact jw_next (fun hh => pw_sub [2, 1, 0] rfl hh)
    · refine j_iload_n (pc := 20) O 1 dX6_leastHad_20 rfl ?_
      refine j_iconst (pc := 21) (v := -1) O dX6_leastHad_21 (by decide) ?_
      refine j_icmp_eq (pc := 22) (tgt := 35) O dX6_leastHad_22 (by decide) ?_ ?_
      · exact jw_sub [0, 2] rfl (jf_X6_leastHad_j35 O hd0 x2 M)
      · refine j_aload_n (pc := 25) O 0 dX6_leastHad_25 rfl ?_
        refine j_getf (pc := 26) (v := .ref (ad 8)) O 0 30 dX6_leastHad_26 fl_X6_44 so_S2_0 rfl rfl ?_
        refine j_iload_n (pc := 29) O 2 dX6_leastHad_29 rfl ?_
        refine j_iald (pc := 30) O 8 dX6_leastHad_30 so_S2_8 ?_
        refine j_iload_n (pc := 31) O 1 dX6_leastHad_31 rfl ?_
        refine j_icmp_ge (pc := 32) (tgt := 44) O dX6_leastHad_32 (by decide) ?_ ?_
        · refine j_iload_n (pc := 44) O 1 dX6_leastHad_44 rfl ?_
          refine j_istore_n (pc := 45) (L' := [(1, .int x1), (0, .ref (ad 0)), (2, .int x2)]) O dX6_leastHad_45 (by decide) rfl ?_
          refine j_iinc (pc := 46) (v := 1) (L2 := fun y => [(2, .int y), (1, .int x1), (0, .ref (ad 0))]) O 2 dX6_leastHad_46 rfl (by decide) (by decide) (fun _ => rfl) (fun y4 => ?_)
          refine j_goto (pc := 49) (tgt := 4) O dX6_leastHad_49 (by decide) ?_
          exact jw_next (fun hh => pw_sub [2, 1, 0] rfl hh)
        · exact jw_sub [0, 2] rfl (jf_X6_leastHad_j35 O hd0 x2 M)
def f_X6_leastHad (M : Mm) : Option (Int32 × Mm) :=
  iter (fun s => f_X6_leastHad_b4 s.1 s.2.1 s.2.2) fuel ((-1 : Int32), (0 : Int32), M)
set_option maxRecDepth 100000 in
set_option maxHeartbeats 4000000 in
theorem jf_X6_leastHad {G : wn_G} {ad : Nat → Nat} {X : wn_X} {d : Nat} (O : Ok G RX6 cX6_leastHad 3 d X) (hd0 : 1 ≤ d) (M : Mm) : JW G S2 ad X 0 [(0, .ref (ad 0))] [] M (f_X6_leastHad M) (Kri G S2 ad X) := by
  unfold f_X6_leastHad
  refine j_iconst (pc := 0) (v := -1) O dX6_leastHad_0 (by decide) ?_
  refine j_istore_n (pc := 1) (L' := [(1, .int (-1 : Int32)), (0, .ref (ad 0))]) O dX6_leastHad_1 (by decide) rfl ?_
  refine j_iconst (pc := 2) (v := 0) O dX6_leastHad_2 (by decide) ?_
  refine j_istore_n (pc := 3) (L' := [(2, .int (0 : Int32)), (1, .int (-1 : Int32)), (0, .ref (ad 0))]) O dX6_leastHad_3 (by decide) rfl ?_
  exact jw_iter (hd := h_X6_leastHad_4 G ad X) (fun hh => pw_sub [2, 1, 0] rfl hh) (fun s => jf_X6_leastHad_b4 O hd0 s.1 s.2.1 s.2.2)
theorem sp_X6_leastHad {G : wn_G} {ad : Nat → Nat} {M : Mm} {r : Int32} {M1 : Mm} (h : f_X6_leastHad M = some (r, M1)) : Sp G S2 ad mX6_leastHad 1 [.ref (ad 0)] M M1 (some (.int r)) :=
  sp_intro (own := RX6) (by decide +kernel) rfl (Nat.le_of_ble_eq_true rfl) (fun X O T => jf_X6_leastHad O (Nat.le_refl _) M (r, M1) h T)
def h_X6_mostHad_4 (G : wn_G) (ad : Nat → Nat) (X : wn_X) : Int32 × Int32 × Mm → Prop := fun s => PW G S2 ad X 4 [(0, .ref (ad 0)), (1, .int s.1), (2, .int s.2.1)] [] s.2.2
def f_X6_mostHad_b4 (x1 : Int32) (x2 : Int32) (M : Mm) : Option ((Int32 × Int32 × Mm) ⊕ (Int32 × Mm)) :=
  if (M.1 0 13) ≤ x2 then
    ex (
    some (x1, M))
  else
    if x2 = (M.1 0 14) then
      bi (x2 + (1 : Int32)) fun y1 =>
      some (.inl (x1, y1, M))
    else
      gd (bin x2 5 = true) inferInstance <|
      if (M.1 8 (Int32.toNatClampNeg x2)) ≤ x1 then
        bi (x2 + (1 : Int32)) fun y2 =>
        some (.inl (x1, y2, M))
      else
        gd (bin x2 5 = true) inferInstance <|
        bi (M.1 8 (Int32.toNatClampNeg x2)) fun y3 =>
        bi (x2 + (1 : Int32)) fun y4 =>
        some (.inl (y3, y4, M))
set_option maxRecDepth 100000 in
set_option maxHeartbeats 4000000 in
theorem jf_X6_mostHad_b4 {G : wn_G} {ad : Nat → Nat} {X : wn_X} {d : Nat} (O : Ok G RX6 cX6_mostHad 3 d X) (hd0 : 1 ≤ d) (x1 : Int32) (x2 : Int32) (M : Mm) : JW G S2 ad X 4 [(0, .ref (ad 0)), (1, .int x1), (2, .int x2)] [] M (f_X6_mostHad_b4 x1 x2 M) (Kl (h_X6_mostHad_4 G ad X) (Kri G S2 ad X)) := by
  unfold f_X6_mostHad_b4
  refine j_iload_n (pc := 4) O 2 dX6_mostHad_4 rfl ?_
  refine j_aload_n (pc := 5) O 0 dX6_mostHad_5 rfl ?_
  refine j_getf (pc := 6) (v := .int (M.1 0 13)) O 0 13 dX6_mostHad_6 fl_X6_91 so_S2_0 rfl rfl ?_
  refine j_icmp_ge (pc := 9) (tgt := 47) O dX6_mostHad_9 (by decide) ?_ ?_
  · refine jw_ex ?_
    refine j_iload_n (pc := 47) O 1 dX6_mostHad_47 rfl ?_
    exact j_iret (pc := 48) O dX6_mostHad_48
  · refine j_iload_n (pc := 12) O 2 dX6_mostHad_12 rfl ?_
    refine j_aload_n (pc := 13) O 0 dX6_mostHad_13 rfl ?_
    refine j_getf (pc := 14) (v := .int (M.1 0 14)) O 0 14 dX6_mostHad_14 fl_X6_41 so_S2_0 rfl rfl ?_
    refine j_icmp_eq (pc := 17) (tgt := 39) O dX6_mostHad_17 (by decide) ?_ ?_
    · refine j_iload_n (pc := 39) O 1 dX6_mostHad_39 rfl ?_
      refine j_istore_n (pc := 40) (L' := [(1, .int x1), (0, .ref (ad 0)), (2, .int x2)]) O dX6_mostHad_40 (by decide) rfl ?_
      refine j_iinc (pc := 41) (v := 1) (L2 := fun y => [(2, .int y), (1, .int x1), (0, .ref (ad 0))]) O 2 dX6_mostHad_41 rfl (by decide) (by decide) (fun _ => rfl) (fun y1 => ?_)
      refine j_goto (pc := 44) (tgt := 4) O dX6_mostHad_44 (by decide) ?_
      exact jw_next (fun hh => pw_sub [2, 1, 0] rfl hh)
    · refine j_aload_n (pc := 20) O 0 dX6_mostHad_20 rfl ?_
      refine j_getf (pc := 21) (v := .ref (ad 8)) O 0 30 dX6_mostHad_21 fl_X6_44 so_S2_0 rfl rfl ?_
      refine j_iload_n (pc := 24) O 2 dX6_mostHad_24 rfl ?_
      refine j_iald (pc := 25) O 8 dX6_mostHad_25 so_S2_8 ?_
      refine j_iload_n (pc := 26) O 1 dX6_mostHad_26 rfl ?_
      refine j_icmp_le (pc := 27) (tgt := 39) O dX6_mostHad_27 (by decide) ?_ ?_
      · refine j_iload_n (pc := 39) O 1 dX6_mostHad_39 rfl ?_
        refine j_istore_n (pc := 40) (L' := [(1, .int x1), (0, .ref (ad 0)), (2, .int x2)]) O dX6_mostHad_40 (by decide) rfl ?_
        refine j_iinc (pc := 41) (v := 1) (L2 := fun y => [(2, .int y), (1, .int x1), (0, .ref (ad 0))]) O 2 dX6_mostHad_41 rfl (by decide) (by decide) (fun _ => rfl) (fun y2 => ?_)
        refine j_goto (pc := 44) (tgt := 4) O dX6_mostHad_44 (by decide) ?_
        exact jw_next (fun hh => pw_sub [2, 1, 0] rfl hh)
      · refine j_aload_n (pc := 30) O 0 dX6_mostHad_30 rfl ?_
        refine j_getf (pc := 31) (v := .ref (ad 8)) O 0 30 dX6_mostHad_31 fl_X6_44 so_S2_0 rfl rfl ?_
        refine j_iload_n (pc := 34) O 2 dX6_mostHad_34 rfl ?_
        refine j_iald (pc := 35) O 8 dX6_mostHad_35 so_S2_8 ?_
        refine j_goto (pc := 36) (tgt := 40) O dX6_mostHad_36 (by decide) ?_
        refine jw_bi fun y3 => ?_
        refine j_istore_n (pc := 40) (L' := [(1, .int y3), (0, .ref (ad 0)), (2, .int x2)]) O dX6_mostHad_40 (by decide) rfl ?_
        refine j_iinc (pc := 41) (v := 1) (L2 := fun y => [(2, .int y), (1, .int y3), (0, .ref (ad 0))]) O 2 dX6_mostHad_41 rfl (by decide) (by decide) (fun _ => rfl) (fun y4 => ?_)
        refine j_goto (pc := 44) (tgt := 4) O dX6_mostHad_44 (by decide) ?_
        exact jw_next (fun hh => pw_sub [2, 1, 0] rfl hh)
def f_X6_mostHad (M : Mm) : Option (Int32 × Mm) :=
  iter (fun s => f_X6_mostHad_b4 s.1 s.2.1 s.2.2) fuel ((0 : Int32), (0 : Int32), M)
set_option maxRecDepth 100000 in
set_option maxHeartbeats 4000000 in
theorem jf_X6_mostHad {G : wn_G} {ad : Nat → Nat} {X : wn_X} {d : Nat} (O : Ok G RX6 cX6_mostHad 3 d X) (hd0 : 1 ≤ d) (M : Mm) : JW G S2 ad X 0 [(0, .ref (ad 0))] [] M (f_X6_mostHad M) (Kri G S2 ad X) := by
  unfold f_X6_mostHad
  refine j_iconst (pc := 0) (v := 0) O dX6_mostHad_0 (by decide) ?_
  refine j_istore_n (pc := 1) (L' := [(1, .int (0 : Int32)), (0, .ref (ad 0))]) O dX6_mostHad_1 (by decide) rfl ?_
  refine j_iconst (pc := 2) (v := 0) O dX6_mostHad_2 (by decide) ?_
  refine j_istore_n (pc := 3) (L' := [(2, .int (0 : Int32)), (1, .int (0 : Int32)), (0, .ref (ad 0))]) O dX6_mostHad_3 (by decide) rfl ?_
  exact jw_iter (hd := h_X6_mostHad_4 G ad X) (fun hh => pw_sub [2, 1, 0] rfl hh) (fun s => jf_X6_mostHad_b4 O hd0 s.1 s.2.1 s.2.2)
theorem sp_X6_mostHad {G : wn_G} {ad : Nat → Nat} {M : Mm} {r : Int32} {M1 : Mm} (h : f_X6_mostHad M = some (r, M1)) : Sp G S2 ad mX6_mostHad 1 [.ref (ad 0)] M M1 (some (.int r)) :=
  sp_intro (own := RX6) (by decide +kernel) rfl (Nat.le_of_ble_eq_true rfl) (fun X O T => jf_X6_mostHad O (Nat.le_refl _) M (r, M1) h T)
def h_X6_whoHas_2 (G : wn_G) (ad : Nat → Nat) (X : wn_X) : Int32 × Mm → Prop := fun s => PW G S2 ad X 2 [(0, .ref (ad 0)), (1, .int s.1)] [] s.2
def f_X6_whoHas_b2 (x1 : Int32) (M : Mm) : Option ((Int32 × Mm) ⊕ (Int32 × Mm)) :=
  if (M.1 0 13) ≤ x1 then
    ex (
    some ((-1 : Int32), M))
  else
    if x1 = (M.1 0 14) then
      bi (x1 + (1 : Int32)) fun y1 =>
      some (.inl (y1, M))
    else
      gd (bin x1 5 = true) inferInstance <|
      bd (f_X6_leastHad M) fun r3 M2 =>
      if (M.1 8 (Int32.toNatClampNeg x1)) = r3 then
        ex (
        some (x1, M2))
      else
        bi (x1 + (1 : Int32)) fun y4 =>
        some (.inl (y4, M2))
set_option maxRecDepth 100000 in
set_option maxHeartbeats 4000000 in
theorem jf_X6_whoHas_b2 {G : wn_G} {ad : Nat → Nat} {X : wn_X} {d : Nat} (O : Ok G RX6 cX6_whoHas 2 d X) (hd0 : 2 ≤ d) (x1 : Int32) (M : Mm) : JW G S2 ad X 2 [(0, .ref (ad 0)), (1, .int x1)] [] M (f_X6_whoHas_b2 x1 M) (Kl (h_X6_whoHas_2 G ad X) (Kri G S2 ad X)) := by
  unfold f_X6_whoHas_b2
  refine j_iload_n (pc := 2) O 1 dX6_whoHas_2 rfl ?_
  refine j_aload_n (pc := 3) O 0 dX6_whoHas_3 rfl ?_
  refine j_getf (pc := 4) (v := .int (M.1 0 13)) O 0 13 dX6_whoHas_4 fl_X6_91 so_S2_0 rfl rfl ?_
  refine j_icmp_ge (pc := 7) (tgt := 39) O dX6_whoHas_7 (by decide) ?_ ?_
  · refine jw_ex ?_
    refine j_iconst (pc := 39) (v := -1) O dX6_whoHas_39 (by decide) ?_
    exact j_iret (pc := 40) O dX6_whoHas_40
  · refine j_iload_n (pc := 10) O 1 dX6_whoHas_10 rfl ?_
    refine j_aload_n (pc := 11) O 0 dX6_whoHas_11 rfl ?_
    refine j_getf (pc := 12) (v := .int (M.1 0 14)) O 0 14 dX6_whoHas_12 fl_X6_41 so_S2_0 rfl rfl ?_
    refine j_icmp_eq (pc := 15) (tgt := 33) O dX6_whoHas_15 (by decide) ?_ ?_
    · refine j_iinc (pc := 33) (v := 1) (L2 := fun y => [(1, .int y), (0, .ref (ad 0))]) O 1 dX6_whoHas_33 rfl (by decide) (by decide) (fun _ => rfl) (fun y1 => ?_)
      refine j_goto (pc := 36) (tgt := 2) O dX6_whoHas_36 (by decide) ?_
      exact jw_next (fun hh => pw_sub [1, 0] rfl hh)
    · refine j_aload_n (pc := 18) O 0 dX6_whoHas_18 rfl ?_
      refine j_getf (pc := 19) (v := .ref (ad 8)) O 0 30 dX6_whoHas_19 fl_X6_44 so_S2_0 rfl rfl ?_
      refine j_iload_n (pc := 22) O 1 dX6_whoHas_22 rfl ?_
      refine j_iald (pc := 23) O 8 dX6_whoHas_23 so_S2_8 ?_
      refine j_aload_n (pc := 24) O 0 dX6_whoHas_24 rfl ?_
      refine j_callVi (pc := 25) (dc := 1) (As := []) (rest := [.int (M.1 8 (Int32.toNatClampNeg x1))]) O 0 (fun r M1 h => sp_X6_leastHad h) dX6_whoHas_25 mv_X6_leastHad lm_X6_260 so_S2_0 rfl rfl (Nat.le_of_ble_eq_true rfl) (Nat.le_trans (Nat.le_of_ble_eq_true rfl) hd0) (fun r3 M2 => ?_)
      refine j_icmp_ne (pc := 28) (tgt := 33) O dX6_whoHas_28 (by decide) ?_ ?_
      · refine jw_ex ?_
        refine j_iload_n (pc := 31) O 1 dX6_whoHas_31 rfl ?_
        exact j_iret (pc := 32) O dX6_whoHas_32
      · refine j_iinc (pc := 33) (v := 1) (L2 := fun y => [(1, .int y), (0, .ref (ad 0))]) O 1 dX6_whoHas_33 rfl (by decide) (by decide) (fun _ => rfl) (fun y4 => ?_)
        refine j_goto (pc := 36) (tgt := 2) O dX6_whoHas_36 (by decide) ?_
        exact jw_next (fun hh => pw_sub [1, 0] rfl hh)
def f_X6_whoHas (M : Mm) : Option (Int32 × Mm) :=
  iter (fun s => f_X6_whoHas_b2 s.1 s.2) fuel ((0 : Int32), M)
set_option maxRecDepth 100000 in
set_option maxHeartbeats 4000000 in
theorem jf_X6_whoHas {G : wn_G} {ad : Nat → Nat} {X : wn_X} {d : Nat} (O : Ok G RX6 cX6_whoHas 2 d X) (hd0 : 2 ≤ d) (M : Mm) : JW G S2 ad X 0 [(0, .ref (ad 0))] [] M (f_X6_whoHas M) (Kri G S2 ad X) := by
  unfold f_X6_whoHas
  refine j_iconst (pc := 0) (v := 0) O dX6_whoHas_0 (by decide) ?_
  refine j_istore_n (pc := 1) (L' := [(1, .int (0 : Int32)), (0, .ref (ad 0))]) O dX6_whoHas_1 (by decide) rfl ?_
  exact jw_iter (hd := h_X6_whoHas_2 G ad X) (fun hh => pw_sub [1, 0] rfl hh) (fun s => jf_X6_whoHas_b2 O hd0 s.1 s.2)
theorem sp_X6_whoHas {G : wn_G} {ad : Nat → Nat} {M : Mm} {r : Int32} {M1 : Mm} (h : f_X6_whoHas M = some (r, M1)) : Sp G S2 ad mX6_whoHas 2 [.ref (ad 0)] M M1 (some (.int r)) :=
  sp_intro (own := RX6) (by decide +kernel) rfl (Nat.le_of_ble_eq_true rfl) (fun X O T => jf_X6_whoHas O (Nat.le_refl _) M (r, M1) h T)
def h_X6_hungriest_13 (G : wn_G) (ad : Nat → Nat) (X : wn_X) (x1 : Int32) (x2 : Int32) : Int32 × Int32 × Int32 × Mm → Prop := fun s => PW G S2 ad X 13 [(0, .ref (ad 0)), (1, .int x1), (2, .int x2), (3, .int s.1), (4, .int s.2.1), (5, .int s.2.2.1)] [] s.2.2.2
def f_X6_hungriest_b13 (x1 : Int32) (x2 : Int32) (x3 : Int32) (x4 : Int32) (x5 : Int32) (M : Mm) : Option ((Int32 × Int32 × Int32 × Mm) ⊕ (Int32 × Mm)) :=
  if (M.1 0 13) ≤ x5 then
    ex (
    some (x3, M))
  else
    if x5 = (M.1 0 14) then
      bi (x5 + (1 : Int32)) fun y3 =>
      some (.inl (x3, x4, y3, M))
    else
      gd (bin x5 5 = true) inferInstance <|
      gd (bin x5 5 = true) inferInstance <|
      if (M.1 6 (Int32.toNatClampNeg x5)) ≤ (M.1 8 (Int32.toNatClampNeg x5)) then
        bi (x5 + (1 : Int32)) fun y4 =>
        some (.inl (x3, x4, y4, M))
      else
        gd (bin x5 5 = true) inferInstance <|
        bd (f_X6_hungersOf x5 x1 (M.1 8 (Int32.toNatClampNeg x5)) x2 M) fun r6 M5 =>
        if x3 = (-1 : Int32) then
          bi (x5 + (1 : Int32)) fun y7 =>
          some (.inl (x5, r6, y7, M5))
        else
          if r6 ≤ x4 then
            bi (x5 + (1 : Int32)) fun y8 =>
            some (.inl (x3, x4, y8, M5))
          else
            bi (x5 + (1 : Int32)) fun y9 =>
            some (.inl (x5, r6, y9, M5))
set_option maxRecDepth 100000 in
set_option maxHeartbeats 4000000 in
theorem jf_X6_hungriest_b13 {G : wn_G} {ad : Nat → Nat} {X : wn_X} {d : Nat} (O : Ok G RX6 cX6_hungriest 7 d X) (hd0 : 109 ≤ d) (x1 : Int32) (x2 : Int32) (x3 : Int32) (x4 : Int32) (x5 : Int32) (M : Mm) : JW G S2 ad X 13 [(0, .ref (ad 0)), (1, .int x1), (2, .int x2), (3, .int x3), (4, .int x4), (5, .int x5)] [] M (f_X6_hungriest_b13 x1 x2 x3 x4 x5 M) (Kl (h_X6_hungriest_13 G ad X x1 x2) (Kri G S2 ad X)) := by
  unfold f_X6_hungriest_b13
  refine j_iload (pc := 13) O 5 dX6_hungriest_13 rfl ?_
  refine j_aload_n (pc := 15) O 0 dX6_hungriest_15 rfl ?_
  refine j_getf (pc := 16) (v := .int (M.1 0 13)) O 0 13 dX6_hungriest_16 fl_X6_91 so_S2_0 rfl rfl ?_
  refine j_icmp_ge (pc := 19) (tgt := 90) O dX6_hungriest_19 (by decide) ?_ ?_
  · refine jw_ex ?_
    refine j_iload_n (pc := 90) O 3 dX6_hungriest_90 rfl ?_
    exact j_iret (pc := 91) O dX6_hungriest_91
  · refine j_iload (pc := 22) O 5 dX6_hungriest_22 rfl ?_
    refine j_aload_n (pc := 24) O 0 dX6_hungriest_24 rfl ?_
    refine j_getf (pc := 25) (v := .int (M.1 0 14)) O 0 14 dX6_hungriest_25 fl_X6_41 so_S2_0 rfl rfl ?_
    refine j_icmp_eq (pc := 28) (tgt := 84) O dX6_hungriest_28 (by decide) ?_ ?_
    · refine j_iinc (pc := 84) (v := 1) (L2 := fun y => [(5, .int y), (0, .ref (ad 0)), (1, .int x1), (2, .int x2), (3, .int x3), (4, .int x4)]) O 5 dX6_hungriest_84 rfl (by decide) (by decide) (fun _ => rfl) (fun y3 => ?_)
      refine j_goto (pc := 87) (tgt := 13) O dX6_hungriest_87 (by decide) ?_
      exact jw_next (fun hh => pw_sub [1, 2, 3, 4, 5, 0] rfl hh)
    · refine j_aload_n (pc := 31) O 0 dX6_hungriest_31 rfl ?_
      refine j_getf (pc := 32) (v := .ref (ad 8)) O 0 30 dX6_hungriest_32 fl_X6_44 so_S2_0 rfl rfl ?_
      refine j_iload (pc := 35) O 5 dX6_hungriest_35 rfl ?_
      refine j_iald (pc := 37) O 8 dX6_hungriest_37 so_S2_8 ?_
      refine j_aload_n (pc := 38) O 0 dX6_hungriest_38 rfl ?_
      refine j_getf (pc := 39) (v := .ref (ad 6)) O 0 11 dX6_hungriest_39 fl_X6_35 so_S2_0 rfl rfl ?_
      refine j_iload (pc := 42) O 5 dX6_hungriest_42 rfl ?_
      refine j_iald (pc := 44) O 6 dX6_hungriest_44 so_S2_6 ?_
      refine j_icmp_ge (pc := 45) (tgt := 84) O dX6_hungriest_45 (by decide) ?_ ?_
      · refine j_iinc (pc := 84) (v := 1) (L2 := fun y => [(5, .int y), (0, .ref (ad 0)), (1, .int x1), (2, .int x2), (3, .int x3), (4, .int x4)]) O 5 dX6_hungriest_84 rfl (by decide) (by decide) (fun _ => rfl) (fun y4 => ?_)
        refine j_goto (pc := 87) (tgt := 13) O dX6_hungriest_87 (by decide) ?_
        exact jw_next (fun hh => pw_sub [1, 2, 3, 4, 5, 0] rfl hh)
      · refine j_aload_n (pc := 48) O 0 dX6_hungriest_48 rfl ?_
        refine j_iload (pc := 49) O 5 dX6_hungriest_49 rfl ?_
        refine j_iload_n (pc := 51) O 1 dX6_hungriest_51 rfl ?_
        refine j_aload_n (pc := 52) O 0 dX6_hungriest_52 rfl ?_
        refine j_getf (pc := 53) (v := .ref (ad 8)) O 0 30 dX6_hungriest_53 fl_X6_44 so_S2_0 rfl rfl ?_
        refine j_iload (pc := 56) O 5 dX6_hungriest_56 rfl ?_
        refine j_iald (pc := 58) O 8 dX6_hungriest_58 so_S2_8 ?_
        refine j_iload_n (pc := 59) O 2 dX6_hungriest_59 rfl ?_
        refine j_callVi (pc := 60) (dc := 108) (As := [.int x5, .int x1, .int (M.1 8 (Int32.toNatClampNeg x5)), .int x2]) (rest := []) O 0 (fun r M1 h => sp_X6_hungersOf h) dX6_hungriest_60 mv_X6_hungersOf lm_X6_116 so_S2_0 rfl rfl (Nat.le_of_ble_eq_true rfl) (Nat.le_trans (Nat.le_of_ble_eq_true rfl) hd0) (fun r6 M5 => ?_)
        refine j_istore (pc := 63) (L' := [(6, .int r6), (0, .ref (ad 0)), (1, .int x1), (2, .int x2), (3, .int x3), (4, .int x4), (5, .int x5)]) O dX6_hungriest_63 (by decide) rfl ?_
        refine j_iload_n (pc := 65) O 4 dX6_hungriest_65 rfl ?_
        refine j_iconst (pc := 66) (v := -1) O dX6_hungriest_66 (by decide) ?_
        refine j_icmp_eq (pc := 67) (tgt := 77) O dX6_hungriest_67 (by decide) ?_ ?_
        · refine j_iload (pc := 77) O 6 dX6_hungriest_77 rfl ?_
          refine j_istore_n (pc := 79) (L' := [(3, .int x5), (6, .int r6), (0, .ref (ad 0)), (1, .int x1), (2, .int x2), (4, .int x4), (5, .int x5)]) O dX6_hungriest_79 (by decide) rfl ?_
          refine j_iload (pc := 80) O 1 dX6_hungriest_80 rfl ?_
          refine j_istore (pc := 82) (L' := [(4, .int r6), (3, .int x5), (6, .int r6), (0, .ref (ad 0)), (1, .int x1), (2, .int x2), (5, .int x5)]) O dX6_hungriest_82 (by decide) rfl ?_
          refine j_iinc (pc := 84) (v := 1) (L2 := fun y => [(5, .int y), (4, .int r6), (3, .int x5), (6, .int r6), (0, .ref (ad 0)), (1, .int x1), (2, .int x2)]) O 6 dX6_hungriest_84 rfl (by decide) (by decide) (fun _ => rfl) (fun y7 => ?_)
          refine j_goto (pc := 87) (tgt := 13) O dX6_hungriest_87 (by decide) ?_
          exact jw_next (fun hh => pw_sub [4, 5, 6, 2, 1, 0] rfl hh)
        · refine j_iload (pc := 70) O 0 dX6_hungriest_70 rfl ?_
          refine j_iload (pc := 72) O 5 dX6_hungriest_72 rfl ?_
          refine j_icmp_le (pc := 74) (tgt := 84) O dX6_hungriest_74 (by decide) ?_ ?_
          · refine j_iinc (pc := 84) (v := 1) (L2 := fun y => [(5, .int y), (6, .int r6), (0, .ref (ad 0)), (1, .int x1), (2, .int x2), (3, .int x3), (4, .int x4)]) O 6 dX6_hungriest_84 rfl (by decide) (by decide) (fun _ => rfl) (fun y8 => ?_)
            refine j_goto (pc := 87) (tgt := 13) O dX6_hungriest_87 (by decide) ?_
            exact jw_next (fun hh => pw_sub [2, 3, 4, 5, 6, 0] rfl hh)
          · refine j_iload (pc := 77) O 6 dX6_hungriest_77 rfl ?_
            refine j_istore_n (pc := 79) (L' := [(3, .int x5), (6, .int r6), (0, .ref (ad 0)), (1, .int x1), (2, .int x2), (4, .int x4), (5, .int x5)]) O dX6_hungriest_79 (by decide) rfl ?_
            refine j_iload (pc := 80) O 1 dX6_hungriest_80 rfl ?_
            refine j_istore (pc := 82) (L' := [(4, .int r6), (3, .int x5), (6, .int r6), (0, .ref (ad 0)), (1, .int x1), (2, .int x2), (5, .int x5)]) O dX6_hungriest_82 (by decide) rfl ?_
            refine j_iinc (pc := 84) (v := 1) (L2 := fun y => [(5, .int y), (4, .int r6), (3, .int x5), (6, .int r6), (0, .ref (ad 0)), (1, .int x1), (2, .int x2)]) O 6 dX6_hungriest_84 rfl (by decide) (by decide) (fun _ => rfl) (fun y9 => ?_)
            refine j_goto (pc := 87) (tgt := 13) O dX6_hungriest_87 (by decide) ?_
            exact jw_next (fun hh => pw_sub [4, 5, 6, 2, 1, 0] rfl hh)
def f_X6_hungriest (x1 : Int32) (M : Mm) : Option (Int32 × Mm) :=
  bd (f_X6_leastHad M) fun r2 M1 =>
  iter (fun s => f_X6_hungriest_b13 x1 r2 s.1 s.2.1 s.2.2.1 s.2.2.2) fuel ((-1 : Int32), (0 : Int32), (0 : Int32), M1)
set_option maxRecDepth 100000 in
set_option maxHeartbeats 4000000 in
theorem jf_X6_hungriest {G : wn_G} {ad : Nat → Nat} {X : wn_X} {d : Nat} (O : Ok G RX6 cX6_hungriest 7 d X) (hd0 : 109 ≤ d) (x1 : Int32) (M : Mm) : JW G S2 ad X 0 [(0, .ref (ad 0)), (1, .int x1)] [] M (f_X6_hungriest x1 M) (Kri G S2 ad X) := by
  unfold f_X6_hungriest
  refine j_aload_n (pc := 0) O 0 dX6_hungriest_0 rfl ?_
  refine j_callVi (pc := 1) (dc := 1) (As := []) (rest := []) O 0 (fun r M1 h => sp_X6_leastHad h) dX6_hungriest_1 mv_X6_leastHad lm_X6_260 so_S2_0 rfl rfl (Nat.le_of_ble_eq_true rfl) (Nat.le_trans (Nat.le_of_ble_eq_true rfl) hd0) (fun r2 M1 => ?_)
  refine j_istore_n (pc := 4) (L' := [(2, .int r2), (0, .ref (ad 0)), (1, .int x1)]) O dX6_hungriest_4 (by decide) rfl ?_
  refine j_iconst (pc := 5) (v := -1) O dX6_hungriest_5 (by decide) ?_
  refine j_istore_n (pc := 6) (L' := [(3, .int (-1 : Int32)), (2, .int r2), (0, .ref (ad 0)), (1, .int x1)]) O dX6_hungriest_6 (by decide) rfl ?_
  refine j_iconst (pc := 7) (v := 0) O dX6_hungriest_7 (by decide) ?_
  refine j_istore (pc := 8) (L' := [(4, .int (0 : Int32)), (3, .int (-1 : Int32)), (2, .int r2), (0, .ref (ad 0)), (1, .int x1)]) O dX6_hungriest_8 (by decide) rfl ?_
  refine j_iconst (pc := 10) (v := 0) O dX6_hungriest_10 (by decide) ?_
  refine j_istore (pc := 11) (L' := [(5, .int (0 : Int32)), (4, .int (0 : Int32)), (3, .int (-1 : Int32)), (2, .int r2), (0, .ref (ad 0)), (1, .int x1)]) O dX6_hungriest_11 (by decide) rfl ?_
  exact jw_iter (hd := h_X6_hungriest_13 G ad X x1 r2) (fun hh => pw_sub [4, 5, 3, 2, 1, 0] rfl hh) (fun s => jf_X6_hungriest_b13 O hd0 x1 r2 s.1 s.2.1 s.2.2.1 s.2.2.2)
theorem sp_X6_hungriest {G : wn_G} {ad : Nat → Nat} {x1 : Int32} {M : Mm} {r : Int32} {M1 : Mm} (h : f_X6_hungriest x1 M = some (r, M1)) : Sp G S2 ad mX6_hungriest 109 [.ref (ad 0), .int x1] M M1 (some (.int r)) :=
  sp_intro (own := RX6) (by decide +kernel) rfl (Nat.le_of_ble_eq_true rfl) (fun X O T => jf_X6_hungriest O (Nat.le_refl _) x1 M (r, M1) h T)
def f_X6_towards_j73 (x1 : Int32) (x2 : Int32) (x4 : Int32) (M : Mm) : Option (Int32 × Mm) :=
  if x2 = (2 : Int32) then
    bd (f_X6_hungriest x4 M) fun r4 M3 =>
    some (r4, M3)
  else
    if x2 = (3 : Int32) then
      bd (f_X6_whoHas M) fun r2 M1 =>
      some (r2, M1)
    else
      gd (¬ (M.1 0 13) = 0) inferInstance <|
      some ((irm x1 (M.1 0 13)), M)
set_option maxRecDepth 100000 in
set_option maxHeartbeats 4000000 in
theorem jf_X6_towards_j73 {G : wn_G} {ad : Nat → Nat} {X : wn_X} {d : Nat} (O : Ok G RX6 cX6_towards 6 d X) (hd0 : 110 ≤ d) (x1 : Int32) (x2 : Int32) (x4 : Int32) (M : Mm) : JW G S2 ad X 73 [(0, .ref (ad 0)), (1, .int x1), (2, .int x2), (4, .int x4)] [] M (f_X6_towards_j73 x1 x2 x4 M) (Kri G S2 ad X) := by
  unfold f_X6_towards_j73
  refine j_iload_n (pc := 73) O 2 dX6_towards_73 rfl ?_
  refine j_iconst (pc := 74) (v := 2) O dX6_towards_74 (by decide) ?_
  refine j_icmp_ne (pc := 75) (tgt := 85) O dX6_towards_75 (by decide) ?_ ?_
  · refine j_aload_n (pc := 78) O 0 dX6_towards_78 rfl ?_
    refine j_iload (pc := 79) O 3 dX6_towards_79 rfl ?_
    refine j_callVi (pc := 81) (dc := 109) (As := [.int x4]) (rest := []) O 0 (fun r M1 h => sp_X6_hungriest h) dX6_towards_81 mv_X6_hungriest lm_X6_263 so_S2_0 rfl rfl (Nat.le_of_ble_eq_true rfl) (Nat.le_trans (Nat.le_of_ble_eq_true rfl) hd0) (fun r4 M3 => ?_)
    exact j_iret (pc := 84) O dX6_towards_84
  · refine j_iload_n (pc := 85) O 2 dX6_towards_85 rfl ?_
    refine j_iconst (pc := 86) (v := 3) O dX6_towards_86 (by decide) ?_
    refine j_icmp_ne (pc := 87) (tgt := 97) O dX6_towards_87 (by decide) ?_ ?_
    · refine j_aload_n (pc := 90) O 0 dX6_towards_90 rfl ?_
      refine j_callVi (pc := 91) (dc := 2) (As := []) (rest := []) O 0 (fun r M1 h => sp_X6_whoHas h) dX6_towards_91 mv_X6_whoHas lm_X6_266 so_S2_0 rfl rfl (Nat.le_of_ble_eq_true rfl) (Nat.le_trans (Nat.le_of_ble_eq_true rfl) hd0) (fun r2 M1 => ?_)
      refine j_goto (pc := 94) (tgt := 103) O dX6_towards_94 (by decide) ?_
      exact j_iret (pc := 103) O dX6_towards_103
    · refine j_iload_n (pc := 97) O 1 dX6_towards_97 rfl ?_
      refine j_aload_n (pc := 98) O 0 dX6_towards_98 rfl ?_
      refine j_getf (pc := 99) (v := .int (M.1 0 13)) O 0 13 dX6_towards_99 fl_X6_91 so_S2_0 rfl rfl ?_
      refine j_irem (pc := 102) O dX6_towards_102 ?_
      exact j_iret (pc := 103) O dX6_towards_103
def f_X6_towards_j38 (s0 : Int32) (M : Mm) : Option (Int32 × Mm) :=
  bd (f_X6_isEater s0 M) fun r6 M5 =>
  if r6 = 0 then
    some ((-1 : Int32), M5)
  else
    some (s0, M5)
set_option maxRecDepth 100000 in
set_option maxHeartbeats 4000000 in
theorem jf_X6_towards_j38 {G : wn_G} {ad : Nat → Nat} {X : wn_X} {d : Nat} (O : Ok G RX6 cX6_towards 6 d X) (hd0 : 110 ≤ d) (s0 : Int32) (M : Mm) : JW G S2 ad X 38 [(0, .ref (ad 0))] [.int s0] M (f_X6_towards_j38 s0 M) (Kri G S2 ad X) := by
  unfold f_X6_towards_j38
  refine j_istore (pc := 38) (L' := [(5, .int s0), (0, .ref (ad 0))]) O dX6_towards_38 (by decide) rfl ?_
  refine j_aload_n (pc := 40) O 1 dX6_towards_40 rfl ?_
  refine j_iload (pc := 41) O 0 dX6_towards_41 rfl ?_
  refine j_callVi (pc := 43) (dc := 2) (As := [.int s0]) (rest := []) O 0 (fun r M1 h => sp_X6_isEater h) dX6_towards_43 mv_X6_isEater lm_X6_100 so_S2_0 rfl rfl (Nat.le_of_ble_eq_true rfl) (Nat.le_trans (Nat.le_of_ble_eq_true rfl) hd0) (fun r6 M5 => ?_)
  refine j_if_eq (pc := 46) (tgt := 54) O dX6_towards_46 (by decide) ?_ ?_
  · refine j_iconst (pc := 54) (v := -1) O dX6_towards_54 (by decide) ?_
    exact j_iret (pc := 55) O dX6_towards_55
  · refine j_iload (pc := 49) O 0 dX6_towards_49 rfl ?_
    refine j_goto (pc := 51) (tgt := 55) O dX6_towards_51 (by decide) ?_
    exact j_iret (pc := 55) O dX6_towards_55
def f_X6_towards (x1 : Int32) (x2 : Int32) (x3 : Int32) (x4 : Int32) (M : Mm) : Option (Int32 × Mm) :=
  if (M.1 0 13) = 0 then
    some ((-1 : Int32), M)
  else
    if x2 = 0 then
      gd (bin x3 4 = true) inferInstance <|
      if (M.1 18 (Int32.toNatClampNeg x3)) ≤ x1 then
        f_X6_towards_j38 (-1 : Int32) M
      else
        gd (bin (((40 : Int32) * x3) + x1) 160 = true) inferInstance <|
        f_X6_towards_j38 (M.1 19 (Int32.toNatClampNeg (((40 : Int32) * x3) + x1))) M
    else
      if x2 = (4 : Int32) then
        if x3 ≤ x1 then
          f_X6_towards_j73 x1 x2 x4 M
        else
          gd (bin x1 12 = true) inferInstance <|
          some ((M.1 13 (Int32.toNatClampNeg x1)), M)
      else
        f_X6_towards_j73 x1 x2 x4 M
set_option maxRecDepth 100000 in
set_option maxHeartbeats 4000000 in
theorem jf_X6_towards {G : wn_G} {ad : Nat → Nat} {X : wn_X} {d : Nat} (O : Ok G RX6 cX6_towards 6 d X) (hd0 : 110 ≤ d) (x1 : Int32) (x2 : Int32) (x3 : Int32) (x4 : Int32) (M : Mm) : JW G S2 ad X 0 [(0, .ref (ad 0)), (1, .int x1), (2, .int x2), (3, .int x3), (4, .int x4)] [] M (f_X6_towards x1 x2 x3 x4 M) (Kri G S2 ad X) := by
  unfold f_X6_towards
  refine j_aload_n (pc := 0) O 0 dX6_towards_0 rfl ?_
  refine j_getf (pc := 1) (v := .int (M.1 0 13)) O 0 13 dX6_towards_1 fl_X6_91 so_S2_0 rfl rfl ?_
  refine j_if_ne (pc := 4) (tgt := 9) O dX6_towards_4 (by decide) ?_ ?_
  · refine j_iconst (pc := 7) (v := -1) O dX6_towards_7 (by decide) ?_
    exact j_iret (pc := 8) O dX6_towards_8
  · refine j_iload_n (pc := 9) O 2 dX6_towards_9 rfl ?_
    refine j_if_ne (pc := 10) (tgt := 56) O dX6_towards_10 (by decide) ?_ ?_
    · refine j_iload_n (pc := 13) O 1 dX6_towards_13 rfl ?_
      refine j_aload_n (pc := 14) O 0 dX6_towards_14 rfl ?_
      refine j_getf (pc := 15) (v := .ref (ad 18)) O 0 50 dX6_towards_15 fl_X6_78 so_S2_0 rfl rfl ?_
      refine j_iload_n (pc := 18) O 3 dX6_towards_18 rfl ?_
      refine j_iald (pc := 19) O 18 dX6_towards_19 so_S2_18 ?_
      refine j_icmp_ge (pc := 20) (tgt := 37) O dX6_towards_20 (by decide) ?_ ?_
      · refine j_iconst (pc := 37) (v := -1) O dX6_towards_37 (by decide) ?_
        exact jw_sub [0] rfl (jf_X6_towards_j38 O hd0 (-1 : Int32) M)
      · refine j_aload_n (pc := 23) O 0 dX6_towards_23 rfl ?_
        refine j_getf (pc := 24) (v := .ref (ad 19)) O 0 51 dX6_towards_24 fl_X6_81 so_S2_0 rfl rfl ?_
        refine j_bipush (pc := 27) (v := 40) O dX6_towards_27 (by decide) ?_
        refine j_iload_n (pc := 29) O 3 dX6_towards_29 rfl ?_
        refine j_imul (pc := 30) O dX6_towards_30 ?_
        refine j_iload_n (pc := 31) O 1 dX6_towards_31 rfl ?_
        refine j_iadd (pc := 32) O dX6_towards_32 ?_
        refine j_iald (pc := 33) O 19 dX6_towards_33 so_S2_19 ?_
        refine j_goto (pc := 34) (tgt := 38) O dX6_towards_34 (by decide) ?_
        exact jw_sub [0] rfl (jf_X6_towards_j38 O hd0 (M.1 19 (Int32.toNatClampNeg (((40 : Int32) * x3) + x1))) M)
    · refine j_iload_n (pc := 56) O 2 dX6_towards_56 rfl ?_
      refine j_iconst (pc := 57) (v := 4) O dX6_towards_57 (by decide) ?_
      refine j_icmp_ne (pc := 58) (tgt := 73) O dX6_towards_58 (by decide) ?_ ?_
      · refine j_iload_n (pc := 61) O 1 dX6_towards_61 rfl ?_
        refine j_iload_n (pc := 62) O 3 dX6_towards_62 rfl ?_
        refine j_icmp_ge (pc := 63) (tgt := 73) O dX6_towards_63 (by decide) ?_ ?_
        · exact jw_sub [0, 1, 2, 4] rfl (jf_X6_towards_j73 O hd0 x1 x2 x4 M)
        · refine j_aload_n (pc := 66) O 0 dX6_towards_66 rfl ?_
          refine j_getf (pc := 67) (v := .ref (ad 13)) O 0 35 dX6_towards_67 fl_X6_59 so_S2_0 rfl rfl ?_
          refine j_iload_n (pc := 70) O 1 dX6_towards_70 rfl ?_
          refine j_iald (pc := 71) O 13 dX6_towards_71 so_S2_13 ?_
          exact j_iret (pc := 72) O dX6_towards_72
      · exact jw_sub [0, 1, 2, 4] rfl (jf_X6_towards_j73 O hd0 x1 x2 x4 M)
theorem sp_X6_towards {G : wn_G} {ad : Nat → Nat} {x1 : Int32} {x2 : Int32} {x3 : Int32} {x4 : Int32} {M : Mm} {r : Int32} {M1 : Mm} (h : f_X6_towards x1 x2 x3 x4 M = some (r, M1)) : Sp G S2 ad mX6_towards 110 [.ref (ad 0), .int x1, .int x2, .int x3, .int x4] M M1 (some (.int r)) :=
  sp_intro (own := RX6) (by decide +kernel) rfl (Nat.le_of_ble_eq_true rfl) (fun X O T => jf_X6_towards O (Nat.le_refl _) x1 x2 x3 x4 M (r, M1) h T)
def f_X6_worthOf (x1 : Int32) (x2 : Int32) (x3 : Int32) (x4 : Int32) (x5 : Int32) (M : Mm) : Option (Int32 × Mm) :=
  bm (ms M 0 15 x1) fun M1 =>
  bm (ms M1 0 16 x3) fun M2 =>
  bm (ms M2 0 17 x4) fun M3 =>
  gd (bin x2 5 = true) inferInstance <|
  bm (ms M3 0 18 (M3.1 6 (Int32.toNatClampNeg x2))) fun M4 =>
  bm (ms M4 0 19 x2) fun M5 =>
  bm (ms M5 0 20 x5) fun M6 =>
  bd (f_X6_read (M6.1 0 4) (2 : Int32) M6) fun r8 M7 =>
  bd (f_X6_within r8 (0 : Int32) (99 : Int32) M7) fun r10 M9 =>
  some (r10, M9)
set_option maxRecDepth 100000 in
set_option maxHeartbeats 4000000 in
theorem jf_X6_worthOf {G : wn_G} {ad : Nat → Nat} {X : wn_X} {d : Nat} (O : Ok G RX6 cX6_worthOf 6 d X) (hd0 : 108 ≤ d) (x1 : Int32) (x2 : Int32) (x3 : Int32) (x4 : Int32) (x5 : Int32) (M : Mm) : JW G S2 ad X 0 [(0, .ref (ad 0)), (1, .int x1), (2, .int x2), (3, .int x3), (4, .int x4), (5, .int x5)] [] M (f_X6_worthOf x1 x2 x3 x4 x5 M) (Kri G S2 ad X) := by
  unfold f_X6_worthOf
  refine j_aload_n (pc := 0) O 0 dX6_worthOf_0 rfl ?_
  refine j_iload_n (pc := 1) O 1 dX6_worthOf_1 rfl ?_
  refine j_puti (pc := 2) O 0 15 dX6_worthOf_2 fl_X6_185 so_S2_0 ft_X6_15 rfl (fun M1 => ?_)
  refine j_aload_n (pc := 5) O 0 dX6_worthOf_5 rfl ?_
  refine j_iload_n (pc := 6) O 3 dX6_worthOf_6 rfl ?_
  refine j_puti (pc := 7) O 0 16 dX6_worthOf_7 fl_X6_188 so_S2_0 ft_X6_16 rfl (fun M2 => ?_)
  refine j_aload_n (pc := 10) O 0 dX6_worthOf_10 rfl ?_
  refine j_iload (pc := 11) O 4 dX6_worthOf_11 rfl ?_
  refine j_puti (pc := 13) O 0 17 dX6_worthOf_13 fl_X6_191 so_S2_0 ft_X6_17 rfl (fun M3 => ?_)
  refine j_aload_n (pc := 16) O 0 dX6_worthOf_16 rfl ?_
  refine j_aload_n (pc := 17) O 0 dX6_worthOf_17 rfl ?_
  refine j_getf (pc := 18) (v := .ref (ad 6)) O 0 11 dX6_worthOf_18 fl_X6_35 so_S2_0 rfl rfl ?_
  refine j_iload_n (pc := 21) O 2 dX6_worthOf_21 rfl ?_
  refine j_iald (pc := 22) O 6 dX6_worthOf_22 so_S2_6 ?_
  refine j_puti (pc := 23) O 0 18 dX6_worthOf_23 fl_X6_194 so_S2_0 ft_X6_18 rfl (fun M4 => ?_)
  refine j_aload_n (pc := 26) O 0 dX6_worthOf_26 rfl ?_
  refine j_iload_n (pc := 27) O 2 dX6_worthOf_27 rfl ?_
  refine j_puti (pc := 28) O 0 19 dX6_worthOf_28 fl_X6_197 so_S2_0 ft_X6_19 rfl (fun M5 => ?_)
  refine j_aload_n (pc := 31) O 0 dX6_worthOf_31 rfl ?_
  refine j_iload (pc := 32) O 5 dX6_worthOf_32 rfl ?_
  refine j_puti (pc := 34) O 0 20 dX6_worthOf_34 fl_X6_200 so_S2_0 ft_X6_20 rfl (fun M6 => ?_)
  refine j_aload_n (pc := 37) O 0 dX6_worthOf_37 rfl ?_
  refine j_aload_n (pc := 38) O 0 dX6_worthOf_38 rfl ?_
  refine j_getf (pc := 39) (v := .int (M6.1 0 4)) O 0 4 dX6_worthOf_39 fl_X6_244 so_S2_0 rfl rfl ?_
  refine j_iconst (pc := 42) (v := 2) O dX6_worthOf_42 (by decide) ?_
  refine j_callVi (pc := 43) (dc := 107) (As := [.int (M6.1 0 4), .int (2 : Int32)]) (rest := []) O 0 (fun r M1 h => sp_X6_read h) dX6_worthOf_43 mv_X6_read lm_X6_240 so_S2_0 rfl rfl (Nat.le_of_ble_eq_true rfl) (Nat.le_trans (Nat.le_of_ble_eq_true rfl) hd0) (fun r8 M7 => ?_)
  refine j_iconst (pc := 46) (v := 0) O dX6_worthOf_46 (by decide) ?_
  refine j_bipush (pc := 47) (v := 99) O dX6_worthOf_47 (by decide) ?_
  refine j_callSi (pc := 49) (dc := 1) (As := [.int r8, .int (0 : Int32), .int (99 : Int32)]) (rest := []) O (fun r M1 h => sp_X6_within h) dX6_worthOf_49 mst_X6_within lm_X6_247 rfl rfl (Nat.le_of_ble_eq_true rfl) (Nat.le_trans (Nat.le_of_ble_eq_true rfl) hd0) (fun r10 M9 => ?_)
  exact j_iret (pc := 52) O dX6_worthOf_52
theorem sp_X6_worthOf {G : wn_G} {ad : Nat → Nat} {x1 : Int32} {x2 : Int32} {x3 : Int32} {x4 : Int32} {x5 : Int32} {M : Mm} {r : Int32} {M1 : Mm} (h : f_X6_worthOf x1 x2 x3 x4 x5 M = some (r, M1)) : Sp G S2 ad mX6_worthOf 108 [.ref (ad 0), .int x1, .int x2, .int x3, .int x4, .int x5] M M1 (some (.int r)) :=
  sp_intro (own := RX6) (by decide +kernel) rfl (Nat.le_of_ble_eq_true rfl) (fun X O T => jf_X6_worthOf O (Nat.le_refl _) x1 x2 x3 x4 x5 M (r, M1) h T)
def f_X6_gives_j45 (x1 : Int32) (x2 : Int32) (s0 : Int32) (M : Mm) : Option (Mm) :=
  gd (bin x2 5 = true) inferInstance <|
  gd (bin x1 12 = true) inferInstance <|
  bd (f_X6_worthOf x1 x2 s0 (M.1 8 (Int32.toNatClampNeg x2)) (s0 - (M.1 11 (Int32.toNatClampNeg x1))) M) fun r2 M1 =>
  bm (ms M1 0 36 ((M.1 0 36) - r2)) fun M3 =>
  gd (bin x2 5 = true) inferInstance <|
  gd (bin x2 5 = true) inferInstance <| bm (ms M3 8 (Int32.toNatClampNeg x2) ((M3.1 8 (Int32.toNatClampNeg x2)) + (1 : Int32))) fun M4 =>
  bd (f_X6_eatsOf x2 M4) fun r6 M5 =>
  gd (bin x2 5 = true) inferInstance <| bm (ms M5 9 (Int32.toNatClampNeg x2) (s0 + r6)) fun M7 =>
  bm (ms M7 0 38 ((M7.1 0 38) + (1 : Int32))) fun M8 =>
  some M8
set_option maxRecDepth 100000 in
set_option maxHeartbeats 4000000 in
theorem jf_X6_gives_j45 {G : wn_G} {ad : Nat → Nat} {X : wn_X} {d : Nat} (O : Ok G RX6 cX6_gives 5 d X) (hd0 : 109 ≤ d) (x1 : Int32) (x2 : Int32) (s0 : Int32) (M : Mm) : JW G S2 ad X 45 [(0, .ref (ad 0)), (1, .int x1), (2, .int x2)] [.int s0] M (f_X6_gives_j45 x1 x2 s0 M) (Krv G S2 ad X) := by
  unfold f_X6_gives_j45
  refine j_istore (pc := 45) (L' := [(4, .int s0), (0, .ref (ad 0)), (1, .int x1), (2, .int x2)]) O dX6_gives_45 (by decide) rfl ?_
  refine j_aload_n (pc := 47) O 1 dX6_gives_47 rfl ?_
  refine j_dup (pc := 48) O dX6_gives_48 rfl ?_
  refine j_getf (pc := 49) (v := .int (M.1 0 36)) O 0 36 dX6_gives_49 fl_X6_272 so_S2_0 rfl rfl ?_
  refine j_aload_n (pc := 52) O 1 dX6_gives_52 rfl ?_
  refine j_iload_n (pc := 53) O 2 dX6_gives_53 rfl ?_
  refine j_iload_n (pc := 54) O 3 dX6_gives_54 rfl ?_
  refine j_iload (pc := 55) O 0 dX6_gives_55 rfl ?_
  refine j_aload_n (pc := 57) O 1 dX6_gives_57 rfl ?_
  refine j_getf (pc := 58) (v := .ref (ad 8)) O 0 30 dX6_gives_58 fl_X6_44 so_S2_0 rfl rfl ?_
  refine j_iload_n (pc := 61) O 3 dX6_gives_61 rfl ?_
  refine j_iald (pc := 62) O 8 dX6_gives_62 so_S2_8 ?_
  refine j_iload (pc := 63) O 0 dX6_gives_63 rfl ?_
  refine j_aload_n (pc := 65) O 1 dX6_gives_65 rfl ?_
  refine j_getf (pc := 66) (v := .ref (ad 11)) O 0 33 dX6_gives_66 fl_X6_53 so_S2_0 rfl rfl ?_
  refine j_iload_n (pc := 69) O 2 dX6_gives_69 rfl ?_
  refine j_iald (pc := 70) O 11 dX6_gives_70 so_S2_11 ?_
  refine j_isub (pc := 71) O dX6_gives_71 ?_
  refine j_callVi (pc := 72) (dc := 108) (As := [.int x1, .int x2, .int s0, .int (M.1 8 (Int32.toNatClampNeg x2)), .int (s0 - (M.1 11 (Int32.toNatClampNeg x1)))]) (rest := [.int (M.1 0 36), .ref (ad 0)]) O 0 (fun r M1 h => sp_X6_worthOf h) dX6_gives_72 mv_X6_worthOf lm_X6_275 so_S2_0 rfl rfl (Nat.le_of_ble_eq_true rfl) (Nat.le_trans (Nat.le_of_ble_eq_true rfl) hd0) (fun r2 M1 => ?_)
  refine j_isub (pc := 75) O dX6_gives_75 ?_
  refine j_puti (pc := 76) O 0 36 dX6_gives_76 fl_X6_272 so_S2_0 ft_X6_36 rfl (fun M3 => ?_)
  refine j_aload_n (pc := 79) O 1 dX6_gives_79 rfl ?_
  refine j_getf (pc := 80) (v := .ref (ad 8)) O 0 30 dX6_gives_80 fl_X6_44 so_S2_0 rfl rfl ?_
  refine j_iload_n (pc := 83) O 3 dX6_gives_83 rfl ?_
  refine j_dup2 (pc := 84) O dX6_gives_84 rfl rfl ?_
  refine j_iald (pc := 85) O 8 dX6_gives_85 so_S2_8 ?_
  refine j_iconst (pc := 86) (v := 1) O dX6_gives_86 (by decide) ?_
  refine j_iadd (pc := 87) O dX6_gives_87 ?_
  refine j_iast (pc := 88) O 8 dX6_gives_88 so_S2_8 (fun M4 => ?_)
  refine j_aload_n (pc := 89) O 1 dX6_gives_89 rfl ?_
  refine j_getf (pc := 90) (v := .ref (ad 9)) O 0 31 dX6_gives_90 fl_X6_47 so_S2_0 rfl rfl ?_
  refine j_iload_n (pc := 93) O 3 dX6_gives_93 rfl ?_
  refine j_iload (pc := 94) O 0 dX6_gives_94 rfl ?_
  refine j_aload_n (pc := 96) O 1 dX6_gives_96 rfl ?_
  refine j_iload_n (pc := 97) O 3 dX6_gives_97 rfl ?_
  refine j_callVi (pc := 98) (dc := 1) (As := [.int x2]) (rest := [.int s0, .int x2, .ref (ad 9)]) O 0 (fun r M1 h => sp_X6_eatsOf h) dX6_gives_98 mv_X6_eatsOf lm_X6_120 so_S2_0 rfl rfl (Nat.le_of_ble_eq_true rfl) (Nat.le_trans (Nat.le_of_ble_eq_true rfl) hd0) (fun r6 M5 => ?_)
  refine j_iadd (pc := 101) O dX6_gives_101 ?_
  refine j_iast (pc := 102) O 9 dX6_gives_102 so_S2_9 (fun M7 => ?_)
  refine j_aload_n (pc := 103) O 1 dX6_gives_103 rfl ?_
  refine j_dup (pc := 104) O dX6_gives_104 rfl ?_
  refine j_getf (pc := 105) (v := .int (M7.1 0 38)) O 0 38 dX6_gives_105 fl_X6_279 so_S2_0 rfl rfl ?_
  refine j_iconst (pc := 108) (v := 1) O dX6_gives_108 (by decide) ?_
  refine j_iadd (pc := 109) O dX6_gives_109 ?_
  refine j_puti (pc := 110) O 0 38 dX6_gives_110 fl_X6_279 so_S2_0 ft_X6_38 rfl (fun M8 => ?_)
  exact j_vret (pc := 113) O dX6_gives_113
def f_X6_gives_j44 (x1 : Int32) (x2 : Int32) (x3 : Int32) (M : Mm) : Option (Mm) :=
  f_X6_gives_j45 x1 x2 x3 M
set_option maxRecDepth 100000 in
set_option maxHeartbeats 4000000 in
theorem jf_X6_gives_j44 {G : wn_G} {ad : Nat → Nat} {X : wn_X} {d : Nat} (O : Ok G RX6 cX6_gives 5 d X) (hd0 : 109 ≤ d) (x1 : Int32) (x2 : Int32) (x3 : Int32) (M : Mm) : JW G S2 ad X 44 [(0, .ref (ad 0)), (1, .int x1), (2, .int x2), (3, .int x3)] [] M (f_X6_gives_j44 x1 x2 x3 M) (Krv G S2 ad X) := by
  unfold f_X6_gives_j44
  refine j_iload_n (pc := 44) O 3 dX6_gives_44 rfl ?_
  exact jw_sub [0, 1, 2] rfl (jf_X6_gives_j45 O hd0 x1 x2 x3 M)
def f_X6_gives (x1 : Int32) (x2 : Int32) (x3 : Int32) (M : Mm) : Option (Mm) :=
  if x2 = (-1 : Int32) then
    bm (ms M 0 39 ((M.1 0 39) + (1 : Int32))) fun M9 =>
    some M9
  else
    gd (bin x2 5 = true) inferInstance <|
    if (M.1 8 (Int32.toNatClampNeg x2)) ≤ 0 then
      f_X6_gives_j44 x1 x2 x3 M
    else
      gd (bin x2 5 = true) inferInstance <|
      if (M.1 9 (Int32.toNatClampNeg x2)) ≤ x3 then
        f_X6_gives_j44 x1 x2 x3 M
      else
        gd (bin x2 5 = true) inferInstance <|
        f_X6_gives_j45 x1 x2 (M.1 9 (Int32.toNatClampNeg x2)) M
set_option maxRecDepth 100000 in
set_option maxHeartbeats 4000000 in
theorem jf_X6_gives {G : wn_G} {ad : Nat → Nat} {X : wn_X} {d : Nat} (O : Ok G RX6 cX6_gives 5 d X) (hd0 : 109 ≤ d) (x1 : Int32) (x2 : Int32) (x3 : Int32) (M : Mm) : JW G S2 ad X 0 [(0, .ref (ad 0)), (1, .int x1), (2, .int x2), (3, .int x3)] [] M (f_X6_gives x1 x2 x3 M) (Krv G S2 ad X) := by
  unfold f_X6_gives
  refine j_iload_n (pc := 0) O 2 dX6_gives_0 rfl ?_
  refine j_iconst (pc := 1) (v := -1) O dX6_gives_1 (by decide) ?_
  refine j_icmp_ne (pc := 2) (tgt := 16) O dX6_gives_2 (by decide) ?_ ?_
  · refine j_aload_n (pc := 5) O 0 dX6_gives_5 rfl ?_
    refine j_dup (pc := 6) O dX6_gives_6 rfl ?_
    refine j_getf (pc := 7) (v := .int (M.1 0 39)) O 0 39 dX6_gives_7 fl_X6_269 so_S2_0 rfl rfl ?_
    refine j_iconst (pc := 10) (v := 1) O dX6_gives_10 (by decide) ?_
    refine j_iadd (pc := 11) O dX6_gives_11 ?_
    refine j_puti (pc := 12) O 0 39 dX6_gives_12 fl_X6_269 so_S2_0 ft_X6_39 rfl (fun M9 => ?_)
    exact j_vret (pc := 15) O dX6_gives_15
  · refine j_aload_n (pc := 16) O 0 dX6_gives_16 rfl ?_
    refine j_getf (pc := 17) (v := .ref (ad 8)) O 0 30 dX6_gives_17 fl_X6_44 so_S2_0 rfl rfl ?_
    refine j_iload_n (pc := 20) O 2 dX6_gives_20 rfl ?_
    refine j_iald (pc := 21) O 8 dX6_gives_21 so_S2_8 ?_
    refine j_if_le (pc := 22) (tgt := 44) O dX6_gives_22 (by decide) ?_ ?_
    · exact jw_sub [0, 1, 2, 3] rfl (jf_X6_gives_j44 O hd0 x1 x2 x3 M)
    · refine j_aload_n (pc := 25) O 0 dX6_gives_25 rfl ?_
      refine j_getf (pc := 26) (v := .ref (ad 9)) O 0 31 dX6_gives_26 fl_X6_47 so_S2_0 rfl rfl ?_
      refine j_iload_n (pc := 29) O 2 dX6_gives_29 rfl ?_
      refine j_iald (pc := 30) O 9 dX6_gives_30 so_S2_9 ?_
      refine j_iload_n (pc := 31) O 3 dX6_gives_31 rfl ?_
      refine j_icmp_le (pc := 32) (tgt := 44) O dX6_gives_32 (by decide) ?_ ?_
      · exact jw_sub [0, 1, 2, 3] rfl (jf_X6_gives_j44 O hd0 x1 x2 x3 M)
      · refine j_aload_n (pc := 35) O 0 dX6_gives_35 rfl ?_
        refine j_getf (pc := 36) (v := .ref (ad 9)) O 0 31 dX6_gives_36 fl_X6_47 so_S2_0 rfl rfl ?_
        refine j_iload_n (pc := 39) O 2 dX6_gives_39 rfl ?_
        refine j_iald (pc := 40) O 9 dX6_gives_40 so_S2_9 ?_
        refine j_goto (pc := 41) (tgt := 45) O dX6_gives_41 (by decide) ?_
        exact jw_sub [0, 1, 2] rfl (jf_X6_gives_j45 O hd0 x1 x2 (M.1 9 (Int32.toNatClampNeg x2)) M)
theorem sp_X6_gives {G : wn_G} {ad : Nat → Nat} {x1 : Int32} {x2 : Int32} {x3 : Int32} {M M1 : Mm} (h : f_X6_gives x1 x2 x3 M = some M1) : Sp G S2 ad mX6_gives 109 [.ref (ad 0), .int x1, .int x2, .int x3] M M1 none :=
  sp_intro (own := RX6) (by decide +kernel) rfl (Nat.le_of_ble_eq_true rfl) (fun X O T => jf_X6_gives O (Nat.le_refl _) x1 x2 x3 M M1 h T)
def h_X6_sups_2 (G : wn_G) (ad : Nat → Nat) (X : wn_X) (x1 : Int32) (x2 : Int32) : Int32 × Mm → Prop := fun s => PW G S2 ad X 2 [(0, .ref (ad 0)), (1, .int x1), (2, .int x2), (3, .int s.1)] [] s.2
def h_X6_sups_62 (G : wn_G) (ad : Nat → Nat) (X : wn_X) (x1 : Int32) (x2 : Int32) : Int32 × Mm → Prop := fun s => PW G S2 ad X 62 [(0, .ref (ad 0)), (1, .int x1), (2, .int x2), (3, .int s.1)] [] s.2
def h_X6_sups_71 (G : wn_G) (ad : Nat → Nat) (X : wn_X) (x1 : Int32) (x2 : Int32) (x3 : Int32) : Int32 × Mm → Prop := fun s => PW G S2 ad X 71 [(0, .ref (ad 0)), (1, .int x1), (2, .int x2), (3, .int x3), (4, .int s.1)] [] s.2
def h_X6_sups_122 (G : wn_G) (ad : Nat → Nat) (X : wn_X) (x1 : Int32) (x2 : Int32) (x3 : Int32) (x4 : Int32) : Int32 × Mm → Prop := fun s => PW G S2 ad X 122 [(0, .ref (ad 0)), (1, .int x1), (2, .int x2), (3, .int x3), (4, .int x4), (5, .int s.1)] [] s.2
def f_X6_sups_j249 (x1 : Int32) (x2 : Int32) (x3 : Int32) (s0 : Int32) (M : Mm) : Option ((Int32 × Mm) ⊕ (Mm)) :=
  bm (ms M 0 37 s0) fun M10 =>
  bi (x3 + (1 : Int32)) fun y11 =>
  some (.inl (y11, M10))
set_option maxRecDepth 100000 in
set_option maxHeartbeats 4000000 in
theorem jf_X6_sups_j249 {G : wn_G} {ad : Nat → Nat} {X : wn_X} {d : Nat} (O : Ok G RX6 cX6_sups 6 d X) (hd0 : 111 ≤ d) (x1 : Int32) (x2 : Int32) (x3 : Int32) (s0 : Int32) (M : Mm) : JW G S2 ad X 249 [(0, .ref (ad 0)), (1, .int x1), (2, .int x2), (3, .int x3)] [.int s0, .ref (ad 0)] M (f_X6_sups_j249 x1 x2 x3 s0 M) (Kl (h_X6_sups_62 G ad X x1 x2) (Krv G S2 ad X)) := by
  unfold f_X6_sups_j249
  refine j_puti (pc := 249) O 0 37 dX6_sups_249 fl_X6_282 so_S2_0 ft_X6_37 rfl (fun M10 => ?_)
  refine j_iinc (pc := 252) (v := 1) (L2 := fun y => [(3, .int y), (0, .ref (ad 0)), (1, .int x1), (2, .int x2)]) O 3 dX6_sups_252 rfl (by decide) (by decide) (fun _ => rfl) (fun y11 => ?_)
  refine j_goto (pc := 255) (tgt := 62) O dX6_sups_255 (by decide) ?_
  exact jw_next (fun hh => pw_sub [1, 2, 3, 0] rfl hh)
def f_X6_sups_j228 (x1 : Int32) (x2 : Int32) (x3 : Int32) (s0 : Int32) (M : Mm) : Option ((Int32 × Mm) ⊕ (Mm)) :=
  if s0 ≤ (M.1 0 37) then
    f_X6_sups_j249 x1 x2 x3 (M.1 0 37) M
  else
    f_X6_sups_j249 x1 x2 x3 s0 M
set_option maxRecDepth 100000 in
set_option maxHeartbeats 4000000 in
theorem jf_X6_sups_j228 {G : wn_G} {ad : Nat → Nat} {X : wn_X} {d : Nat} (O : Ok G RX6 cX6_sups 6 d X) (hd0 : 111 ≤ d) (x1 : Int32) (x2 : Int32) (x3 : Int32) (s0 : Int32) (M : Mm) : JW G S2 ad X 228 [(0, .ref (ad 0)), (1, .int x1), (2, .int x2), (3, .int x3)] [.int s0] M (f_X6_sups_j228 x1 x2 x3 s0 M) (Kl (h_X6_sups_62 G ad X x1 x2) (Krv G S2 ad X)) := by
  unfold f_X6_sups_j228
  refine j_istore (pc := 228) (L' := [(5, .int s0), (0, .ref (ad 0)), (1, .int x1), (2, .int x2), (3, .int x3)]) O dX6_sups_228 (by decide) rfl ?_
  refine j_aload_n (pc := 230) O 1 dX6_sups_230 rfl ?_
  refine j_iload (pc := 231) O 0 dX6_sups_231 rfl ?_
  refine j_aload_n (pc := 233) O 1 dX6_sups_233 rfl ?_
  refine j_getf (pc := 234) (v := .int (M.1 0 37)) O 0 37 dX6_sups_234 fl_X6_282 so_S2_0 rfl rfl ?_
  refine j_icmp_le (pc := 237) (tgt := 245) O dX6_sups_237 (by decide) ?_ ?_
  · refine j_aload_n (pc := 245) O 1 dX6_sups_245 rfl ?_
    refine j_getf (pc := 246) (v := .int (M.1 0 37)) O 0 37 dX6_sups_246 fl_X6_282 so_S2_0 rfl rfl ?_
    exact jw_sub [1, 2, 3, 4] rfl (jf_X6_sups_j249 O hd0 x1 x2 x3 (M.1 0 37) M)
  · refine j_iload (pc := 240) O 0 dX6_sups_240 rfl ?_
    refine j_goto (pc := 242) (tgt := 249) O dX6_sups_242 (by decide) ?_
    exact jw_sub [1, 2, 3, 4] rfl (jf_X6_sups_j249 O hd0 x1 x2 x3 s0 M)
def f_X6_sups_b122 (x1 : Int32) (x2 : Int32) (x3 : Int32) (x4 : Int32) (x5 : Int32) (M : Mm) : Option ((Int32 × Mm) ⊕ ((Int32 × Mm) ⊕ (Mm))) :=
  if (M.1 0 13) ≤ x5 then
    ex (
    if (M.1 0 13) = 0 then
      f_X6_sups_j228 x1 x2 x3 (0 : Int32) M
    else
      bd (f_X6_mostHad M) fun r9 M8 =>
      f_X6_sups_j228 x1 x2 x3 (r9 - x4) M8)
  else
    if x5 = (M.1 0 14) then
      bi (x5 + (1 : Int32)) fun y12 =>
      some (.inl (y12, M))
    else
      gd (bin x5 5 = true) inferInstance <|
      gd (bin x5 5 = true) inferInstance <|
      if (M.1 6 (Int32.toNatClampNeg x5)) ≤ (M.1 8 (Int32.toNatClampNeg x5)) then
        bi (x5 + (1 : Int32)) fun y13 =>
        some (.inl (y13, M))
      else
        gd (bin x5 5 = true) inferInstance <|
        if x3 < (M.1 9 (Int32.toNatClampNeg x5)) then
          bi (x5 + (1 : Int32)) fun y14 =>
          some (.inl (y14, M))
        else
          gd (bin x5 5 = true) inferInstance <|
          gd (bin x5 5 = true) inferInstance <| bm (ms M 10 (Int32.toNatClampNeg x5) ((M.1 10 (Int32.toNatClampNeg x5)) + (1 : Int32))) fun M15 =>
          gd (bin x5 5 = true) inferInstance <|
          bd (f_X6_hungersOf x5 x3 (M15.1 8 (Int32.toNatClampNeg x5)) x4 M15) fun r17 M16 =>
          bm (ms M16 0 36 ((M15.1 0 36) + r17)) fun M18 =>
          bi (x5 + (1 : Int32)) fun y19 =>
          some (.inl (y19, M18))
set_option maxRecDepth 100000 in
set_option maxHeartbeats 4000000 in
theorem jf_X6_sups_b122 {G : wn_G} {ad : Nat → Nat} {X : wn_X} {d : Nat} (O : Ok G RX6 cX6_sups 6 d X) (hd0 : 111 ≤ d) (x1 : Int32) (x2 : Int32) (x3 : Int32) (x4 : Int32) (x5 : Int32) (M : Mm) : JW G S2 ad X 122 [(0, .ref (ad 0)), (1, .int x1), (2, .int x2), (3, .int x3), (4, .int x4), (5, .int x5)] [] M (f_X6_sups_b122 x1 x2 x3 x4 x5 M) (Kl (h_X6_sups_122 G ad X x1 x2 x3 x4) (Kl (h_X6_sups_62 G ad X x1 x2) (Krv G S2 ad X))) := by
  unfold f_X6_sups_b122
  refine j_iload (pc := 122) O 5 dX6_sups_122 rfl ?_
  refine j_aload_n (pc := 124) O 0 dX6_sups_124 rfl ?_
  refine j_getf (pc := 125) (v := .int (M.1 0 13)) O 0 13 dX6_sups_125 fl_X6_91 so_S2_0 rfl rfl ?_
  refine j_icmp_ge (pc := 128) (tgt := 210) O dX6_sups_128 (by decide) ?_ ?_
  · refine jw_ex ?_
    refine j_aload_n (pc := 210) O 0 dX6_sups_210 rfl ?_
    refine j_getf (pc := 211) (v := .int (M.1 0 13)) O 0 13 dX6_sups_211 fl_X6_91 so_S2_0 rfl rfl ?_
    refine j_if_ne (pc := 214) (tgt := 221) O dX6_sups_214 (by decide) ?_ ?_
    · refine j_iconst (pc := 217) (v := 0) O dX6_sups_217 (by decide) ?_
      refine j_goto (pc := 218) (tgt := 228) O dX6_sups_218 (by decide) ?_
      exact jw_sub [0, 1, 2, 3] rfl (jf_X6_sups_j228 O hd0 x1 x2 x3 (0 : Int32) M)
    · refine j_aload_n (pc := 221) O 0 dX6_sups_221 rfl ?_
      refine j_callVi (pc := 222) (dc := 1) (As := []) (rest := []) O 0 (fun r M1 h => sp_X6_mostHad h) dX6_sups_222 mv_X6_mostHad lm_X6_296 so_S2_0 rfl rfl (Nat.le_of_ble_eq_true rfl) (Nat.le_trans (Nat.le_of_ble_eq_true rfl) hd0) (fun r9 M8 => ?_)
      refine j_iload (pc := 225) O 4 dX6_sups_225 rfl ?_
      refine j_isub (pc := 227) O dX6_sups_227 ?_
      exact jw_sub [0, 1, 2, 3] rfl (jf_X6_sups_j228 O hd0 x1 x2 x3 (r9 - x4) M8)
  · refine j_iload (pc := 131) O 5 dX6_sups_131 rfl ?_
    refine j_aload_n (pc := 133) O 0 dX6_sups_133 rfl ?_
    refine j_getf (pc := 134) (v := .int (M.1 0 14)) O 0 14 dX6_sups_134 fl_X6_41 so_S2_0 rfl rfl ?_
    refine j_icmp_eq (pc := 137) (tgt := 204) O dX6_sups_137 (by decide) ?_ ?_
    · refine j_iinc (pc := 204) (v := 1) (L2 := fun y => [(5, .int y), (0, .ref (ad 0)), (1, .int x1), (2, .int x2), (3, .int x3), (4, .int x4)]) O 5 dX6_sups_204 rfl (by decide) (by decide) (fun _ => rfl) (fun y12 => ?_)
      refine j_goto (pc := 207) (tgt := 122) O dX6_sups_207 (by decide) ?_
      exact jw_next (fun hh => pw_sub [1, 2, 3, 4, 5, 0] rfl hh)
    · refine j_aload_n (pc := 140) O 0 dX6_sups_140 rfl ?_
      refine j_getf (pc := 141) (v := .ref (ad 8)) O 0 30 dX6_sups_141 fl_X6_44 so_S2_0 rfl rfl ?_
      refine j_iload (pc := 144) O 5 dX6_sups_144 rfl ?_
      refine j_iald (pc := 146) O 8 dX6_sups_146 so_S2_8 ?_
      refine j_aload_n (pc := 147) O 0 dX6_sups_147 rfl ?_
      refine j_getf (pc := 148) (v := .ref (ad 6)) O 0 11 dX6_sups_148 fl_X6_35 so_S2_0 rfl rfl ?_
      refine j_iload (pc := 151) O 5 dX6_sups_151 rfl ?_
      refine j_iald (pc := 153) O 6 dX6_sups_153 so_S2_6 ?_
      refine j_icmp_ge (pc := 154) (tgt := 204) O dX6_sups_154 (by decide) ?_ ?_
      · refine j_iinc (pc := 204) (v := 1) (L2 := fun y => [(5, .int y), (0, .ref (ad 0)), (1, .int x1), (2, .int x2), (3, .int x3), (4, .int x4)]) O 5 dX6_sups_204 rfl (by decide) (by decide) (fun _ => rfl) (fun y13 => ?_)
        refine j_goto (pc := 207) (tgt := 122) O dX6_sups_207 (by decide) ?_
        exact jw_next (fun hh => pw_sub [1, 2, 3, 4, 5, 0] rfl hh)
      · refine j_aload_n (pc := 157) O 0 dX6_sups_157 rfl ?_
        refine j_getf (pc := 158) (v := .ref (ad 9)) O 0 31 dX6_sups_158 fl_X6_47 so_S2_0 rfl rfl ?_
        refine j_iload (pc := 161) O 5 dX6_sups_161 rfl ?_
        refine j_iald (pc := 163) O 9 dX6_sups_163 so_S2_9 ?_
        refine j_iload_n (pc := 164) O 3 dX6_sups_164 rfl ?_
        refine j_icmp_gt (pc := 165) (tgt := 204) O dX6_sups_165 (by decide) ?_ ?_
        · refine j_iinc (pc := 204) (v := 1) (L2 := fun y => [(5, .int y), (0, .ref (ad 0)), (1, .int x1), (2, .int x2), (3, .int x3), (4, .int x4)]) O 5 dX6_sups_204 rfl (by decide) (by decide) (fun _ => rfl) (fun y14 => ?_)
          refine j_goto (pc := 207) (tgt := 122) O dX6_sups_207 (by decide) ?_
          exact jw_next (fun hh => pw_sub [1, 2, 3, 4, 5, 0] rfl hh)
        · refine j_aload_n (pc := 168) O 0 dX6_sups_168 rfl ?_
          refine j_getf (pc := 169) (v := .ref (ad 10)) O 0 32 dX6_sups_169 fl_X6_50 so_S2_0 rfl rfl ?_
          refine j_iload (pc := 172) O 5 dX6_sups_172 rfl ?_
          refine j_dup2 (pc := 174) O dX6_sups_174 rfl rfl ?_
          refine j_iald (pc := 175) O 10 dX6_sups_175 so_S2_10 ?_
          refine j_iconst (pc := 176) (v := 1) O dX6_sups_176 (by decide) ?_
          refine j_iadd (pc := 177) O dX6_sups_177 ?_
          refine j_iast (pc := 178) O 10 dX6_sups_178 so_S2_10 (fun M15 => ?_)
          refine j_aload_n (pc := 179) O 0 dX6_sups_179 rfl ?_
          refine j_dup (pc := 180) O dX6_sups_180 rfl ?_
          refine j_getf (pc := 181) (v := .int (M15.1 0 36)) O 0 36 dX6_sups_181 fl_X6_272 so_S2_0 rfl rfl ?_
          refine j_aload_n (pc := 184) O 0 dX6_sups_184 rfl ?_
          refine j_iload (pc := 185) O 5 dX6_sups_185 rfl ?_
          refine j_iload_n (pc := 187) O 3 dX6_sups_187 rfl ?_
          refine j_aload_n (pc := 188) O 0 dX6_sups_188 rfl ?_
          refine j_getf (pc := 189) (v := .ref (ad 8)) O 0 30 dX6_sups_189 fl_X6_44 so_S2_0 rfl rfl ?_
          refine j_iload (pc := 192) O 5 dX6_sups_192 rfl ?_
          refine j_iald (pc := 194) O 8 dX6_sups_194 so_S2_8 ?_
          refine j_iload (pc := 195) O 4 dX6_sups_195 rfl ?_
          refine j_callVi (pc := 197) (dc := 108) (As := [.int x5, .int x3, .int (M15.1 8 (Int32.toNatClampNeg x5)), .int x4]) (rest := [.int (M15.1 0 36), .ref (ad 0)]) O 0 (fun r M1 h => sp_X6_hungersOf h) dX6_sups_197 mv_X6_hungersOf lm_X6_116 so_S2_0 rfl rfl (Nat.le_of_ble_eq_true rfl) (Nat.le_trans (Nat.le_of_ble_eq_true rfl) hd0) (fun r17 M16 => ?_)
          refine j_iadd (pc := 200) O dX6_sups_200 ?_
          refine j_puti (pc := 201) O 0 36 dX6_sups_201 fl_X6_272 so_S2_0 ft_X6_36 rfl (fun M18 => ?_)
          refine j_iinc (pc := 204) (v := 1) (L2 := fun y => [(5, .int y), (0, .ref (ad 0)), (1, .int x1), (2, .int x2), (3, .int x3), (4, .int x4)]) O 5 dX6_sups_204 rfl (by decide) (by decide) (fun _ => rfl) (fun y19 => ?_)
          refine j_goto (pc := 207) (tgt := 122) O dX6_sups_207 (by decide) ?_
          exact jw_next (fun hh => pw_sub [1, 2, 3, 4, 5, 0] rfl hh)
def f_X6_sups_b71 (x1 : Int32) (x2 : Int32) (x3 : Int32) (x4 : Int32) (M : Mm) : Option ((Int32 × Mm) ⊕ ((Int32 × Mm) ⊕ (Mm))) :=
  if (M.1 0 7) ≤ x4 then
    ex (
    bd (f_X6_leastHad M) fun r7 M6 =>
    iter (fun s => f_X6_sups_b122 x1 x2 x3 r7 s.1 s.2) fuel ((0 : Int32), M6))
  else
    gd (bin x4 12 = true) inferInstance <|
    if (M.1 12 (Int32.toNatClampNeg x4)) = x3 then
      bd (f_X6_towards x4 x1 x2 x3 M) fun r22 M21 =>
      bv (f_X6_gives x4 r22 x3 M21) fun M23 =>
      bi (x4 + (1 : Int32)) fun y24 =>
      some (.inl (y24, M23))
    else
      bi (x4 + (1 : Int32)) fun y20 =>
      some (.inl (y20, M))
set_option maxRecDepth 100000 in
set_option maxHeartbeats 4000000 in
theorem jf_X6_sups_b71 {G : wn_G} {ad : Nat → Nat} {X : wn_X} {d : Nat} (O : Ok G RX6 cX6_sups 6 d X) (hd0 : 111 ≤ d) (x1 : Int32) (x2 : Int32) (x3 : Int32) (x4 : Int32) (M : Mm) : JW G S2 ad X 71 [(0, .ref (ad 0)), (1, .int x1), (2, .int x2), (3, .int x3), (4, .int x4)] [] M (f_X6_sups_b71 x1 x2 x3 x4 M) (Kl (h_X6_sups_71 G ad X x1 x2 x3) (Kl (h_X6_sups_62 G ad X x1 x2) (Krv G S2 ad X))) := by
  unfold f_X6_sups_b71
  refine j_iload (pc := 71) O 4 dX6_sups_71 rfl ?_
  refine j_aload_n (pc := 73) O 0 dX6_sups_73 rfl ?_
  refine j_getf (pc := 74) (v := .int (M.1 0 7)) O 0 7 dX6_sups_74 fl_X6_23 so_S2_0 rfl rfl ?_
  refine j_icmp_ge (pc := 77) (tgt := 113) O dX6_sups_77 (by decide) ?_ ?_
  · refine jw_ex ?_
    refine j_aload_n (pc := 113) O 0 dX6_sups_113 rfl ?_
    refine j_callVi (pc := 114) (dc := 1) (As := []) (rest := []) O 0 (fun r M1 h => sp_X6_leastHad h) dX6_sups_114 mv_X6_leastHad lm_X6_260 so_S2_0 rfl rfl (Nat.le_of_ble_eq_true rfl) (Nat.le_trans (Nat.le_of_ble_eq_true rfl) hd0) (fun r7 M6 => ?_)
    refine j_istore (pc := 117) (L' := [(4, .int r7), (0, .ref (ad 0)), (1, .int x1), (2, .int x2), (3, .int x3)]) O dX6_sups_117 (by decide) rfl ?_
    refine j_iconst (pc := 119) (v := 0) O dX6_sups_119 (by decide) ?_
    refine j_istore (pc := 120) (L' := [(5, .int (0 : Int32)), (4, .int r7), (0, .ref (ad 0)), (1, .int x1), (2, .int x2), (3, .int x3)]) O dX6_sups_120 (by decide) rfl ?_
    exact jw_iter (hd := h_X6_sups_122 G ad X x1 x2 x3 r7) (fun hh => pw_sub [2, 3, 4, 5, 1, 0] rfl hh) (fun s => jf_X6_sups_b122 O hd0 x1 x2 x3 r7 s.1 s.2)
  · refine j_aload_n (pc := 80) O 0 dX6_sups_80 rfl ?_
    refine j_getf (pc := 81) (v := .ref (ad 12)) O 0 34 dX6_sups_81 fl_X6_56 so_S2_0 rfl rfl ?_
    refine j_iload (pc := 84) O 4 dX6_sups_84 rfl ?_
    refine j_iald (pc := 86) O 12 dX6_sups_86 so_S2_12 ?_
    refine j_iload_n (pc := 87) O 3 dX6_sups_87 rfl ?_
    refine j_icmp_ne (pc := 88) (tgt := 107) O dX6_sups_88 (by decide) ?_ ?_
    · refine j_aload_n (pc := 91) O 0 dX6_sups_91 rfl ?_
      refine j_iload (pc := 92) O 4 dX6_sups_92 rfl ?_
      refine j_aload_n (pc := 94) O 0 dX6_sups_94 rfl ?_
      refine j_iload (pc := 95) O 4 dX6_sups_95 rfl ?_
      refine j_iload_n (pc := 97) O 1 dX6_sups_97 rfl ?_
      refine j_iload_n (pc := 98) O 2 dX6_sups_98 rfl ?_
      refine j_iload_n (pc := 99) O 3 dX6_sups_99 rfl ?_
      refine j_callVi (pc := 100) (dc := 110) (As := [.int x4, .int x1, .int x2, .int x3]) (rest := [.int x4, .ref (ad 0)]) O 0 (fun r M1 h => sp_X6_towards h) dX6_sups_100 mv_X6_towards lm_X6_289 so_S2_0 rfl rfl (Nat.le_of_ble_eq_true rfl) (Nat.le_trans (Nat.le_of_ble_eq_true rfl) hd0) (fun r22 M21 => ?_)
      refine j_iload_n (pc := 103) O 3 dX6_sups_103 rfl ?_
      refine j_callVv (pc := 104) (dc := 109) (As := [.int x4, .int r22, .int x3]) (rest := []) O 0 (fun M1 h => sp_X6_gives h) dX6_sups_104 mv_X6_gives lm_X6_292 so_S2_0 rfl rfl (Nat.le_of_ble_eq_true rfl) (Nat.le_trans (Nat.le_of_ble_eq_true rfl) hd0) (fun M23 => ?_)
      refine j_iinc (pc := 107) (v := 1) (L2 := fun y => [(4, .int y), (0, .ref (ad 0)), (1, .int x1), (2, .int x2), (3, .int x3)]) O 4 dX6_sups_107 rfl (by decide) (by decide) (fun _ => rfl) (fun y24 => ?_)
      refine j_goto (pc := 110) (tgt := 71) O dX6_sups_110 (by decide) ?_
      exact jw_next (fun hh => pw_sub [1, 2, 3, 4, 0] rfl hh)
    · refine j_iinc (pc := 107) (v := 1) (L2 := fun y => [(4, .int y), (0, .ref (ad 0)), (1, .int x1), (2, .int x2), (3, .int x3)]) O 4 dX6_sups_107 rfl (by decide) (by decide) (fun _ => rfl) (fun y20 => ?_)
      refine j_goto (pc := 110) (tgt := 71) O dX6_sups_110 (by decide) ?_
      exact jw_next (fun hh => pw_sub [1, 2, 3, 4, 0] rfl hh)
def f_X6_sups_b62 (x1 : Int32) (x2 : Int32) (x3 : Int32) (M : Mm) : Option ((Int32 × Mm) ⊕ (Mm)) :=
  if (60 : Int32) ≤ x3 then
    ex (
    some M)
  else
    iter (fun s => f_X6_sups_b71 x1 x2 x3 s.1 s.2) fuel ((0 : Int32), M)
set_option maxRecDepth 100000 in
set_option maxHeartbeats 4000000 in
theorem jf_X6_sups_b62 {G : wn_G} {ad : Nat → Nat} {X : wn_X} {d : Nat} (O : Ok G RX6 cX6_sups 6 d X) (hd0 : 111 ≤ d) (x1 : Int32) (x2 : Int32) (x3 : Int32) (M : Mm) : JW G S2 ad X 62 [(0, .ref (ad 0)), (1, .int x1), (2, .int x2), (3, .int x3)] [] M (f_X6_sups_b62 x1 x2 x3 M) (Kl (h_X6_sups_62 G ad X x1 x2) (Krv G S2 ad X)) := by
  unfold f_X6_sups_b62
  refine j_iload_n (pc := 62) O 3 dX6_sups_62 rfl ?_
  refine j_bipush (pc := 63) (v := 60) O dX6_sups_63 (by decide) ?_
  refine j_icmp_ge (pc := 65) (tgt := 258) O dX6_sups_65 (by decide) ?_ ?_
  · refine jw_ex ?_
    exact j_vret (pc := 258) O dX6_sups_258
  · refine j_iconst (pc := 68) (v := 0) O dX6_sups_68 (by decide) ?_
    refine j_istore (pc := 69) (L' := [(4, .int (0 : Int32)), (0, .ref (ad 0)), (1, .int x1), (2, .int x2), (3, .int x3)]) O dX6_sups_69 (by decide) rfl ?_
    exact jw_iter (hd := h_X6_sups_71 G ad X x1 x2 x3) (fun hh => pw_sub [1, 2, 3, 4, 0] rfl hh) (fun s => jf_X6_sups_b71 O hd0 x1 x2 x3 s.1 s.2)
def f_X6_sups_b2 (x1 : Int32) (x2 : Int32) (x3 : Int32) (M : Mm) : Option ((Int32 × Mm) ⊕ (Mm)) :=
  if (5 : Int32) ≤ x3 then
    ex (
    bm (ms M 0 36 (0 : Int32)) fun M1 =>
    bm (ms M1 0 37 (0 : Int32)) fun M2 =>
    bm (ms M2 0 38 (0 : Int32)) fun M3 =>
    bm (ms M3 0 39 (0 : Int32)) fun M4 =>
    bv (f_X6_bakes x1 x2 M4) fun M5 =>
    iter (fun s => f_X6_sups_b62 x1 x2 s.1 s.2) fuel ((0 : Int32), M5))
  else
    gd (bin x3 5 = true) inferInstance <| bm (ms M 8 (Int32.toNatClampNeg x3) (0 : Int32)) fun M25 =>
    gd (bin x3 5 = true) inferInstance <| bm (ms M25 9 (Int32.toNatClampNeg x3) (-1 : Int32)) fun M26 =>
    gd (bin x3 5 = true) inferInstance <| bm (ms M26 10 (Int32.toNatClampNeg x3) (0 : Int32)) fun M27 =>
    bi (x3 + (1 : Int32)) fun y28 =>
    some (.inl (y28, M27))
set_option maxRecDepth 100000 in
set_option maxHeartbeats 4000000 in
theorem jf_X6_sups_b2 {G : wn_G} {ad : Nat → Nat} {X : wn_X} {d : Nat} (O : Ok G RX6 cX6_sups 6 d X) (hd0 : 111 ≤ d) (x1 : Int32) (x2 : Int32) (x3 : Int32) (M : Mm) : JW G S2 ad X 2 [(0, .ref (ad 0)), (1, .int x1), (2, .int x2), (3, .int x3)] [] M (f_X6_sups_b2 x1 x2 x3 M) (Kl (h_X6_sups_2 G ad X x1 x2) (Krv G S2 ad X)) := by
  unfold f_X6_sups_b2
  refine j_iload_n (pc := 2) O 3 dX6_sups_2 rfl ?_
  refine j_iconst (pc := 3) (v := 5) O dX6_sups_3 (by decide) ?_
  refine j_icmp_ge (pc := 4) (tgt := 34) O dX6_sups_4 (by decide) ?_ ?_
  · refine jw_ex ?_
    refine j_aload_n (pc := 34) O 0 dX6_sups_34 rfl ?_
    refine j_iconst (pc := 35) (v := 0) O dX6_sups_35 (by decide) ?_
    refine j_puti (pc := 36) O 0 36 dX6_sups_36 fl_X6_272 so_S2_0 ft_X6_36 rfl (fun M1 => ?_)
    refine j_aload_n (pc := 39) O 0 dX6_sups_39 rfl ?_
    refine j_iconst (pc := 40) (v := 0) O dX6_sups_40 (by decide) ?_
    refine j_puti (pc := 41) O 0 37 dX6_sups_41 fl_X6_282 so_S2_0 ft_X6_37 rfl (fun M2 => ?_)
    refine j_aload_n (pc := 44) O 0 dX6_sups_44 rfl ?_
    refine j_iconst (pc := 45) (v := 0) O dX6_sups_45 (by decide) ?_
    refine j_puti (pc := 46) O 0 38 dX6_sups_46 fl_X6_279 so_S2_0 ft_X6_38 rfl (fun M3 => ?_)
    refine j_aload_n (pc := 49) O 0 dX6_sups_49 rfl ?_
    refine j_iconst (pc := 50) (v := 0) O dX6_sups_50 (by decide) ?_
    refine j_puti (pc := 51) O 0 39 dX6_sups_51 fl_X6_269 so_S2_0 ft_X6_39 rfl (fun M4 => ?_)
    refine j_aload_n (pc := 54) O 0 dX6_sups_54 rfl ?_
    refine j_iload_n (pc := 55) O 1 dX6_sups_55 rfl ?_
    refine j_iload_n (pc := 56) O 2 dX6_sups_56 rfl ?_
    refine j_callVv (pc := 57) (dc := 110) (As := [.int x1, .int x2]) (rest := []) O 0 (fun M1 h => sp_X6_bakes h) dX6_sups_57 mv_X6_bakes lm_X6_285 so_S2_0 rfl rfl (Nat.le_of_ble_eq_true rfl) (Nat.le_trans (Nat.le_of_ble_eq_true rfl) hd0) (fun M5 => ?_)
    refine j_iconst (pc := 60) (v := 0) O dX6_sups_60 (by decide) ?_
    refine j_istore_n (pc := 61) (L' := [(3, .int (0 : Int32)), (0, .ref (ad 0)), (1, .int x1), (2, .int x2)]) O dX6_sups_61 (by decide) rfl ?_
    exact jw_iter (hd := h_X6_sups_62 G ad X x1 x2) (fun hh => pw_sub [1, 2, 3, 0] rfl hh) (fun s => jf_X6_sups_b62 O hd0 x1 x2 s.1 s.2)
  · refine j_aload_n (pc := 7) O 0 dX6_sups_7 rfl ?_
    refine j_getf (pc := 8) (v := .ref (ad 8)) O 0 30 dX6_sups_8 fl_X6_44 so_S2_0 rfl rfl ?_
    refine j_iload_n (pc := 11) O 3 dX6_sups_11 rfl ?_
    refine j_iconst (pc := 12) (v := 0) O dX6_sups_12 (by decide) ?_
    refine j_iast (pc := 13) O 8 dX6_sups_13 so_S2_8 (fun M25 => ?_)
    refine j_aload_n (pc := 14) O 0 dX6_sups_14 rfl ?_
    refine j_getf (pc := 15) (v := .ref (ad 9)) O 0 31 dX6_sups_15 fl_X6_47 so_S2_0 rfl rfl ?_
    refine j_iload_n (pc := 18) O 3 dX6_sups_18 rfl ?_
    refine j_iconst (pc := 19) (v := -1) O dX6_sups_19 (by decide) ?_
    refine j_iast (pc := 20) O 9 dX6_sups_20 so_S2_9 (fun M26 => ?_)
    refine j_aload_n (pc := 21) O 0 dX6_sups_21 rfl ?_
    refine j_getf (pc := 22) (v := .ref (ad 10)) O 0 32 dX6_sups_22 fl_X6_50 so_S2_0 rfl rfl ?_
    refine j_iload_n (pc := 25) O 3 dX6_sups_25 rfl ?_
    refine j_iconst (pc := 26) (v := 0) O dX6_sups_26 (by decide) ?_
    refine j_iast (pc := 27) O 10 dX6_sups_27 so_S2_10 (fun M27 => ?_)
    refine j_iinc (pc := 28) (v := 1) (L2 := fun y => [(3, .int y), (0, .ref (ad 0)), (1, .int x1), (2, .int x2)]) O 3 dX6_sups_28 rfl (by decide) (by decide) (fun _ => rfl) (fun y28 => ?_)
    refine j_goto (pc := 31) (tgt := 2) O dX6_sups_31 (by decide) ?_
    exact jw_next (fun hh => pw_sub [1, 2, 3, 0] rfl hh)
def f_X6_sups (x1 : Int32) (x2 : Int32) (M : Mm) : Option (Mm) :=
  iter (fun s => f_X6_sups_b2 x1 x2 s.1 s.2) fuel ((0 : Int32), M)
set_option maxRecDepth 100000 in
set_option maxHeartbeats 4000000 in
theorem jf_X6_sups {G : wn_G} {ad : Nat → Nat} {X : wn_X} {d : Nat} (O : Ok G RX6 cX6_sups 6 d X) (hd0 : 111 ≤ d) (x1 : Int32) (x2 : Int32) (M : Mm) : JW G S2 ad X 0 [(0, .ref (ad 0)), (1, .int x1), (2, .int x2)] [] M (f_X6_sups x1 x2 M) (Krv G S2 ad X) := by
  unfold f_X6_sups
  refine j_iconst (pc := 0) (v := 0) O dX6_sups_0 (by decide) ?_
  refine j_istore_n (pc := 1) (L' := [(3, .int (0 : Int32)), (0, .ref (ad 0)), (1, .int x1), (2, .int x2)]) O dX6_sups_1 (by decide) rfl ?_
  exact jw_iter (hd := h_X6_sups_2 G ad X x1 x2) (fun hh => pw_sub [1, 2, 3, 0] rfl hh) (fun s => jf_X6_sups_b2 O hd0 x1 x2 s.1 s.2)
theorem sp_X6_sups {G : wn_G} {ad : Nat → Nat} {x1 : Int32} {x2 : Int32} {M M1 : Mm} (h : f_X6_sups x1 x2 M = some M1) : Sp G S2 ad mX6_sups 111 [.ref (ad 0), .int x1, .int x2] M M1 none :=
  sp_intro (own := RX6) (by decide +kernel) rfl (Nat.le_of_ble_eq_true rfl) (fun X O T => jf_X6_sups O (Nat.le_refl _) x1 x2 M M1 h T)
def f_X6_tells (x1 : Int32) (M : Mm) : Option (Int32 × Mm) :=
  if (4 : Int32) ≤ x1 then
    gd (¬ (10 : Int32) = 0) inferInstance <|
    bi (irm x1 (10 : Int32)) fun y1 =>
    if (20 : Int32) ≤ x1 then
      if (30 : Int32) ≤ x1 then
        gd (bin y1 5 = true) inferInstance <|
        some ((M.1 9 (Int32.toNatClampNeg y1)), M)
      else
        gd (bin y1 5 = true) inferInstance <|
        some ((M.1 10 (Int32.toNatClampNeg y1)), M)
    else
      gd (bin y1 5 = true) inferInstance <|
      some ((M.1 8 (Int32.toNatClampNeg y1)), M)
  else
    if x1 = 0 then
      some ((M.1 0 36), M)
    else
      if x1 = (1 : Int32) then
        some ((M.1 0 37), M)
      else
        if x1 = (2 : Int32) then
          some ((M.1 0 38), M)
        else
          some ((M.1 0 39), M)
set_option maxRecDepth 100000 in
set_option maxHeartbeats 4000000 in
theorem jf_X6_tells {G : wn_G} {ad : Nat → Nat} {X : wn_X} {d : Nat} (O : Ok G RX6 cX6_tells 3 d X) (hd0 : 1 ≤ d) (x1 : Int32) (M : Mm) : JW G S2 ad X 0 [(0, .ref (ad 0)), (1, .int x1)] [] M (f_X6_tells x1 M) (Kri G S2 ad X) := by
  unfold f_X6_tells
  refine j_iload_n (pc := 0) O 1 dX6_tells_0 rfl ?_
  refine j_iconst (pc := 1) (v := 4) O dX6_tells_1 (by decide) ?_
  refine j_icmp_ge (pc := 2) (tgt := 45) O dX6_tells_2 (by decide) ?_ ?_
  · refine j_iload_n (pc := 45) O 1 dX6_tells_45 rfl ?_
    refine j_bipush (pc := 46) (v := 10) O dX6_tells_46 (by decide) ?_
    refine j_irem (pc := 48) O dX6_tells_48 ?_
    refine jw_bi fun y1 => ?_
    refine j_istore_n (pc := 49) (L' := [(2, .int y1), (0, .ref (ad 0)), (1, .int x1)]) O dX6_tells_49 (by decide) rfl ?_
    refine j_iload_n (pc := 50) O 2 dX6_tells_50 rfl ?_
    refine j_bipush (pc := 51) (v := 20) O dX6_tells_51 (by decide) ?_
    refine j_icmp_ge (pc := 53) (tgt := 65) O dX6_tells_53 (by decide) ?_ ?_
    · refine j_iload_n (pc := 65) O 2 dX6_tells_65 rfl ?_
      refine j_bipush (pc := 66) (v := 30) O dX6_tells_66 (by decide) ?_
      refine j_icmp_ge (pc := 68) (tgt := 80) O dX6_tells_68 (by decide) ?_ ?_
      · refine j_aload_n (pc := 80) O 1 dX6_tells_80 rfl ?_
        refine j_getf (pc := 81) (v := .ref (ad 9)) O 0 31 dX6_tells_81 fl_X6_47 so_S2_0 rfl rfl ?_
        refine j_iload_n (pc := 84) O 0 dX6_tells_84 rfl ?_
        refine j_iald (pc := 85) O 9 dX6_tells_85 so_S2_9 ?_
        exact j_iret (pc := 86) O dX6_tells_86
      · refine j_aload_n (pc := 71) O 1 dX6_tells_71 rfl ?_
        refine j_getf (pc := 72) (v := .ref (ad 10)) O 0 32 dX6_tells_72 fl_X6_50 so_S2_0 rfl rfl ?_
        refine j_iload_n (pc := 75) O 0 dX6_tells_75 rfl ?_
        refine j_iald (pc := 76) O 10 dX6_tells_76 so_S2_10 ?_
        refine j_goto (pc := 77) (tgt := 86) O dX6_tells_77 (by decide) ?_
        exact j_iret (pc := 86) O dX6_tells_86
    · refine j_aload_n (pc := 56) O 1 dX6_tells_56 rfl ?_
      refine j_getf (pc := 57) (v := .ref (ad 8)) O 0 30 dX6_tells_57 fl_X6_44 so_S2_0 rfl rfl ?_
      refine j_iload_n (pc := 60) O 0 dX6_tells_60 rfl ?_
      refine j_iald (pc := 61) O 8 dX6_tells_61 so_S2_8 ?_
      refine j_goto (pc := 62) (tgt := 86) O dX6_tells_62 (by decide) ?_
      exact j_iret (pc := 86) O dX6_tells_86
  · refine j_iload_n (pc := 5) O 1 dX6_tells_5 rfl ?_
    refine j_if_ne (pc := 6) (tgt := 16) O dX6_tells_6 (by decide) ?_ ?_
    · refine j_aload_n (pc := 9) O 0 dX6_tells_9 rfl ?_
      refine j_getf (pc := 10) (v := .int (M.1 0 36)) O 0 36 dX6_tells_10 fl_X6_272 so_S2_0 rfl rfl ?_
      refine j_goto (pc := 13) (tgt := 44) O dX6_tells_13 (by decide) ?_
      exact j_iret (pc := 44) O dX6_tells_44
    · refine j_iload_n (pc := 16) O 1 dX6_tells_16 rfl ?_
      refine j_iconst (pc := 17) (v := 1) O dX6_tells_17 (by decide) ?_
      refine j_icmp_ne (pc := 18) (tgt := 28) O dX6_tells_18 (by decide) ?_ ?_
      · refine j_aload_n (pc := 21) O 0 dX6_tells_21 rfl ?_
        refine j_getf (pc := 22) (v := .int (M.1 0 37)) O 0 37 dX6_tells_22 fl_X6_282 so_S2_0 rfl rfl ?_
        refine j_goto (pc := 25) (tgt := 44) O dX6_tells_25 (by decide) ?_
        exact j_iret (pc := 44) O dX6_tells_44
      · refine j_iload_n (pc := 28) O 1 dX6_tells_28 rfl ?_
        refine j_iconst (pc := 29) (v := 2) O dX6_tells_29 (by decide) ?_
        refine j_icmp_ne (pc := 30) (tgt := 40) O dX6_tells_30 (by decide) ?_ ?_
        · refine j_aload_n (pc := 33) O 0 dX6_tells_33 rfl ?_
          refine j_getf (pc := 34) (v := .int (M.1 0 38)) O 0 38 dX6_tells_34 fl_X6_279 so_S2_0 rfl rfl ?_
          refine j_goto (pc := 37) (tgt := 44) O dX6_tells_37 (by decide) ?_
          exact j_iret (pc := 44) O dX6_tells_44
        · refine j_aload_n (pc := 40) O 0 dX6_tells_40 rfl ?_
          refine j_getf (pc := 41) (v := .int (M.1 0 39)) O 0 39 dX6_tells_41 fl_X6_269 so_S2_0 rfl rfl ?_
          exact j_iret (pc := 44) O dX6_tells_44
theorem sp_X6_tells {G : wn_G} {ad : Nat → Nat} {x1 : Int32} {M : Mm} {r : Int32} {M1 : Mm} (h : f_X6_tells x1 M = some (r, M1)) : Sp G S2 ad mX6_tells 1 [.ref (ad 0), .int x1] M M1 (some (.int r)) :=
  sp_intro (own := RX6) (by decide +kernel) rfl (Nat.le_of_ble_eq_true rfl) (fun X O T => jf_X6_tells O (Nat.le_refl _) x1 M (r, M1) h T)
def f_X6_isSheet (x0 : Int32) (M : Mm) : Option (Int32 × Mm) :=
  bd (f_X6_in (Int32.toInt64 x0) (0 : Int64) (3 : Int64) M) fun r2 M1 =>
  gd (r2 = 0 ∨ r2 = 1) inferInstance (some (r2, M1))
set_option maxRecDepth 100000 in
set_option maxHeartbeats 4000000 in
theorem jf_X6_isSheet {G : wn_G} {ad : Nat → Nat} {X : wn_X} {d : Nat} (O : Ok G RX6 cX6_isSheet 1 d X) (hd0 : 2 ≤ d) (x0 : Int32) (M : Mm) : JW G S2 ad X 0 [(0, .int x0)] [] M (f_X6_isSheet x0 M) (Krz G S2 ad X) := by
  unfold f_X6_isSheet
  refine j_iload_n (pc := 0) O 0 dX6_isSheet_0 rfl ?_
  refine j_i2l (pc := 1) O dX6_isSheet_1 ?_
  refine j_lconst (pc := 2) (v := 0) O dX6_isSheet_2 (by decide) ?_
  refine j_ldc2 (pc := 3) (v := 3) O dX6_isSheet_3 gk_X6_299 ?_
  refine j_callSi (pc := 6) (dc := 1) (As := [.long (Int32.toInt64 x0), .long (0 : Int64), .long (3 : Int64)]) (rest := []) O (fun r M1 h => sp_X6_in h) dX6_isSheet_6 mst_X6_in lm_X6_94 rfl rfl (Nat.le_of_ble_eq_true rfl) (Nat.le_trans (Nat.le_of_ble_eq_true rfl) hd0) (fun r2 M1 => ?_)
  exact j_zret (pc := 9) O dX6_isSheet_9
theorem sp_X6_isSheet {G : wn_G} {ad : Nat → Nat} {x0 : Int32} {M : Mm} {r : Int32} {M1 : Mm} (h : f_X6_isSheet x0 M = some (r, M1)) : Sp G S2 ad mX6_isSheet 2 [.int x0] M M1 (some (.int r)) :=
  sp_intro (own := RX6) (by decide +kernel) rfl (Nat.le_of_ble_eq_true rfl) (fun X O T => jf_X6_isSheet O (Nat.le_refl _) x0 M (r, M1) h T)
def f_X6_supper_j32 (x1 : Int32) (x2 : Int32) (x3 : Int32) (M : Mm) : Option (Int32 × Mm) :=
  bd (f_X6_isTells x3 M) fun r4 M3 =>
  if r4 = 0 then
    some ((-100000 : Int32), M3)
  else
    bv (f_X6_sups x1 x2 M3) fun M5 =>
    bd (f_X6_tells x3 M5) fun r7 M6 =>
    some (r7, M6)
set_option maxRecDepth 100000 in
set_option maxHeartbeats 4000000 in
theorem jf_X6_supper_j32 {G : wn_G} {ad : Nat → Nat} {X : wn_X} {d : Nat} (O : Ok G RX6 cX6_supper 4 d X) (hd0 : 112 ≤ d) (x1 : Int32) (x2 : Int32) (x3 : Int32) (M : Mm) : JW G S2 ad X 32 [(0, .ref (ad 0)), (1, .int x1), (2, .int x2), (3, .int x3)] [] M (f_X6_supper_j32 x1 x2 x3 M) (Kri G S2 ad X) := by
  unfold f_X6_supper_j32
  refine j_aload_n (pc := 32) O 0 dX6_supper_32 rfl ?_
  refine j_iload_n (pc := 33) O 3 dX6_supper_33 rfl ?_
  refine j_callVi (pc := 34) (dc := 3) (As := [.int x3]) (rest := []) O 0 (fun r M1 h => sp_X6_isTells h) dX6_supper_34 mv_X6_isTells lm_X6_306 so_S2_0 rfl rfl (Nat.le_of_ble_eq_true rfl) (Nat.le_trans (Nat.le_of_ble_eq_true rfl) hd0) (fun r4 M3 => ?_)
  refine j_if_ne (pc := 37) (tgt := 44) O dX6_supper_37 (by decide) ?_ ?_
  · refine j_ldcw (pc := 40) (v := -100000) O dX6_supper_40 gk_X6_309 ?_
    exact j_iret (pc := 43) O dX6_supper_43
  · refine j_aload_n (pc := 44) O 0 dX6_supper_44 rfl ?_
    refine j_iload_n (pc := 45) O 1 dX6_supper_45 rfl ?_
    refine j_iload_n (pc := 46) O 2 dX6_supper_46 rfl ?_
    refine j_callVv (pc := 47) (dc := 111) (As := [.int x1, .int x2]) (rest := []) O 0 (fun M1 h => sp_X6_sups h) dX6_supper_47 mv_X6_sups lm_X6_310 so_S2_0 rfl rfl (Nat.le_of_ble_eq_true rfl) (Nat.le_trans (Nat.le_of_ble_eq_true rfl) hd0) (fun M5 => ?_)
    refine j_aload_n (pc := 50) O 0 dX6_supper_50 rfl ?_
    refine j_iload_n (pc := 51) O 3 dX6_supper_51 rfl ?_
    refine j_callVi (pc := 52) (dc := 1) (As := [.int x3]) (rest := []) O 0 (fun r M1 h => sp_X6_tells h) dX6_supper_52 mv_X6_tells lm_X6_313 so_S2_0 rfl rfl (Nat.le_of_ble_eq_true rfl) (Nat.le_trans (Nat.le_of_ble_eq_true rfl) hd0) (fun r7 M6 => ?_)
    exact j_iret (pc := 55) O dX6_supper_55
def f_X6_supper (x1 : Int32) (x2 : Int32) (x3 : Int32) (M : Mm) : Option (Int32 × Mm) :=
  bd (f_X6_in (Int32.toInt64 x1) (0 : Int64) (3 : Int64) M) fun r2 M1 =>
  if r2 = 0 then
    some ((-100000 : Int32), M1)
  else
    if x1 = 0 then
      bd (f_X6_isSheet x2 M1) fun r9 M8 =>
      if r9 = 0 then
        some ((-100000 : Int32), M8)
      else
        gd (bin x2 4 = true) inferInstance <|
        if (M8.1 16 (Int32.toNatClampNeg x2)) = 0 then
          some ((-100000 : Int32), M8)
        else
          f_X6_supper_j32 x1 x2 x3 M8
    else
      f_X6_supper_j32 x1 x2 x3 M1
set_option maxRecDepth 100000 in
set_option maxHeartbeats 4000000 in
theorem jf_X6_supper {G : wn_G} {ad : Nat → Nat} {X : wn_X} {d : Nat} (O : Ok G RX6 cX6_supper 4 d X) (hd0 : 112 ≤ d) (x1 : Int32) (x2 : Int32) (x3 : Int32) (M : Mm) : JW G S2 ad X 0 [(0, .ref (ad 0)), (1, .int x1), (2, .int x2), (3, .int x3)] [] M (f_X6_supper x1 x2 x3 M) (Kri G S2 ad X) := by
  unfold f_X6_supper
  refine j_iload_n (pc := 0) O 1 dX6_supper_0 rfl ?_
  refine j_i2l (pc := 1) O dX6_supper_1 ?_
  refine j_lconst (pc := 2) (v := 0) O dX6_supper_2 (by decide) ?_
  refine j_ldc2 (pc := 3) (v := 3) O dX6_supper_3 gk_X6_299 ?_
  refine j_callSi (pc := 6) (dc := 1) (As := [.long (Int32.toInt64 x1), .long (0 : Int64), .long (3 : Int64)]) (rest := []) O (fun r M1 h => sp_X6_in h) dX6_supper_6 mst_X6_in lm_X6_94 rfl rfl (Nat.le_of_ble_eq_true rfl) (Nat.le_trans (Nat.le_of_ble_eq_true rfl) hd0) (fun r2 M1 => ?_)
  refine j_if_eq (pc := 9) (tgt := 40) O dX6_supper_9 (by decide) ?_ ?_
  · refine j_ldcw (pc := 40) (v := -100000) O dX6_supper_40 gk_X6_309 ?_
    exact j_iret (pc := 43) O dX6_supper_43
  · refine j_iload_n (pc := 12) O 1 dX6_supper_12 rfl ?_
    refine j_if_ne (pc := 13) (tgt := 32) O dX6_supper_13 (by decide) ?_ ?_
    · refine j_iload_n (pc := 16) O 2 dX6_supper_16 rfl ?_
      refine j_callSi (pc := 17) (dc := 2) (As := [.int x2]) (rest := []) O (fun r M1 h => sp_X6_isSheet h) dX6_supper_17 mst_X6_isSheet lm_X6_303 rfl rfl (Nat.le_of_ble_eq_true rfl) (Nat.le_trans (Nat.le_of_ble_eq_true rfl) hd0) (fun r9 M8 => ?_)
      refine j_if_eq (pc := 20) (tgt := 40) O dX6_supper_20 (by decide) ?_ ?_
      · refine j_ldcw (pc := 40) (v := -100000) O dX6_supper_40 gk_X6_309 ?_
        exact j_iret (pc := 43) O dX6_supper_43
      · refine j_aload_n (pc := 23) O 0 dX6_supper_23 rfl ?_
        refine j_getf (pc := 24) (v := .ref (ad 16)) O 0 48 dX6_supper_24 fl_X6_71 so_S2_0 rfl rfl ?_
        refine j_iload_n (pc := 27) O 2 dX6_supper_27 rfl ?_
        refine j_zald (pc := 28) O 16 dX6_supper_28 so_S2_16 ?_
        refine j_if_eq (pc := 29) (tgt := 40) O dX6_supper_29 (by decide) ?_ ?_
        · refine j_ldcw (pc := 40) (v := -100000) O dX6_supper_40 gk_X6_309 ?_
          exact j_iret (pc := 43) O dX6_supper_43
        · exact jw_sub [0, 1, 2, 3] rfl (jf_X6_supper_j32 O hd0 x1 x2 x3 M8)
    · exact jw_sub [0, 1, 2, 3] rfl (jf_X6_supper_j32 O hd0 x1 x2 x3 M1)
theorem sp_X6_supper {G : wn_G} {ad : Nat → Nat} {x1 : Int32} {x2 : Int32} {x3 : Int32} {M : Mm} {r : Int32} {M1 : Mm} (h : f_X6_supper x1 x2 x3 M = some (r, M1)) : Sp G S2 ad mX6_supper 112 [.ref (ad 0), .int x1, .int x2, .int x3] M M1 (some (.int r)) :=
  sp_intro (own := RX6) (by decide +kernel) rfl (Nat.le_of_ble_eq_true rfl) (fun X O T => jf_X6_supper O (Nat.le_refl _) x1 x2 x3 M (r, M1) h T)
def f_X5_heap (x1 : Int32) (x2 : Int32) (M : Mm) : Option (Int32 × Mm) :=
  if x1 < (1 : Int32) then
    some ((-100000 : Int32), M)
  else
    if (12 : Int32) < x1 then
      some ((-100000 : Int32), M)
    else
      bd (f_X2_isAnswer x2 M) fun r2 M1 =>
      if r2 = 0 then
        some ((-100000 : Int32), M1)
      else
        bv (f_X2_lay (M1.1 1 1) M1) fun M3 =>
        bv (f_X2_heapUp x1 M3) fun M4 =>
        bv (f_X2_run (1 : Int32) M4) fun M5 =>
        bd (f_X2_answer x2 M5) fun r7 M6 =>
        some (r7, M6)
set_option maxRecDepth 100000 in
set_option maxHeartbeats 4000000 in
theorem jf_X5_heap {G : wn_G} {ad : Nat → Nat} {X : wn_X} {d : Nat} (O : Ok G RX5 cX5_heap 3 d X) (hd0 : 7 ≤ d) (x1 : Int32) (x2 : Int32) (M : Mm) : JW G S1 ad X 0 [(0, .ref (ad 0)), (1, .int x1), (2, .int x2)] [] M (f_X5_heap x1 x2 M) (Kri G S1 ad X) := by
  unfold f_X5_heap
  refine j_iload_n (pc := 0) O 1 dX5_heap_0 rfl ?_
  refine j_iconst (pc := 1) (v := 1) O dX5_heap_1 (by decide) ?_
  refine j_icmp_lt (pc := 2) (tgt := 22) O dX5_heap_2 (by decide) ?_ ?_
  · refine j_ldc (pc := 22) (v := -100000) O dX5_heap_22 gk_X5_135 ?_
    exact j_iret (pc := 24) O dX5_heap_24
  · refine j_iload_n (pc := 5) O 1 dX5_heap_5 rfl ?_
    refine j_bipush (pc := 6) (v := 12) O dX5_heap_6 (by decide) ?_
    refine j_icmp_gt (pc := 8) (tgt := 22) O dX5_heap_8 (by decide) ?_ ?_
    · refine j_ldc (pc := 22) (v := -100000) O dX5_heap_22 gk_X5_135 ?_
      exact j_iret (pc := 24) O dX5_heap_24
    · refine j_aload_n (pc := 11) O 0 dX5_heap_11 rfl ?_
      refine j_getf (pc := 12) (v := .ref (ad 6)) O 0 6 dX5_heap_12 fl_X5_45 so_S1_0 rfl rfl ?_
      refine j_iload_n (pc := 15) O 2 dX5_heap_15 rfl ?_
      refine j_callVi (pc := 16) (dc := 2) (As := [.int x2]) (rest := []) O 6 (fun r M1 h => sp_X2_isAnswer h) dX5_heap_16 mv_X2_isAnswer lm_X5_132 so_S1_6 rfl rfl (Nat.le_of_ble_eq_true rfl) (Nat.le_trans (Nat.le_of_ble_eq_true rfl) hd0) (fun r2 M1 => ?_)
      refine j_if_ne (pc := 19) (tgt := 25) O dX5_heap_19 (by decide) ?_ ?_
      · refine j_ldc (pc := 22) (v := -100000) O dX5_heap_22 gk_X5_135 ?_
        exact j_iret (pc := 24) O dX5_heap_24
      · refine j_aload_n (pc := 25) O 0 dX5_heap_25 rfl ?_
        refine j_getf (pc := 26) (v := .ref (ad 6)) O 0 6 dX5_heap_26 fl_X5_45 so_S1_0 rfl rfl ?_
        refine j_aload_n (pc := 29) O 0 dX5_heap_29 rfl ?_
        refine j_getf (pc := 30) (v := .ref (ad 1)) O 0 0 dX5_heap_30 fl_X5_10 so_S1_0 rfl rfl ?_
        refine j_getf (pc := 33) (v := .int (M1.1 1 1)) O 1 1 dX5_heap_33 fl_X5_97 so_S1_1 rfl rfl ?_
        refine j_callVv (pc := 36) (dc := 4) (As := [.int (M1.1 1 1)]) (rest := []) O 6 (fun M1 h => sp_X2_lay h) dX5_heap_36 mv_X2_lay lm_X5_101 so_S1_6 rfl rfl (Nat.le_of_ble_eq_true rfl) (Nat.le_trans (Nat.le_of_ble_eq_true rfl) hd0) (fun M3 => ?_)
        refine j_aload_n (pc := 39) O 0 dX5_heap_39 rfl ?_
        refine j_getf (pc := 40) (v := .ref (ad 6)) O 0 6 dX5_heap_40 fl_X5_45 so_S1_0 rfl rfl ?_
        refine j_iload_n (pc := 43) O 1 dX5_heap_43 rfl ?_
        refine j_callVv (pc := 44) (dc := 1) (As := [.int x1]) (rest := []) O 6 (fun M1 h => sp_X2_heapUp h) dX5_heap_44 mv_X2_heapUp lm_X5_155 so_S1_6 rfl rfl (Nat.le_of_ble_eq_true rfl) (Nat.le_trans (Nat.le_of_ble_eq_true rfl) hd0) (fun M4 => ?_)
        refine j_aload_n (pc := 47) O 0 dX5_heap_47 rfl ?_
        refine j_getf (pc := 48) (v := .ref (ad 6)) O 0 6 dX5_heap_48 fl_X5_45 so_S1_0 rfl rfl ?_
        refine j_iconst (pc := 51) (v := 1) O dX5_heap_51 (by decide) ?_
        refine j_callVv (pc := 52) (dc := 6) (As := [.int (1 : Int32)]) (rest := []) O 6 (fun M1 h => sp_X2_run h) dX5_heap_52 mv_X2_run lm_X5_149 so_S1_6 rfl rfl (Nat.le_of_ble_eq_true rfl) (Nat.le_trans (Nat.le_of_ble_eq_true rfl) hd0) (fun M5 => ?_)
        refine j_aload_n (pc := 55) O 0 dX5_heap_55 rfl ?_
        refine j_getf (pc := 56) (v := .ref (ad 6)) O 0 6 dX5_heap_56 fl_X5_45 so_S1_0 rfl rfl ?_
        refine j_iload_n (pc := 59) O 2 dX5_heap_59 rfl ?_
        refine j_callVi (pc := 60) (dc := 3) (As := [.int x2]) (rest := []) O 6 (fun r M1 h => sp_X2_answer h) dX5_heap_60 mv_X2_answer lm_X5_152 so_S1_6 rfl rfl (Nat.le_of_ble_eq_true rfl) (Nat.le_trans (Nat.le_of_ble_eq_true rfl) hd0) (fun r7 M6 => ?_)
        exact j_iret (pc := 63) O dX5_heap_63
theorem sp_X5_heap {G : wn_G} {ad : Nat → Nat} {x1 : Int32} {x2 : Int32} {M : Mm} {r : Int32} {M1 : Mm} (h : f_X5_heap x1 x2 M = some (r, M1)) : Sp G S1 ad mX5_heap 7 [.ref (ad 0), .int x1, .int x2] M M1 (some (.int r)) :=
  sp_intro (own := RX5) (by decide +kernel) rfl (Nat.le_of_ble_eq_true rfl) (fun X O T => jf_X5_heap O (Nat.le_refl _) x1 x2 M (r, M1) h T)
def f_X6_heap (x1 : Int32) (x2 : Int32) (M : Mm) : Option (Int32 × Mm) :=
  bd (f_X6_in (Int32.toInt64 x1) (1 : Int64) (12 : Int64) M) fun r2 M1 =>
  if r2 = 0 then
    some ((-100000 : Int32), M1)
  else
    bd (f_X6_isTells x2 M1) fun r4 M3 =>
    if r4 = 0 then
      some ((-100000 : Int32), M3)
    else
      bv (f_X6_sups (5 : Int32) x1 M3) fun M5 =>
      bd (f_X6_tells x2 M5) fun r7 M6 =>
      some (r7, M6)
set_option maxRecDepth 100000 in
set_option maxHeartbeats 4000000 in
theorem jf_X6_heap {G : wn_G} {ad : Nat → Nat} {X : wn_X} {d : Nat} (O : Ok G RX6 cX6_heap 3 d X) (hd0 : 112 ≤ d) (x1 : Int32) (x2 : Int32) (M : Mm) : JW G S2 ad X 0 [(0, .ref (ad 0)), (1, .int x1), (2, .int x2)] [] M (f_X6_heap x1 x2 M) (Kri G S2 ad X) := by
  unfold f_X6_heap
  refine j_iload_n (pc := 0) O 1 dX6_heap_0 rfl ?_
  refine j_i2l (pc := 1) O dX6_heap_1 ?_
  refine j_lconst (pc := 2) (v := 1) O dX6_heap_2 (by decide) ?_
  refine j_ldc2 (pc := 3) (v := 12) O dX6_heap_3 gk_X6_104 ?_
  refine j_callSi (pc := 6) (dc := 1) (As := [.long (Int32.toInt64 x1), .long (1 : Int64), .long (12 : Int64)]) (rest := []) O (fun r M1 h => sp_X6_in h) dX6_heap_6 mst_X6_in lm_X6_94 rfl rfl (Nat.le_of_ble_eq_true rfl) (Nat.le_trans (Nat.le_of_ble_eq_true rfl) hd0) (fun r2 M1 => ?_)
  refine j_if_eq (pc := 9) (tgt := 20) O dX6_heap_9 (by decide) ?_ ?_
  · refine j_ldcw (pc := 20) (v := -100000) O dX6_heap_20 gk_X6_309 ?_
    exact j_iret (pc := 23) O dX6_heap_23
  · refine j_aload_n (pc := 12) O 0 dX6_heap_12 rfl ?_
    refine j_iload_n (pc := 13) O 2 dX6_heap_13 rfl ?_
    refine j_callVi (pc := 14) (dc := 3) (As := [.int x2]) (rest := []) O 0 (fun r M1 h => sp_X6_isTells h) dX6_heap_14 mv_X6_isTells lm_X6_306 so_S2_0 rfl rfl (Nat.le_of_ble_eq_true rfl) (Nat.le_trans (Nat.le_of_ble_eq_true rfl) hd0) (fun r4 M3 => ?_)
    refine j_if_ne (pc := 17) (tgt := 24) O dX6_heap_17 (by decide) ?_ ?_
    · refine j_ldcw (pc := 20) (v := -100000) O dX6_heap_20 gk_X6_309 ?_
      exact j_iret (pc := 23) O dX6_heap_23
    · refine j_aload_n (pc := 24) O 0 dX6_heap_24 rfl ?_
      refine j_iconst (pc := 25) (v := 5) O dX6_heap_25 (by decide) ?_
      refine j_iload_n (pc := 26) O 1 dX6_heap_26 rfl ?_
      refine j_callVv (pc := 27) (dc := 111) (As := [.int (5 : Int32), .int x1]) (rest := []) O 0 (fun M1 h => sp_X6_sups h) dX6_heap_27 mv_X6_sups lm_X6_310 so_S2_0 rfl rfl (Nat.le_of_ble_eq_true rfl) (Nat.le_trans (Nat.le_of_ble_eq_true rfl) hd0) (fun M5 => ?_)
      refine j_aload_n (pc := 30) O 0 dX6_heap_30 rfl ?_
      refine j_iload_n (pc := 31) O 2 dX6_heap_31 rfl ?_
      refine j_callVi (pc := 32) (dc := 1) (As := [.int x2]) (rest := []) O 0 (fun r M1 h => sp_X6_tells h) dX6_heap_32 mv_X6_tells lm_X6_313 so_S2_0 rfl rfl (Nat.le_of_ble_eq_true rfl) (Nat.le_trans (Nat.le_of_ble_eq_true rfl) hd0) (fun r7 M6 => ?_)
      exact j_iret (pc := 35) O dX6_heap_35
theorem sp_X6_heap {G : wn_G} {ad : Nat → Nat} {x1 : Int32} {x2 : Int32} {M : Mm} {r : Int32} {M1 : Mm} (h : f_X6_heap x1 x2 M = some (r, M1)) : Sp G S2 ad mX6_heap 112 [.ref (ad 0), .int x1, .int x2] M M1 (some (.int r)) :=
  sp_intro (own := RX6) (by decide +kernel) rfl (Nat.le_of_ble_eq_true rfl) (fun X O T => jf_X6_heap O (Nat.le_refl _) x1 x2 M (r, M1) h T)
def h_X2_planTurns_14 (G : wn_G) (ad : Nat → Nat) (X : wn_X) (x1 : Int32) : Int32 × Mm → Prop := fun s => PW G S1 ad X 14 [(0, .ref (ad 6)), (1, .int x1), (2, .int s.1)] [] s.2
def f_X2_planTurns_b14 (x1 : Int32) (x2 : Int32) (M : Mm) : Option ((Int32 × Mm) ⊕ (Mm)) :=
  if (12 : Int32) ≤ x2 then
    ex (
    some M)
  else
    gd (¬ x1 = 0) inferInstance <|
    gd (bin x2 12 = true) inferInstance <| bm (ms M 27 (Int32.toNatClampNeg x2) (irm x2 x1)) fun M2 =>
    bi (x2 + (1 : Int32)) fun y3 =>
    some (.inl (y3, M2))
set_option maxRecDepth 100000 in
set_option maxHeartbeats 4000000 in
theorem jf_X2_planTurns_b14 {G : wn_G} {ad : Nat → Nat} {X : wn_X} {d : Nat} (O : Ok G RX2 cX2_planTurns 3 d X) (hd0 : 1 ≤ d) (x1 : Int32) (x2 : Int32) (M : Mm) : JW G S1 ad X 14 [(0, .ref (ad 6)), (1, .int x1), (2, .int x2)] [] M (f_X2_planTurns_b14 x1 x2 M) (Kl (h_X2_planTurns_14 G ad X x1) (Krv G S1 ad X)) := by
  unfold f_X2_planTurns_b14
  refine j_iload_n (pc := 14) O 2 dX2_planTurns_14 rfl ?_
  refine j_bipush (pc := 15) (v := 12) O dX2_planTurns_15 (by decide) ?_
  refine j_icmp_ge (pc := 17) (tgt := 35) O dX2_planTurns_17 (by decide) ?_ ?_
  · refine jw_ex ?_
    exact j_vret (pc := 35) O dX2_planTurns_35
  · refine j_aload_n (pc := 20) O 0 dX2_planTurns_20 rfl ?_
    refine j_getf (pc := 21) (v := .ref (ad 27)) O 6 5 dX2_planTurns_21 fl_X2_18 so_S1_6 rfl rfl ?_
    refine j_iload_n (pc := 24) O 2 dX2_planTurns_24 rfl ?_
    refine j_iload_n (pc := 25) O 2 dX2_planTurns_25 rfl ?_
    refine j_iload_n (pc := 26) O 1 dX2_planTurns_26 rfl ?_
    refine j_irem (pc := 27) O dX2_planTurns_27 ?_
    refine j_iast (pc := 28) O 27 dX2_planTurns_28 so_S1_27 (fun M2 => ?_)
    refine j_iinc (pc := 29) (v := 1) (L2 := fun y => [(2, .int y), (0, .ref (ad 6)), (1, .int x1)]) O 2 dX2_planTurns_29 rfl (by decide) (by decide) (fun _ => rfl) (fun y3 => ?_)
    refine j_goto (pc := 32) (tgt := 14) O dX2_planTurns_32 (by decide) ?_
    exact jw_next (fun hh => pw_sub [1, 2, 0] rfl hh)
def f_X2_planTurns (M : Mm) : Option (Mm) :=
  bi (imx (1 : Int32) (M.1 1 3)) fun y1 =>
  iter (fun s => f_X2_planTurns_b14 y1 s.1 s.2) fuel ((0 : Int32), M)
set_option maxRecDepth 100000 in
set_option maxHeartbeats 4000000 in
theorem jf_X2_planTurns {G : wn_G} {ad : Nat → Nat} {X : wn_X} {d : Nat} (O : Ok G RX2 cX2_planTurns 3 d X) (hd0 : 1 ≤ d) (M : Mm) : JW G S1 ad X 0 [(0, .ref (ad 6))] [] M (f_X2_planTurns M) (Krv G S1 ad X) := by
  unfold f_X2_planTurns
  refine j_iconst (pc := 0) (v := 1) O dX2_planTurns_0 (by decide) ?_
  refine j_aload_n (pc := 1) O 0 dX2_planTurns_1 rfl ?_
  refine j_getf (pc := 2) (v := .ref (ad 1)) O 6 0 dX2_planTurns_2 fl_X2_36 so_S1_6 rfl rfl ?_
  refine j_getf (pc := 5) (v := .int (M.1 1 3)) O 1 3 dX2_planTurns_5 fl_X2_104 so_S1_1 rfl rfl ?_
  refine j_max (pc := 8) O dX2_planTurns_8 gl_X2_92 gt_Math_max gi_java_lang_Math gc_Math_max (Nat.le_trans (Nat.le_of_ble_eq_true rfl) hd0) (Nat.le_of_ble_eq_true rfl) ?_
  refine jw_bi fun y1 => ?_
  refine j_istore_n (pc := 11) (L' := [(1, .int y1), (0, .ref (ad 6))]) O dX2_planTurns_11 (by decide) rfl ?_
  refine j_iconst (pc := 12) (v := 0) O dX2_planTurns_12 (by decide) ?_
  refine j_istore_n (pc := 13) (L' := [(2, .int (0 : Int32)), (1, .int y1), (0, .ref (ad 6))]) O dX2_planTurns_13 (by decide) rfl ?_
  exact jw_iter (hd := h_X2_planTurns_14 G ad X y1) (fun hh => pw_sub [2, 1, 0] rfl hh) (fun s => jf_X2_planTurns_b14 O hd0 y1 s.1 s.2)
theorem sp_X2_planTurns {G : wn_G} {ad : Nat → Nat} {M M1 : Mm} (h : f_X2_planTurns M = some M1) : Sp G S1 ad mX2_planTurns 1 [.ref (ad 6)] M M1 none :=
  sp_intro (own := RX2) (by decide +kernel) rfl (Nat.le_of_ble_eq_true rfl) (fun X O T => jf_X2_planTurns O (Nat.le_refl _) M M1 h T)
def h_X2_planFirst_25 (G : wn_G) (ad : Nat → Nat) (X : wn_X) (x3 : Int32) : Int32 × Int32 × Mm → Prop := fun s => PW G S1 ad X 25 [(0, .ref (ad 6)), (3, .int x3), (4, .int s.1), (5, .int s.2.1)] [] s.2.2
def f_X2_planFirst_b25 (x3 : Int32) (x4 : Int32) (x5 : Int32) (M : Mm) : Option ((Int32 × Int32 × Mm) ⊕ (Mm)) :=
  if x5 < 0 then
    ex (
    some M)
  else
    gd (¬ x3 = 0) inferInstance <|
    gd (bin x5 12 = true) inferInstance <| bm (ms M 27 (Int32.toNatClampNeg x5) (irm x4 x3)) fun M3 =>
    gd (¬ x3 = 0) inferInstance <|
    bi (x4 / x3) fun y4 =>
    bi (x5 + (-1 : Int32)) fun y5 =>
    some (.inl (y4, y5, M3))
set_option maxRecDepth 100000 in
set_option maxHeartbeats 4000000 in
theorem jf_X2_planFirst_b25 {G : wn_G} {ad : Nat → Nat} {X : wn_X} {d : Nat} (O : Ok G RX2 cX2_planFirst 6 d X) (hd0 : 1 ≤ d) (x3 : Int32) (x4 : Int32) (x5 : Int32) (M : Mm) : JW G S1 ad X 25 [(0, .ref (ad 6)), (3, .int x3), (4, .int x4), (5, .int x5)] [] M (f_X2_planFirst_b25 x3 x4 x5 M) (Kl (h_X2_planFirst_25 G ad X x3) (Krv G S1 ad X)) := by
  unfold f_X2_planFirst_b25
  refine j_iload (pc := 25) O 3 dX2_planFirst_25 rfl ?_
  refine j_if_lt (pc := 27) (tgt := 53) O dX2_planFirst_27 (by decide) ?_ ?_
  · refine jw_ex ?_
    exact j_vret (pc := 53) O dX2_planFirst_53
  · refine j_aload_n (pc := 30) O 0 dX2_planFirst_30 rfl ?_
    refine j_getf (pc := 31) (v := .ref (ad 27)) O 6 5 dX2_planFirst_31 fl_X2_18 so_S1_6 rfl rfl ?_
    refine j_iload (pc := 34) O 3 dX2_planFirst_34 rfl ?_
    refine j_iload (pc := 36) O 2 dX2_planFirst_36 rfl ?_
    refine j_iload_n (pc := 38) O 1 dX2_planFirst_38 rfl ?_
    refine j_irem (pc := 39) O dX2_planFirst_39 ?_
    refine j_iast (pc := 40) O 27 dX2_planFirst_40 so_S1_27 (fun M3 => ?_)
    refine j_iload (pc := 41) O 2 dX2_planFirst_41 rfl ?_
    refine j_iload_n (pc := 43) O 1 dX2_planFirst_43 rfl ?_
    refine j_idiv (pc := 44) O dX2_planFirst_44 ?_
    refine jw_bi fun y4 => ?_
    refine j_istore (pc := 45) (L' := [(4, .int y4), (0, .ref (ad 6)), (3, .int x3), (5, .int x5)]) O dX2_planFirst_45 (by decide) rfl ?_
    refine j_iinc (pc := 47) (v := -1) (L2 := fun y => [(5, .int y), (4, .int y4), (0, .ref (ad 6)), (3, .int x3)]) O 3 dX2_planFirst_47 rfl (by decide) (by decide) (fun _ => rfl) (fun y5 => ?_)
    refine j_goto (pc := 50) (tgt := 25) O dX2_planFirst_50 (by decide) ?_
    exact jw_next (fun hh => pw_sub [2, 3, 1, 0] rfl hh)
def f_X2_planFirst (x1 : Int32) (x2 : Int32) (M : Mm) : Option (Mm) :=
  bi (imx (1 : Int32) (M.1 1 3)) fun y1 =>
  bi ((imn x1 (12 : Int32)) - (1 : Int32)) fun y2 =>
  iter (fun s => f_X2_planFirst_b25 y1 s.1 s.2.1 s.2.2) fuel (x2, y2, M)
set_option maxRecDepth 100000 in
set_option maxHeartbeats 4000000 in
theorem jf_X2_planFirst {G : wn_G} {ad : Nat → Nat} {X : wn_X} {d : Nat} (O : Ok G RX2 cX2_planFirst 6 d X) (hd0 : 1 ≤ d) (x1 : Int32) (x2 : Int32) (M : Mm) : JW G S1 ad X 0 [(0, .ref (ad 6)), (1, .int x1), (2, .int x2)] [] M (f_X2_planFirst x1 x2 M) (Krv G S1 ad X) := by
  unfold f_X2_planFirst
  refine j_iconst (pc := 0) (v := 1) O dX2_planFirst_0 (by decide) ?_
  refine j_aload_n (pc := 1) O 0 dX2_planFirst_1 rfl ?_
  refine j_getf (pc := 2) (v := .ref (ad 1)) O 6 0 dX2_planFirst_2 fl_X2_36 so_S1_6 rfl rfl ?_
  refine j_getf (pc := 5) (v := .int (M.1 1 3)) O 1 3 dX2_planFirst_5 fl_X2_104 so_S1_1 rfl rfl ?_
  refine j_max (pc := 8) O dX2_planFirst_8 gl_X2_92 gt_Math_max gi_java_lang_Math gc_Math_max (Nat.le_trans (Nat.le_of_ble_eq_true rfl) hd0) (Nat.le_of_ble_eq_true rfl) ?_
  refine jw_bi fun y1 => ?_
  refine j_istore_n (pc := 11) (L' := [(3, .int y1), (0, .ref (ad 6)), (1, .int x1), (2, .int x2)]) O dX2_planFirst_11 (by decide) rfl ?_
  refine j_iload_n (pc := 12) O 3 dX2_planFirst_12 rfl ?_
  refine j_istore (pc := 13) (L' := [(4, .int x2), (3, .int y1), (0, .ref (ad 6)), (1, .int x1), (2, .int x2)]) O dX2_planFirst_13 (by decide) rfl ?_
  refine j_iload_n (pc := 15) O 3 dX2_planFirst_15 rfl ?_
  refine j_bipush (pc := 16) (v := 12) O dX2_planFirst_16 (by decide) ?_
  refine j_min (pc := 18) O dX2_planFirst_18 gl_X2_107 gt_Math_min gi_java_lang_Math gc_Math_min (Nat.le_trans (Nat.le_of_ble_eq_true rfl) hd0) (Nat.le_of_ble_eq_true rfl) ?_
  refine j_iconst (pc := 21) (v := 1) O dX2_planFirst_21 (by decide) ?_
  refine j_isub (pc := 22) O dX2_planFirst_22 ?_
  refine jw_bi fun y2 => ?_
  refine j_istore (pc := 23) (L' := [(5, .int y2), (4, .int x2), (3, .int y1), (0, .ref (ad 6)), (1, .int x1), (2, .int x2)]) O dX2_planFirst_23 (by decide) rfl ?_
  exact jw_iter (hd := h_X2_planFirst_25 G ad X y1) (fun hh => pw_sub [3, 2, 1, 0] rfl hh) (fun s => jf_X2_planFirst_b25 O hd0 y1 s.1 s.2.1 s.2.2)
theorem sp_X2_planFirst {G : wn_G} {ad : Nat → Nat} {x1 : Int32} {x2 : Int32} {M M1 : Mm} (h : f_X2_planFirst x1 x2 M = some M1) : Sp G S1 ad mX2_planFirst 1 [.ref (ad 6), .int x1, .int x2] M M1 none :=
  sp_intro (own := RX2) (by decide +kernel) rfl (Nat.le_of_ble_eq_true rfl) (fun X O T => jf_X2_planFirst O (Nat.le_refl _) x1 x2 M M1 h T)
def h_X5_best_73 (G : wn_G) (ad : Nat → Nat) (X : wn_X) (x1 : Int32) (x2 : Int32) : Int32 × Int32 × Mm → Prop := fun s => PW G S1 ad X 73 [(0, .ref (ad 0)), (1, .int x1), (2, .int x2), (3, .int s.1), (4, .int s.2.1)] [] s.2.2
def h_X5_best_104 (G : wn_G) (ad : Nat → Nat) (X : wn_X) (x1 : Int32) (x2 : Int32) (x3 : Int32) : Int32 × Int32 × Int32 × Mm → Prop := fun s => PW G S1 ad X 104 [(0, .ref (ad 0)), (1, .int x1), (2, .int x2), (3, .int x3), (4, .int s.1), (5, .int s.2.1), (6, .int s.2.2.1)] [] s.2.2.2
def f_X5_best_j173 (x1 : Int32) (x2 : Int32) (x4 : Int32) (x5 : Int32) (M : Mm) : Option (Int32 × Mm) :=
  if x2 = (-1 : Int32) then
    some (x5, M)
  else
    bv (f_X2_planFirst x1 x4 M) fun M3 =>
    gd (bin x2 12 = true) inferInstance <|
    some ((M3.1 27 (Int32.toNatClampNeg x2)), M3)
set_option maxRecDepth 100000 in
set_option maxHeartbeats 4000000 in
theorem jf_X5_best_j173 {G : wn_G} {ad : Nat → Nat} {X : wn_X} {d : Nat} (O : Ok G RX5 cX5_best 7 d X) (hd0 : 7 ≤ d) (x1 : Int32) (x2 : Int32) (x4 : Int32) (x5 : Int32) (M : Mm) : JW G S1 ad X 173 [(0, .ref (ad 0)), (1, .int x1), (2, .int x2), (4, .int x4), (5, .int x5)] [] M (f_X5_best_j173 x1 x2 x4 x5 M) (Kri G S1 ad X) := by
  unfold f_X5_best_j173
  refine j_iload_n (pc := 173) O 2 dX5_best_173 rfl ?_
  refine j_iconst (pc := 174) (v := -1) O dX5_best_174 (by decide) ?_
  refine j_icmp_ne (pc := 175) (tgt := 181) O dX5_best_175 (by decide) ?_ ?_
  · refine j_iload (pc := 178) O 4 dX5_best_178 rfl ?_
    exact j_iret (pc := 180) O dX5_best_180
  · refine j_aload_n (pc := 181) O 0 dX5_best_181 rfl ?_
    refine j_getf (pc := 182) (v := .ref (ad 6)) O 0 6 dX5_best_182 fl_X5_45 so_S1_0 rfl rfl ?_
    refine j_iload_n (pc := 185) O 1 dX5_best_185 rfl ?_
    refine j_iload (pc := 186) O 3 dX5_best_186 rfl ?_
    refine j_callVv (pc := 188) (dc := 1) (As := [.int x1, .int x4]) (rest := []) O 6 (fun M1 h => sp_X2_planFirst h) dX5_best_188 mv_X2_planFirst lm_X5_164 so_S1_6 rfl rfl (Nat.le_of_ble_eq_true rfl) (Nat.le_trans (Nat.le_of_ble_eq_true rfl) hd0) (fun M3 => ?_)
    refine j_aload_n (pc := 191) O 0 dX5_best_191 rfl ?_
    refine j_getf (pc := 192) (v := .ref (ad 6)) O 0 6 dX5_best_192 fl_X5_45 so_S1_0 rfl rfl ?_
    refine j_getf (pc := 195) (v := .ref (ad 27)) O 6 5 dX5_best_195 fl_X5_139 so_S1_6 rfl rfl ?_
    refine j_iload_n (pc := 198) O 2 dX5_best_198 rfl ?_
    refine j_iald (pc := 199) O 27 dX5_best_199 so_S1_27 ?_
    exact j_iret (pc := 200) O dX5_best_200
def f_X5_best_b104 (x1 : Int32) (x2 : Int32) (x3 : Int32) (x4 : Int32) (x5 : Int32) (x6 : Int32) (M : Mm) : Option ((Int32 × Int32 × Int32 × Mm) ⊕ (Int32 × Mm)) :=
  if x3 ≤ x6 then
    ex (
    f_X5_best_j173 x1 x2 x4 x5 M)
  else
    if (625 : Int32) ≤ x6 then
      ex (
      f_X5_best_j173 x1 x2 x4 x5 M)
    else
      bv (f_X2_planFirst x1 x6 M) fun M4 =>
      bv (f_X2_run (0 : Int32) M4) fun M5 =>
      if x4 = (-1 : Int32) then
        bi (M5.1 6 12) fun y6 =>
        bi (x6 + (1 : Int32)) fun y7 =>
        some (.inl (x6, y6, y7, M5))
      else
        if x5 ≤ (M5.1 6 12) then
          bi (x6 + (1 : Int32)) fun y8 =>
          some (.inl (x4, x5, y8, M5))
        else
          bi (M5.1 6 12) fun y9 =>
          bi (x6 + (1 : Int32)) fun y10 =>
          some (.inl (x6, y9, y10, M5))
set_option maxRecDepth 100000 in
set_option maxHeartbeats 4000000 in
theorem jf_X5_best_b104 {G : wn_G} {ad : Nat → Nat} {X : wn_X} {d : Nat} (O : Ok G RX5 cX5_best 7 d X) (hd0 : 7 ≤ d) (x1 : Int32) (x2 : Int32) (x3 : Int32) (x4 : Int32) (x5 : Int32) (x6 : Int32) (M : Mm) : JW G S1 ad X 104 [(0, .ref (ad 0)), (1, .int x1), (2, .int x2), (3, .int x3), (4, .int x4), (5, .int x5), (6, .int x6)] [] M (f_X5_best_b104 x1 x2 x3 x4 x5 x6 M) (Kl (h_X5_best_104 G ad X x1 x2 x3) (Kri G S1 ad X)) := by
  unfold f_X5_best_b104
  refine j_iload (pc := 104) O 6 dX5_best_104 rfl ?_
  refine j_iload_n (pc := 106) O 3 dX5_best_106 rfl ?_
  refine j_icmp_ge (pc := 107) (tgt := 173) O dX5_best_107 (by decide) ?_ ?_
  · refine jw_ex ?_
    exact jw_sub [0, 1, 2, 4, 5] rfl (jf_X5_best_j173 O hd0 x1 x2 x4 x5 M)
  · refine j_iload (pc := 110) O 6 dX5_best_110 rfl ?_
    refine j_sipush (pc := 112) (v := 625) O dX5_best_112 (by decide) ?_
    refine j_icmp_ge (pc := 115) (tgt := 173) O dX5_best_115 (by decide) ?_ ?_
    · refine jw_ex ?_
      exact jw_sub [0, 1, 2, 4, 5] rfl (jf_X5_best_j173 O hd0 x1 x2 x4 x5 M)
    · refine j_aload_n (pc := 118) O 0 dX5_best_118 rfl ?_
      refine j_getf (pc := 119) (v := .ref (ad 6)) O 0 6 dX5_best_119 fl_X5_45 so_S1_0 rfl rfl ?_
      refine j_iload_n (pc := 122) O 1 dX5_best_122 rfl ?_
      refine j_iload (pc := 123) O 6 dX5_best_123 rfl ?_
      refine j_callVv (pc := 125) (dc := 1) (As := [.int x1, .int x6]) (rest := []) O 6 (fun M1 h => sp_X2_planFirst h) dX5_best_125 mv_X2_planFirst lm_X5_164 so_S1_6 rfl rfl (Nat.le_of_ble_eq_true rfl) (Nat.le_trans (Nat.le_of_ble_eq_true rfl) hd0) (fun M4 => ?_)
      refine j_aload_n (pc := 128) O 0 dX5_best_128 rfl ?_
      refine j_getf (pc := 129) (v := .ref (ad 6)) O 0 6 dX5_best_129 fl_X5_45 so_S1_0 rfl rfl ?_
      refine j_iconst (pc := 132) (v := 0) O dX5_best_132 (by decide) ?_
      refine j_callVv (pc := 133) (dc := 6) (As := [.int (0 : Int32)]) (rest := []) O 6 (fun M1 h => sp_X2_run h) dX5_best_133 mv_X2_run lm_X5_149 so_S1_6 rfl rfl (Nat.le_of_ble_eq_true rfl) (Nat.le_trans (Nat.le_of_ble_eq_true rfl) hd0) (fun M5 => ?_)
      refine j_iload (pc := 136) O 4 dX5_best_136 rfl ?_
      refine j_iconst (pc := 138) (v := -1) O dX5_best_138 (by decide) ?_
      refine j_icmp_eq (pc := 139) (tgt := 154) O dX5_best_139 (by decide) ?_ ?_
      · refine j_iload (pc := 154) O 6 dX5_best_154 rfl ?_
        refine j_istore (pc := 156) (L' := [(4, .int x6), (0, .ref (ad 0)), (1, .int x1), (2, .int x2), (3, .int x3), (5, .int x5), (6, .int x6)]) O dX5_best_156 (by decide) rfl ?_
        refine j_aload_n (pc := 158) O 1 dX5_best_158 rfl ?_
        refine j_getf (pc := 159) (v := .ref (ad 6)) O 0 6 dX5_best_159 fl_X5_45 so_S1_0 rfl rfl ?_
        refine j_getf (pc := 162) (v := .int (M5.1 6 12)) O 6 12 dX5_best_162 fl_X5_168 so_S1_6 rfl rfl ?_
        refine jw_bi fun y6 => ?_
        refine j_istore (pc := 165) (L' := [(5, .int y6), (4, .int x6), (0, .ref (ad 0)), (1, .int x1), (2, .int x2), (3, .int x3), (6, .int x6)]) O dX5_best_165 (by decide) rfl ?_
        refine j_iinc (pc := 167) (v := 1) (L2 := fun y => [(6, .int y), (5, .int y6), (4, .int x6), (0, .ref (ad 0)), (1, .int x1), (2, .int x2), (3, .int x3)]) O 6 dX5_best_167 rfl (by decide) (by decide) (fun _ => rfl) (fun y7 => ?_)
        refine j_goto (pc := 170) (tgt := 104) O dX5_best_170 (by decide) ?_
        exact jw_next (fun hh => pw_sub [3, 4, 5, 6, 2, 1, 0] rfl hh)
      · refine j_aload_n (pc := 142) O 0 dX5_best_142 rfl ?_
        refine j_getf (pc := 143) (v := .ref (ad 6)) O 0 6 dX5_best_143 fl_X5_45 so_S1_0 rfl rfl ?_
        refine j_getf (pc := 146) (v := .int (M5.1 6 12)) O 6 12 dX5_best_146 fl_X5_168 so_S1_6 rfl rfl ?_
        refine j_iload (pc := 149) O 5 dX5_best_149 rfl ?_
        refine j_icmp_ge (pc := 151) (tgt := 167) O dX5_best_151 (by decide) ?_ ?_
        · refine j_iinc (pc := 167) (v := 1) (L2 := fun y => [(6, .int y), (0, .ref (ad 0)), (1, .int x1), (2, .int x2), (3, .int x3), (4, .int x4), (5, .int x5)]) O 6 dX5_best_167 rfl (by decide) (by decide) (fun _ => rfl) (fun y8 => ?_)
          refine j_goto (pc := 170) (tgt := 104) O dX5_best_170 (by decide) ?_
          exact jw_next (fun hh => pw_sub [1, 2, 3, 4, 5, 6, 0] rfl hh)
        · refine j_iload (pc := 154) O 6 dX5_best_154 rfl ?_
          refine j_istore (pc := 156) (L' := [(4, .int x6), (0, .ref (ad 0)), (1, .int x1), (2, .int x2), (3, .int x3), (5, .int x5), (6, .int x6)]) O dX5_best_156 (by decide) rfl ?_
          refine j_aload_n (pc := 158) O 1 dX5_best_158 rfl ?_
          refine j_getf (pc := 159) (v := .ref (ad 6)) O 0 6 dX5_best_159 fl_X5_45 so_S1_0 rfl rfl ?_
          refine j_getf (pc := 162) (v := .int (M5.1 6 12)) O 6 12 dX5_best_162 fl_X5_168 so_S1_6 rfl rfl ?_
          refine jw_bi fun y9 => ?_
          refine j_istore (pc := 165) (L' := [(5, .int y9), (4, .int x6), (0, .ref (ad 0)), (1, .int x1), (2, .int x2), (3, .int x3), (6, .int x6)]) O dX5_best_165 (by decide) rfl ?_
          refine j_iinc (pc := 167) (v := 1) (L2 := fun y => [(6, .int y), (5, .int y9), (4, .int x6), (0, .ref (ad 0)), (1, .int x1), (2, .int x2), (3, .int x3)]) O 6 dX5_best_167 rfl (by decide) (by decide) (fun _ => rfl) (fun y10 => ?_)
          refine j_goto (pc := 170) (tgt := 104) O dX5_best_170 (by decide) ?_
          exact jw_next (fun hh => pw_sub [3, 4, 5, 6, 2, 1, 0] rfl hh)
def f_X5_best_b73 (x1 : Int32) (x2 : Int32) (x3 : Int32) (x4 : Int32) (M : Mm) : Option ((Int32 × Int32 × Mm) ⊕ (Int32 × Mm)) :=
  if x1 ≤ x4 then
    ex (
    iter (fun s => f_X5_best_b104 x1 x2 x3 s.1 s.2.1 s.2.2.1 s.2.2.2) fuel ((-1 : Int32), (0 : Int32), (0 : Int32), M))
  else
    bi (x3 * (M.1 1 3)) fun y11 =>
    bi (x4 + (1 : Int32)) fun y12 =>
    some (.inl (y11, y12, M))
set_option maxRecDepth 100000 in
set_option maxHeartbeats 4000000 in
theorem jf_X5_best_b73 {G : wn_G} {ad : Nat → Nat} {X : wn_X} {d : Nat} (O : Ok G RX5 cX5_best 7 d X) (hd0 : 7 ≤ d) (x1 : Int32) (x2 : Int32) (x3 : Int32) (x4 : Int32) (M : Mm) : JW G S1 ad X 73 [(0, .ref (ad 0)), (1, .int x1), (2, .int x2), (3, .int x3), (4, .int x4)] [] M (f_X5_best_b73 x1 x2 x3 x4 M) (Kl (h_X5_best_73 G ad X x1 x2) (Kri G S1 ad X)) := by
  unfold f_X5_best_b73
  refine j_iload (pc := 73) O 4 dX5_best_73 rfl ?_
  refine j_iload_n (pc := 75) O 1 dX5_best_75 rfl ?_
  refine j_icmp_ge (pc := 76) (tgt := 95) O dX5_best_76 (by decide) ?_ ?_
  · refine jw_ex ?_
    refine j_iconst (pc := 95) (v := -1) O dX5_best_95 (by decide) ?_
    refine j_istore (pc := 96) (L' := [(4, .int (-1 : Int32)), (0, .ref (ad 0)), (1, .int x1), (2, .int x2), (3, .int x3)]) O dX5_best_96 (by decide) rfl ?_
    refine j_iconst (pc := 98) (v := 0) O dX5_best_98 (by decide) ?_
    refine j_istore (pc := 99) (L' := [(5, .int (0 : Int32)), (4, .int (-1 : Int32)), (0, .ref (ad 0)), (1, .int x1), (2, .int x2), (3, .int x3)]) O dX5_best_99 (by decide) rfl ?_
    refine j_iconst (pc := 101) (v := 0) O dX5_best_101 (by decide) ?_
    refine j_istore (pc := 102) (L' := [(6, .int (0 : Int32)), (5, .int (0 : Int32)), (4, .int (-1 : Int32)), (0, .ref (ad 0)), (1, .int x1), (2, .int x2), (3, .int x3)]) O dX5_best_102 (by decide) rfl ?_
    exact jw_iter (hd := h_X5_best_104 G ad X x1 x2 x3) (fun hh => pw_sub [3, 4, 5, 6, 2, 1, 0] rfl hh) (fun s => jf_X5_best_b104 O hd0 x1 x2 x3 s.1 s.2.1 s.2.2.1 s.2.2.2)
  · refine j_iload_n (pc := 79) O 3 dX5_best_79 rfl ?_
    refine j_aload_n (pc := 80) O 0 dX5_best_80 rfl ?_
    refine j_getf (pc := 81) (v := .ref (ad 1)) O 0 0 dX5_best_81 fl_X5_10 so_S1_0 rfl rfl ?_
    refine j_getf (pc := 84) (v := .int (M.1 1 3)) O 1 3 dX5_best_84 fl_X5_158 so_S1_1 rfl rfl ?_
    refine j_imul (pc := 87) O dX5_best_87 ?_
    refine jw_bi fun y11 => ?_
    refine j_istore_n (pc := 88) (L' := [(3, .int y11), (0, .ref (ad 0)), (1, .int x1), (2, .int x2), (4, .int x4)]) O dX5_best_88 (by decide) rfl ?_
    refine j_iinc (pc := 89) (v := 1) (L2 := fun y => [(4, .int y), (3, .int y11), (0, .ref (ad 0)), (1, .int x1), (2, .int x2)]) O 4 dX5_best_89 rfl (by decide) (by decide) (fun _ => rfl) (fun y12 => ?_)
    refine j_goto (pc := 92) (tgt := 73) O dX5_best_92 (by decide) ?_
    exact jw_next (fun hh => pw_sub [2, 3, 4, 1, 0] rfl hh)
def f_X5_best (x1 : Int32) (x2 : Int32) (M : Mm) : Option (Int32 × Mm) :=
  if x1 < 0 then
    some ((-100000 : Int32), M)
  else
    if (4 : Int32) < x1 then
      some ((-100000 : Int32), M)
    else
      if (M.1 1 0) < x1 then
        some ((-100000 : Int32), M)
      else
        if (1 : Int32) ≤ (M.1 1 3) then
          if x2 < (-1 : Int32) then
            some ((-100000 : Int32), M)
          else
            if x2 < x1 then
              bv (f_X2_lay (M.1 1 1) M) fun M1 =>
              bv (f_X2_planTurns M1) fun M2 =>
              iter (fun s => f_X5_best_b73 x1 x2 s.1 s.2.1 s.2.2) fuel ((1 : Int32), (0 : Int32), M2)
            else
              some ((-100000 : Int32), M)
        else
          some ((-100000 : Int32), M)
set_option maxRecDepth 100000 in
set_option maxHeartbeats 4000000 in
theorem jf_X5_best {G : wn_G} {ad : Nat → Nat} {X : wn_X} {d : Nat} (O : Ok G RX5 cX5_best 7 d X) (hd0 : 7 ≤ d) (x1 : Int32) (x2 : Int32) (M : Mm) : JW G S1 ad X 0 [(0, .ref (ad 0)), (1, .int x1), (2, .int x2)] [] M (f_X5_best x1 x2 M) (Kri G S1 ad X) := by
  unfold f_X5_best
  refine j_iload_n (pc := 0) O 1 dX5_best_0 rfl ?_
  refine j_if_lt (pc := 1) (tgt := 31) O dX5_best_1 (by decide) ?_ ?_
  · refine j_ldc (pc := 31) (v := -100000) O dX5_best_31 gk_X5_135 ?_
    exact j_iret (pc := 33) O dX5_best_33
  · refine j_iload_n (pc := 4) O 1 dX5_best_4 rfl ?_
    refine j_iconst (pc := 5) (v := 4) O dX5_best_5 (by decide) ?_
    refine j_icmp_gt (pc := 6) (tgt := 31) O dX5_best_6 (by decide) ?_ ?_
    · refine j_ldc (pc := 31) (v := -100000) O dX5_best_31 gk_X5_135 ?_
      exact j_iret (pc := 33) O dX5_best_33
    · refine j_iload_n (pc := 9) O 1 dX5_best_9 rfl ?_
      refine j_aload_n (pc := 10) O 0 dX5_best_10 rfl ?_
      refine j_getf (pc := 11) (v := .ref (ad 1)) O 0 0 dX5_best_11 fl_X5_10 so_S1_0 rfl rfl ?_
      refine j_getf (pc := 14) (v := .int (M.1 1 0)) O 1 0 dX5_best_14 fl_X5_108 so_S1_1 rfl rfl ?_
      refine j_icmp_gt (pc := 17) (tgt := 31) O dX5_best_17 (by decide) ?_ ?_
      · refine j_ldc (pc := 31) (v := -100000) O dX5_best_31 gk_X5_135 ?_
        exact j_iret (pc := 33) O dX5_best_33
      · refine j_aload_n (pc := 20) O 0 dX5_best_20 rfl ?_
        refine j_getf (pc := 21) (v := .ref (ad 1)) O 0 0 dX5_best_21 fl_X5_10 so_S1_0 rfl rfl ?_
        refine j_getf (pc := 24) (v := .int (M.1 1 3)) O 1 3 dX5_best_24 fl_X5_158 so_S1_1 rfl rfl ?_
        refine j_iconst (pc := 27) (v := 1) O dX5_best_27 (by decide) ?_
        refine j_icmp_ge (pc := 28) (tgt := 34) O dX5_best_28 (by decide) ?_ ?_
        · refine j_iload_n (pc := 34) O 2 dX5_best_34 rfl ?_
          refine j_iconst (pc := 35) (v := -1) O dX5_best_35 (by decide) ?_
          refine j_icmp_lt (pc := 36) (tgt := 44) O dX5_best_36 (by decide) ?_ ?_
          · refine j_ldc (pc := 44) (v := -100000) O dX5_best_44 gk_X5_135 ?_
            exact j_iret (pc := 46) O dX5_best_46
          · refine j_iload_n (pc := 39) O 2 dX5_best_39 rfl ?_
            refine j_iload_n (pc := 40) O 1 dX5_best_40 rfl ?_
            refine j_icmp_lt (pc := 41) (tgt := 47) O dX5_best_41 (by decide) ?_ ?_
            · refine j_aload_n (pc := 47) O 0 dX5_best_47 rfl ?_
              refine j_getf (pc := 48) (v := .ref (ad 6)) O 0 6 dX5_best_48 fl_X5_45 so_S1_0 rfl rfl ?_
              refine j_aload_n (pc := 51) O 0 dX5_best_51 rfl ?_
              refine j_getf (pc := 52) (v := .ref (ad 1)) O 0 0 dX5_best_52 fl_X5_10 so_S1_0 rfl rfl ?_
              refine j_getf (pc := 55) (v := .int (M.1 1 1)) O 1 1 dX5_best_55 fl_X5_97 so_S1_1 rfl rfl ?_
              refine j_callVv (pc := 58) (dc := 4) (As := [.int (M.1 1 1)]) (rest := []) O 6 (fun M1 h => sp_X2_lay h) dX5_best_58 mv_X2_lay lm_X5_101 so_S1_6 rfl rfl (Nat.le_of_ble_eq_true rfl) (Nat.le_trans (Nat.le_of_ble_eq_true rfl) hd0) (fun M1 => ?_)
              refine j_aload_n (pc := 61) O 0 dX5_best_61 rfl ?_
              refine j_getf (pc := 62) (v := .ref (ad 6)) O 0 6 dX5_best_62 fl_X5_45 so_S1_0 rfl rfl ?_
              refine j_callVv (pc := 65) (dc := 1) (As := []) (rest := []) O 6 (fun M1 h => sp_X2_planTurns h) dX5_best_65 mv_X2_planTurns lm_X5_161 so_S1_6 rfl rfl (Nat.le_of_ble_eq_true rfl) (Nat.le_trans (Nat.le_of_ble_eq_true rfl) hd0) (fun M2 => ?_)
              refine j_iconst (pc := 68) (v := 1) O dX5_best_68 (by decide) ?_
              refine j_istore_n (pc := 69) (L' := [(3, .int (1 : Int32)), (0, .ref (ad 0)), (1, .int x1), (2, .int x2)]) O dX5_best_69 (by decide) rfl ?_
              refine j_iconst (pc := 70) (v := 0) O dX5_best_70 (by decide) ?_
              refine j_istore (pc := 71) (L' := [(4, .int (0 : Int32)), (3, .int (1 : Int32)), (0, .ref (ad 0)), (1, .int x1), (2, .int x2)]) O dX5_best_71 (by decide) rfl ?_
              exact jw_iter (hd := h_X5_best_73 G ad X x1 x2) (fun hh => pw_sub [2, 3, 4, 1, 0] rfl hh) (fun s => jf_X5_best_b73 O hd0 x1 x2 s.1 s.2.1 s.2.2)
            · refine j_ldc (pc := 44) (v := -100000) O dX5_best_44 gk_X5_135 ?_
              exact j_iret (pc := 46) O dX5_best_46
        · refine j_ldc (pc := 31) (v := -100000) O dX5_best_31 gk_X5_135 ?_
          exact j_iret (pc := 33) O dX5_best_33
theorem sp_X5_best {G : wn_G} {ad : Nat → Nat} {x1 : Int32} {x2 : Int32} {M : Mm} {r : Int32} {M1 : Mm} (h : f_X5_best x1 x2 M = some (r, M1)) : Sp G S1 ad mX5_best 7 [.ref (ad 0), .int x1, .int x2] M M1 (some (.int r)) :=
  sp_intro (own := RX5) (by decide +kernel) rfl (Nat.le_of_ble_eq_true rfl) (fun X O T => jf_X5_best O (Nat.le_refl _) x1 x2 M (r, M1) h T)
def h_X6_tries_70 (G : wn_G) (ad : Nat → Nat) (X : wn_X) (x1 : Int32) (x2 : Int32) : Int32 × Mm → Prop := fun s => PW G S2 ad X 70 [(0, .ref (ad 0)), (1, .int x1), (2, .int x2), (3, .int s.1)] [] s.2
def f_X6_tries_b70 (g_X6_tries : Int32 → Int32 → Mm → Option (Mm)) (x1 : Int32) (x2 : Int32) (x3 : Int32) (M : Mm) : Option ((Int32 × Mm) ⊕ (Mm)) :=
  if (M.1 0 13) ≤ x3 then
    ex (
    some M)
  else
    gd (bin x1 12 = true) inferInstance <| bm (ms M 13 (Int32.toNatClampNeg x1) x3) fun M1 =>
    bv (g_X6_tries (x1 + (1 : Int32)) x2 M1) fun M2 =>
    bi (x3 + (1 : Int32)) fun y3 =>
    some (.inl (y3, M2))
set_option maxRecDepth 100000 in
set_option maxHeartbeats 4000000 in
theorem jf_X6_tries_b70 {G : wn_G} {ad : Nat → Nat} {X : wn_X} {d : Nat} (O : Ok G RX6 cX6_tries 4 d X) (hd0 : 112 ≤ d) (g_X6_tries : Int32 → Int32 → Mm → Option (Mm)) {dg : Nat} (hdg : dg + 1 ≤ d) (hg_X6_tries : ∀ (x1 : Int32) (x2 : Int32) (M M1 : Mm), g_X6_tries x1 x2 M = some M1 → Sp G S2 ad mX6_tries dg [.ref (ad 0), .int x1, .int x2] M M1 none) (x1 : Int32) (x2 : Int32) (x3 : Int32) (M : Mm) : JW G S2 ad X 70 [(0, .ref (ad 0)), (1, .int x1), (2, .int x2), (3, .int x3)] [] M (f_X6_tries_b70 g_X6_tries x1 x2 x3 M) (Kl (h_X6_tries_70 G ad X x1 x2) (Krv G S2 ad X)) := by
  unfold f_X6_tries_b70
  refine j_iload_n (pc := 70) O 3 dX6_tries_70 rfl ?_
  refine j_aload_n (pc := 71) O 0 dX6_tries_71 rfl ?_
  refine j_getf (pc := 72) (v := .int (M.1 0 13)) O 0 13 dX6_tries_72 fl_X6_91 so_S2_0 rfl rfl ?_
  refine j_icmp_ge (pc := 75) (tgt := 99) O dX6_tries_75 (by decide) ?_ ?_
  · refine jw_ex ?_
    exact j_vret (pc := 99) O dX6_tries_99
  · refine j_aload_n (pc := 78) O 0 dX6_tries_78 rfl ?_
    refine j_getf (pc := 79) (v := .ref (ad 13)) O 0 35 dX6_tries_79 fl_X6_59 so_S2_0 rfl rfl ?_
    refine j_iload_n (pc := 82) O 1 dX6_tries_82 rfl ?_
    refine j_iload_n (pc := 83) O 3 dX6_tries_83 rfl ?_
    refine j_iast (pc := 84) O 13 dX6_tries_84 so_S2_13 (fun M1 => ?_)
    refine j_aload_n (pc := 85) O 0 dX6_tries_85 rfl ?_
    refine j_iload_n (pc := 86) O 1 dX6_tries_86 rfl ?_
    refine j_iconst (pc := 87) (v := 1) O dX6_tries_87 (by decide) ?_
    refine j_iadd (pc := 88) O dX6_tries_88 ?_
    refine j_iload_n (pc := 89) O 2 dX6_tries_89 rfl ?_
    refine j_callVv (pc := 90) (As := [.int (x1 + (1 : Int32)), .int x2]) (rest := []) O 0 (hg_X6_tries (x1 + (1 : Int32)) x2 M1) dX6_tries_90 mv_X6_tries lm_X6_322 so_S2_0 rfl rfl (Nat.le_of_ble_eq_true rfl) hdg (fun M2 => ?_)
    refine j_iinc (pc := 93) (v := 1) (L2 := fun y => [(3, .int y), (0, .ref (ad 0)), (1, .int x1), (2, .int x2)]) O 3 dX6_tries_93 rfl (by decide) (by decide) (fun _ => rfl) (fun y3 => ?_)
    refine j_goto (pc := 96) (tgt := 70) O dX6_tries_96 (by decide) ?_
    exact jw_next (fun hh => pw_sub [1, 2, 3, 0] rfl hh)
def h_X6_tries_44 (G : wn_G) (ad : Nat → Nat) (X : wn_X) (x2 : Int32) : Int32 × Mm → Prop := fun s => PW G S2 ad X 44 [(0, .ref (ad 0)), (2, .int x2), (3, .int s.1)] [] s.2
def f_X6_tries_b44 (g_X6_tries : Int32 → Int32 → Mm → Option (Mm)) (x2 : Int32) (x3 : Int32) (M : Mm) : Option ((Int32 × Mm) ⊕ (Mm)) :=
  if x2 ≤ x3 then
    ex (
    some M)
  else
    gd (bin x3 12 = true) inferInstance <|
    gd (bin x3 12 = true) inferInstance <| bm (ms M 14 (Int32.toNatClampNeg x3) (M.1 13 (Int32.toNatClampNeg x3))) fun M7 =>
    bi (x3 + (1 : Int32)) fun y8 =>
    some (.inl (y8, M7))
set_option maxRecDepth 100000 in
set_option maxHeartbeats 4000000 in
theorem jf_X6_tries_b44 {G : wn_G} {ad : Nat → Nat} {X : wn_X} {d : Nat} (O : Ok G RX6 cX6_tries 4 d X) (hd0 : 112 ≤ d) (g_X6_tries : Int32 → Int32 → Mm → Option (Mm)) {dg : Nat} (hdg : dg + 1 ≤ d) (hg_X6_tries : ∀ (x1 : Int32) (x2 : Int32) (M M1 : Mm), g_X6_tries x1 x2 M = some M1 → Sp G S2 ad mX6_tries dg [.ref (ad 0), .int x1, .int x2] M M1 none) (x2 : Int32) (x3 : Int32) (M : Mm) : JW G S2 ad X 44 [(0, .ref (ad 0)), (2, .int x2), (3, .int x3)] [] M (f_X6_tries_b44 g_X6_tries x2 x3 M) (Kl (h_X6_tries_44 G ad X x2) (Krv G S2 ad X)) := by
  unfold f_X6_tries_b44
  refine j_iload_n (pc := 44) O 2 dX6_tries_44 rfl ?_
  refine j_iload_n (pc := 45) O 1 dX6_tries_45 rfl ?_
  refine j_icmp_ge (pc := 46) (tgt := 67) O dX6_tries_46 (by decide) ?_ ?_
  · refine jw_ex ?_
    exact j_vret (pc := 67) O dX6_tries_67
  · refine j_aload_n (pc := 49) O 0 dX6_tries_49 rfl ?_
    refine j_getf (pc := 50) (v := .ref (ad 14)) O 0 40 dX6_tries_50 fl_X6_62 so_S2_0 rfl rfl ?_
    refine j_iload_n (pc := 53) O 2 dX6_tries_53 rfl ?_
    refine j_aload_n (pc := 54) O 0 dX6_tries_54 rfl ?_
    refine j_getf (pc := 55) (v := .ref (ad 13)) O 0 35 dX6_tries_55 fl_X6_59 so_S2_0 rfl rfl ?_
    refine j_iload_n (pc := 58) O 2 dX6_tries_58 rfl ?_
    refine j_iald (pc := 59) O 13 dX6_tries_59 so_S2_13 ?_
    refine j_iast (pc := 60) O 14 dX6_tries_60 so_S2_14 (fun M7 => ?_)
    refine j_iinc (pc := 61) (v := 1) (L2 := fun y => [(3, .int y), (0, .ref (ad 0)), (2, .int x2)]) O 2 dX6_tries_61 rfl (by decide) (by decide) (fun _ => rfl) (fun y8 => ?_)
    refine j_goto (pc := 64) (tgt := 44) O dX6_tries_64 (by decide) ?_
    exact jw_next (fun hh => pw_sub [1, 2, 0] rfl hh)
def f_X6_tries_j29 (g_X6_tries : Int32 → Int32 → Mm → Option (Mm)) (x2 : Int32) (M : Mm) : Option (Mm) :=
  bm (ms M 0 42 (1 : Int32)) fun M5 =>
  bm (ms M5 0 41 (M5.1 0 36)) fun M6 =>
  iter (fun s => f_X6_tries_b44 g_X6_tries x2 s.1 s.2) fuel ((0 : Int32), M6)
set_option maxRecDepth 100000 in
set_option maxHeartbeats 4000000 in
theorem jf_X6_tries_j29 {G : wn_G} {ad : Nat → Nat} {X : wn_X} {d : Nat} (O : Ok G RX6 cX6_tries 4 d X) (hd0 : 112 ≤ d) (g_X6_tries : Int32 → Int32 → Mm → Option (Mm)) {dg : Nat} (hdg : dg + 1 ≤ d) (hg_X6_tries : ∀ (x1 : Int32) (x2 : Int32) (M M1 : Mm), g_X6_tries x1 x2 M = some M1 → Sp G S2 ad mX6_tries dg [.ref (ad 0), .int x1, .int x2] M M1 none) (x2 : Int32) (M : Mm) : JW G S2 ad X 29 [(0, .ref (ad 0)), (2, .int x2)] [] M (f_X6_tries_j29 g_X6_tries x2 M) (Krv G S2 ad X) := by
  unfold f_X6_tries_j29
  refine j_aload_n (pc := 29) O 0 dX6_tries_29 rfl ?_
  refine j_iconst (pc := 30) (v := 1) O dX6_tries_30 (by decide) ?_
  refine j_putz (pc := 31) O 0 42 dX6_tries_31 fl_X6_316 so_S2_0 ft_X6_42 ⟨by decide, by decide⟩ rfl (fun M5 => ?_)
  refine j_aload_n (pc := 34) O 0 dX6_tries_34 rfl ?_
  refine j_aload_n (pc := 35) O 0 dX6_tries_35 rfl ?_
  refine j_getf (pc := 36) (v := .int (M5.1 0 36)) O 0 36 dX6_tries_36 fl_X6_272 so_S2_0 rfl rfl ?_
  refine j_puti (pc := 39) O 0 41 dX6_tries_39 fl_X6_319 so_S2_0 ft_X6_41 rfl (fun M6 => ?_)
  refine j_iconst (pc := 42) (v := 0) O dX6_tries_42 (by decide) ?_
  refine j_istore_n (pc := 43) (L' := [(3, .int (0 : Int32)), (0, .ref (ad 0)), (2, .int x2)]) O dX6_tries_43 (by decide) rfl ?_
  exact jw_iter (hd := h_X6_tries_44 G ad X x2) (fun hh => pw_sub [1, 2, 0] rfl hh) (fun s => jf_X6_tries_b44 O hd0 g_X6_tries hdg hg_X6_tries x2 s.1 s.2)
def f_X6_tries (g_X6_tries : Int32 → Int32 → Mm → Option (Mm)) (x1 : Int32) (x2 : Int32) (M : Mm) : Option (Mm) :=
  if x1 = x2 then
    bv (f_X6_sups (4 : Int32) x2 M) fun M4 =>
    if (M4.1 0 42) = 0 then
      f_X6_tries_j29 g_X6_tries x2 M4
    else
      if (M4.1 0 41) ≤ (M4.1 0 36) then
        some M4
      else
        f_X6_tries_j29 g_X6_tries x2 M4
  else
    iter (fun s => f_X6_tries_b70 g_X6_tries x1 x2 s.1 s.2) fuel ((0 : Int32), M)
set_option maxRecDepth 100000 in
set_option maxHeartbeats 4000000 in
theorem jf_X6_tries {G : wn_G} {ad : Nat → Nat} {X : wn_X} {d : Nat} (O : Ok G RX6 cX6_tries 4 d X) (hd0 : 112 ≤ d) (g_X6_tries : Int32 → Int32 → Mm → Option (Mm)) {dg : Nat} (hdg : dg + 1 ≤ d) (hg_X6_tries : ∀ (x1 : Int32) (x2 : Int32) (M M1 : Mm), g_X6_tries x1 x2 M = some M1 → Sp G S2 ad mX6_tries dg [.ref (ad 0), .int x1, .int x2] M M1 none) (x1 : Int32) (x2 : Int32) (M : Mm) : JW G S2 ad X 0 [(0, .ref (ad 0)), (1, .int x1), (2, .int x2)] [] M (f_X6_tries g_X6_tries x1 x2 M) (Krv G S2 ad X) := by
  unfold f_X6_tries
  refine j_iload_n (pc := 0) O 1 dX6_tries_0 rfl ?_
  refine j_iload_n (pc := 1) O 2 dX6_tries_1 rfl ?_
  refine j_icmp_ne (pc := 2) (tgt := 68) O dX6_tries_2 (by decide) ?_ ?_
  · refine j_aload_n (pc := 5) O 0 dX6_tries_5 rfl ?_
    refine j_iconst (pc := 6) (v := 4) O dX6_tries_6 (by decide) ?_
    refine j_iload_n (pc := 7) O 2 dX6_tries_7 rfl ?_
    refine j_callVv (pc := 8) (dc := 111) (As := [.int (4 : Int32), .int x2]) (rest := []) O 0 (fun M1 h => sp_X6_sups h) dX6_tries_8 mv_X6_sups lm_X6_310 so_S2_0 rfl rfl (Nat.le_of_ble_eq_true rfl) (Nat.le_trans (Nat.le_of_ble_eq_true rfl) hd0) (fun M4 => ?_)
    refine j_aload_n (pc := 11) O 0 dX6_tries_11 rfl ?_
    refine j_getf (pc := 12) (v := .int (M4.1 0 42)) O 0 42 dX6_tries_12 fl_X6_316 so_S2_0 rfl rfl ?_
    refine j_if_eq (pc := 15) (tgt := 29) O dX6_tries_15 (by decide) ?_ ?_
    · exact jw_sub [0, 2] rfl (jf_X6_tries_j29 O hd0 g_X6_tries hdg hg_X6_tries x2 M4)
    · refine j_aload_n (pc := 18) O 0 dX6_tries_18 rfl ?_
      refine j_getf (pc := 19) (v := .int (M4.1 0 36)) O 0 36 dX6_tries_19 fl_X6_272 so_S2_0 rfl rfl ?_
      refine j_aload_n (pc := 22) O 0 dX6_tries_22 rfl ?_
      refine j_getf (pc := 23) (v := .int (M4.1 0 41)) O 0 41 dX6_tries_23 fl_X6_319 so_S2_0 rfl rfl ?_
      refine j_icmp_ge (pc := 26) (tgt := 67) O dX6_tries_26 (by decide) ?_ ?_
      · exact j_vret (pc := 67) O dX6_tries_67
      · exact jw_sub [0, 2] rfl (jf_X6_tries_j29 O hd0 g_X6_tries hdg hg_X6_tries x2 M4)
  · refine j_iconst (pc := 68) (v := 0) O dX6_tries_68 (by decide) ?_
    refine j_istore_n (pc := 69) (L' := [(3, .int (0 : Int32)), (0, .ref (ad 0)), (1, .int x1), (2, .int x2)]) O dX6_tries_69 (by decide) rfl ?_
    exact jw_iter (hd := h_X6_tries_70 G ad X x1 x2) (fun hh => pw_sub [1, 2, 3, 0] rfl hh) (fun s => jf_X6_tries_b70 O hd0 g_X6_tries hdg hg_X6_tries x1 x2 s.1 s.2)
def R_X6_tries : Nat → (Int32 → Int32 → Mm → Option (Mm))
  | 0 => (fun _ _ _ => none)
  | n + 1 => (f_X6_tries (R_X6_tries n))
set_option maxRecDepth 100000 in
theorem sR_X6_tries {G : wn_G} {ad : Nat → Nat} : ∀ n : Nat, (∀ (x1 : Int32) (x2 : Int32) (M M1 : Mm), (R_X6_tries n) x1 x2 M = some M1 → Sp G S2 ad mX6_tries (112 + n) [.ref (ad 0), .int x1, .int x2] M M1 none)
  | 0 => (fun _ _ _ _ h => (by cases h))
  | n + 1 => by
    have ih := sR_X6_tries (G := G) (ad := ad) n
    exact (fun x1 x2 M M1 h => sp_intro (own := RX6) (by decide +kernel) rfl (Nat.le_of_ble_eq_true rfl) (fun X O T => jf_X6_tries O (by omega) (R_X6_tries n) (Nat.le_refl _) ih x1 x2 M M1 h T))
def r_X6_tries : Int32 → Int32 → Mm → Option (Mm) := (R_X6_tries recs)
theorem sp_X6_tries {G : wn_G} {ad : Nat → Nat} {x1 : Int32} {x2 : Int32} {M M1 : Mm} (h : r_X6_tries x1 x2 M = some M1) : Sp G S2 ad mX6_tries 212 [.ref (ad 0), .int x1, .int x2] M M1 none := (sR_X6_tries recs) x1 x2 M M1 h
