def f_X6_best_j38 (x1 : Int32) (x2 : Int32) (M : Mm) : Option (Int32 × Mm) :=
  if (M.1 0 13) = 0 then
    some ((-100000 : Int32), M)
  else
    bm (ms M 0 42 (0 : Int32)) fun M3 =>
    bv (r_X6_tries (0 : Int32) x1 M3) fun M4 =>
    if x2 = (-1 : Int32) then
      some ((M4.1 0 41), M4)
    else
      gd (bin x2 12 = true) inferInstance <|
      some ((M4.1 14 (Int32.toNatClampNeg x2)), M4)
set_option maxRecDepth 100000 in
set_option maxHeartbeats 4000000 in
theorem jf_X6_best_j38 {G : wn_G} {ad : Nat → Nat} {X : wn_X} {d : Nat} (O : Ok G RX6 cX6_best 3 d X) (hd0 : 213 ≤ d) (x1 : Int32) (x2 : Int32) (M : Mm) : JW G S2 ad X 38 [(0, .ref (ad 0)), (1, .int x1), (2, .int x2)] [] M (f_X6_best_j38 x1 x2 M) (Kri G S2 ad X) := by
  unfold f_X6_best_j38
  refine j_aload_n (pc := 38) O 0 dX6_best_38 rfl ?_
  refine j_getf (pc := 39) (v := .int (M.1 0 13)) O 0 13 dX6_best_39 fl_X6_91 so_S2_0 rfl rfl ?_
  refine j_if_ne (pc := 42) (tgt := 49) O dX6_best_42 (by decide) ?_ ?_
  · refine j_ldcw (pc := 45) (v := -100000) O dX6_best_45 gk_X6_309 ?_
    exact j_iret (pc := 48) O dX6_best_48
  · refine j_aload_n (pc := 49) O 0 dX6_best_49 rfl ?_
    refine j_iconst (pc := 50) (v := 0) O dX6_best_50 (by decide) ?_
    refine j_putz (pc := 51) O 0 42 dX6_best_51 fl_X6_316 so_S2_0 ft_X6_42 ⟨by decide, by decide⟩ rfl (fun M3 => ?_)
    refine j_aload_n (pc := 54) O 0 dX6_best_54 rfl ?_
    refine j_iconst (pc := 55) (v := 0) O dX6_best_55 (by decide) ?_
    refine j_iload_n (pc := 56) O 1 dX6_best_56 rfl ?_
    refine j_callVv (pc := 57) (dc := 212) (As := [.int (0 : Int32), .int x1]) (rest := []) O 0 (fun M1 h => sp_X6_tries h) dX6_best_57 mv_X6_tries lm_X6_322 so_S2_0 rfl rfl (Nat.le_of_ble_eq_true rfl) (Nat.le_trans (Nat.le_of_ble_eq_true rfl) hd0) (fun M4 => ?_)
    refine j_iload_n (pc := 60) O 2 dX6_best_60 rfl ?_
    refine j_iconst (pc := 61) (v := -1) O dX6_best_61 (by decide) ?_
    refine j_icmp_ne (pc := 62) (tgt := 72) O dX6_best_62 (by decide) ?_ ?_
    · refine j_aload_n (pc := 65) O 0 dX6_best_65 rfl ?_
      refine j_getf (pc := 66) (v := .int (M4.1 0 41)) O 0 41 dX6_best_66 fl_X6_319 so_S2_0 rfl rfl ?_
      refine j_goto (pc := 69) (tgt := 78) O dX6_best_69 (by decide) ?_
      exact j_iret (pc := 78) O dX6_best_78
    · refine j_aload_n (pc := 72) O 0 dX6_best_72 rfl ?_
      refine j_getf (pc := 73) (v := .ref (ad 14)) O 0 40 dX6_best_73 fl_X6_62 so_S2_0 rfl rfl ?_
      refine j_iload_n (pc := 76) O 2 dX6_best_76 rfl ?_
      refine j_iald (pc := 77) O 14 dX6_best_77 so_S2_14 ?_
      exact j_iret (pc := 78) O dX6_best_78
def f_X6_best (x1 : Int32) (x2 : Int32) (M : Mm) : Option (Int32 × Mm) :=
  bd (f_X6_in (Int32.toInt64 x1) (0 : Int64) (4 : Int64) M) fun r2 M1 =>
  if r2 = 0 then
    some ((-100000 : Int32), M1)
  else
    if (M1.1 0 7) < x1 then
      some ((-100000 : Int32), M1)
    else
      if x2 = (-1 : Int32) then
        f_X6_best_j38 x1 x2 M1
      else
        bd (f_X6_in (Int32.toInt64 x2) (0 : Int64) (Int32.toInt64 (x1 - (1 : Int32))) M1) fun r6 M5 =>
        if r6 = 0 then
          some ((-100000 : Int32), M5)
        else
          f_X6_best_j38 x1 x2 M5
set_option maxRecDepth 100000 in
set_option maxHeartbeats 4000000 in
theorem jf_X6_best {G : wn_G} {ad : Nat → Nat} {X : wn_X} {d : Nat} (O : Ok G RX6 cX6_best 3 d X) (hd0 : 213 ≤ d) (x1 : Int32) (x2 : Int32) (M : Mm) : JW G S2 ad X 0 [(0, .ref (ad 0)), (1, .int x1), (2, .int x2)] [] M (f_X6_best x1 x2 M) (Kri G S2 ad X) := by
  unfold f_X6_best
  refine j_iload_n (pc := 0) O 1 dX6_best_0 rfl ?_
  refine j_i2l (pc := 1) O dX6_best_1 ?_
  refine j_lconst (pc := 2) (v := 0) O dX6_best_2 (by decide) ?_
  refine j_ldc2 (pc := 3) (v := 4) O dX6_best_3 gk_X6_98 ?_
  refine j_callSi (pc := 6) (dc := 1) (As := [.long (Int32.toInt64 x1), .long (0 : Int64), .long (4 : Int64)]) (rest := []) O (fun r M1 h => sp_X6_in h) dX6_best_6 mst_X6_in lm_X6_94 rfl rfl (Nat.le_of_ble_eq_true rfl) (Nat.le_trans (Nat.le_of_ble_eq_true rfl) hd0) (fun r2 M1 => ?_)
  refine j_if_eq (pc := 9) (tgt := 45) O dX6_best_9 (by decide) ?_ ?_
  · refine j_ldcw (pc := 45) (v := -100000) O dX6_best_45 gk_X6_309 ?_
    exact j_iret (pc := 48) O dX6_best_48
  · refine j_iload_n (pc := 12) O 1 dX6_best_12 rfl ?_
    refine j_aload_n (pc := 13) O 0 dX6_best_13 rfl ?_
    refine j_getf (pc := 14) (v := .int (M1.1 0 7)) O 0 7 dX6_best_14 fl_X6_23 so_S2_0 rfl rfl ?_
    refine j_icmp_gt (pc := 17) (tgt := 45) O dX6_best_17 (by decide) ?_ ?_
    · refine j_ldcw (pc := 45) (v := -100000) O dX6_best_45 gk_X6_309 ?_
      exact j_iret (pc := 48) O dX6_best_48
    · refine j_iload_n (pc := 20) O 2 dX6_best_20 rfl ?_
      refine j_iconst (pc := 21) (v := -1) O dX6_best_21 (by decide) ?_
      refine j_icmp_eq (pc := 22) (tgt := 38) O dX6_best_22 (by decide) ?_ ?_
      · exact jw_sub [0, 1, 2] rfl (jf_X6_best_j38 O hd0 x1 x2 M1)
      · refine j_iload_n (pc := 25) O 2 dX6_best_25 rfl ?_
        refine j_i2l (pc := 26) O dX6_best_26 ?_
        refine j_lconst (pc := 27) (v := 0) O dX6_best_27 (by decide) ?_
        refine j_iload_n (pc := 28) O 1 dX6_best_28 rfl ?_
        refine j_iconst (pc := 29) (v := 1) O dX6_best_29 (by decide) ?_
        refine j_isub (pc := 30) O dX6_best_30 ?_
        refine j_i2l (pc := 31) O dX6_best_31 ?_
        refine j_callSi (pc := 32) (dc := 1) (As := [.long (Int32.toInt64 x2), .long (0 : Int64), .long (Int32.toInt64 (x1 - (1 : Int32)))]) (rest := []) O (fun r M1 h => sp_X6_in h) dX6_best_32 mst_X6_in lm_X6_94 rfl rfl (Nat.le_of_ble_eq_true rfl) (Nat.le_trans (Nat.le_of_ble_eq_true rfl) hd0) (fun r6 M5 => ?_)
        refine j_if_eq (pc := 35) (tgt := 45) O dX6_best_35 (by decide) ?_ ?_
        · refine j_ldcw (pc := 45) (v := -100000) O dX6_best_45 gk_X6_309 ?_
          exact j_iret (pc := 48) O dX6_best_48
        · exact jw_sub [0, 1, 2] rfl (jf_X6_best_j38 O hd0 x1 x2 M5)
theorem sp_X6_best {G : wn_G} {ad : Nat → Nat} {x1 : Int32} {x2 : Int32} {M : Mm} {r : Int32} {M1 : Mm} (h : f_X6_best x1 x2 M = some (r, M1)) : Sp G S2 ad mX6_best 213 [.ref (ad 0), .int x1, .int x2] M M1 (some (.int r)) :=
  sp_intro (own := RX6) (by decide +kernel) rfl (Nat.le_of_ble_eq_true rfl) (fun X O T => jf_X6_best O (Nat.le_refl _) x1 x2 M (r, M1) h T)
def h_X5_keep_33 (G : wn_G) (ad : Nat → Nat) (X : wn_X) (x1 : Int32) : Int32 × Int32 × Int32 × Mm → Prop := fun s => PW G S1 ad X 33 [(0, .ref (ad 0)), (1, .int x1), (2, .int s.1), (3, .int s.2.1), (4, .int s.2.2.1)] [] s.2.2.2
def f_X5_keep_b33 (x1 : Int32) (x2 : Int32) (x3 : Int32) (x4 : Int32) (M : Mm) : Option ((Int32 × Int32 × Int32 × Mm) ⊕ (Int32 × Mm)) :=
  if (12 : Int32) < x4 then
    ex (
    if x1 = 0 then
      some (x2, M)
    else
      some (x3, M))
  else
    bv (f_X2_heapUp x4 M) fun M2 =>
    bv (f_X2_run (1 : Int32) M2) fun M3 =>
    if x2 = (-1 : Int32) then
      bi (M3.1 6 12) fun y4 =>
      bi (x4 + (1 : Int32)) fun y5 =>
      some (.inl (x4, y4, y5, M3))
    else
      if x3 ≤ (M3.1 6 12) then
        bi (x4 + (1 : Int32)) fun y6 =>
        some (.inl (x2, x3, y6, M3))
      else
        bi (M3.1 6 12) fun y7 =>
        bi (x4 + (1 : Int32)) fun y8 =>
        some (.inl (x4, y7, y8, M3))
set_option maxRecDepth 100000 in
set_option maxHeartbeats 4000000 in
theorem jf_X5_keep_b33 {G : wn_G} {ad : Nat → Nat} {X : wn_X} {d : Nat} (O : Ok G RX5 cX5_keep 5 d X) (hd0 : 7 ≤ d) (x1 : Int32) (x2 : Int32) (x3 : Int32) (x4 : Int32) (M : Mm) : JW G S1 ad X 33 [(0, .ref (ad 0)), (1, .int x1), (2, .int x2), (3, .int x3), (4, .int x4)] [] M (f_X5_keep_b33 x1 x2 x3 x4 M) (Kl (h_X5_keep_33 G ad X x1) (Kri G S1 ad X)) := by
  unfold f_X5_keep_b33
  refine j_iload (pc := 33) O 4 dX5_keep_33 rfl ?_
  refine j_bipush (pc := 35) (v := 12) O dX5_keep_35 (by decide) ?_
  refine j_icmp_gt (pc := 37) (tgt := 90) O dX5_keep_37 (by decide) ?_ ?_
  · refine jw_ex ?_
    refine j_iload_n (pc := 90) O 1 dX5_keep_90 rfl ?_
    refine j_if_ne (pc := 91) (tgt := 98) O dX5_keep_91 (by decide) ?_ ?_
    · refine j_iload_n (pc := 94) O 2 dX5_keep_94 rfl ?_
      refine j_goto (pc := 95) (tgt := 99) O dX5_keep_95 (by decide) ?_
      exact j_iret (pc := 99) O dX5_keep_99
    · refine j_iload_n (pc := 98) O 3 dX5_keep_98 rfl ?_
      exact j_iret (pc := 99) O dX5_keep_99
  · refine j_aload_n (pc := 40) O 0 dX5_keep_40 rfl ?_
    refine j_getf (pc := 41) (v := .ref (ad 6)) O 0 6 dX5_keep_41 fl_X5_45 so_S1_0 rfl rfl ?_
    refine j_iload (pc := 44) O 4 dX5_keep_44 rfl ?_
    refine j_callVv (pc := 46) (dc := 1) (As := [.int x4]) (rest := []) O 6 (fun M1 h => sp_X2_heapUp h) dX5_keep_46 mv_X2_heapUp lm_X5_155 so_S1_6 rfl rfl (Nat.le_of_ble_eq_true rfl) (Nat.le_trans (Nat.le_of_ble_eq_true rfl) hd0) (fun M2 => ?_)
    refine j_aload_n (pc := 49) O 0 dX5_keep_49 rfl ?_
    refine j_getf (pc := 50) (v := .ref (ad 6)) O 0 6 dX5_keep_50 fl_X5_45 so_S1_0 rfl rfl ?_
    refine j_iconst (pc := 53) (v := 1) O dX5_keep_53 (by decide) ?_
    refine j_callVv (pc := 54) (dc := 6) (As := [.int (1 : Int32)]) (rest := []) O 6 (fun M1 h => sp_X2_run h) dX5_keep_54 mv_X2_run lm_X5_149 so_S1_6 rfl rfl (Nat.le_of_ble_eq_true rfl) (Nat.le_trans (Nat.le_of_ble_eq_true rfl) hd0) (fun M3 => ?_)
    refine j_iload_n (pc := 57) O 2 dX5_keep_57 rfl ?_
    refine j_iconst (pc := 58) (v := -1) O dX5_keep_58 (by decide) ?_
    refine j_icmp_eq (pc := 59) (tgt := 73) O dX5_keep_59 (by decide) ?_ ?_
    · refine j_iload (pc := 73) O 4 dX5_keep_73 rfl ?_
      refine j_istore_n (pc := 75) (L' := [(2, .int x4), (0, .ref (ad 0)), (1, .int x1), (3, .int x3), (4, .int x4)]) O dX5_keep_75 (by decide) rfl ?_
      refine j_aload_n (pc := 76) O 1 dX5_keep_76 rfl ?_
      refine j_getf (pc := 77) (v := .ref (ad 6)) O 0 6 dX5_keep_77 fl_X5_45 so_S1_0 rfl rfl ?_
      refine j_getf (pc := 80) (v := .int (M3.1 6 12)) O 6 12 dX5_keep_80 fl_X5_168 so_S1_6 rfl rfl ?_
      refine jw_bi fun y4 => ?_
      refine j_istore_n (pc := 83) (L' := [(3, .int y4), (2, .int x4), (0, .ref (ad 0)), (1, .int x1), (4, .int x4)]) O dX5_keep_83 (by decide) rfl ?_
      refine j_iinc (pc := 84) (v := 1) (L2 := fun y => [(4, .int y), (3, .int y4), (2, .int x4), (0, .ref (ad 0)), (1, .int x1)]) O 4 dX5_keep_84 rfl (by decide) (by decide) (fun _ => rfl) (fun y5 => ?_)
      refine j_goto (pc := 87) (tgt := 33) O dX5_keep_87 (by decide) ?_
      exact jw_next (fun hh => pw_sub [3, 4, 2, 1, 0] rfl hh)
    · refine j_aload_n (pc := 62) O 0 dX5_keep_62 rfl ?_
      refine j_getf (pc := 63) (v := .ref (ad 6)) O 0 6 dX5_keep_63 fl_X5_45 so_S1_0 rfl rfl ?_
      refine j_getf (pc := 66) (v := .int (M3.1 6 12)) O 6 12 dX5_keep_66 fl_X5_168 so_S1_6 rfl rfl ?_
      refine j_iload_n (pc := 69) O 3 dX5_keep_69 rfl ?_
      refine j_icmp_ge (pc := 70) (tgt := 84) O dX5_keep_70 (by decide) ?_ ?_
      · refine j_iinc (pc := 84) (v := 1) (L2 := fun y => [(4, .int y), (0, .ref (ad 0)), (1, .int x1), (2, .int x2), (3, .int x3)]) O 4 dX5_keep_84 rfl (by decide) (by decide) (fun _ => rfl) (fun y6 => ?_)
        refine j_goto (pc := 87) (tgt := 33) O dX5_keep_87 (by decide) ?_
        exact jw_next (fun hh => pw_sub [1, 2, 3, 4, 0] rfl hh)
      · refine j_iload (pc := 73) O 4 dX5_keep_73 rfl ?_
        refine j_istore_n (pc := 75) (L' := [(2, .int x4), (0, .ref (ad 0)), (1, .int x1), (3, .int x3), (4, .int x4)]) O dX5_keep_75 (by decide) rfl ?_
        refine j_aload_n (pc := 76) O 1 dX5_keep_76 rfl ?_
        refine j_getf (pc := 77) (v := .ref (ad 6)) O 0 6 dX5_keep_77 fl_X5_45 so_S1_0 rfl rfl ?_
        refine j_getf (pc := 80) (v := .int (M3.1 6 12)) O 6 12 dX5_keep_80 fl_X5_168 so_S1_6 rfl rfl ?_
        refine jw_bi fun y7 => ?_
        refine j_istore_n (pc := 83) (L' := [(3, .int y7), (2, .int x4), (0, .ref (ad 0)), (1, .int x1), (4, .int x4)]) O dX5_keep_83 (by decide) rfl ?_
        refine j_iinc (pc := 84) (v := 1) (L2 := fun y => [(4, .int y), (3, .int y7), (2, .int x4), (0, .ref (ad 0)), (1, .int x1)]) O 4 dX5_keep_84 rfl (by decide) (by decide) (fun _ => rfl) (fun y8 => ?_)
        refine j_goto (pc := 87) (tgt := 33) O dX5_keep_87 (by decide) ?_
        exact jw_next (fun hh => pw_sub [3, 4, 2, 1, 0] rfl hh)
def f_X5_keep_j12 (x1 : Int32) (M : Mm) : Option (Int32 × Mm) :=
  bv (f_X2_lay (M.1 1 1) M) fun M1 =>
  iter (fun s => f_X5_keep_b33 x1 s.1 s.2.1 s.2.2.1 s.2.2.2) fuel ((-1 : Int32), (0 : Int32), (1 : Int32), M1)
set_option maxRecDepth 100000 in
set_option maxHeartbeats 4000000 in
theorem jf_X5_keep_j12 {G : wn_G} {ad : Nat → Nat} {X : wn_X} {d : Nat} (O : Ok G RX5 cX5_keep 5 d X) (hd0 : 7 ≤ d) (x1 : Int32) (M : Mm) : JW G S1 ad X 12 [(0, .ref (ad 0)), (1, .int x1)] [] M (f_X5_keep_j12 x1 M) (Kri G S1 ad X) := by
  unfold f_X5_keep_j12
  refine j_aload_n (pc := 12) O 0 dX5_keep_12 rfl ?_
  refine j_getf (pc := 13) (v := .ref (ad 6)) O 0 6 dX5_keep_13 fl_X5_45 so_S1_0 rfl rfl ?_
  refine j_aload_n (pc := 16) O 0 dX5_keep_16 rfl ?_
  refine j_getf (pc := 17) (v := .ref (ad 1)) O 0 0 dX5_keep_17 fl_X5_10 so_S1_0 rfl rfl ?_
  refine j_getf (pc := 20) (v := .int (M.1 1 1)) O 1 1 dX5_keep_20 fl_X5_97 so_S1_1 rfl rfl ?_
  refine j_callVv (pc := 23) (dc := 4) (As := [.int (M.1 1 1)]) (rest := []) O 6 (fun M1 h => sp_X2_lay h) dX5_keep_23 mv_X2_lay lm_X5_101 so_S1_6 rfl rfl (Nat.le_of_ble_eq_true rfl) (Nat.le_trans (Nat.le_of_ble_eq_true rfl) hd0) (fun M1 => ?_)
  refine j_iconst (pc := 26) (v := -1) O dX5_keep_26 (by decide) ?_
  refine j_istore_n (pc := 27) (L' := [(2, .int (-1 : Int32)), (0, .ref (ad 0)), (1, .int x1)]) O dX5_keep_27 (by decide) rfl ?_
  refine j_iconst (pc := 28) (v := 0) O dX5_keep_28 (by decide) ?_
  refine j_istore_n (pc := 29) (L' := [(3, .int (0 : Int32)), (2, .int (-1 : Int32)), (0, .ref (ad 0)), (1, .int x1)]) O dX5_keep_29 (by decide) rfl ?_
  refine j_iconst (pc := 30) (v := 1) O dX5_keep_30 (by decide) ?_
  refine j_istore (pc := 31) (L' := [(4, .int (1 : Int32)), (3, .int (0 : Int32)), (2, .int (-1 : Int32)), (0, .ref (ad 0)), (1, .int x1)]) O dX5_keep_31 (by decide) rfl ?_
  exact jw_iter (hd := h_X5_keep_33 G ad X x1) (fun hh => pw_sub [3, 4, 2, 1, 0] rfl hh) (fun s => jf_X5_keep_b33 O hd0 x1 s.1 s.2.1 s.2.2.1 s.2.2.2)
def f_X5_keep (x1 : Int32) (M : Mm) : Option (Int32 × Mm) :=
  if x1 = 0 then
    f_X5_keep_j12 x1 M
  else
    if x1 = (1 : Int32) then
      f_X5_keep_j12 x1 M
    else
      some ((-100000 : Int32), M)
set_option maxRecDepth 100000 in
set_option maxHeartbeats 4000000 in
theorem jf_X5_keep {G : wn_G} {ad : Nat → Nat} {X : wn_X} {d : Nat} (O : Ok G RX5 cX5_keep 5 d X) (hd0 : 7 ≤ d) (x1 : Int32) (M : Mm) : JW G S1 ad X 0 [(0, .ref (ad 0)), (1, .int x1)] [] M (f_X5_keep x1 M) (Kri G S1 ad X) := by
  unfold f_X5_keep
  refine j_iload_n (pc := 0) O 1 dX5_keep_0 rfl ?_
  refine j_if_eq (pc := 1) (tgt := 12) O dX5_keep_1 (by decide) ?_ ?_
  · exact jw_sub [0, 1] rfl (jf_X5_keep_j12 O hd0 x1 M)
  · refine j_iload_n (pc := 4) O 1 dX5_keep_4 rfl ?_
    refine j_iconst (pc := 5) (v := 1) O dX5_keep_5 (by decide) ?_
    refine j_icmp_eq (pc := 6) (tgt := 12) O dX5_keep_6 (by decide) ?_ ?_
    · exact jw_sub [0, 1] rfl (jf_X5_keep_j12 O hd0 x1 M)
    · refine j_ldc (pc := 9) (v := -100000) O dX5_keep_9 gk_X5_135 ?_
      exact j_iret (pc := 11) O dX5_keep_11
theorem sp_X5_keep {G : wn_G} {ad : Nat → Nat} {x1 : Int32} {M : Mm} {r : Int32} {M1 : Mm} (h : f_X5_keep x1 M = some (r, M1)) : Sp G S1 ad mX5_keep 7 [.ref (ad 0), .int x1] M M1 (some (.int r)) :=
  sp_intro (own := RX5) (by decide +kernel) rfl (Nat.le_of_ble_eq_true rfl) (fun X O T => jf_X5_keep O (Nat.le_refl _) x1 M (r, M1) h T)
def h_X6_keep_21 (G : wn_G) (ad : Nat → Nat) (X : wn_X) (x1 : Int32) : Int32 × Int32 × Int32 × Mm → Prop := fun s => PW G S2 ad X 21 [(0, .ref (ad 0)), (1, .int x1), (2, .int s.1), (3, .int s.2.1), (4, .int s.2.2.1)] [] s.2.2.2
def f_X6_keep_b21 (x1 : Int32) (x2 : Int32) (x3 : Int32) (x4 : Int32) (M : Mm) : Option ((Int32 × Int32 × Int32 × Mm) ⊕ (Int32 × Mm)) :=
  if (12 : Int32) < x4 then
    ex (
    if x1 = 0 then
      some (x2, M)
    else
      some (x3, M))
  else
    bv (f_X6_sups (5 : Int32) x4 M) fun M3 =>
    if x2 = (-1 : Int32) then
      bi (M3.1 0 36) fun y4 =>
      bi (x4 + (1 : Int32)) fun y5 =>
      some (.inl (x4, y4, y5, M3))
    else
      if x3 ≤ (M3.1 0 36) then
        bi (x4 + (1 : Int32)) fun y6 =>
        some (.inl (x2, x3, y6, M3))
      else
        bi (M3.1 0 36) fun y7 =>
        bi (x4 + (1 : Int32)) fun y8 =>
        some (.inl (x4, y7, y8, M3))
set_option maxRecDepth 100000 in
set_option maxHeartbeats 4000000 in
theorem jf_X6_keep_b21 {G : wn_G} {ad : Nat → Nat} {X : wn_X} {d : Nat} (O : Ok G RX6 cX6_keep 5 d X) (hd0 : 112 ≤ d) (x1 : Int32) (x2 : Int32) (x3 : Int32) (x4 : Int32) (M : Mm) : JW G S2 ad X 21 [(0, .ref (ad 0)), (1, .int x1), (2, .int x2), (3, .int x3), (4, .int x4)] [] M (f_X6_keep_b21 x1 x2 x3 x4 M) (Kl (h_X6_keep_21 G ad X x1) (Kri G S2 ad X)) := by
  unfold f_X6_keep_b21
  refine j_iload (pc := 21) O 4 dX6_keep_21 rfl ?_
  refine j_bipush (pc := 23) (v := 12) O dX6_keep_23 (by decide) ?_
  refine j_icmp_gt (pc := 25) (tgt := 62) O dX6_keep_25 (by decide) ?_ ?_
  · refine jw_ex ?_
    refine j_iload_n (pc := 62) O 1 dX6_keep_62 rfl ?_
    refine j_if_ne (pc := 63) (tgt := 70) O dX6_keep_63 (by decide) ?_ ?_
    · refine j_iload_n (pc := 66) O 2 dX6_keep_66 rfl ?_
      refine j_goto (pc := 67) (tgt := 71) O dX6_keep_67 (by decide) ?_
      exact j_iret (pc := 71) O dX6_keep_71
    · refine j_iload_n (pc := 70) O 3 dX6_keep_70 rfl ?_
      exact j_iret (pc := 71) O dX6_keep_71
  · refine j_aload_n (pc := 28) O 0 dX6_keep_28 rfl ?_
    refine j_iconst (pc := 29) (v := 5) O dX6_keep_29 (by decide) ?_
    refine j_iload (pc := 30) O 4 dX6_keep_30 rfl ?_
    refine j_callVv (pc := 32) (dc := 111) (As := [.int (5 : Int32), .int x4]) (rest := []) O 0 (fun M1 h => sp_X6_sups h) dX6_keep_32 mv_X6_sups lm_X6_310 so_S2_0 rfl rfl (Nat.le_of_ble_eq_true rfl) (Nat.le_trans (Nat.le_of_ble_eq_true rfl) hd0) (fun M3 => ?_)
    refine j_iload_n (pc := 35) O 2 dX6_keep_35 rfl ?_
    refine j_iconst (pc := 36) (v := -1) O dX6_keep_36 (by decide) ?_
    refine j_icmp_eq (pc := 37) (tgt := 48) O dX6_keep_37 (by decide) ?_ ?_
    · refine j_iload (pc := 48) O 4 dX6_keep_48 rfl ?_
      refine j_istore_n (pc := 50) (L' := [(2, .int x4), (0, .ref (ad 0)), (1, .int x1), (3, .int x3), (4, .int x4)]) O dX6_keep_50 (by decide) rfl ?_
      refine j_aload_n (pc := 51) O 1 dX6_keep_51 rfl ?_
      refine j_getf (pc := 52) (v := .int (M3.1 0 36)) O 0 36 dX6_keep_52 fl_X6_272 so_S2_0 rfl rfl ?_
      refine jw_bi fun y4 => ?_
      refine j_istore_n (pc := 55) (L' := [(3, .int y4), (2, .int x4), (0, .ref (ad 0)), (1, .int x1), (4, .int x4)]) O dX6_keep_55 (by decide) rfl ?_
      refine j_iinc (pc := 56) (v := 1) (L2 := fun y => [(4, .int y), (3, .int y4), (2, .int x4), (0, .ref (ad 0)), (1, .int x1)]) O 4 dX6_keep_56 rfl (by decide) (by decide) (fun _ => rfl) (fun y5 => ?_)
      refine j_goto (pc := 59) (tgt := 21) O dX6_keep_59 (by decide) ?_
      exact jw_next (fun hh => pw_sub [3, 4, 2, 1, 0] rfl hh)
    · refine j_aload_n (pc := 40) O 0 dX6_keep_40 rfl ?_
      refine j_getf (pc := 41) (v := .int (M3.1 0 36)) O 0 36 dX6_keep_41 fl_X6_272 so_S2_0 rfl rfl ?_
      refine j_iload_n (pc := 44) O 3 dX6_keep_44 rfl ?_
      refine j_icmp_ge (pc := 45) (tgt := 56) O dX6_keep_45 (by decide) ?_ ?_
      · refine j_iinc (pc := 56) (v := 1) (L2 := fun y => [(4, .int y), (0, .ref (ad 0)), (1, .int x1), (2, .int x2), (3, .int x3)]) O 4 dX6_keep_56 rfl (by decide) (by decide) (fun _ => rfl) (fun y6 => ?_)
        refine j_goto (pc := 59) (tgt := 21) O dX6_keep_59 (by decide) ?_
        exact jw_next (fun hh => pw_sub [1, 2, 3, 4, 0] rfl hh)
      · refine j_iload (pc := 48) O 4 dX6_keep_48 rfl ?_
        refine j_istore_n (pc := 50) (L' := [(2, .int x4), (0, .ref (ad 0)), (1, .int x1), (3, .int x3), (4, .int x4)]) O dX6_keep_50 (by decide) rfl ?_
        refine j_aload_n (pc := 51) O 1 dX6_keep_51 rfl ?_
        refine j_getf (pc := 52) (v := .int (M3.1 0 36)) O 0 36 dX6_keep_52 fl_X6_272 so_S2_0 rfl rfl ?_
        refine jw_bi fun y7 => ?_
        refine j_istore_n (pc := 55) (L' := [(3, .int y7), (2, .int x4), (0, .ref (ad 0)), (1, .int x1), (4, .int x4)]) O dX6_keep_55 (by decide) rfl ?_
        refine j_iinc (pc := 56) (v := 1) (L2 := fun y => [(4, .int y), (3, .int y7), (2, .int x4), (0, .ref (ad 0)), (1, .int x1)]) O 4 dX6_keep_56 rfl (by decide) (by decide) (fun _ => rfl) (fun y8 => ?_)
        refine j_goto (pc := 59) (tgt := 21) O dX6_keep_59 (by decide) ?_
        exact jw_next (fun hh => pw_sub [3, 4, 2, 1, 0] rfl hh)
def f_X6_keep (x1 : Int32) (M : Mm) : Option (Int32 × Mm) :=
  bd (f_X6_in (Int32.toInt64 x1) (0 : Int64) (1 : Int64) M) fun r2 M1 =>
  if r2 = 0 then
    some ((-100000 : Int32), M1)
  else
    iter (fun s => f_X6_keep_b21 x1 s.1 s.2.1 s.2.2.1 s.2.2.2) fuel ((-1 : Int32), (0 : Int32), (1 : Int32), M1)
set_option maxRecDepth 100000 in
set_option maxHeartbeats 4000000 in
theorem jf_X6_keep {G : wn_G} {ad : Nat → Nat} {X : wn_X} {d : Nat} (O : Ok G RX6 cX6_keep 5 d X) (hd0 : 112 ≤ d) (x1 : Int32) (M : Mm) : JW G S2 ad X 0 [(0, .ref (ad 0)), (1, .int x1)] [] M (f_X6_keep x1 M) (Kri G S2 ad X) := by
  unfold f_X6_keep
  refine j_iload_n (pc := 0) O 1 dX6_keep_0 rfl ?_
  refine j_i2l (pc := 1) O dX6_keep_1 ?_
  refine j_lconst (pc := 2) (v := 0) O dX6_keep_2 (by decide) ?_
  refine j_lconst (pc := 3) (v := 1) O dX6_keep_3 (by decide) ?_
  refine j_callSi (pc := 4) (dc := 1) (As := [.long (Int32.toInt64 x1), .long (0 : Int64), .long (1 : Int64)]) (rest := []) O (fun r M1 h => sp_X6_in h) dX6_keep_4 mst_X6_in lm_X6_94 rfl rfl (Nat.le_of_ble_eq_true rfl) (Nat.le_trans (Nat.le_of_ble_eq_true rfl) hd0) (fun r2 M1 => ?_)
  refine j_if_ne (pc := 7) (tgt := 14) O dX6_keep_7 (by decide) ?_ ?_
  · refine j_ldcw (pc := 10) (v := -100000) O dX6_keep_10 gk_X6_309 ?_
    exact j_iret (pc := 13) O dX6_keep_13
  · refine j_iconst (pc := 14) (v := -1) O dX6_keep_14 (by decide) ?_
    refine j_istore_n (pc := 15) (L' := [(2, .int (-1 : Int32)), (0, .ref (ad 0)), (1, .int x1)]) O dX6_keep_15 (by decide) rfl ?_
    refine j_iconst (pc := 16) (v := 0) O dX6_keep_16 (by decide) ?_
    refine j_istore_n (pc := 17) (L' := [(3, .int (0 : Int32)), (2, .int (-1 : Int32)), (0, .ref (ad 0)), (1, .int x1)]) O dX6_keep_17 (by decide) rfl ?_
    refine j_iconst (pc := 18) (v := 1) O dX6_keep_18 (by decide) ?_
    refine j_istore (pc := 19) (L' := [(4, .int (1 : Int32)), (3, .int (0 : Int32)), (2, .int (-1 : Int32)), (0, .ref (ad 0)), (1, .int x1)]) O dX6_keep_19 (by decide) rfl ?_
    exact jw_iter (hd := h_X6_keep_21 G ad X x1) (fun hh => pw_sub [3, 4, 2, 1, 0] rfl hh) (fun s => jf_X6_keep_b21 O hd0 x1 s.1 s.2.1 s.2.2.1 s.2.2.2)
theorem sp_X6_keep {G : wn_G} {ad : Nat → Nat} {x1 : Int32} {M : Mm} {r : Int32} {M1 : Mm} (h : f_X6_keep x1 M = some (r, M1)) : Sp G S2 ad mX6_keep 112 [.ref (ad 0), .int x1] M M1 (some (.int r)) :=
  sp_intro (own := RX6) (by decide +kernel) rfl (Nat.le_of_ble_eq_true rfl) (fun X O T => jf_X6_keep O (Nat.le_refl _) x1 M (r, M1) h T)
def f_X5_second (M : Mm) : Option (Int32 × Mm) :=
  bv (f_X2_lay (1 : Int32) M) fun M1 =>
  bv (f_X2_run (2 : Int32) M1) fun M2 =>
  bi (M2.1 6 12) fun y3 =>
  bv (f_X2_lay (2 : Int32) M2) fun M4 =>
  bv (f_X2_run (2 : Int32) M4) fun M5 =>
  some ((y3 - (M5.1 6 12)), M5)
set_option maxRecDepth 100000 in
set_option maxHeartbeats 4000000 in
theorem jf_X5_second {G : wn_G} {ad : Nat → Nat} {X : wn_X} {d : Nat} (O : Ok G RX5 cX5_second 2 d X) (hd0 : 7 ≤ d) (M : Mm) : JW G S1 ad X 0 [(0, .ref (ad 0))] [] M (f_X5_second M) (Kri G S1 ad X) := by
  unfold f_X5_second
  refine j_aload_n (pc := 0) O 0 dX5_second_0 rfl ?_
  refine j_getf (pc := 1) (v := .ref (ad 6)) O 0 6 dX5_second_1 fl_X5_45 so_S1_0 rfl rfl ?_
  refine j_iconst (pc := 4) (v := 1) O dX5_second_4 (by decide) ?_
  refine j_callVv (pc := 5) (dc := 4) (As := [.int (1 : Int32)]) (rest := []) O 6 (fun M1 h => sp_X2_lay h) dX5_second_5 mv_X2_lay lm_X5_101 so_S1_6 rfl rfl (Nat.le_of_ble_eq_true rfl) (Nat.le_trans (Nat.le_of_ble_eq_true rfl) hd0) (fun M1 => ?_)
  refine j_aload_n (pc := 8) O 0 dX5_second_8 rfl ?_
  refine j_getf (pc := 9) (v := .ref (ad 6)) O 0 6 dX5_second_9 fl_X5_45 so_S1_0 rfl rfl ?_
  refine j_iconst (pc := 12) (v := 2) O dX5_second_12 (by decide) ?_
  refine j_callVv (pc := 13) (dc := 6) (As := [.int (2 : Int32)]) (rest := []) O 6 (fun M1 h => sp_X2_run h) dX5_second_13 mv_X2_run lm_X5_149 so_S1_6 rfl rfl (Nat.le_of_ble_eq_true rfl) (Nat.le_trans (Nat.le_of_ble_eq_true rfl) hd0) (fun M2 => ?_)
  refine j_aload_n (pc := 16) O 0 dX5_second_16 rfl ?_
  refine j_getf (pc := 17) (v := .ref (ad 6)) O 0 6 dX5_second_17 fl_X5_45 so_S1_0 rfl rfl ?_
  refine j_getf (pc := 20) (v := .int (M2.1 6 12)) O 6 12 dX5_second_20 fl_X5_168 so_S1_6 rfl rfl ?_
  refine jw_bi fun y3 => ?_
  refine j_istore_n (pc := 23) (L' := [(1, .int y3), (0, .ref (ad 0))]) O dX5_second_23 (by decide) rfl ?_
  refine j_aload_n (pc := 24) O 1 dX5_second_24 rfl ?_
  refine j_getf (pc := 25) (v := .ref (ad 6)) O 0 6 dX5_second_25 fl_X5_45 so_S1_0 rfl rfl ?_
  refine j_iconst (pc := 28) (v := 2) O dX5_second_28 (by decide) ?_
  refine j_callVv (pc := 29) (dc := 4) (As := [.int (2 : Int32)]) (rest := []) O 6 (fun M1 h => sp_X2_lay h) dX5_second_29 mv_X2_lay lm_X5_101 so_S1_6 rfl rfl (Nat.le_of_ble_eq_true rfl) (Nat.le_trans (Nat.le_of_ble_eq_true rfl) hd0) (fun M4 => ?_)
  refine j_aload_n (pc := 32) O 1 dX5_second_32 rfl ?_
  refine j_getf (pc := 33) (v := .ref (ad 6)) O 0 6 dX5_second_33 fl_X5_45 so_S1_0 rfl rfl ?_
  refine j_iconst (pc := 36) (v := 2) O dX5_second_36 (by decide) ?_
  refine j_callVv (pc := 37) (dc := 6) (As := [.int (2 : Int32)]) (rest := []) O 6 (fun M1 h => sp_X2_run h) dX5_second_37 mv_X2_run lm_X5_149 so_S1_6 rfl rfl (Nat.le_of_ble_eq_true rfl) (Nat.le_trans (Nat.le_of_ble_eq_true rfl) hd0) (fun M5 => ?_)
  refine j_iload_n (pc := 40) O 0 dX5_second_40 rfl ?_
  refine j_aload_n (pc := 41) O 1 dX5_second_41 rfl ?_
  refine j_getf (pc := 42) (v := .ref (ad 6)) O 0 6 dX5_second_42 fl_X5_45 so_S1_0 rfl rfl ?_
  refine j_getf (pc := 45) (v := .int (M5.1 6 12)) O 6 12 dX5_second_45 fl_X5_168 so_S1_6 rfl rfl ?_
  refine j_isub (pc := 48) O dX5_second_48 ?_
  exact j_iret (pc := 49) O dX5_second_49
theorem sp_X5_second {G : wn_G} {ad : Nat → Nat} {M : Mm} {r : Int32} {M1 : Mm} (h : f_X5_second M = some (r, M1)) : Sp G S1 ad mX5_second 7 [.ref (ad 0)] M M1 (some (.int r)) :=
  sp_intro (own := RX5) (by decide +kernel) rfl (Nat.le_of_ble_eq_true rfl) (fun X O T => jf_X5_second O (Nat.le_refl _) M (r, M1) h T)
def f_X6_second (M : Mm) : Option (Int32 × Mm) :=
  bi (M.1 0 8) fun y1 =>
  bm (ms M 0 8 (1 : Int32)) fun M2 =>
  bv (f_X6_sups (2 : Int32) (0 : Int32) M2) fun M3 =>
  bi (M3.1 0 36) fun y4 =>
  bm (ms M3 0 8 (2 : Int32)) fun M5 =>
  bv (f_X6_sups (2 : Int32) (0 : Int32) M5) fun M6 =>
  bm (ms M6 0 8 y1) fun M7 =>
  some ((y4 - (M7.1 0 36)), M7)
set_option maxRecDepth 100000 in
set_option maxHeartbeats 4000000 in
theorem jf_X6_second {G : wn_G} {ad : Nat → Nat} {X : wn_X} {d : Nat} (O : Ok G RX6 cX6_second 3 d X) (hd0 : 112 ≤ d) (M : Mm) : JW G S2 ad X 0 [(0, .ref (ad 0))] [] M (f_X6_second M) (Kri G S2 ad X) := by
  unfold f_X6_second
  refine j_aload_n (pc := 0) O 0 dX6_second_0 rfl ?_
  refine j_getf (pc := 1) (v := .int (M.1 0 8)) O 0 8 dX6_second_1 fl_X6_26 so_S2_0 rfl rfl ?_
  refine jw_bi fun y1 => ?_
  refine j_istore_n (pc := 4) (L' := [(1, .int y1), (0, .ref (ad 0))]) O dX6_second_4 (by decide) rfl ?_
  refine j_aload_n (pc := 5) O 1 dX6_second_5 rfl ?_
  refine j_iconst (pc := 6) (v := 1) O dX6_second_6 (by decide) ?_
  refine j_puti (pc := 7) O 0 8 dX6_second_7 fl_X6_26 so_S2_0 ft_X6_8 rfl (fun M2 => ?_)
  refine j_aload_n (pc := 10) O 1 dX6_second_10 rfl ?_
  refine j_iconst (pc := 11) (v := 2) O dX6_second_11 (by decide) ?_
  refine j_iconst (pc := 12) (v := 0) O dX6_second_12 (by decide) ?_
  refine j_callVv (pc := 13) (dc := 111) (As := [.int (2 : Int32), .int (0 : Int32)]) (rest := []) O 0 (fun M1 h => sp_X6_sups h) dX6_second_13 mv_X6_sups lm_X6_310 so_S2_0 rfl rfl (Nat.le_of_ble_eq_true rfl) (Nat.le_trans (Nat.le_of_ble_eq_true rfl) hd0) (fun M3 => ?_)
  refine j_aload_n (pc := 16) O 1 dX6_second_16 rfl ?_
  refine j_getf (pc := 17) (v := .int (M3.1 0 36)) O 0 36 dX6_second_17 fl_X6_272 so_S2_0 rfl rfl ?_
  refine jw_bi fun y4 => ?_
  refine j_istore_n (pc := 20) (L' := [(2, .int y4), (1, .int y1), (0, .ref (ad 0))]) O dX6_second_20 (by decide) rfl ?_
  refine j_aload_n (pc := 21) O 2 dX6_second_21 rfl ?_
  refine j_iconst (pc := 22) (v := 2) O dX6_second_22 (by decide) ?_
  refine j_puti (pc := 23) O 0 8 dX6_second_23 fl_X6_26 so_S2_0 ft_X6_8 rfl (fun M5 => ?_)
  refine j_aload_n (pc := 26) O 2 dX6_second_26 rfl ?_
  refine j_iconst (pc := 27) (v := 2) O dX6_second_27 (by decide) ?_
  refine j_iconst (pc := 28) (v := 0) O dX6_second_28 (by decide) ?_
  refine j_callVv (pc := 29) (dc := 111) (As := [.int (2 : Int32), .int (0 : Int32)]) (rest := []) O 0 (fun M1 h => sp_X6_sups h) dX6_second_29 mv_X6_sups lm_X6_310 so_S2_0 rfl rfl (Nat.le_of_ble_eq_true rfl) (Nat.le_trans (Nat.le_of_ble_eq_true rfl) hd0) (fun M6 => ?_)
  refine j_aload_n (pc := 32) O 2 dX6_second_32 rfl ?_
  refine j_iload_n (pc := 33) O 1 dX6_second_33 rfl ?_
  refine j_puti (pc := 34) O 0 8 dX6_second_34 fl_X6_26 so_S2_0 ft_X6_8 rfl (fun M7 => ?_)
  refine j_iload_n (pc := 37) O 0 dX6_second_37 rfl ?_
  refine j_aload_n (pc := 38) O 2 dX6_second_38 rfl ?_
  refine j_getf (pc := 39) (v := .int (M7.1 0 36)) O 0 36 dX6_second_39 fl_X6_272 so_S2_0 rfl rfl ?_
  refine j_isub (pc := 42) O dX6_second_42 ?_
  exact j_iret (pc := 43) O dX6_second_43
theorem sp_X6_second {G : wn_G} {ad : Nat → Nat} {M : Mm} {r : Int32} {M1 : Mm} (h : f_X6_second M = some (r, M1)) : Sp G S2 ad mX6_second 112 [.ref (ad 0)] M M1 (some (.int r)) :=
  sp_intro (own := RX6) (by decide +kernel) rfl (Nat.le_of_ble_eq_true rfl) (fun X O T => jf_X6_second O (Nat.le_refl _) M (r, M1) h T)
def h_X5_leave_20 (G : wn_G) (ad : Nat → Nat) (X : wn_X) : Int32 × Int32 × Int32 × Mm → Prop := fun s => PW G S1 ad X 20 [(0, .ref (ad 0)), (1, .int s.1), (2, .int s.2.1), (3, .int s.2.2.1)] [] s.2.2.2
def f_X5_leave_b20 (x1 : Int32) (x2 : Int32) (x3 : Int32) (M : Mm) : Option ((Int32 × Int32 × Int32 × Mm) ⊕ (Int32 × Mm)) :=
  if (5 : Int32) ≤ x3 then
    ex (
    some (x1, M))
  else
    if (M.1 1 3) ≤ x3 then
      ex (
      some (x1, M))
    else
      bm (ms M 6 7 x3) fun M2 =>
      bv (f_X2_run (2 : Int32) M2) fun M3 =>
      if x1 = (-1 : Int32) then
        bi (M3.1 6 12) fun y4 =>
        bi (x3 + (1 : Int32)) fun y5 =>
        some (.inl (x3, y4, y5, M3))
      else
        if x2 ≤ (M3.1 6 12) then
          bi (x3 + (1 : Int32)) fun y6 =>
          some (.inl (x1, x2, y6, M3))
        else
          bi (M3.1 6 12) fun y7 =>
          bi (x3 + (1 : Int32)) fun y8 =>
          some (.inl (x3, y7, y8, M3))
set_option maxRecDepth 100000 in
set_option maxHeartbeats 4000000 in
theorem jf_X5_leave_b20 {G : wn_G} {ad : Nat → Nat} {X : wn_X} {d : Nat} (O : Ok G RX5 cX5_leave 4 d X) (hd0 : 7 ≤ d) (x1 : Int32) (x2 : Int32) (x3 : Int32) (M : Mm) : JW G S1 ad X 20 [(0, .ref (ad 0)), (1, .int x1), (2, .int x2), (3, .int x3)] [] M (f_X5_leave_b20 x1 x2 x3 M) (Kl (h_X5_leave_20 G ad X) (Kri G S1 ad X)) := by
  unfold f_X5_leave_b20
  refine j_iload_n (pc := 20) O 3 dX5_leave_20 rfl ?_
  refine j_iconst (pc := 21) (v := 5) O dX5_leave_21 (by decide) ?_
  refine j_icmp_ge (pc := 22) (tgt := 84) O dX5_leave_22 (by decide) ?_ ?_
  · refine jw_ex ?_
    refine j_iload_n (pc := 84) O 1 dX5_leave_84 rfl ?_
    exact j_iret (pc := 85) O dX5_leave_85
  · refine j_iload_n (pc := 25) O 3 dX5_leave_25 rfl ?_
    refine j_aload_n (pc := 26) O 0 dX5_leave_26 rfl ?_
    refine j_getf (pc := 27) (v := .ref (ad 1)) O 0 0 dX5_leave_27 fl_X5_10 so_S1_0 rfl rfl ?_
    refine j_getf (pc := 30) (v := .int (M.1 1 3)) O 1 3 dX5_leave_30 fl_X5_158 so_S1_1 rfl rfl ?_
    refine j_icmp_ge (pc := 33) (tgt := 84) O dX5_leave_33 (by decide) ?_ ?_
    · refine jw_ex ?_
      refine j_iload_n (pc := 84) O 1 dX5_leave_84 rfl ?_
      exact j_iret (pc := 85) O dX5_leave_85
    · refine j_aload_n (pc := 36) O 0 dX5_leave_36 rfl ?_
      refine j_getf (pc := 37) (v := .ref (ad 6)) O 0 6 dX5_leave_37 fl_X5_45 so_S1_0 rfl rfl ?_
      refine j_iload_n (pc := 40) O 3 dX5_leave_40 rfl ?_
      refine j_puti (pc := 41) O 6 7 dX5_leave_41 fl_X5_171 so_S1_6 ft_X2_7 rfl (fun M2 => ?_)
      refine j_aload_n (pc := 44) O 0 dX5_leave_44 rfl ?_
      refine j_getf (pc := 45) (v := .ref (ad 6)) O 0 6 dX5_leave_45 fl_X5_45 so_S1_0 rfl rfl ?_
      refine j_iconst (pc := 48) (v := 2) O dX5_leave_48 (by decide) ?_
      refine j_callVv (pc := 49) (dc := 6) (As := [.int (2 : Int32)]) (rest := []) O 6 (fun M1 h => sp_X2_run h) dX5_leave_49 mv_X2_run lm_X5_149 so_S1_6 rfl rfl (Nat.le_of_ble_eq_true rfl) (Nat.le_trans (Nat.le_of_ble_eq_true rfl) hd0) (fun M3 => ?_)
      refine j_iload_n (pc := 52) O 1 dX5_leave_52 rfl ?_
      refine j_iconst (pc := 53) (v := -1) O dX5_leave_53 (by decide) ?_
      refine j_icmp_eq (pc := 54) (tgt := 68) O dX5_leave_54 (by decide) ?_ ?_
      · refine j_iload_n (pc := 68) O 3 dX5_leave_68 rfl ?_
        refine j_istore_n (pc := 69) (L' := [(1, .int x3), (0, .ref (ad 0)), (2, .int x2), (3, .int x3)]) O dX5_leave_69 (by decide) rfl ?_
        refine j_aload_n (pc := 70) O 1 dX5_leave_70 rfl ?_
        refine j_getf (pc := 71) (v := .ref (ad 6)) O 0 6 dX5_leave_71 fl_X5_45 so_S1_0 rfl rfl ?_
        refine j_getf (pc := 74) (v := .int (M3.1 6 12)) O 6 12 dX5_leave_74 fl_X5_168 so_S1_6 rfl rfl ?_
        refine jw_bi fun y4 => ?_
        refine j_istore_n (pc := 77) (L' := [(2, .int y4), (1, .int x3), (0, .ref (ad 0)), (3, .int x3)]) O dX5_leave_77 (by decide) rfl ?_
        refine j_iinc (pc := 78) (v := 1) (L2 := fun y => [(3, .int y), (2, .int y4), (1, .int x3), (0, .ref (ad 0))]) O 3 dX5_leave_78 rfl (by decide) (by decide) (fun _ => rfl) (fun y5 => ?_)
        refine j_goto (pc := 81) (tgt := 20) O dX5_leave_81 (by decide) ?_
        exact jw_next (fun hh => pw_sub [3, 2, 1, 0] rfl hh)
      · refine j_aload_n (pc := 57) O 0 dX5_leave_57 rfl ?_
        refine j_getf (pc := 58) (v := .ref (ad 6)) O 0 6 dX5_leave_58 fl_X5_45 so_S1_0 rfl rfl ?_
        refine j_getf (pc := 61) (v := .int (M3.1 6 12)) O 6 12 dX5_leave_61 fl_X5_168 so_S1_6 rfl rfl ?_
        refine j_iload_n (pc := 64) O 2 dX5_leave_64 rfl ?_
        refine j_icmp_ge (pc := 65) (tgt := 78) O dX5_leave_65 (by decide) ?_ ?_
        · refine j_iinc (pc := 78) (v := 1) (L2 := fun y => [(3, .int y), (0, .ref (ad 0)), (1, .int x1), (2, .int x2)]) O 3 dX5_leave_78 rfl (by decide) (by decide) (fun _ => rfl) (fun y6 => ?_)
          refine j_goto (pc := 81) (tgt := 20) O dX5_leave_81 (by decide) ?_
          exact jw_next (fun hh => pw_sub [1, 2, 3, 0] rfl hh)
        · refine j_iload_n (pc := 68) O 3 dX5_leave_68 rfl ?_
          refine j_istore_n (pc := 69) (L' := [(1, .int x3), (0, .ref (ad 0)), (2, .int x2), (3, .int x3)]) O dX5_leave_69 (by decide) rfl ?_
          refine j_aload_n (pc := 70) O 1 dX5_leave_70 rfl ?_
          refine j_getf (pc := 71) (v := .ref (ad 6)) O 0 6 dX5_leave_71 fl_X5_45 so_S1_0 rfl rfl ?_
          refine j_getf (pc := 74) (v := .int (M3.1 6 12)) O 6 12 dX5_leave_74 fl_X5_168 so_S1_6 rfl rfl ?_
          refine jw_bi fun y7 => ?_
          refine j_istore_n (pc := 77) (L' := [(2, .int y7), (1, .int x3), (0, .ref (ad 0)), (3, .int x3)]) O dX5_leave_77 (by decide) rfl ?_
          refine j_iinc (pc := 78) (v := 1) (L2 := fun y => [(3, .int y), (2, .int y7), (1, .int x3), (0, .ref (ad 0))]) O 3 dX5_leave_78 rfl (by decide) (by decide) (fun _ => rfl) (fun y8 => ?_)
          refine j_goto (pc := 81) (tgt := 20) O dX5_leave_81 (by decide) ?_
          exact jw_next (fun hh => pw_sub [3, 2, 1, 0] rfl hh)
def f_X5_leave (M : Mm) : Option (Int32 × Mm) :=
  bv (f_X2_lay (M.1 1 1) M) fun M1 =>
  iter (fun s => f_X5_leave_b20 s.1 s.2.1 s.2.2.1 s.2.2.2) fuel ((-1 : Int32), (0 : Int32), (0 : Int32), M1)
set_option maxRecDepth 100000 in
set_option maxHeartbeats 4000000 in
theorem jf_X5_leave {G : wn_G} {ad : Nat → Nat} {X : wn_X} {d : Nat} (O : Ok G RX5 cX5_leave 4 d X) (hd0 : 7 ≤ d) (M : Mm) : JW G S1 ad X 0 [(0, .ref (ad 0))] [] M (f_X5_leave M) (Kri G S1 ad X) := by
  unfold f_X5_leave
  refine j_aload_n (pc := 0) O 0 dX5_leave_0 rfl ?_
  refine j_getf (pc := 1) (v := .ref (ad 6)) O 0 6 dX5_leave_1 fl_X5_45 so_S1_0 rfl rfl ?_
  refine j_aload_n (pc := 4) O 0 dX5_leave_4 rfl ?_
  refine j_getf (pc := 5) (v := .ref (ad 1)) O 0 0 dX5_leave_5 fl_X5_10 so_S1_0 rfl rfl ?_
  refine j_getf (pc := 8) (v := .int (M.1 1 1)) O 1 1 dX5_leave_8 fl_X5_97 so_S1_1 rfl rfl ?_
  refine j_callVv (pc := 11) (dc := 4) (As := [.int (M.1 1 1)]) (rest := []) O 6 (fun M1 h => sp_X2_lay h) dX5_leave_11 mv_X2_lay lm_X5_101 so_S1_6 rfl rfl (Nat.le_of_ble_eq_true rfl) (Nat.le_trans (Nat.le_of_ble_eq_true rfl) hd0) (fun M1 => ?_)
  refine j_iconst (pc := 14) (v := -1) O dX5_leave_14 (by decide) ?_
  refine j_istore_n (pc := 15) (L' := [(1, .int (-1 : Int32)), (0, .ref (ad 0))]) O dX5_leave_15 (by decide) rfl ?_
  refine j_iconst (pc := 16) (v := 0) O dX5_leave_16 (by decide) ?_
  refine j_istore_n (pc := 17) (L' := [(2, .int (0 : Int32)), (1, .int (-1 : Int32)), (0, .ref (ad 0))]) O dX5_leave_17 (by decide) rfl ?_
  refine j_iconst (pc := 18) (v := 0) O dX5_leave_18 (by decide) ?_
  refine j_istore_n (pc := 19) (L' := [(3, .int (0 : Int32)), (2, .int (0 : Int32)), (1, .int (-1 : Int32)), (0, .ref (ad 0))]) O dX5_leave_19 (by decide) rfl ?_
  exact jw_iter (hd := h_X5_leave_20 G ad X) (fun hh => pw_sub [3, 2, 1, 0] rfl hh) (fun s => jf_X5_leave_b20 O hd0 s.1 s.2.1 s.2.2.1 s.2.2.2)
theorem sp_X5_leave {G : wn_G} {ad : Nat → Nat} {M : Mm} {r : Int32} {M1 : Mm} (h : f_X5_leave M = some (r, M1)) : Sp G S1 ad mX5_leave 7 [.ref (ad 0)] M M1 (some (.int r)) :=
  sp_intro (own := RX5) (by decide +kernel) rfl (Nat.le_of_ble_eq_true rfl) (fun X O T => jf_X5_leave O (Nat.le_refl _) M (r, M1) h T)
def h_X6_leave_6 (G : wn_G) (ad : Nat → Nat) (X : wn_X) : Int32 × Int32 × Int32 × Mm → Prop := fun s => PW G S2 ad X 6 [(0, .ref (ad 0)), (1, .int s.1), (2, .int s.2.1), (3, .int s.2.2.1)] [] s.2.2.2
def f_X6_leave_b6 (x1 : Int32) (x2 : Int32) (x3 : Int32) (M : Mm) : Option ((Int32 × Int32 × Int32 × Mm) ⊕ (Int32 × Mm)) :=
  if (M.1 0 13) ≤ x3 then
    ex (
    some (x1, M))
  else
    bm (ms M 0 14 x3) fun M1 =>
    bv (f_X6_sups (2 : Int32) (0 : Int32) M1) fun M2 =>
    bm (ms M2 0 14 (-1 : Int32)) fun M3 =>
    if x1 = (-1 : Int32) then
      bi (M3.1 0 36) fun y4 =>
      bi (x3 + (1 : Int32)) fun y5 =>
      some (.inl (x3, y4, y5, M3))
    else
      if x2 ≤ (M3.1 0 36) then
        bi (x3 + (1 : Int32)) fun y6 =>
        some (.inl (x1, x2, y6, M3))
      else
        bi (M3.1 0 36) fun y7 =>
        bi (x3 + (1 : Int32)) fun y8 =>
        some (.inl (x3, y7, y8, M3))
set_option maxRecDepth 100000 in
set_option maxHeartbeats 4000000 in
theorem jf_X6_leave_b6 {G : wn_G} {ad : Nat → Nat} {X : wn_X} {d : Nat} (O : Ok G RX6 cX6_leave 4 d X) (hd0 : 112 ≤ d) (x1 : Int32) (x2 : Int32) (x3 : Int32) (M : Mm) : JW G S2 ad X 6 [(0, .ref (ad 0)), (1, .int x1), (2, .int x2), (3, .int x3)] [] M (f_X6_leave_b6 x1 x2 x3 M) (Kl (h_X6_leave_6 G ad X) (Kri G S2 ad X)) := by
  unfold f_X6_leave_b6
  refine j_iload_n (pc := 6) O 3 dX6_leave_6 rfl ?_
  refine j_aload_n (pc := 7) O 0 dX6_leave_7 rfl ?_
  refine j_getf (pc := 8) (v := .int (M.1 0 13)) O 0 13 dX6_leave_8 fl_X6_91 so_S2_0 rfl rfl ?_
  refine j_icmp_ge (pc := 11) (tgt := 56) O dX6_leave_11 (by decide) ?_ ?_
  · refine jw_ex ?_
    refine j_iload_n (pc := 56) O 1 dX6_leave_56 rfl ?_
    exact j_iret (pc := 57) O dX6_leave_57
  · refine j_aload_n (pc := 14) O 0 dX6_leave_14 rfl ?_
    refine j_iload_n (pc := 15) O 3 dX6_leave_15 rfl ?_
    refine j_puti (pc := 16) O 0 14 dX6_leave_16 fl_X6_41 so_S2_0 ft_X6_14 rfl (fun M1 => ?_)
    refine j_aload_n (pc := 19) O 0 dX6_leave_19 rfl ?_
    refine j_iconst (pc := 20) (v := 2) O dX6_leave_20 (by decide) ?_
    refine j_iconst (pc := 21) (v := 0) O dX6_leave_21 (by decide) ?_
    refine j_callVv (pc := 22) (dc := 111) (As := [.int (2 : Int32), .int (0 : Int32)]) (rest := []) O 0 (fun M1 h => sp_X6_sups h) dX6_leave_22 mv_X6_sups lm_X6_310 so_S2_0 rfl rfl (Nat.le_of_ble_eq_true rfl) (Nat.le_trans (Nat.le_of_ble_eq_true rfl) hd0) (fun M2 => ?_)
    refine j_aload_n (pc := 25) O 0 dX6_leave_25 rfl ?_
    refine j_iconst (pc := 26) (v := -1) O dX6_leave_26 (by decide) ?_
    refine j_puti (pc := 27) O 0 14 dX6_leave_27 fl_X6_41 so_S2_0 ft_X6_14 rfl (fun M3 => ?_)
    refine j_iload_n (pc := 30) O 1 dX6_leave_30 rfl ?_
    refine j_iconst (pc := 31) (v := -1) O dX6_leave_31 (by decide) ?_
    refine j_icmp_eq (pc := 32) (tgt := 43) O dX6_leave_32 (by decide) ?_ ?_
    · refine j_iload_n (pc := 43) O 3 dX6_leave_43 rfl ?_
      refine j_istore_n (pc := 44) (L' := [(1, .int x3), (0, .ref (ad 0)), (2, .int x2), (3, .int x3)]) O dX6_leave_44 (by decide) rfl ?_
      refine j_aload_n (pc := 45) O 1 dX6_leave_45 rfl ?_
      refine j_getf (pc := 46) (v := .int (M3.1 0 36)) O 0 36 dX6_leave_46 fl_X6_272 so_S2_0 rfl rfl ?_
      refine jw_bi fun y4 => ?_
      refine j_istore_n (pc := 49) (L' := [(2, .int y4), (1, .int x3), (0, .ref (ad 0)), (3, .int x3)]) O dX6_leave_49 (by decide) rfl ?_
      refine j_iinc (pc := 50) (v := 1) (L2 := fun y => [(3, .int y), (2, .int y4), (1, .int x3), (0, .ref (ad 0))]) O 3 dX6_leave_50 rfl (by decide) (by decide) (fun _ => rfl) (fun y5 => ?_)
      refine j_goto (pc := 53) (tgt := 6) O dX6_leave_53 (by decide) ?_
      exact jw_next (fun hh => pw_sub [3, 2, 1, 0] rfl hh)
    · refine j_aload_n (pc := 35) O 0 dX6_leave_35 rfl ?_
      refine j_getf (pc := 36) (v := .int (M3.1 0 36)) O 0 36 dX6_leave_36 fl_X6_272 so_S2_0 rfl rfl ?_
      refine j_iload_n (pc := 39) O 2 dX6_leave_39 rfl ?_
      refine j_icmp_ge (pc := 40) (tgt := 50) O dX6_leave_40 (by decide) ?_ ?_
      · refine j_iinc (pc := 50) (v := 1) (L2 := fun y => [(3, .int y), (0, .ref (ad 0)), (1, .int x1), (2, .int x2)]) O 3 dX6_leave_50 rfl (by decide) (by decide) (fun _ => rfl) (fun y6 => ?_)
        refine j_goto (pc := 53) (tgt := 6) O dX6_leave_53 (by decide) ?_
        exact jw_next (fun hh => pw_sub [1, 2, 3, 0] rfl hh)
      · refine j_iload_n (pc := 43) O 3 dX6_leave_43 rfl ?_
        refine j_istore_n (pc := 44) (L' := [(1, .int x3), (0, .ref (ad 0)), (2, .int x2), (3, .int x3)]) O dX6_leave_44 (by decide) rfl ?_
        refine j_aload_n (pc := 45) O 1 dX6_leave_45 rfl ?_
        refine j_getf (pc := 46) (v := .int (M3.1 0 36)) O 0 36 dX6_leave_46 fl_X6_272 so_S2_0 rfl rfl ?_
        refine jw_bi fun y7 => ?_
        refine j_istore_n (pc := 49) (L' := [(2, .int y7), (1, .int x3), (0, .ref (ad 0)), (3, .int x3)]) O dX6_leave_49 (by decide) rfl ?_
        refine j_iinc (pc := 50) (v := 1) (L2 := fun y => [(3, .int y), (2, .int y7), (1, .int x3), (0, .ref (ad 0))]) O 3 dX6_leave_50 rfl (by decide) (by decide) (fun _ => rfl) (fun y8 => ?_)
        refine j_goto (pc := 53) (tgt := 6) O dX6_leave_53 (by decide) ?_
        exact jw_next (fun hh => pw_sub [3, 2, 1, 0] rfl hh)
def f_X6_leave (M : Mm) : Option (Int32 × Mm) :=
  iter (fun s => f_X6_leave_b6 s.1 s.2.1 s.2.2.1 s.2.2.2) fuel ((-1 : Int32), (0 : Int32), (0 : Int32), M)
set_option maxRecDepth 100000 in
set_option maxHeartbeats 4000000 in
theorem jf_X6_leave {G : wn_G} {ad : Nat → Nat} {X : wn_X} {d : Nat} (O : Ok G RX6 cX6_leave 4 d X) (hd0 : 112 ≤ d) (M : Mm) : JW G S2 ad X 0 [(0, .ref (ad 0))] [] M (f_X6_leave M) (Kri G S2 ad X) := by
  unfold f_X6_leave
  refine j_iconst (pc := 0) (v := -1) O dX6_leave_0 (by decide) ?_
  refine j_istore_n (pc := 1) (L' := [(1, .int (-1 : Int32)), (0, .ref (ad 0))]) O dX6_leave_1 (by decide) rfl ?_
  refine j_iconst (pc := 2) (v := 0) O dX6_leave_2 (by decide) ?_
  refine j_istore_n (pc := 3) (L' := [(2, .int (0 : Int32)), (1, .int (-1 : Int32)), (0, .ref (ad 0))]) O dX6_leave_3 (by decide) rfl ?_
  refine j_iconst (pc := 4) (v := 0) O dX6_leave_4 (by decide) ?_
  refine j_istore_n (pc := 5) (L' := [(3, .int (0 : Int32)), (2, .int (0 : Int32)), (1, .int (-1 : Int32)), (0, .ref (ad 0))]) O dX6_leave_5 (by decide) rfl ?_
  exact jw_iter (hd := h_X6_leave_6 G ad X) (fun hh => pw_sub [3, 2, 1, 0] rfl hh) (fun s => jf_X6_leave_b6 O hd0 s.1 s.2.1 s.2.2.1 s.2.2.2)
theorem sp_X6_leave {G : wn_G} {ad : Nat → Nat} {M : Mm} {r : Int32} {M1 : Mm} (h : f_X6_leave M = some (r, M1)) : Sp G S2 ad mX6_leave 112 [.ref (ad 0)] M M1 (some (.int r)) :=
  sp_intro (own := RX6) (by decide +kernel) rfl (Nat.le_of_ble_eq_true rfl) (fun X O T => jf_X6_leave O (Nat.le_refl _) M (r, M1) h T)
def h_X2_servedCakes_4 (G : wn_G) (ad : Nat → Nat) (X : wn_X) : Int32 × Int32 × Mm → Prop := fun s => PW G S1 ad X 4 [(0, .ref (ad 6)), (1, .int s.1), (2, .int s.2.1)] [] s.2.2
def f_X2_servedCakes_b4 (x1 : Int32) (x2 : Int32) (M : Mm) : Option ((Int32 × Int32 × Mm) ⊕ (Int32 × Mm)) :=
  if (12 : Int32) ≤ x2 then
    ex (
    some (x1, M))
  else
    if (M.1 1 0) ≤ x2 then
      ex (
      some (x1, M))
    else
      gd (bin x2 12 = true) inferInstance <|
      if (60 : Int32) ≤ (M.1 25 (Int32.toNatClampNeg x2)) then
        bi (x2 + (1 : Int32)) fun y1 =>
        some (.inl (x1, y1, M))
      else
        bi (x1 + (1 : Int32)) fun y2 =>
        bi (x2 + (1 : Int32)) fun y3 =>
        some (.inl (y2, y3, M))
set_option maxRecDepth 100000 in
set_option maxHeartbeats 4000000 in
theorem jf_X2_servedCakes_b4 {G : wn_G} {ad : Nat → Nat} {X : wn_X} {d : Nat} (O : Ok G RX2 cX2_servedCakes 3 d X) (hd0 : 1 ≤ d) (x1 : Int32) (x2 : Int32) (M : Mm) : JW G S1 ad X 4 [(0, .ref (ad 6)), (1, .int x1), (2, .int x2)] [] M (f_X2_servedCakes_b4 x1 x2 M) (Kl (h_X2_servedCakes_4 G ad X) (Kri G S1 ad X)) := by
  unfold f_X2_servedCakes_b4
  refine j_iload_n (pc := 4) O 2 dX2_servedCakes_4 rfl ?_
  refine j_bipush (pc := 5) (v := 12) O dX2_servedCakes_5 (by decide) ?_
  refine j_icmp_ge (pc := 7) (tgt := 41) O dX2_servedCakes_7 (by decide) ?_ ?_
  · refine jw_ex ?_
    refine j_iload_n (pc := 41) O 1 dX2_servedCakes_41 rfl ?_
    exact j_iret (pc := 42) O dX2_servedCakes_42
  · refine j_iload_n (pc := 10) O 2 dX2_servedCakes_10 rfl ?_
    refine j_aload_n (pc := 11) O 0 dX2_servedCakes_11 rfl ?_
    refine j_getf (pc := 12) (v := .ref (ad 1)) O 6 0 dX2_servedCakes_12 fl_X2_36 so_S1_6 rfl rfl ?_
    refine j_getf (pc := 15) (v := .int (M.1 1 0)) O 1 0 dX2_servedCakes_15 fl_X2_101 so_S1_1 rfl rfl ?_
    refine j_icmp_ge (pc := 18) (tgt := 41) O dX2_servedCakes_18 (by decide) ?_ ?_
    · refine jw_ex ?_
      refine j_iload_n (pc := 41) O 1 dX2_servedCakes_41 rfl ?_
      exact j_iret (pc := 42) O dX2_servedCakes_42
    · refine j_aload_n (pc := 21) O 0 dX2_servedCakes_21 rfl ?_
      refine j_getf (pc := 22) (v := .ref (ad 25)) O 6 2 dX2_servedCakes_22 fl_X2_9 so_S1_6 rfl rfl ?_
      refine j_iload_n (pc := 25) O 2 dX2_servedCakes_25 rfl ?_
      refine j_iald (pc := 26) O 25 dX2_servedCakes_26 so_S1_25 ?_
      refine j_bipush (pc := 27) (v := 60) O dX2_servedCakes_27 (by decide) ?_
      refine j_icmp_ge (pc := 29) (tgt := 35) O dX2_servedCakes_29 (by decide) ?_ ?_
      · refine j_iinc (pc := 35) (v := 1) (L2 := fun y => [(2, .int y), (0, .ref (ad 6)), (1, .int x1)]) O 2 dX2_servedCakes_35 rfl (by decide) (by decide) (fun _ => rfl) (fun y1 => ?_)
        refine j_goto (pc := 38) (tgt := 4) O dX2_servedCakes_38 (by decide) ?_
        exact jw_next (fun hh => pw_sub [1, 2, 0] rfl hh)
      · refine j_iinc (pc := 32) (v := 1) (L2 := fun y => [(1, .int y), (0, .ref (ad 6)), (2, .int x2)]) O 1 dX2_servedCakes_32 rfl (by decide) (by decide) (fun _ => rfl) (fun y2 => ?_)
        refine j_iinc (pc := 35) (v := 1) (L2 := fun y => [(2, .int y), (1, .int y2), (0, .ref (ad 6))]) O 2 dX2_servedCakes_35 rfl (by decide) (by decide) (fun _ => rfl) (fun y3 => ?_)
        refine j_goto (pc := 38) (tgt := 4) O dX2_servedCakes_38 (by decide) ?_
        exact jw_next (fun hh => pw_sub [2, 1, 0] rfl hh)
def f_X2_servedCakes (M : Mm) : Option (Int32 × Mm) :=
  iter (fun s => f_X2_servedCakes_b4 s.1 s.2.1 s.2.2) fuel ((0 : Int32), (0 : Int32), M)
set_option maxRecDepth 100000 in
set_option maxHeartbeats 4000000 in
theorem jf_X2_servedCakes {G : wn_G} {ad : Nat → Nat} {X : wn_X} {d : Nat} (O : Ok G RX2 cX2_servedCakes 3 d X) (hd0 : 1 ≤ d) (M : Mm) : JW G S1 ad X 0 [(0, .ref (ad 6))] [] M (f_X2_servedCakes M) (Kri G S1 ad X) := by
  unfold f_X2_servedCakes
  refine j_iconst (pc := 0) (v := 0) O dX2_servedCakes_0 (by decide) ?_
  refine j_istore_n (pc := 1) (L' := [(1, .int (0 : Int32)), (0, .ref (ad 6))]) O dX2_servedCakes_1 (by decide) rfl ?_
  refine j_iconst (pc := 2) (v := 0) O dX2_servedCakes_2 (by decide) ?_
  refine j_istore_n (pc := 3) (L' := [(2, .int (0 : Int32)), (1, .int (0 : Int32)), (0, .ref (ad 6))]) O dX2_servedCakes_3 (by decide) rfl ?_
  exact jw_iter (hd := h_X2_servedCakes_4 G ad X) (fun hh => pw_sub [2, 1, 0] rfl hh) (fun s => jf_X2_servedCakes_b4 O hd0 s.1 s.2.1 s.2.2)
theorem sp_X2_servedCakes {G : wn_G} {ad : Nat → Nat} {M : Mm} {r : Int32} {M1 : Mm} (h : f_X2_servedCakes M = some (r, M1)) : Sp G S1 ad mX2_servedCakes 1 [.ref (ad 6)] M M1 (some (.int r)) :=
  sp_intro (own := RX2) (by decide +kernel) rfl (Nat.le_of_ble_eq_true rfl) (fun X O T => jf_X2_servedCakes O (Nat.le_refl _) M (r, M1) h T)
def h_X5_choices_5 (G : wn_G) (ad : Nat → Nat) (X : wn_X) (x0 : Int32) (x1 : Int32) : Int64 × Int32 × Mm → Prop := fun s => PW G S1 ad X 5 [(0, .int x0), (1, .int x1), (2, .long s.1), (4, .int s.2.1)] [] s.2.2
def f_X5_choices_b5 (x0 : Int32) (x1 : Int32) (x2 : Int64) (x4 : Int32) (M : Mm) : Option ((Int64 × Int32 × Mm) ⊕ (Int64 × Mm)) :=
  if x1 ≤ x4 then
    ex (
    some (x2, M))
  else
    if (12 : Int32) ≤ x4 then
      ex (
      some (x2, M))
    else
      gd (¬ (Int32.toInt64 (x4 + (1 : Int32))) = 0) inferInstance <|
      bl ((x2 * (Int32.toInt64 (x0 - x4))) / (Int32.toInt64 (x4 + (1 : Int32)))) fun y1 =>
      bi (x4 + (1 : Int32)) fun y2 =>
      some (.inl (y1, y2, M))
set_option maxRecDepth 100000 in
set_option maxHeartbeats 4000000 in
theorem jf_X5_choices_b5 {G : wn_G} {ad : Nat → Nat} {X : wn_X} {d : Nat} (O : Ok G RX5 cX5_choices 5 d X) (hd0 : 1 ≤ d) (x0 : Int32) (x1 : Int32) (x2 : Int64) (x4 : Int32) (M : Mm) : JW G S1 ad X 5 [(0, .int x0), (1, .int x1), (2, .long x2), (4, .int x4)] [] M (f_X5_choices_b5 x0 x1 x2 x4 M) (Kl (h_X5_choices_5 G ad X x0 x1) (Krl G S1 ad X)) := by
  unfold f_X5_choices_b5
  refine j_iload (pc := 5) O 3 dX5_choices_5 rfl ?_
  refine j_iload_n (pc := 7) O 1 dX5_choices_7 rfl ?_
  refine j_icmp_ge (pc := 8) (tgt := 38) O dX5_choices_8 (by decide) ?_ ?_
  · refine jw_ex ?_
    refine j_lload_n (pc := 38) O 2 dX5_choices_38 rfl ?_
    exact j_lret (pc := 39) O dX5_choices_39
  · refine j_iload (pc := 11) O 3 dX5_choices_11 rfl ?_
    refine j_bipush (pc := 13) (v := 12) O dX5_choices_13 (by decide) ?_
    refine j_icmp_ge (pc := 15) (tgt := 38) O dX5_choices_15 (by decide) ?_ ?_
    · refine jw_ex ?_
      refine j_lload_n (pc := 38) O 2 dX5_choices_38 rfl ?_
      exact j_lret (pc := 39) O dX5_choices_39
    · refine j_lload_n (pc := 18) O 2 dX5_choices_18 rfl ?_
      refine j_iload_n (pc := 19) O 0 dX5_choices_19 rfl ?_
      refine j_iload (pc := 20) O 3 dX5_choices_20 rfl ?_
      refine j_isub (pc := 22) O dX5_choices_22 ?_
      refine j_i2l (pc := 23) O dX5_choices_23 ?_
      refine j_lmul (pc := 24) O dX5_choices_24 ?_
      refine j_iload (pc := 25) O 3 dX5_choices_25 rfl ?_
      refine j_iconst (pc := 27) (v := 1) O dX5_choices_27 (by decide) ?_
      refine j_iadd (pc := 28) O dX5_choices_28 ?_
      refine j_i2l (pc := 29) O dX5_choices_29 ?_
      refine j_ldiv (pc := 30) O dX5_choices_30 ?_
      refine jw_bl fun y1 => ?_
      refine j_lstore_n (pc := 31) (L' := [(2, .long y1), (0, .int x0), (1, .int x1), (4, .int x4)]) O dX5_choices_31 (by decide) rfl ?_
      refine j_iinc (pc := 32) (v := 1) (L2 := fun y => [(4, .int y), (2, .long y1), (0, .int x0), (1, .int x1)]) O 3 dX5_choices_32 rfl (by decide) (by decide) (fun _ => rfl) (fun y2 => ?_)
      refine j_goto (pc := 35) (tgt := 5) O dX5_choices_35 (by decide) ?_
      exact jw_next (fun hh => pw_sub [2, 3, 1, 0] rfl hh)
def f_X5_choices (x0 : Int32) (x1 : Int32) (M : Mm) : Option (Int64 × Mm) :=
  iter (fun s => f_X5_choices_b5 x0 x1 s.1 s.2.1 s.2.2) fuel ((1 : Int64), (0 : Int32), M)
set_option maxRecDepth 100000 in
set_option maxHeartbeats 4000000 in
theorem jf_X5_choices {G : wn_G} {ad : Nat → Nat} {X : wn_X} {d : Nat} (O : Ok G RX5 cX5_choices 5 d X) (hd0 : 1 ≤ d) (x0 : Int32) (x1 : Int32) (M : Mm) : JW G S1 ad X 0 [(0, .int x0), (1, .int x1)] [] M (f_X5_choices x0 x1 M) (Krl G S1 ad X) := by
  unfold f_X5_choices
  refine j_lconst (pc := 0) (v := 1) O dX5_choices_0 (by decide) ?_
  refine j_lstore_n (pc := 1) (L' := [(2, .long (1 : Int64)), (0, .int x0), (1, .int x1)]) O dX5_choices_1 (by decide) rfl ?_
  refine j_iconst (pc := 2) (v := 0) O dX5_choices_2 (by decide) ?_
  refine j_istore (pc := 3) (L' := [(4, .int (0 : Int32)), (2, .long (1 : Int64)), (0, .int x0), (1, .int x1)]) O dX5_choices_3 (by decide) rfl ?_
  exact jw_iter (hd := h_X5_choices_5 G ad X x0 x1) (fun hh => pw_sub [2, 3, 1, 0] rfl hh) (fun s => jf_X5_choices_b5 O hd0 x0 x1 s.1 s.2.1 s.2.2)
theorem sp_X5_choices {G : wn_G} {ad : Nat → Nat} {x0 : Int32} {x1 : Int32} {M : Mm} {r : Int64} {M1 : Mm} (h : f_X5_choices x0 x1 M = some (r, M1)) : Sp G S1 ad mX5_choices 1 [.int x0, .int x1] M M1 (some (.long r)) :=
  sp_intro (own := RX5) (by decide +kernel) rfl (Nat.le_of_ble_eq_true rfl) (fun X O T => jf_X5_choices O (Nat.le_refl _) x0 x1 M (r, M1) h T)
def h_X5_ordersTo_13 (G : wn_G) (ad : Nat → Nat) (X : wn_X) (x1 : Int32) : Int32 × Int64 × Int32 × Mm → Prop := fun s => PW G S1 ad X 13 [(0, .ref (ad 0)), (1, .int x1), (2, .int s.1), (3, .long s.2.1), (5, .int s.2.2.1)] [] s.2.2.2
def f_X5_ordersTo_j76 (x2 : Int32) (x3 : Int64) (M : Mm) : Option (Int64 × Mm) :=
  if x2 = 0 then
    some (x3, M)
  else
    some ((0 : Int64), M)
set_option maxRecDepth 100000 in
set_option maxHeartbeats 4000000 in
theorem jf_X5_ordersTo_j76 {G : wn_G} {ad : Nat → Nat} {X : wn_X} {d : Nat} (O : Ok G RX5 cX5_ordersTo 7 d X) (hd0 : 5 ≤ d) (x2 : Int32) (x3 : Int64) (M : Mm) : JW G S1 ad X 76 [(2, .int x2), (3, .long x3)] [] M (f_X5_ordersTo_j76 x2 x3 M) (Krl G S1 ad X) := by
  unfold f_X5_ordersTo_j76
  refine j_iload_n (pc := 76) O 0 dX5_ordersTo_76 rfl ?_
  refine j_if_ne (pc := 77) (tgt := 84) O dX5_ordersTo_77 (by decide) ?_ ?_
  · refine j_lload_n (pc := 80) O 1 dX5_ordersTo_80 rfl ?_
    refine j_goto (pc := 81) (tgt := 85) O dX5_ordersTo_81 (by decide) ?_
    exact j_lret (pc := 85) O dX5_ordersTo_85
  · refine j_lconst (pc := 84) (v := 0) O dX5_ordersTo_84 (by decide) ?_
    exact j_lret (pc := 85) O dX5_ordersTo_85
def f_X5_ordersTo_b13 (x1 : Int32) (x2 : Int32) (x3 : Int64) (x5 : Int32) (M : Mm) : Option ((Int32 × Int64 × Int32 × Mm) ⊕ (Int64 × Mm)) :=
  if (5 : Int32) ≤ x5 then
    ex (
    f_X5_ordersTo_j76 x2 x3 M)
  else
    if (M.1 1 3) ≤ x5 then
      ex (
      f_X5_ordersTo_j76 x2 x3 M)
    else
      bd (f_X1_item x1 x5 M) fun r4 M3 =>
      if r4 < 0 then
        ex (
        some ((0 : Int64), M3))
      else
        if r4 ≤ x2 then
          bdl (f_X5_choices x2 r4 M3) fun r6 M5 =>
          bl (x3 * r6) fun y7 =>
          bi (x2 - r4) fun y8 =>
          bi (x5 + (1 : Int32)) fun y9 =>
          some (.inl (y8, y7, y9, M5))
        else
          ex (
          some ((0 : Int64), M3))
set_option maxRecDepth 100000 in
set_option maxHeartbeats 4000000 in
theorem jf_X5_ordersTo_b13 {G : wn_G} {ad : Nat → Nat} {X : wn_X} {d : Nat} (O : Ok G RX5 cX5_ordersTo 7 d X) (hd0 : 5 ≤ d) (x1 : Int32) (x2 : Int32) (x3 : Int64) (x5 : Int32) (M : Mm) : JW G S1 ad X 13 [(0, .ref (ad 0)), (1, .int x1), (2, .int x2), (3, .long x3), (5, .int x5)] [] M (f_X5_ordersTo_b13 x1 x2 x3 x5 M) (Kl (h_X5_ordersTo_13 G ad X x1) (Krl G S1 ad X)) := by
  unfold f_X5_ordersTo_b13
  refine j_iload (pc := 13) O 4 dX5_ordersTo_13 rfl ?_
  refine j_iconst (pc := 15) (v := 5) O dX5_ordersTo_15 (by decide) ?_
  refine j_icmp_ge (pc := 16) (tgt := 76) O dX5_ordersTo_16 (by decide) ?_ ?_
  · refine jw_ex ?_
    exact jw_sub [2, 3] rfl (jf_X5_ordersTo_j76 O hd0 x2 x3 M)
  · refine j_iload (pc := 19) O 4 dX5_ordersTo_19 rfl ?_
    refine j_aload_n (pc := 21) O 0 dX5_ordersTo_21 rfl ?_
    refine j_getf (pc := 22) (v := .ref (ad 1)) O 0 0 dX5_ordersTo_22 fl_X5_10 so_S1_0 rfl rfl ?_
    refine j_getf (pc := 25) (v := .int (M.1 1 3)) O 1 3 dX5_ordersTo_25 fl_X5_158 so_S1_1 rfl rfl ?_
    refine j_icmp_ge (pc := 28) (tgt := 76) O dX5_ordersTo_28 (by decide) ?_ ?_
    · refine jw_ex ?_
      exact jw_sub [2, 3] rfl (jf_X5_ordersTo_j76 O hd0 x2 x3 M)
    · refine j_aload_n (pc := 31) O 0 dX5_ordersTo_31 rfl ?_
      refine j_getf (pc := 32) (v := .ref (ad 5)) O 0 5 dX5_ordersTo_32 fl_X5_36 so_S1_0 rfl rfl ?_
      refine j_iload_n (pc := 35) O 1 dX5_ordersTo_35 rfl ?_
      refine j_iload (pc := 36) O 4 dX5_ordersTo_36 rfl ?_
      refine j_callVi (pc := 38) (dc := 4) (As := [.int x1, .int x5]) (rest := []) O 5 (fun r M1 h => sp_X1_item h) dX5_ordersTo_38 mv_X1_item lm_X5_146 so_S1_5 rfl rfl (Nat.le_of_ble_eq_true rfl) (Nat.le_trans (Nat.le_of_ble_eq_true rfl) hd0) (fun r4 M3 => ?_)
      refine j_istore (pc := 41) (L' := [(6, .int r4), (0, .ref (ad 0)), (1, .int x1), (2, .int x2), (3, .long x3), (5, .int x5)]) O dX5_ordersTo_41 (by decide) rfl ?_
      refine j_iload (pc := 43) O 0 dX5_ordersTo_43 rfl ?_
      refine j_if_lt (pc := 45) (tgt := 54) O dX5_ordersTo_45 (by decide) ?_ ?_
      · refine jw_ex ?_
        refine j_lconst (pc := 54) (v := 0) O dX5_ordersTo_54 (by decide) ?_
        exact j_lret (pc := 55) O dX5_ordersTo_55
      · refine j_iload (pc := 48) O 0 dX5_ordersTo_48 rfl ?_
        refine j_iload_n (pc := 50) O 3 dX5_ordersTo_50 rfl ?_
        refine j_icmp_le (pc := 51) (tgt := 56) O dX5_ordersTo_51 (by decide) ?_ ?_
        · refine j_lload_n (pc := 56) O 4 dX5_ordersTo_56 rfl ?_
          refine j_iload_n (pc := 57) O 3 dX5_ordersTo_57 rfl ?_
          refine j_iload (pc := 58) O 0 dX5_ordersTo_58 rfl ?_
          refine j_callSl (pc := 60) (dc := 1) (As := [.int x2, .int r4]) (rest := [.long x3]) O (fun r M1 h => sp_X5_choices h) dX5_ordersTo_60 mst_X5_choices lm_X5_246 rfl rfl (Nat.le_of_ble_eq_true rfl) (Nat.le_trans (Nat.le_of_ble_eq_true rfl) hd0) (fun r6 M5 => ?_)
          refine j_lmul (pc := 63) O dX5_ordersTo_63 ?_
          refine jw_bl fun y7 => ?_
          refine j_lstore_n (pc := 64) (L' := [(3, .long y7), (6, .int r4), (0, .ref (ad 0)), (1, .int x1), (2, .int x2), (5, .int x5)]) O dX5_ordersTo_64 (by decide) rfl ?_
          refine j_iload_n (pc := 65) O 4 dX5_ordersTo_65 rfl ?_
          refine j_iload (pc := 66) O 1 dX5_ordersTo_66 rfl ?_
          refine j_isub (pc := 68) O dX5_ordersTo_68 ?_
          refine jw_bi fun y8 => ?_
          refine j_istore_n (pc := 69) (L' := [(2, .int y8), (3, .long y7), (6, .int r4), (0, .ref (ad 0)), (1, .int x1), (5, .int x5)]) O dX5_ordersTo_69 (by decide) rfl ?_
          refine j_iinc (pc := 70) (v := 1) (L2 := fun y => [(5, .int y), (2, .int y8), (3, .long y7), (6, .int r4), (0, .ref (ad 0)), (1, .int x1)]) O 5 dX5_ordersTo_70 rfl (by decide) (by decide) (fun _ => rfl) (fun y9 => ?_)
          refine j_goto (pc := 73) (tgt := 13) O dX5_ordersTo_73 (by decide) ?_
          exact jw_next (fun hh => pw_sub [4, 5, 1, 2, 0] rfl hh)
        · refine jw_ex ?_
          refine j_lconst (pc := 54) (v := 0) O dX5_ordersTo_54 (by decide) ?_
          exact j_lret (pc := 55) O dX5_ordersTo_55
def f_X5_ordersTo (x1 : Int32) (M : Mm) : Option (Int64 × Mm) :=
  bd (f_X2_servedCakes M) fun r2 M1 =>
  iter (fun s => f_X5_ordersTo_b13 x1 s.1 s.2.1 s.2.2.1 s.2.2.2) fuel (r2, (1 : Int64), (0 : Int32), M1)
set_option maxRecDepth 100000 in
set_option maxHeartbeats 4000000 in
theorem jf_X5_ordersTo {G : wn_G} {ad : Nat → Nat} {X : wn_X} {d : Nat} (O : Ok G RX5 cX5_ordersTo 7 d X) (hd0 : 5 ≤ d) (x1 : Int32) (M : Mm) : JW G S1 ad X 0 [(0, .ref (ad 0)), (1, .int x1)] [] M (f_X5_ordersTo x1 M) (Krl G S1 ad X) := by
  unfold f_X5_ordersTo
  refine j_aload_n (pc := 0) O 0 dX5_ordersTo_0 rfl ?_
  refine j_getf (pc := 1) (v := .ref (ad 6)) O 0 6 dX5_ordersTo_1 fl_X5_45 so_S1_0 rfl rfl ?_
  refine j_callVi (pc := 4) (dc := 1) (As := []) (rest := []) O 6 (fun r M1 h => sp_X2_servedCakes h) dX5_ordersTo_4 mv_X2_servedCakes lm_X5_218 so_S1_6 rfl rfl (Nat.le_of_ble_eq_true rfl) (Nat.le_trans (Nat.le_of_ble_eq_true rfl) hd0) (fun r2 M1 => ?_)
  refine j_istore_n (pc := 7) (L' := [(2, .int r2), (0, .ref (ad 0)), (1, .int x1)]) O dX5_ordersTo_7 (by decide) rfl ?_
  refine j_lconst (pc := 8) (v := 1) O dX5_ordersTo_8 (by decide) ?_
  refine j_lstore_n (pc := 9) (L' := [(3, .long (1 : Int64)), (2, .int r2), (0, .ref (ad 0)), (1, .int x1)]) O dX5_ordersTo_9 (by decide) rfl ?_
  refine j_iconst (pc := 10) (v := 0) O dX5_ordersTo_10 (by decide) ?_
  refine j_istore (pc := 11) (L' := [(5, .int (0 : Int32)), (3, .long (1 : Int64)), (2, .int r2), (0, .ref (ad 0)), (1, .int x1)]) O dX5_ordersTo_11 (by decide) rfl ?_
  exact jw_iter (hd := h_X5_ordersTo_13 G ad X x1) (fun hh => pw_sub [3, 4, 2, 1, 0] rfl hh) (fun s => jf_X5_ordersTo_b13 O hd0 x1 s.1 s.2.1 s.2.2.1 s.2.2.2)
theorem sp_X5_ordersTo {G : wn_G} {ad : Nat → Nat} {x1 : Int32} {M : Mm} {r : Int64} {M1 : Mm} (h : f_X5_ordersTo x1 M = some (r, M1)) : Sp G S1 ad mX5_ordersTo 5 [.ref (ad 0), .int x1] M M1 (some (.long r)) :=
  sp_intro (own := RX5) (by decide +kernel) rfl (Nat.le_of_ble_eq_true rfl) (fun X O T => jf_X5_ordersTo O (Nat.le_refl _) x1 M (r, M1) h T)
def h_X5_waysTo_4 (G : wn_G) (ad : Nat → Nat) (X : wn_X) (x1 : Int32) : Int32 × Int32 × Mm → Prop := fun s => PW G S1 ad X 4 [(0, .ref (ad 0)), (1, .int x1), (2, .int s.1), (3, .int s.2.1)] [] s.2.2
def h_X5_waysTo_23 (G : wn_G) (ad : Nat → Nat) (X : wn_X) (x1 : Int32) (x2 : Int32) (x3 : Int32) : Int32 × Int32 × Mm → Prop := fun s => PW G S1 ad X 23 [(0, .ref (ad 0)), (1, .int x1), (2, .int x2), (3, .int x3), (4, .int s.1), (5, .int s.2.1)] [] s.2.2
def f_X5_waysTo_j82 (x1 : Int32) (x2 : Int32) (x3 : Int32) (x4 : Int32) (M : Mm) : Option ((Int32 × Int32 × Mm) ⊕ (Int32 × Mm)) :=
  if x4 = 0 then
    bi (x3 + (1 : Int32)) fun y2 =>
    some (.inl (x2, y2, M))
  else
    bi (x2 ||| (isl (1 : Int32) x3)) fun y3 =>
    bi (x3 + (1 : Int32)) fun y4 =>
    some (.inl (y3, y4, M))
set_option maxRecDepth 100000 in
set_option maxHeartbeats 4000000 in
theorem jf_X5_waysTo_j82 {G : wn_G} {ad : Nat → Nat} {X : wn_X} {d : Nat} (O : Ok G RX5 cX5_waysTo 6 d X) (hd0 : 7 ≤ d) (x1 : Int32) (x2 : Int32) (x3 : Int32) (x4 : Int32) (M : Mm) : JW G S1 ad X 82 [(0, .ref (ad 0)), (1, .int x1), (2, .int x2), (3, .int x3), (4, .int x4)] [] M (f_X5_waysTo_j82 x1 x2 x3 x4 M) (Kl (h_X5_waysTo_4 G ad X x1) (Kri G S1 ad X)) := by
  unfold f_X5_waysTo_j82
  refine j_iload (pc := 82) O 4 dX5_waysTo_82 rfl ?_
  refine j_if_eq (pc := 84) (tgt := 93) O dX5_waysTo_84 (by decide) ?_ ?_
  · refine j_iinc (pc := 93) (v := 1) (L2 := fun y => [(3, .int y), (0, .ref (ad 0)), (1, .int x1), (2, .int x2), (4, .int x4)]) O 3 dX5_waysTo_93 rfl (by decide) (by decide) (fun _ => rfl) (fun y2 => ?_)
    refine j_goto (pc := 96) (tgt := 4) O dX5_waysTo_96 (by decide) ?_
    exact jw_next (fun hh => pw_sub [1, 2, 3, 0] rfl hh)
  · refine j_iload_n (pc := 87) O 2 dX5_waysTo_87 rfl ?_
    refine j_iconst (pc := 88) (v := 1) O dX5_waysTo_88 (by decide) ?_
    refine j_iload_n (pc := 89) O 3 dX5_waysTo_89 rfl ?_
    refine j_ishl (pc := 90) O dX5_waysTo_90 ?_
    refine j_ior (pc := 91) O dX5_waysTo_91 ?_
    refine jw_bi fun y3 => ?_
    refine j_istore_n (pc := 92) (L' := [(2, .int y3), (0, .ref (ad 0)), (1, .int x1), (3, .int x3), (4, .int x4)]) O dX5_waysTo_92 (by decide) rfl ?_
    refine j_iinc (pc := 93) (v := 1) (L2 := fun y => [(3, .int y), (2, .int y3), (0, .ref (ad 0)), (1, .int x1), (4, .int x4)]) O 3 dX5_waysTo_93 rfl (by decide) (by decide) (fun _ => rfl) (fun y4 => ?_)
    refine j_goto (pc := 96) (tgt := 4) O dX5_waysTo_96 (by decide) ?_
    exact jw_next (fun hh => pw_sub [2, 3, 1, 0] rfl hh)
def f_X5_waysTo_b23 (x1 : Int32) (x2 : Int32) (x3 : Int32) (x4 : Int32) (x5 : Int32) (M : Mm) : Option ((Int32 × Int32 × Mm) ⊕ ((Int32 × Int32 × Mm) ⊕ (Int32 × Mm))) :=
  if (5 : Int32) ≤ x5 then
    ex (
    f_X5_waysTo_j82 x1 x2 x3 x4 M)
  else
    if (M.1 1 3) ≤ x5 then
      ex (
      f_X5_waysTo_j82 x1 x2 x3 x4 M)
    else
      if x4 = 0 then
        bi (x5 + (1 : Int32)) fun y5 =>
        some (.inl ((0 : Int32), y5, M))
      else
        gd (bin x5 5 = true) inferInstance <|
        bd (f_X1_item x1 x5 M) fun r7 M6 =>
        if (M.1 29 (Int32.toNatClampNeg x5)) = r7 then
          bi (x5 + (1 : Int32)) fun y9 =>
          some (.inl ((1 : Int32), y9, M6))
        else
          bi (x5 + (1 : Int32)) fun y8 =>
          some (.inl ((0 : Int32), y8, M6))
set_option maxRecDepth 100000 in
set_option maxHeartbeats 4000000 in
theorem jf_X5_waysTo_b23 {G : wn_G} {ad : Nat → Nat} {X : wn_X} {d : Nat} (O : Ok G RX5 cX5_waysTo 6 d X) (hd0 : 7 ≤ d) (x1 : Int32) (x2 : Int32) (x3 : Int32) (x4 : Int32) (x5 : Int32) (M : Mm) : JW G S1 ad X 23 [(0, .ref (ad 0)), (1, .int x1), (2, .int x2), (3, .int x3), (4, .int x4), (5, .int x5)] [] M (f_X5_waysTo_b23 x1 x2 x3 x4 x5 M) (Kl (h_X5_waysTo_23 G ad X x1 x2 x3) (Kl (h_X5_waysTo_4 G ad X x1) (Kri G S1 ad X))) := by
  unfold f_X5_waysTo_b23
  refine j_iload (pc := 23) O 5 dX5_waysTo_23 rfl ?_
  refine j_iconst (pc := 25) (v := 5) O dX5_waysTo_25 (by decide) ?_
  refine j_icmp_ge (pc := 26) (tgt := 82) O dX5_waysTo_26 (by decide) ?_ ?_
  · refine jw_ex ?_
    exact jw_sub [0, 1, 2, 3, 4] rfl (jf_X5_waysTo_j82 O hd0 x1 x2 x3 x4 M)
  · refine j_iload (pc := 29) O 5 dX5_waysTo_29 rfl ?_
    refine j_aload_n (pc := 31) O 0 dX5_waysTo_31 rfl ?_
    refine j_getf (pc := 32) (v := .ref (ad 1)) O 0 0 dX5_waysTo_32 fl_X5_10 so_S1_0 rfl rfl ?_
    refine j_getf (pc := 35) (v := .int (M.1 1 3)) O 1 3 dX5_waysTo_35 fl_X5_158 so_S1_1 rfl rfl ?_
    refine j_icmp_ge (pc := 38) (tgt := 82) O dX5_waysTo_38 (by decide) ?_ ?_
    · refine jw_ex ?_
      exact jw_sub [0, 1, 2, 3, 4] rfl (jf_X5_waysTo_j82 O hd0 x1 x2 x3 x4 M)
    · refine j_iload (pc := 41) O 4 dX5_waysTo_41 rfl ?_
      refine j_if_eq (pc := 43) (tgt := 73) O dX5_waysTo_43 (by decide) ?_ ?_
      · refine j_iconst (pc := 73) (v := 0) O dX5_waysTo_73 (by decide) ?_
        refine j_istore (pc := 74) (L' := [(4, .int (0 : Int32)), (0, .ref (ad 0)), (1, .int x1), (2, .int x2), (3, .int x3), (5, .int x5)]) O dX5_waysTo_74 (by decide) rfl ?_
        refine j_iinc (pc := 76) (v := 1) (L2 := fun y => [(5, .int y), (4, .int (0 : Int32)), (0, .ref (ad 0)), (1, .int x1), (2, .int x2), (3, .int x3)]) O 5 dX5_waysTo_76 rfl (by decide) (by decide) (fun _ => rfl) (fun y5 => ?_)
        refine j_goto (pc := 79) (tgt := 23) O dX5_waysTo_79 (by decide) ?_
        exact jw_next (fun hh => pw_sub [2, 3, 4, 5, 1, 0] rfl hh)
      · refine j_aload_n (pc := 46) O 0 dX5_waysTo_46 rfl ?_
        refine j_getf (pc := 47) (v := .ref (ad 6)) O 0 6 dX5_waysTo_47 fl_X5_45 so_S1_0 rfl rfl ?_
        refine j_getf (pc := 50) (v := .ref (ad 29)) O 6 8 dX5_waysTo_50 fl_X5_193 so_S1_6 rfl rfl ?_
        refine j_iload (pc := 53) O 5 dX5_waysTo_53 rfl ?_
        refine j_iald (pc := 55) O 29 dX5_waysTo_55 so_S1_29 ?_
        refine j_aload_n (pc := 56) O 0 dX5_waysTo_56 rfl ?_
        refine j_getf (pc := 57) (v := .ref (ad 5)) O 0 5 dX5_waysTo_57 fl_X5_36 so_S1_0 rfl rfl ?_
        refine j_iload_n (pc := 60) O 1 dX5_waysTo_60 rfl ?_
        refine j_iload (pc := 61) O 5 dX5_waysTo_61 rfl ?_
        refine j_callVi (pc := 63) (dc := 4) (As := [.int x1, .int x5]) (rest := [.int (M.1 29 (Int32.toNatClampNeg x5))]) O 5 (fun r M1 h => sp_X1_item h) dX5_waysTo_63 mv_X1_item lm_X5_146 so_S1_5 rfl rfl (Nat.le_of_ble_eq_true rfl) (Nat.le_trans (Nat.le_of_ble_eq_true rfl) hd0) (fun r7 M6 => ?_)
        refine j_icmp_ne (pc := 66) (tgt := 73) O dX5_waysTo_66 (by decide) ?_ ?_
        · refine j_iconst (pc := 69) (v := 1) O dX5_waysTo_69 (by decide) ?_
          refine j_goto (pc := 70) (tgt := 74) O dX5_waysTo_70 (by decide) ?_
          refine j_istore (pc := 74) (L' := [(4, .int (1 : Int32)), (0, .ref (ad 0)), (1, .int x1), (2, .int x2), (3, .int x3), (5, .int x5)]) O dX5_waysTo_74 (by decide) rfl ?_
          refine j_iinc (pc := 76) (v := 1) (L2 := fun y => [(5, .int y), (4, .int (1 : Int32)), (0, .ref (ad 0)), (1, .int x1), (2, .int x2), (3, .int x3)]) O 5 dX5_waysTo_76 rfl (by decide) (by decide) (fun _ => rfl) (fun y9 => ?_)
          refine j_goto (pc := 79) (tgt := 23) O dX5_waysTo_79 (by decide) ?_
          exact jw_next (fun hh => pw_sub [2, 3, 4, 5, 1, 0] rfl hh)
        · refine j_iconst (pc := 73) (v := 0) O dX5_waysTo_73 (by decide) ?_
          refine j_istore (pc := 74) (L' := [(4, .int (0 : Int32)), (0, .ref (ad 0)), (1, .int x1), (2, .int x2), (3, .int x3), (5, .int x5)]) O dX5_waysTo_74 (by decide) rfl ?_
          refine j_iinc (pc := 76) (v := 1) (L2 := fun y => [(5, .int y), (4, .int (0 : Int32)), (0, .ref (ad 0)), (1, .int x1), (2, .int x2), (3, .int x3)]) O 5 dX5_waysTo_76 rfl (by decide) (by decide) (fun _ => rfl) (fun y8 => ?_)
          refine j_goto (pc := 79) (tgt := 23) O dX5_waysTo_79 (by decide) ?_
          exact jw_next (fun hh => pw_sub [2, 3, 4, 5, 1, 0] rfl hh)
def f_X5_waysTo_b4 (x1 : Int32) (x2 : Int32) (x3 : Int32) (M : Mm) : Option ((Int32 × Int32 × Mm) ⊕ (Int32 × Mm)) :=
  if (3 : Int32) < x3 then
    ex (
    some (x2, M))
  else
    bv (f_X2_run x3 M) fun M1 =>
    iter (fun s => f_X5_waysTo_b23 x1 x2 x3 s.1 s.2.1 s.2.2) fuel ((1 : Int32), (0 : Int32), M1)
set_option maxRecDepth 100000 in
set_option maxHeartbeats 4000000 in
theorem jf_X5_waysTo_b4 {G : wn_G} {ad : Nat → Nat} {X : wn_X} {d : Nat} (O : Ok G RX5 cX5_waysTo 6 d X) (hd0 : 7 ≤ d) (x1 : Int32) (x2 : Int32) (x3 : Int32) (M : Mm) : JW G S1 ad X 4 [(0, .ref (ad 0)), (1, .int x1), (2, .int x2), (3, .int x3)] [] M (f_X5_waysTo_b4 x1 x2 x3 M) (Kl (h_X5_waysTo_4 G ad X x1) (Kri G S1 ad X)) := by
  unfold f_X5_waysTo_b4
  refine j_iload_n (pc := 4) O 3 dX5_waysTo_4 rfl ?_
  refine j_iconst (pc := 5) (v := 3) O dX5_waysTo_5 (by decide) ?_
  refine j_icmp_gt (pc := 6) (tgt := 99) O dX5_waysTo_6 (by decide) ?_ ?_
  · refine jw_ex ?_
    refine j_iload_n (pc := 99) O 2 dX5_waysTo_99 rfl ?_
    exact j_iret (pc := 100) O dX5_waysTo_100
  · refine j_aload_n (pc := 9) O 0 dX5_waysTo_9 rfl ?_
    refine j_getf (pc := 10) (v := .ref (ad 6)) O 0 6 dX5_waysTo_10 fl_X5_45 so_S1_0 rfl rfl ?_
    refine j_iload_n (pc := 13) O 3 dX5_waysTo_13 rfl ?_
    refine j_callVv (pc := 14) (dc := 6) (As := [.int x3]) (rest := []) O 6 (fun M1 h => sp_X2_run h) dX5_waysTo_14 mv_X2_run lm_X5_149 so_S1_6 rfl rfl (Nat.le_of_ble_eq_true rfl) (Nat.le_trans (Nat.le_of_ble_eq_true rfl) hd0) (fun M1 => ?_)
    refine j_iconst (pc := 17) (v := 1) O dX5_waysTo_17 (by decide) ?_
    refine j_istore (pc := 18) (L' := [(4, .int (1 : Int32)), (0, .ref (ad 0)), (1, .int x1), (2, .int x2), (3, .int x3)]) O dX5_waysTo_18 (by decide) rfl ?_
    refine j_iconst (pc := 20) (v := 0) O dX5_waysTo_20 (by decide) ?_
    refine j_istore (pc := 21) (L' := [(5, .int (0 : Int32)), (4, .int (1 : Int32)), (0, .ref (ad 0)), (1, .int x1), (2, .int x2), (3, .int x3)]) O dX5_waysTo_21 (by decide) rfl ?_
    exact jw_iter (hd := h_X5_waysTo_23 G ad X x1 x2 x3) (fun hh => pw_sub [2, 3, 4, 5, 1, 0] rfl hh) (fun s => jf_X5_waysTo_b23 O hd0 x1 x2 x3 s.1 s.2.1 s.2.2)
def f_X5_waysTo (x1 : Int32) (M : Mm) : Option (Int32 × Mm) :=
  iter (fun s => f_X5_waysTo_b4 x1 s.1 s.2.1 s.2.2) fuel ((0 : Int32), (1 : Int32), M)
set_option maxRecDepth 100000 in
set_option maxHeartbeats 4000000 in
theorem jf_X5_waysTo {G : wn_G} {ad : Nat → Nat} {X : wn_X} {d : Nat} (O : Ok G RX5 cX5_waysTo 6 d X) (hd0 : 7 ≤ d) (x1 : Int32) (M : Mm) : JW G S1 ad X 0 [(0, .ref (ad 0)), (1, .int x1)] [] M (f_X5_waysTo x1 M) (Kri G S1 ad X) := by
  unfold f_X5_waysTo
  refine j_iconst (pc := 0) (v := 0) O dX5_waysTo_0 (by decide) ?_
  refine j_istore_n (pc := 1) (L' := [(2, .int (0 : Int32)), (0, .ref (ad 0)), (1, .int x1)]) O dX5_waysTo_1 (by decide) rfl ?_
  refine j_iconst (pc := 2) (v := 1) O dX5_waysTo_2 (by decide) ?_
  refine j_istore_n (pc := 3) (L' := [(3, .int (1 : Int32)), (2, .int (0 : Int32)), (0, .ref (ad 0)), (1, .int x1)]) O dX5_waysTo_3 (by decide) rfl ?_
  exact jw_iter (hd := h_X5_waysTo_4 G ad X x1) (fun hh => pw_sub [2, 3, 1, 0] rfl hh) (fun s => jf_X5_waysTo_b4 O hd0 x1 s.1 s.2.1 s.2.2)
theorem sp_X5_waysTo {G : wn_G} {ad : Nat → Nat} {x1 : Int32} {M : Mm} {r : Int32} {M1 : Mm} (h : f_X5_waysTo x1 M = some (r, M1)) : Sp G S1 ad mX5_waysTo 7 [.ref (ad 0), .int x1] M M1 (some (.int r)) :=
  sp_intro (own := RX5) (by decide +kernel) rfl (Nat.le_of_ble_eq_true rfl) (fun X O T => jf_X5_waysTo O (Nat.le_refl _) x1 M (r, M1) h T)
def f_X5_plates_j46 (x1 : Int32) (x2 : Int32) (M : Mm) : Option (Int64 × Mm) :=
  bv (f_X2_lay (M.1 1 1) M) fun M5 =>
  if x2 = 0 then
    bd (f_X5_waysTo x1 M5) fun r9 M8 =>
    some ((Int32.toInt64 r9), M8)
  else
    bdl (f_X5_ordersTo x1 M5) fun r7 M6 =>
    some (r7, M6)
set_option maxRecDepth 100000 in
set_option maxHeartbeats 4000000 in
theorem jf_X5_plates_j46 {G : wn_G} {ad : Nat → Nat} {X : wn_X} {d : Nat} (O : Ok G RX5 cX5_plates 3 d X) (hd0 : 8 ≤ d) (x1 : Int32) (x2 : Int32) (M : Mm) : JW G S1 ad X 46 [(0, .ref (ad 0)), (1, .int x1), (2, .int x2)] [] M (f_X5_plates_j46 x1 x2 M) (Krl G S1 ad X) := by
  unfold f_X5_plates_j46
  refine j_aload_n (pc := 46) O 0 dX5_plates_46 rfl ?_
  refine j_getf (pc := 47) (v := .ref (ad 6)) O 0 6 dX5_plates_47 fl_X5_45 so_S1_0 rfl rfl ?_
  refine j_aload_n (pc := 50) O 0 dX5_plates_50 rfl ?_
  refine j_getf (pc := 51) (v := .ref (ad 1)) O 0 0 dX5_plates_51 fl_X5_10 so_S1_0 rfl rfl ?_
  refine j_getf (pc := 54) (v := .int (M.1 1 1)) O 1 1 dX5_plates_54 fl_X5_97 so_S1_1 rfl rfl ?_
  refine j_callVv (pc := 57) (dc := 4) (As := [.int (M.1 1 1)]) (rest := []) O 6 (fun M1 h => sp_X2_lay h) dX5_plates_57 mv_X2_lay lm_X5_101 so_S1_6 rfl rfl (Nat.le_of_ble_eq_true rfl) (Nat.le_trans (Nat.le_of_ble_eq_true rfl) hd0) (fun M5 => ?_)
  refine j_iload_n (pc := 60) O 2 dX5_plates_60 rfl ?_
  refine j_if_ne (pc := 61) (tgt := 73) O dX5_plates_61 (by decide) ?_ ?_
  · refine j_aload_n (pc := 64) O 0 dX5_plates_64 rfl ?_
    refine j_iload_n (pc := 65) O 1 dX5_plates_65 rfl ?_
    refine j_callVi (pc := 66) (dc := 7) (As := [.int x1]) (rest := []) O 0 (fun r M1 h => sp_X5_waysTo h) dX5_plates_66 mv_X5_waysTo lm_X5_176 so_S1_0 rfl rfl (Nat.le_of_ble_eq_true rfl) (Nat.le_trans (Nat.le_of_ble_eq_true rfl) hd0) (fun r9 M8 => ?_)
    refine j_i2l (pc := 69) O dX5_plates_69 ?_
    refine j_goto (pc := 70) (tgt := 78) O dX5_plates_70 (by decide) ?_
    exact j_lret (pc := 78) O dX5_plates_78
  · refine j_aload_n (pc := 73) O 0 dX5_plates_73 rfl ?_
    refine j_iload_n (pc := 74) O 1 dX5_plates_74 rfl ?_
    refine j_callVl (pc := 75) (dc := 5) (As := [.int x1]) (rest := []) O 0 (fun r M1 h => sp_X5_ordersTo h) dX5_plates_75 mv_X5_ordersTo lm_X5_179 so_S1_0 rfl rfl (Nat.le_of_ble_eq_true rfl) (Nat.le_trans (Nat.le_of_ble_eq_true rfl) hd0) (fun r7 M6 => ?_)
    exact j_lret (pc := 78) O dX5_plates_78
def f_X5_plates (x1 : Int32) (x2 : Int32) (M : Mm) : Option (Int64 × Mm) :=
  bd (f_X1_isMissing x1 M) fun r2 M1 =>
  if r2 = 0 then
    bd (f_X1_sizeOf x1 M1) fun r4 M3 =>
    if r4 = (M3.1 1 3) then
      if x2 = 0 then
        f_X5_plates_j46 x1 x2 M3
      else
        if x2 = (1 : Int32) then
          f_X5_plates_j46 x1 x2 M3
        else
          some ((-4611686018427387904 : Int64), M3)
    else
      some ((-4611686018427387904 : Int64), M3)
  else
    some ((-4611686018427387904 : Int64), M1)
set_option maxRecDepth 100000 in
set_option maxHeartbeats 4000000 in
theorem jf_X5_plates {G : wn_G} {ad : Nat → Nat} {X : wn_X} {d : Nat} (O : Ok G RX5 cX5_plates 3 d X) (hd0 : 8 ≤ d) (x1 : Int32) (x2 : Int32) (M : Mm) : JW G S1 ad X 0 [(0, .ref (ad 0)), (1, .int x1), (2, .int x2)] [] M (f_X5_plates x1 x2 M) (Krl G S1 ad X) := by
  unfold f_X5_plates
  refine j_aload_n (pc := 0) O 0 dX5_plates_0 rfl ?_
  refine j_getf (pc := 1) (v := .ref (ad 5)) O 0 5 dX5_plates_1 fl_X5_36 so_S1_0 rfl rfl ?_
  refine j_iload_n (pc := 4) O 1 dX5_plates_4 rfl ?_
  refine j_callVi (pc := 5) (dc := 2) (As := [.int x1]) (rest := []) O 5 (fun r M1 h => sp_X1_isMissing h) dX5_plates_5 mv_X1_isMissing lm_X5_136 so_S1_5 rfl rfl (Nat.le_of_ble_eq_true rfl) (Nat.le_trans (Nat.le_of_ble_eq_true rfl) hd0) (fun r2 M1 => ?_)
  refine j_if_ne (pc := 8) (tgt := 29) O dX5_plates_8 (by decide) ?_ ?_
  · refine j_aload_n (pc := 11) O 0 dX5_plates_11 rfl ?_
    refine j_getf (pc := 12) (v := .ref (ad 5)) O 0 5 dX5_plates_12 fl_X5_36 so_S1_0 rfl rfl ?_
    refine j_iload_n (pc := 15) O 1 dX5_plates_15 rfl ?_
    refine j_callVi (pc := 16) (dc := 2) (As := [.int x1]) (rest := []) O 5 (fun r M1 h => sp_X1_sizeOf h) dX5_plates_16 mv_X1_sizeOf lm_X5_142 so_S1_5 rfl rfl (Nat.le_of_ble_eq_true rfl) (Nat.le_trans (Nat.le_of_ble_eq_true rfl) hd0) (fun r4 M3 => ?_)
    refine j_aload_n (pc := 19) O 0 dX5_plates_19 rfl ?_
    refine j_getf (pc := 20) (v := .ref (ad 1)) O 0 0 dX5_plates_20 fl_X5_10 so_S1_0 rfl rfl ?_
    refine j_getf (pc := 23) (v := .int (M3.1 1 3)) O 1 3 dX5_plates_23 fl_X5_158 so_S1_1 rfl rfl ?_
    refine j_icmp_eq (pc := 26) (tgt := 33) O dX5_plates_26 (by decide) ?_ ?_
    · refine j_iload_n (pc := 33) O 2 dX5_plates_33 rfl ?_
      refine j_if_eq (pc := 34) (tgt := 46) O dX5_plates_34 (by decide) ?_ ?_
      · exact jw_sub [0, 1, 2] rfl (jf_X5_plates_j46 O hd0 x1 x2 M3)
      · refine j_iload_n (pc := 37) O 2 dX5_plates_37 rfl ?_
        refine j_iconst (pc := 38) (v := 1) O dX5_plates_38 (by decide) ?_
        refine j_icmp_eq (pc := 39) (tgt := 46) O dX5_plates_39 (by decide) ?_ ?_
        · exact jw_sub [0, 1, 2] rfl (jf_X5_plates_j46 O hd0 x1 x2 M3)
        · refine j_ldc2 (pc := 42) (v := -4611686018427387904) O dX5_plates_42 gk_X5_174 ?_
          exact j_lret (pc := 45) O dX5_plates_45
    · refine j_ldc2 (pc := 29) (v := -4611686018427387904) O dX5_plates_29 gk_X5_174 ?_
      exact j_lret (pc := 32) O dX5_plates_32
  · refine j_ldc2 (pc := 29) (v := -4611686018427387904) O dX5_plates_29 gk_X5_174 ?_
    exact j_lret (pc := 32) O dX5_plates_32
theorem sp_X5_plates {G : wn_G} {ad : Nat → Nat} {x1 : Int32} {x2 : Int32} {M : Mm} {r : Int64} {M1 : Mm} (h : f_X5_plates x1 x2 M = some (r, M1)) : Sp G S1 ad mX5_plates 8 [.ref (ad 0), .int x1, .int x2] M M1 (some (.long r)) :=
  sp_intro (own := RX5) (by decide +kernel) rfl (Nat.le_of_ble_eq_true rfl) (fun X O T => jf_X5_plates O (Nat.le_refl _) x1 x2 M (r, M1) h T)
def h_X6_servedMany_4 (G : wn_G) (ad : Nat → Nat) (X : wn_X) : Int32 × Int32 × Mm → Prop := fun s => PW G S2 ad X 4 [(0, .ref (ad 0)), (1, .int s.1), (2, .int s.2.1)] [] s.2.2
def f_X6_servedMany_b4 (x1 : Int32) (x2 : Int32) (M : Mm) : Option ((Int32 × Int32 × Mm) ⊕ (Int32 × Mm)) :=
  if (M.1 0 7) ≤ x2 then
    ex (
    some (x1, M))
  else
    bd (f_X6_readyOf x2 M) fun r2 M1 =>
    if (60 : Int32) ≤ r2 then
      bi (x1 + (0 : Int32)) fun y3 =>
      bi (x2 + (1 : Int32)) fun y4 =>
      some (.inl (y3, y4, M1))
    else
      bi (x1 + (1 : Int32)) fun y5 =>
      bi (x2 + (1 : Int32)) fun y6 =>
      some (.inl (y5, y6, M1))
set_option maxRecDepth 100000 in
set_option maxHeartbeats 4000000 in
theorem jf_X6_servedMany_b4 {G : wn_G} {ad : Nat → Nat} {X : wn_X} {d : Nat} (O : Ok G RX6 cX6_servedMany 3 d X) (hd0 : 110 ≤ d) (x1 : Int32) (x2 : Int32) (M : Mm) : JW G S2 ad X 4 [(0, .ref (ad 0)), (1, .int x1), (2, .int x2)] [] M (f_X6_servedMany_b4 x1 x2 M) (Kl (h_X6_servedMany_4 G ad X) (Kri G S2 ad X)) := by
  unfold f_X6_servedMany_b4
  refine j_iload_n (pc := 4) O 2 dX6_servedMany_4 rfl ?_
  refine j_aload_n (pc := 5) O 0 dX6_servedMany_5 rfl ?_
  refine j_getf (pc := 6) (v := .int (M.1 0 7)) O 0 7 dX6_servedMany_6 fl_X6_23 so_S2_0 rfl rfl ?_
  refine j_icmp_ge (pc := 9) (tgt := 36) O dX6_servedMany_9 (by decide) ?_ ?_
  · refine jw_ex ?_
    refine j_iload_n (pc := 36) O 1 dX6_servedMany_36 rfl ?_
    exact j_iret (pc := 37) O dX6_servedMany_37
  · refine j_iload_n (pc := 12) O 1 dX6_servedMany_12 rfl ?_
    refine j_aload_n (pc := 13) O 0 dX6_servedMany_13 rfl ?_
    refine j_iload_n (pc := 14) O 2 dX6_servedMany_14 rfl ?_
    refine j_callVi (pc := 15) (dc := 109) (As := [.int x2]) (rest := [.int x1]) O 0 (fun r M1 h => sp_X6_readyOf h) dX6_servedMany_15 mv_X6_readyOf lm_X6_257 so_S2_0 rfl rfl (Nat.le_of_ble_eq_true rfl) (Nat.le_trans (Nat.le_of_ble_eq_true rfl) hd0) (fun r2 M1 => ?_)
    refine j_bipush (pc := 18) (v := 60) O dX6_servedMany_18 (by decide) ?_
    refine j_icmp_ge (pc := 20) (tgt := 27) O dX6_servedMany_20 (by decide) ?_ ?_
    · refine j_iconst (pc := 27) (v := 0) O dX6_servedMany_27 (by decide) ?_
      refine j_iadd (pc := 28) O dX6_servedMany_28 ?_
      refine jw_bi fun y3 => ?_
      refine j_istore_n (pc := 29) (L' := [(1, .int y3), (0, .ref (ad 0)), (2, .int x2)]) O dX6_servedMany_29 (by decide) rfl ?_
      refine j_iinc (pc := 30) (v := 1) (L2 := fun y => [(2, .int y), (1, .int y3), (0, .ref (ad 0))]) O 2 dX6_servedMany_30 rfl (by decide) (by decide) (fun _ => rfl) (fun y4 => ?_)
      refine j_goto (pc := 33) (tgt := 4) O dX6_servedMany_33 (by decide) ?_
      exact jw_next (fun hh => pw_sub [2, 1, 0] rfl hh)
    · refine j_iconst (pc := 23) (v := 1) O dX6_servedMany_23 (by decide) ?_
      refine j_goto (pc := 24) (tgt := 28) O dX6_servedMany_24 (by decide) ?_
      refine j_iadd (pc := 28) O dX6_servedMany_28 ?_
      refine jw_bi fun y5 => ?_
      refine j_istore_n (pc := 29) (L' := [(1, .int y5), (0, .ref (ad 0)), (2, .int x2)]) O dX6_servedMany_29 (by decide) rfl ?_
      refine j_iinc (pc := 30) (v := 1) (L2 := fun y => [(2, .int y), (1, .int y5), (0, .ref (ad 0))]) O 2 dX6_servedMany_30 rfl (by decide) (by decide) (fun _ => rfl) (fun y6 => ?_)
      refine j_goto (pc := 33) (tgt := 4) O dX6_servedMany_33 (by decide) ?_
      exact jw_next (fun hh => pw_sub [2, 1, 0] rfl hh)
def f_X6_servedMany (M : Mm) : Option (Int32 × Mm) :=
  iter (fun s => f_X6_servedMany_b4 s.1 s.2.1 s.2.2) fuel ((0 : Int32), (0 : Int32), M)
set_option maxRecDepth 100000 in
set_option maxHeartbeats 4000000 in
theorem jf_X6_servedMany {G : wn_G} {ad : Nat → Nat} {X : wn_X} {d : Nat} (O : Ok G RX6 cX6_servedMany 3 d X) (hd0 : 110 ≤ d) (M : Mm) : JW G S2 ad X 0 [(0, .ref (ad 0))] [] M (f_X6_servedMany M) (Kri G S2 ad X) := by
  unfold f_X6_servedMany
  refine j_iconst (pc := 0) (v := 0) O dX6_servedMany_0 (by decide) ?_
  refine j_istore_n (pc := 1) (L' := [(1, .int (0 : Int32)), (0, .ref (ad 0))]) O dX6_servedMany_1 (by decide) rfl ?_
  refine j_iconst (pc := 2) (v := 0) O dX6_servedMany_2 (by decide) ?_
  refine j_istore_n (pc := 3) (L' := [(2, .int (0 : Int32)), (1, .int (0 : Int32)), (0, .ref (ad 0))]) O dX6_servedMany_3 (by decide) rfl ?_
  exact jw_iter (hd := h_X6_servedMany_4 G ad X) (fun hh => pw_sub [2, 1, 0] rfl hh) (fun s => jf_X6_servedMany_b4 O hd0 s.1 s.2.1 s.2.2)
theorem sp_X6_servedMany {G : wn_G} {ad : Nat → Nat} {M : Mm} {r : Int32} {M1 : Mm} (h : f_X6_servedMany M = some (r, M1)) : Sp G S2 ad mX6_servedMany 110 [.ref (ad 0)] M M1 (some (.int r)) :=
  sp_intro (own := RX6) (by decide +kernel) rfl (Nat.le_of_ble_eq_true rfl) (fun X O T => jf_X6_servedMany O (Nat.le_refl _) M (r, M1) h T)
def h_X6_waysOf_4 (G : wn_G) (ad : Nat → Nat) (X : wn_X) (x0 : Int32) : Int64 × Int32 × Mm → Prop := fun s => PW G S2 ad X 4 [(0, .int x0), (1, .long s.1), (3, .int s.2.1)] [] s.2.2
def f_X6_waysOf_b4 (x0 : Int32) (x1 : Int64) (x3 : Int32) (M : Mm) : Option ((Int64 × Int32 × Mm) ⊕ (Int64 × Mm)) :=
  if x0 < x3 then
    ex (
    some (x1, M))
  else
    bl (x1 * (Int32.toInt64 x3)) fun y1 =>
    bi (x3 + (1 : Int32)) fun y2 =>
    some (.inl (y1, y2, M))
set_option maxRecDepth 100000 in
set_option maxHeartbeats 4000000 in
theorem jf_X6_waysOf_b4 {G : wn_G} {ad : Nat → Nat} {X : wn_X} {d : Nat} (O : Ok G RX6 cX6_waysOf 4 d X) (hd0 : 1 ≤ d) (x0 : Int32) (x1 : Int64) (x3 : Int32) (M : Mm) : JW G S2 ad X 4 [(0, .int x0), (1, .long x1), (3, .int x3)] [] M (f_X6_waysOf_b4 x0 x1 x3 M) (Kl (h_X6_waysOf_4 G ad X x0) (Krl G S2 ad X)) := by
  unfold f_X6_waysOf_b4
  refine j_iload_n (pc := 4) O 2 dX6_waysOf_4 rfl ?_
  refine j_iload_n (pc := 5) O 0 dX6_waysOf_5 rfl ?_
  refine j_icmp_gt (pc := 6) (tgt := 20) O dX6_waysOf_6 (by decide) ?_ ?_
  · refine jw_ex ?_
    refine j_lload_n (pc := 20) O 1 dX6_waysOf_20 rfl ?_
    exact j_lret (pc := 21) O dX6_waysOf_21
  · refine j_lload_n (pc := 9) O 1 dX6_waysOf_9 rfl ?_
    refine j_iload_n (pc := 10) O 2 dX6_waysOf_10 rfl ?_
    refine j_i2l (pc := 11) O dX6_waysOf_11 ?_
    refine j_lmul (pc := 12) O dX6_waysOf_12 ?_
    refine jw_bl fun y1 => ?_
    refine j_lstore_n (pc := 13) (L' := [(1, .long y1), (0, .int x0), (3, .int x3)]) O dX6_waysOf_13 (by decide) rfl ?_
    refine j_iinc (pc := 14) (v := 1) (L2 := fun y => [(3, .int y), (1, .long y1), (0, .int x0)]) O 2 dX6_waysOf_14 rfl (by decide) (by decide) (fun _ => rfl) (fun y2 => ?_)
    refine j_goto (pc := 17) (tgt := 4) O dX6_waysOf_17 (by decide) ?_
    exact jw_next (fun hh => pw_sub [2, 1, 0] rfl hh)
def f_X6_waysOf (x0 : Int32) (M : Mm) : Option (Int64 × Mm) :=
  iter (fun s => f_X6_waysOf_b4 x0 s.1 s.2.1 s.2.2) fuel ((1 : Int64), (2 : Int32), M)
set_option maxRecDepth 100000 in
set_option maxHeartbeats 4000000 in
theorem jf_X6_waysOf {G : wn_G} {ad : Nat → Nat} {X : wn_X} {d : Nat} (O : Ok G RX6 cX6_waysOf 4 d X) (hd0 : 1 ≤ d) (x0 : Int32) (M : Mm) : JW G S2 ad X 0 [(0, .int x0)] [] M (f_X6_waysOf x0 M) (Krl G S2 ad X) := by
  unfold f_X6_waysOf
  refine j_lconst (pc := 0) (v := 1) O dX6_waysOf_0 (by decide) ?_
  refine j_lstore_n (pc := 1) (L' := [(1, .long (1 : Int64)), (0, .int x0)]) O dX6_waysOf_1 (by decide) rfl ?_
  refine j_iconst (pc := 2) (v := 2) O dX6_waysOf_2 (by decide) ?_
  refine j_istore_n (pc := 3) (L' := [(3, .int (2 : Int32)), (1, .long (1 : Int64)), (0, .int x0)]) O dX6_waysOf_3 (by decide) rfl ?_
  exact jw_iter (hd := h_X6_waysOf_4 G ad X x0) (fun hh => pw_sub [2, 1, 0] rfl hh) (fun s => jf_X6_waysOf_b4 O hd0 x0 s.1 s.2.1 s.2.2)
theorem sp_X6_waysOf {G : wn_G} {ad : Nat → Nat} {x0 : Int32} {M : Mm} {r : Int64} {M1 : Mm} (h : f_X6_waysOf x0 M = some (r, M1)) : Sp G S2 ad mX6_waysOf 1 [.int x0] M M1 (some (.long r)) :=
  sp_intro (own := RX6) (by decide +kernel) rfl (Nat.le_of_ble_eq_true rfl) (fun X O T => jf_X6_waysOf O (Nat.le_refl _) x0 M (r, M1) h T)
def h_X6_ordersOf_13 (G : wn_G) (ad : Nat → Nat) (X : wn_X) (x1 : Int32) : Int32 × Int64 × Int32 × Mm → Prop := fun s => PW G S2 ad X 13 [(0, .ref (ad 0)), (1, .int x1), (2, .int s.1), (3, .long s.2.1), (5, .int s.2.2.1)] [] s.2.2.2
def f_X6_ordersOf_b13 (x1 : Int32) (x2 : Int32) (x3 : Int64) (x5 : Int32) (M : Mm) : Option ((Int32 × Int64 × Int32 × Mm) ⊕ (Int64 × Mm)) :=
  if (M.1 0 13) ≤ x5 then
    ex (
    if x2 = 0 then
      some (x3, M)
    else
      some ((0 : Int64), M))
  else
    gd (bin (((40 : Int32) * x1) + x5) 160 = true) inferInstance <|
    bi (M.1 19 (Int32.toNatClampNeg (((40 : Int32) * x1) + x5))) fun y5 =>
    bd (f_X6_in (Int32.toInt64 y5) (0 : Int64) (Int32.toInt64 x2) M) fun r7 M6 =>
    if r7 = 0 then
      ex (
      some ((0 : Int64), M6))
    else
      bdl (f_X6_waysOf y5 M6) fun r9 M8 =>
      gd (¬ r9 = 0) inferInstance <|
      bl (x3 / r9) fun y10 =>
      bi (x2 - y5) fun y11 =>
      bi (x5 + (1 : Int32)) fun y12 =>
      some (.inl (y11, y10, y12, M8))
set_option maxRecDepth 100000 in
set_option maxHeartbeats 4000000 in
theorem jf_X6_ordersOf_b13 {G : wn_G} {ad : Nat → Nat} {X : wn_X} {d : Nat} (O : Ok G RX6 cX6_ordersOf 7 d X) (hd0 : 111 ≤ d) (x1 : Int32) (x2 : Int32) (x3 : Int64) (x5 : Int32) (M : Mm) : JW G S2 ad X 13 [(0, .ref (ad 0)), (1, .int x1), (2, .int x2), (3, .long x3), (5, .int x5)] [] M (f_X6_ordersOf_b13 x1 x2 x3 x5 M) (Kl (h_X6_ordersOf_13 G ad X x1) (Krl G S2 ad X)) := by
  unfold f_X6_ordersOf_b13
  refine j_iload (pc := 13) O 4 dX6_ordersOf_13 rfl ?_
  refine j_aload_n (pc := 15) O 0 dX6_ordersOf_15 rfl ?_
  refine j_getf (pc := 16) (v := .int (M.1 0 13)) O 0 13 dX6_ordersOf_16 fl_X6_91 so_S2_0 rfl rfl ?_
  refine j_icmp_ge (pc := 19) (tgt := 69) O dX6_ordersOf_19 (by decide) ?_ ?_
  · refine jw_ex ?_
    refine j_iload_n (pc := 69) O 2 dX6_ordersOf_69 rfl ?_
    refine j_if_ne (pc := 70) (tgt := 77) O dX6_ordersOf_70 (by decide) ?_ ?_
    · refine j_lload_n (pc := 73) O 3 dX6_ordersOf_73 rfl ?_
      refine j_goto (pc := 74) (tgt := 78) O dX6_ordersOf_74 (by decide) ?_
      exact j_lret (pc := 78) O dX6_ordersOf_78
    · refine j_lconst (pc := 77) (v := 0) O dX6_ordersOf_77 (by decide) ?_
      exact j_lret (pc := 78) O dX6_ordersOf_78
  · refine j_aload_n (pc := 22) O 0 dX6_ordersOf_22 rfl ?_
    refine j_getf (pc := 23) (v := .ref (ad 19)) O 0 51 dX6_ordersOf_23 fl_X6_81 so_S2_0 rfl rfl ?_
    refine j_bipush (pc := 26) (v := 40) O dX6_ordersOf_26 (by decide) ?_
    refine j_iload_n (pc := 28) O 1 dX6_ordersOf_28 rfl ?_
    refine j_imul (pc := 29) O dX6_ordersOf_29 ?_
    refine j_iload (pc := 30) O 4 dX6_ordersOf_30 rfl ?_
    refine j_iadd (pc := 32) O dX6_ordersOf_32 ?_
    refine j_iald (pc := 33) O 19 dX6_ordersOf_33 so_S2_19 ?_
    refine jw_bi fun y5 => ?_
    refine j_istore (pc := 34) (L' := [(6, .int y5), (0, .ref (ad 0)), (1, .int x1), (2, .int x2), (3, .long x3), (5, .int x5)]) O dX6_ordersOf_34 (by decide) rfl ?_
    refine j_iload (pc := 36) O 0 dX6_ordersOf_36 rfl ?_
    refine j_i2l (pc := 38) O dX6_ordersOf_38 ?_
    refine j_lconst (pc := 39) (v := 0) O dX6_ordersOf_39 (by decide) ?_
    refine j_iload_n (pc := 40) O 3 dX6_ordersOf_40 rfl ?_
    refine j_i2l (pc := 41) O dX6_ordersOf_41 ?_
    refine j_callSi (pc := 42) (dc := 1) (As := [.long (Int32.toInt64 y5), .long (0 : Int64), .long (Int32.toInt64 x2)]) (rest := []) O (fun r M1 h => sp_X6_in h) dX6_ordersOf_42 mst_X6_in lm_X6_94 rfl rfl (Nat.le_of_ble_eq_true rfl) (Nat.le_trans (Nat.le_of_ble_eq_true rfl) hd0) (fun r7 M6 => ?_)
    refine j_if_ne (pc := 45) (tgt := 50) O dX6_ordersOf_45 (by decide) ?_ ?_
    · refine jw_ex ?_
      refine j_lconst (pc := 48) (v := 0) O dX6_ordersOf_48 (by decide) ?_
      exact j_lret (pc := 49) O dX6_ordersOf_49
    · refine j_lload_n (pc := 50) O 4 dX6_ordersOf_50 rfl ?_
      refine j_iload (pc := 51) O 0 dX6_ordersOf_51 rfl ?_
      refine j_callSl (pc := 53) (dc := 1) (As := [.int y5]) (rest := [.long x3]) O (fun r M1 h => sp_X6_waysOf h) dX6_ordersOf_53 mst_X6_waysOf lm_X6_328 rfl rfl (Nat.le_of_ble_eq_true rfl) (Nat.le_trans (Nat.le_of_ble_eq_true rfl) hd0) (fun r9 M8 => ?_)
      refine j_ldiv (pc := 56) O dX6_ordersOf_56 ?_
      refine jw_bl fun y10 => ?_
      refine j_lstore_n (pc := 57) (L' := [(3, .long y10), (6, .int y5), (0, .ref (ad 0)), (1, .int x1), (2, .int x2), (5, .int x5)]) O dX6_ordersOf_57 (by decide) rfl ?_
      refine j_iload_n (pc := 58) O 4 dX6_ordersOf_58 rfl ?_
      refine j_iload (pc := 59) O 1 dX6_ordersOf_59 rfl ?_
      refine j_isub (pc := 61) O dX6_ordersOf_61 ?_
      refine jw_bi fun y11 => ?_
      refine j_istore_n (pc := 62) (L' := [(2, .int y11), (3, .long y10), (6, .int y5), (0, .ref (ad 0)), (1, .int x1), (5, .int x5)]) O dX6_ordersOf_62 (by decide) rfl ?_
      refine j_iinc (pc := 63) (v := 1) (L2 := fun y => [(5, .int y), (2, .int y11), (3, .long y10), (6, .int y5), (0, .ref (ad 0)), (1, .int x1)]) O 5 dX6_ordersOf_63 rfl (by decide) (by decide) (fun _ => rfl) (fun y12 => ?_)
      refine j_goto (pc := 66) (tgt := 13) O dX6_ordersOf_66 (by decide) ?_
      exact jw_next (fun hh => pw_sub [4, 5, 1, 2, 0] rfl hh)
def f_X6_ordersOf (x1 : Int32) (M : Mm) : Option (Int64 × Mm) :=
  bd (f_X6_servedMany M) fun r2 M1 =>
  bdl (f_X6_waysOf r2 M1) fun r4 M3 =>
  iter (fun s => f_X6_ordersOf_b13 x1 s.1 s.2.1 s.2.2.1 s.2.2.2) fuel (r2, r4, (0 : Int32), M3)
set_option maxRecDepth 100000 in
set_option maxHeartbeats 4000000 in
theorem jf_X6_ordersOf {G : wn_G} {ad : Nat → Nat} {X : wn_X} {d : Nat} (O : Ok G RX6 cX6_ordersOf 7 d X) (hd0 : 111 ≤ d) (x1 : Int32) (M : Mm) : JW G S2 ad X 0 [(0, .ref (ad 0)), (1, .int x1)] [] M (f_X6_ordersOf x1 M) (Krl G S2 ad X) := by
  unfold f_X6_ordersOf
  refine j_aload_n (pc := 0) O 0 dX6_ordersOf_0 rfl ?_
  refine j_callVi (pc := 1) (dc := 110) (As := []) (rest := []) O 0 (fun r M1 h => sp_X6_servedMany h) dX6_ordersOf_1 mv_X6_servedMany lm_X6_325 so_S2_0 rfl rfl (Nat.le_of_ble_eq_true rfl) (Nat.le_trans (Nat.le_of_ble_eq_true rfl) hd0) (fun r2 M1 => ?_)
  refine j_istore_n (pc := 4) (L' := [(2, .int r2), (0, .ref (ad 0)), (1, .int x1)]) O dX6_ordersOf_4 (by decide) rfl ?_
  refine j_iload_n (pc := 5) O 0 dX6_ordersOf_5 rfl ?_
  refine j_callSl (pc := 6) (dc := 1) (As := [.int r2]) (rest := []) O (fun r M1 h => sp_X6_waysOf h) dX6_ordersOf_6 mst_X6_waysOf lm_X6_328 rfl rfl (Nat.le_of_ble_eq_true rfl) (Nat.le_trans (Nat.le_of_ble_eq_true rfl) hd0) (fun r4 M3 => ?_)
  refine j_lstore_n (pc := 9) (L' := [(3, .long r4), (2, .int r2), (0, .ref (ad 0)), (1, .int x1)]) O dX6_ordersOf_9 (by decide) rfl ?_
  refine j_iconst (pc := 10) (v := 0) O dX6_ordersOf_10 (by decide) ?_
  refine j_istore (pc := 11) (L' := [(5, .int (0 : Int32)), (3, .long r4), (2, .int r2), (0, .ref (ad 0)), (1, .int x1)]) O dX6_ordersOf_11 (by decide) rfl ?_
  exact jw_iter (hd := h_X6_ordersOf_13 G ad X x1) (fun hh => pw_sub [3, 4, 2, 1, 0] rfl hh) (fun s => jf_X6_ordersOf_b13 O hd0 x1 s.1 s.2.1 s.2.2.1 s.2.2.2)
theorem sp_X6_ordersOf {G : wn_G} {ad : Nat → Nat} {x1 : Int32} {M : Mm} {r : Int64} {M1 : Mm} (h : f_X6_ordersOf x1 M = some (r, M1)) : Sp G S2 ad mX6_ordersOf 111 [.ref (ad 0), .int x1] M M1 (some (.long r)) :=
  sp_intro (own := RX6) (by decide +kernel) rfl (Nat.le_of_ble_eq_true rfl) (fun X O T => jf_X6_ordersOf O (Nat.le_refl _) x1 M (r, M1) h T)
def h_X6_plates_59 (G : wn_G) (ad : Nat → Nat) (X : wn_X) (x1 : Int32) : Int64 × Int32 × Mm → Prop := fun s => PW G S2 ad X 59 [(0, .ref (ad 0)), (1, .int x1), (3, .long s.1), (5, .int s.2.1)] [] s.2.2
def h_X6_plates_78 (G : wn_G) (ad : Nat → Nat) (X : wn_X) (x1 : Int32) (x3 : Int64) (x5 : Int32) : Int32 × Int32 × Mm → Prop := fun s => PW G S2 ad X 78 [(0, .ref (ad 0)), (1, .int x1), (3, .long x3), (5, .int x5), (6, .int s.1), (7, .int s.2.1)] [] s.2.2
def f_X6_plates_b78 (x1 : Int32) (x3 : Int64) (x5 : Int32) (x6 : Int32) (x7 : Int32) (M : Mm) : Option ((Int32 × Int32 × Mm) ⊕ ((Int64 × Int32 × Mm) ⊕ (Int64 × Mm))) :=
  if (M.1 0 13) ≤ x7 then
    ex (
    if x6 = 0 then
      bl (x3 ||| (lsl' (0 : Int64) x5)) fun y6 =>
      bi (x5 + (1 : Int32)) fun y7 =>
      some (.inl (y6, y7, M))
    else
      bl (x3 ||| (lsl' (1 : Int64) x5)) fun y8 =>
      bi (x5 + (1 : Int32)) fun y9 =>
      some (.inl (y8, y9, M)))
  else
    if x6 = 0 then
      bi (x7 + (1 : Int32)) fun y10 =>
      some (.inl ((0 : Int32), y10, M))
    else
      gd (bin x7 5 = true) inferInstance <|
      gd (bin (((40 : Int32) * x1) + x7) 160 = true) inferInstance <|
      if (M.1 8 (Int32.toNatClampNeg x7)) = (M.1 19 (Int32.toNatClampNeg (((40 : Int32) * x1) + x7))) then
        bi (x7 + (1 : Int32)) fun y12 =>
        some (.inl ((1 : Int32), y12, M))
      else
        bi (x7 + (1 : Int32)) fun y11 =>
        some (.inl ((0 : Int32), y11, M))
set_option maxRecDepth 100000 in
set_option maxHeartbeats 4000000 in
theorem jf_X6_plates_b78 {G : wn_G} {ad : Nat → Nat} {X : wn_X} {d : Nat} (O : Ok G RX6 cX6_plates 8 d X) (hd0 : 112 ≤ d) (x1 : Int32) (x3 : Int64) (x5 : Int32) (x6 : Int32) (x7 : Int32) (M : Mm) : JW G S2 ad X 78 [(0, .ref (ad 0)), (1, .int x1), (3, .long x3), (5, .int x5), (6, .int x6), (7, .int x7)] [] M (f_X6_plates_b78 x1 x3 x5 x6 x7 M) (Kl (h_X6_plates_78 G ad X x1 x3 x5) (Kl (h_X6_plates_59 G ad X x1) (Krl G S2 ad X))) := by
  unfold f_X6_plates_b78
  refine j_iload (pc := 78) O 5 dX6_plates_78 rfl ?_
  refine j_aload_n (pc := 80) O 0 dX6_plates_80 rfl ?_
  refine j_getf (pc := 81) (v := .int (M.1 0 13)) O 0 13 dX6_plates_81 fl_X6_91 so_S2_0 rfl rfl ?_
  refine j_icmp_ge (pc := 84) (tgt := 127) O dX6_plates_84 (by decide) ?_ ?_
  · refine jw_ex ?_
    refine j_lload_n (pc := 127) O 2 dX6_plates_127 rfl ?_
    refine j_iload (pc := 128) O 4 dX6_plates_128 rfl ?_
    refine j_if_eq (pc := 130) (tgt := 137) O dX6_plates_130 (by decide) ?_ ?_
    · refine j_lconst (pc := 137) (v := 0) O dX6_plates_137 (by decide) ?_
      refine j_iload (pc := 138) O 3 dX6_plates_138 rfl ?_
      refine j_lshl (pc := 140) O dX6_plates_140 ?_
      refine j_lor (pc := 141) O dX6_plates_141 ?_
      refine jw_bl fun y6 => ?_
      refine j_lstore_n (pc := 142) (L' := [(3, .long y6), (0, .ref (ad 0)), (1, .int x1), (5, .int x5), (6, .int x6), (7, .int x7)]) O dX6_plates_142 (by decide) rfl ?_
      refine j_iinc (pc := 143) (v := 1) (L2 := fun y => [(5, .int y), (3, .long y6), (0, .ref (ad 0)), (1, .int x1), (6, .int x6), (7, .int x7)]) O 3 dX6_plates_143 rfl (by decide) (by decide) (fun _ => rfl) (fun y7 => ?_)
      refine j_goto (pc := 146) (tgt := 59) O dX6_plates_146 (by decide) ?_
      exact jw_next (fun hh => pw_sub [2, 3, 1, 0] rfl hh)
    · refine j_lconst (pc := 133) (v := 1) O dX6_plates_133 (by decide) ?_
      refine j_goto (pc := 134) (tgt := 138) O dX6_plates_134 (by decide) ?_
      refine j_iload (pc := 138) O 3 dX6_plates_138 rfl ?_
      refine j_lshl (pc := 140) O dX6_plates_140 ?_
      refine j_lor (pc := 141) O dX6_plates_141 ?_
      refine jw_bl fun y8 => ?_
      refine j_lstore_n (pc := 142) (L' := [(3, .long y8), (0, .ref (ad 0)), (1, .int x1), (5, .int x5), (6, .int x6), (7, .int x7)]) O dX6_plates_142 (by decide) rfl ?_
      refine j_iinc (pc := 143) (v := 1) (L2 := fun y => [(5, .int y), (3, .long y8), (0, .ref (ad 0)), (1, .int x1), (6, .int x6), (7, .int x7)]) O 3 dX6_plates_143 rfl (by decide) (by decide) (fun _ => rfl) (fun y9 => ?_)
      refine j_goto (pc := 146) (tgt := 59) O dX6_plates_146 (by decide) ?_
      exact jw_next (fun hh => pw_sub [2, 3, 1, 0] rfl hh)
  · refine j_iload (pc := 87) O 4 dX6_plates_87 rfl ?_
    refine j_if_eq (pc := 89) (tgt := 118) O dX6_plates_89 (by decide) ?_ ?_
    · refine j_iconst (pc := 118) (v := 0) O dX6_plates_118 (by decide) ?_
      refine j_istore (pc := 119) (L' := [(6, .int (0 : Int32)), (0, .ref (ad 0)), (1, .int x1), (3, .long x3), (5, .int x5), (7, .int x7)]) O dX6_plates_119 (by decide) rfl ?_
      refine j_iinc (pc := 121) (v := 1) (L2 := fun y => [(7, .int y), (6, .int (0 : Int32)), (0, .ref (ad 0)), (1, .int x1), (3, .long x3), (5, .int x5)]) O 5 dX6_plates_121 rfl (by decide) (by decide) (fun _ => rfl) (fun y10 => ?_)
      refine j_goto (pc := 124) (tgt := 78) O dX6_plates_124 (by decide) ?_
      exact jw_next (fun hh => pw_sub [2, 3, 4, 5, 1, 0] rfl hh)
    · refine j_aload_n (pc := 92) O 0 dX6_plates_92 rfl ?_
      refine j_getf (pc := 93) (v := .ref (ad 8)) O 0 30 dX6_plates_93 fl_X6_44 so_S2_0 rfl rfl ?_
      refine j_iload (pc := 96) O 5 dX6_plates_96 rfl ?_
      refine j_iald (pc := 98) O 8 dX6_plates_98 so_S2_8 ?_
      refine j_aload_n (pc := 99) O 0 dX6_plates_99 rfl ?_
      refine j_getf (pc := 100) (v := .ref (ad 19)) O 0 51 dX6_plates_100 fl_X6_81 so_S2_0 rfl rfl ?_
      refine j_bipush (pc := 103) (v := 40) O dX6_plates_103 (by decide) ?_
      refine j_iload_n (pc := 105) O 1 dX6_plates_105 rfl ?_
      refine j_imul (pc := 106) O dX6_plates_106 ?_
      refine j_iload (pc := 107) O 5 dX6_plates_107 rfl ?_
      refine j_iadd (pc := 109) O dX6_plates_109 ?_
      refine j_iald (pc := 110) O 19 dX6_plates_110 so_S2_19 ?_
      refine j_icmp_ne (pc := 111) (tgt := 118) O dX6_plates_111 (by decide) ?_ ?_
      · refine j_iconst (pc := 114) (v := 1) O dX6_plates_114 (by decide) ?_
        refine j_goto (pc := 115) (tgt := 119) O dX6_plates_115 (by decide) ?_
        refine j_istore (pc := 119) (L' := [(6, .int (1 : Int32)), (0, .ref (ad 0)), (1, .int x1), (3, .long x3), (5, .int x5), (7, .int x7)]) O dX6_plates_119 (by decide) rfl ?_
        refine j_iinc (pc := 121) (v := 1) (L2 := fun y => [(7, .int y), (6, .int (1 : Int32)), (0, .ref (ad 0)), (1, .int x1), (3, .long x3), (5, .int x5)]) O 5 dX6_plates_121 rfl (by decide) (by decide) (fun _ => rfl) (fun y12 => ?_)
        refine j_goto (pc := 124) (tgt := 78) O dX6_plates_124 (by decide) ?_
        exact jw_next (fun hh => pw_sub [2, 3, 4, 5, 1, 0] rfl hh)
      · refine j_iconst (pc := 118) (v := 0) O dX6_plates_118 (by decide) ?_
        refine j_istore (pc := 119) (L' := [(6, .int (0 : Int32)), (0, .ref (ad 0)), (1, .int x1), (3, .long x3), (5, .int x5), (7, .int x7)]) O dX6_plates_119 (by decide) rfl ?_
        refine j_iinc (pc := 121) (v := 1) (L2 := fun y => [(7, .int y), (6, .int (0 : Int32)), (0, .ref (ad 0)), (1, .int x1), (3, .long x3), (5, .int x5)]) O 5 dX6_plates_121 rfl (by decide) (by decide) (fun _ => rfl) (fun y11 => ?_)
        refine j_goto (pc := 124) (tgt := 78) O dX6_plates_124 (by decide) ?_
        exact jw_next (fun hh => pw_sub [2, 3, 4, 5, 1, 0] rfl hh)
def f_X6_plates_b59 (x1 : Int32) (x3 : Int64) (x5 : Int32) (M : Mm) : Option ((Int64 × Int32 × Mm) ⊕ (Int64 × Mm)) :=
  if (3 : Int32) < x5 then
    ex (
    some (x3, M))
  else
    bv (f_X6_sups x5 (0 : Int32) M) fun M5 =>
    iter (fun s => f_X6_plates_b78 x1 x3 x5 s.1 s.2.1 s.2.2) fuel ((1 : Int32), (0 : Int32), M5)
set_option maxRecDepth 100000 in
set_option maxHeartbeats 4000000 in
theorem jf_X6_plates_b59 {G : wn_G} {ad : Nat → Nat} {X : wn_X} {d : Nat} (O : Ok G RX6 cX6_plates 8 d X) (hd0 : 112 ≤ d) (x1 : Int32) (x3 : Int64) (x5 : Int32) (M : Mm) : JW G S2 ad X 59 [(0, .ref (ad 0)), (1, .int x1), (3, .long x3), (5, .int x5)] [] M (f_X6_plates_b59 x1 x3 x5 M) (Kl (h_X6_plates_59 G ad X x1) (Krl G S2 ad X)) := by
  unfold f_X6_plates_b59
  refine j_iload (pc := 59) O 3 dX6_plates_59 rfl ?_
  refine j_iconst (pc := 61) (v := 3) O dX6_plates_61 (by decide) ?_
  refine j_icmp_gt (pc := 62) (tgt := 149) O dX6_plates_62 (by decide) ?_ ?_
  · refine jw_ex ?_
    refine j_lload_n (pc := 149) O 2 dX6_plates_149 rfl ?_
    exact j_lret (pc := 150) O dX6_plates_150
  · refine j_aload_n (pc := 65) O 0 dX6_plates_65 rfl ?_
    refine j_iload (pc := 66) O 3 dX6_plates_66 rfl ?_
    refine j_iconst (pc := 68) (v := 0) O dX6_plates_68 (by decide) ?_
    refine j_callVv (pc := 69) (dc := 111) (As := [.int x5, .int (0 : Int32)]) (rest := []) O 0 (fun M1 h => sp_X6_sups h) dX6_plates_69 mv_X6_sups lm_X6_310 so_S2_0 rfl rfl (Nat.le_of_ble_eq_true rfl) (Nat.le_trans (Nat.le_of_ble_eq_true rfl) hd0) (fun M5 => ?_)
    refine j_iconst (pc := 72) (v := 1) O dX6_plates_72 (by decide) ?_
    refine j_istore (pc := 73) (L' := [(6, .int (1 : Int32)), (0, .ref (ad 0)), (1, .int x1), (3, .long x3), (5, .int x5)]) O dX6_plates_73 (by decide) rfl ?_
    refine j_iconst (pc := 75) (v := 0) O dX6_plates_75 (by decide) ?_
    refine j_istore (pc := 76) (L' := [(7, .int (0 : Int32)), (6, .int (1 : Int32)), (0, .ref (ad 0)), (1, .int x1), (3, .long x3), (5, .int x5)]) O dX6_plates_76 (by decide) rfl ?_
    exact jw_iter (hd := h_X6_plates_78 G ad X x1 x3 x5) (fun hh => pw_sub [2, 3, 4, 5, 1, 0] rfl hh) (fun s => jf_X6_plates_b78 O hd0 x1 x3 x5 s.1 s.2.1 s.2.2)
def f_X6_plates (x1 : Int32) (x2 : Int32) (M : Mm) : Option (Int64 × Mm) :=
  bd (f_X6_isSheet x1 M) fun r2 M1 =>
  if r2 = 0 then
    some ((-4611686018427387904 : Int64), M1)
  else
    bd (f_X6_in (Int32.toInt64 x2) (0 : Int64) (1 : Int64) M1) fun r4 M3 =>
    if r4 = 0 then
      some ((-4611686018427387904 : Int64), M3)
    else
      gd (bin x1 4 = true) inferInstance <|
      if (M3.1 16 (Int32.toNatClampNeg x1)) = 0 then
        some ((-4611686018427387904 : Int64), M3)
      else
        gd (bin x1 4 = true) inferInstance <|
        if (M3.1 18 (Int32.toNatClampNeg x1)) = (M3.1 0 13) then
          if x2 = (1 : Int32) then
            bdl (f_X6_ordersOf x1 M3) fun r14 M13 =>
            some (r14, M13)
          else
            iter (fun s => f_X6_plates_b59 x1 s.1 s.2.1 s.2.2) fuel ((0 : Int64), (1 : Int32), M3)
        else
          some ((-4611686018427387904 : Int64), M3)
set_option maxRecDepth 100000 in
set_option maxHeartbeats 4000000 in
theorem jf_X6_plates {G : wn_G} {ad : Nat → Nat} {X : wn_X} {d : Nat} (O : Ok G RX6 cX6_plates 8 d X) (hd0 : 112 ≤ d) (x1 : Int32) (x2 : Int32) (M : Mm) : JW G S2 ad X 0 [(0, .ref (ad 0)), (1, .int x1), (2, .int x2)] [] M (f_X6_plates x1 x2 M) (Krl G S2 ad X) := by
  unfold f_X6_plates
  refine j_iload_n (pc := 0) O 1 dX6_plates_0 rfl ?_
  refine j_callSi (pc := 1) (dc := 2) (As := [.int x1]) (rest := []) O (fun r M1 h => sp_X6_isSheet h) dX6_plates_1 mst_X6_isSheet lm_X6_303 rfl rfl (Nat.le_of_ble_eq_true rfl) (Nat.le_trans (Nat.le_of_ble_eq_true rfl) hd0) (fun r2 M1 => ?_)
  refine j_if_eq (pc := 4) (tgt := 39) O dX6_plates_4 (by decide) ?_ ?_
  · refine j_ldc2 (pc := 39) (v := -4611686018427387904) O dX6_plates_39 gk_X6_332 ?_
    exact j_lret (pc := 42) O dX6_plates_42
  · refine j_iload_n (pc := 7) O 2 dX6_plates_7 rfl ?_
    refine j_i2l (pc := 8) O dX6_plates_8 ?_
    refine j_lconst (pc := 9) (v := 0) O dX6_plates_9 (by decide) ?_
    refine j_lconst (pc := 10) (v := 1) O dX6_plates_10 (by decide) ?_
    refine j_callSi (pc := 11) (dc := 1) (As := [.long (Int32.toInt64 x2), .long (0 : Int64), .long (1 : Int64)]) (rest := []) O (fun r M1 h => sp_X6_in h) dX6_plates_11 mst_X6_in lm_X6_94 rfl rfl (Nat.le_of_ble_eq_true rfl) (Nat.le_trans (Nat.le_of_ble_eq_true rfl) hd0) (fun r4 M3 => ?_)
    refine j_if_eq (pc := 14) (tgt := 39) O dX6_plates_14 (by decide) ?_ ?_
    · refine j_ldc2 (pc := 39) (v := -4611686018427387904) O dX6_plates_39 gk_X6_332 ?_
      exact j_lret (pc := 42) O dX6_plates_42
    · refine j_aload_n (pc := 17) O 0 dX6_plates_17 rfl ?_
      refine j_getf (pc := 18) (v := .ref (ad 16)) O 0 48 dX6_plates_18 fl_X6_71 so_S2_0 rfl rfl ?_
      refine j_iload_n (pc := 21) O 1 dX6_plates_21 rfl ?_
      refine j_zald (pc := 22) O 16 dX6_plates_22 so_S2_16 ?_
      refine j_if_eq (pc := 23) (tgt := 39) O dX6_plates_23 (by decide) ?_ ?_
      · refine j_ldc2 (pc := 39) (v := -4611686018427387904) O dX6_plates_39 gk_X6_332 ?_
        exact j_lret (pc := 42) O dX6_plates_42
      · refine j_aload_n (pc := 26) O 0 dX6_plates_26 rfl ?_
        refine j_getf (pc := 27) (v := .ref (ad 18)) O 0 50 dX6_plates_27 fl_X6_78 so_S2_0 rfl rfl ?_
        refine j_iload_n (pc := 30) O 1 dX6_plates_30 rfl ?_
        refine j_iald (pc := 31) O 18 dX6_plates_31 so_S2_18 ?_
        refine j_aload_n (pc := 32) O 0 dX6_plates_32 rfl ?_
        refine j_getf (pc := 33) (v := .int (M3.1 0 13)) O 0 13 dX6_plates_33 fl_X6_91 so_S2_0 rfl rfl ?_
        refine j_icmp_eq (pc := 36) (tgt := 43) O dX6_plates_36 (by decide) ?_ ?_
        · refine j_iload_n (pc := 43) O 2 dX6_plates_43 rfl ?_
          refine j_iconst (pc := 44) (v := 1) O dX6_plates_44 (by decide) ?_
          refine j_icmp_ne (pc := 45) (tgt := 54) O dX6_plates_45 (by decide) ?_ ?_
          · refine j_aload_n (pc := 48) O 0 dX6_plates_48 rfl ?_
            refine j_iload_n (pc := 49) O 1 dX6_plates_49 rfl ?_
            refine j_callVl (pc := 50) (dc := 111) (As := [.int x1]) (rest := []) O 0 (fun r M1 h => sp_X6_ordersOf h) dX6_plates_50 mv_X6_ordersOf lm_X6_334 so_S2_0 rfl rfl (Nat.le_of_ble_eq_true rfl) (Nat.le_trans (Nat.le_of_ble_eq_true rfl) hd0) (fun r14 M13 => ?_)
            exact j_lret (pc := 53) O dX6_plates_53
          · refine j_lconst (pc := 54) (v := 0) O dX6_plates_54 (by decide) ?_
            refine j_lstore_n (pc := 55) (L' := [(3, .long (0 : Int64)), (0, .ref (ad 0)), (1, .int x1), (2, .int x2)]) O dX6_plates_55 (by decide) rfl ?_
            refine j_iconst (pc := 56) (v := 1) O dX6_plates_56 (by decide) ?_
            refine j_istore (pc := 57) (L' := [(5, .int (1 : Int32)), (3, .long (0 : Int64)), (0, .ref (ad 0)), (1, .int x1), (2, .int x2)]) O dX6_plates_57 (by decide) rfl ?_
            exact jw_iter (hd := h_X6_plates_59 G ad X x1) (fun hh => pw_sub [2, 3, 1, 0] rfl hh) (fun s => jf_X6_plates_b59 O hd0 x1 s.1 s.2.1 s.2.2)
        · refine j_ldc2 (pc := 39) (v := -4611686018427387904) O dX6_plates_39 gk_X6_332 ?_
          exact j_lret (pc := 42) O dX6_plates_42
theorem sp_X6_plates {G : wn_G} {ad : Nat → Nat} {x1 : Int32} {x2 : Int32} {M : Mm} {r : Int64} {M1 : Mm} (h : f_X6_plates x1 x2 M = some (r, M1)) : Sp G S2 ad mX6_plates 112 [.ref (ad 0), .int x1, .int x2] M M1 (some (.long r)) :=
  sp_intro (own := RX6) (by decide +kernel) rfl (Nat.le_of_ble_eq_true rfl) (fun X O T => jf_X6_plates O (Nat.le_refl _) x1 x2 M (r, M1) h T)
def f_X2_lastTold (x1 : Int32) (M : Mm) : Option (Int32 × Mm) :=
  bd (f_X3_has_1 x1 M) fun r2 M1 =>
  if r2 = 0 then
    some ((-1 : Int32), M1)
  else
    gd (bin x1 5 = true) inferInstance <|
    some ((imn (M1.1 31 (Int32.toNatClampNeg x1)) (60 : Int32)), M1)
set_option maxRecDepth 100000 in
set_option maxHeartbeats 4000000 in
theorem jf_X2_lastTold {G : wn_G} {ad : Nat → Nat} {X : wn_X} {d : Nat} (O : Ok G RX2 cX2_lastTold 2 d X) (hd0 : 2 ≤ d) (x1 : Int32) (M : Mm) : JW G S1 ad X 0 [(0, .ref (ad 6)), (1, .int x1)] [] M (f_X2_lastTold x1 M) (Kri G S1 ad X) := by
  unfold f_X2_lastTold
  refine j_aload_n (pc := 0) O 0 dX2_lastTold_0 rfl ?_
  refine j_getf (pc := 1) (v := .ref (ad 1)) O 6 0 dX2_lastTold_1 fl_X2_36 so_S1_6 rfl rfl ?_
  refine j_iload_n (pc := 4) O 1 dX2_lastTold_4 rfl ?_
  refine j_callVi (pc := 5) (dc := 1) (As := [.int x1]) (rest := []) O 1 (fun r M1 h => sp_X3_has_1 h) dX2_lastTold_5 mv_X3_has lm_X2_155 so_S1_1 rfl rfl (Nat.le_of_ble_eq_true rfl) (Nat.le_trans (Nat.le_of_ble_eq_true rfl) hd0) (fun r2 M1 => ?_)
  refine j_if_eq (pc := 8) (tgt := 25) O dX2_lastTold_8 (by decide) ?_ ?_
  · refine j_iconst (pc := 25) (v := -1) O dX2_lastTold_25 (by decide) ?_
    exact j_iret (pc := 26) O dX2_lastTold_26
  · refine j_aload_n (pc := 11) O 0 dX2_lastTold_11 rfl ?_
    refine j_getf (pc := 12) (v := .ref (ad 31)) O 6 10 dX2_lastTold_12 fl_X2_30 so_S1_6 rfl rfl ?_
    refine j_iload_n (pc := 15) O 1 dX2_lastTold_15 rfl ?_
    refine j_iald (pc := 16) O 31 dX2_lastTold_16 so_S1_31 ?_
    refine j_bipush (pc := 17) (v := 60) O dX2_lastTold_17 (by decide) ?_
    refine j_min (pc := 19) O dX2_lastTold_19 gl_X2_107 gt_Math_min gi_java_lang_Math gc_Math_min (Nat.le_trans (Nat.le_of_ble_eq_true rfl) hd0) (Nat.le_of_ble_eq_true rfl) ?_
    refine j_goto (pc := 22) (tgt := 26) O dX2_lastTold_22 (by decide) ?_
    exact j_iret (pc := 26) O dX2_lastTold_26
theorem sp_X2_lastTold {G : wn_G} {ad : Nat → Nat} {x1 : Int32} {M : Mm} {r : Int32} {M1 : Mm} (h : f_X2_lastTold x1 M = some (r, M1)) : Sp G S1 ad mX2_lastTold 2 [.ref (ad 6), .int x1] M M1 (some (.int r)) :=
  sp_intro (own := RX2) (by decide +kernel) rfl (Nat.le_of_ble_eq_true rfl) (fun X O T => jf_X2_lastTold O (Nat.le_refl _) x1 M (r, M1) h T)
def h_X5_pacesOf_5 (G : wn_G) (ad : Nat → Nat) (X : wn_X) (x1 : Int32) (x2 : Int32) : Int32 × Int32 × Mm → Prop := fun s => PW G S1 ad X 5 [(0, .ref (ad 0)), (1, .int x1), (2, .int x2), (3, .int s.1), (4, .int s.2.1)] [] s.2.2
def f_X5_pacesOf_b5 (x1 : Int32) (x2 : Int32) (x3 : Int32) (x4 : Int32) (M : Mm) : Option ((Int32 × Int32 × Mm) ⊕ (Int32 × Mm)) :=
  if (20 : Int32) < x4 then
    ex (
    some (x3, M))
  else
    gd (bin x2 5 = true) inferInstance <|
    bd (f_X5_eatsOf (M.1 7 (Int32.toNatClampNeg x2)) x4 M) fun r2 M1 =>
    gd (bin x2 5 = true) inferInstance <| bm (ms M1 28 (Int32.toNatClampNeg x2) r2) fun M3 =>
    bv (f_X2_run (1 : Int32) M3) fun M4 =>
    bd (f_X2_lastTold x2 M4) fun r6 M5 =>
    bd (f_X1_item x1 x2 M5) fun r8 M7 =>
    if r6 = r8 then
      bi (x3 ||| (isl (1 : Int32) x4)) fun y10 =>
      bi (x4 + (1 : Int32)) fun y11 =>
      some (.inl (y10, y11, M7))
    else
      bi (x4 + (1 : Int32)) fun y9 =>
      some (.inl (x3, y9, M7))
set_option maxRecDepth 100000 in
set_option maxHeartbeats 4000000 in
theorem jf_X5_pacesOf_b5 {G : wn_G} {ad : Nat → Nat} {X : wn_X} {d : Nat} (O : Ok G RX5 cX5_pacesOf 5 d X) (hd0 : 7 ≤ d) (x1 : Int32) (x2 : Int32) (x3 : Int32) (x4 : Int32) (M : Mm) : JW G S1 ad X 5 [(0, .ref (ad 0)), (1, .int x1), (2, .int x2), (3, .int x3), (4, .int x4)] [] M (f_X5_pacesOf_b5 x1 x2 x3 x4 M) (Kl (h_X5_pacesOf_5 G ad X x1 x2) (Kri G S1 ad X)) := by
  unfold f_X5_pacesOf_b5
  refine j_iload (pc := 5) O 4 dX5_pacesOf_5 rfl ?_
  refine j_bipush (pc := 7) (v := 20) O dX5_pacesOf_7 (by decide) ?_
  refine j_icmp_gt (pc := 9) (tgt := 76) O dX5_pacesOf_9 (by decide) ?_ ?_
  · refine jw_ex ?_
    refine j_iload_n (pc := 76) O 3 dX5_pacesOf_76 rfl ?_
    exact j_iret (pc := 77) O dX5_pacesOf_77
  · refine j_aload_n (pc := 12) O 0 dX5_pacesOf_12 rfl ?_
    refine j_getf (pc := 13) (v := .ref (ad 6)) O 0 6 dX5_pacesOf_13 fl_X5_45 so_S1_0 rfl rfl ?_
    refine j_getf (pc := 16) (v := .ref (ad 28)) O 6 6 dX5_pacesOf_16 fl_X5_253 so_S1_6 rfl rfl ?_
    refine j_iload_n (pc := 19) O 2 dX5_pacesOf_19 rfl ?_
    refine j_aload_n (pc := 20) O 0 dX5_pacesOf_20 rfl ?_
    refine j_getf (pc := 21) (v := .ref (ad 1)) O 0 0 dX5_pacesOf_21 fl_X5_10 so_S1_0 rfl rfl ?_
    refine j_getf (pc := 24) (v := .ref (ad 7)) O 1 4 dX5_pacesOf_24 fl_X5_81 so_S1_1 rfl rfl ?_
    refine j_iload_n (pc := 27) O 2 dX5_pacesOf_27 rfl ?_
    refine j_iald (pc := 28) O 7 dX5_pacesOf_28 so_S1_7 ?_
    refine j_iload (pc := 29) O 4 dX5_pacesOf_29 rfl ?_
    refine j_callSi (pc := 31) (dc := 1) (As := [.int (M.1 7 (Int32.toNatClampNeg x2)), .int x4]) (rest := [.int x2, .ref (ad 28)]) O (fun r M1 h => sp_X5_eatsOf h) dX5_pacesOf_31 mst_X5_eatsOf lm_X5_87 rfl rfl (Nat.le_of_ble_eq_true rfl) (Nat.le_trans (Nat.le_of_ble_eq_true rfl) hd0) (fun r2 M1 => ?_)
    refine j_iast (pc := 34) O 28 dX5_pacesOf_34 so_S1_28 (fun M3 => ?_)
    refine j_aload_n (pc := 35) O 0 dX5_pacesOf_35 rfl ?_
    refine j_getf (pc := 36) (v := .ref (ad 6)) O 0 6 dX5_pacesOf_36 fl_X5_45 so_S1_0 rfl rfl ?_
    refine j_iconst (pc := 39) (v := 1) O dX5_pacesOf_39 (by decide) ?_
    refine j_callVv (pc := 40) (dc := 6) (As := [.int (1 : Int32)]) (rest := []) O 6 (fun M1 h => sp_X2_run h) dX5_pacesOf_40 mv_X2_run lm_X5_149 so_S1_6 rfl rfl (Nat.le_of_ble_eq_true rfl) (Nat.le_trans (Nat.le_of_ble_eq_true rfl) hd0) (fun M4 => ?_)
    refine j_aload_n (pc := 43) O 0 dX5_pacesOf_43 rfl ?_
    refine j_getf (pc := 44) (v := .ref (ad 6)) O 0 6 dX5_pacesOf_44 fl_X5_45 so_S1_0 rfl rfl ?_
    refine j_iload_n (pc := 47) O 2 dX5_pacesOf_47 rfl ?_
    refine j_callVi (pc := 48) (dc := 2) (As := [.int x2]) (rest := []) O 6 (fun r M1 h => sp_X2_lastTold h) dX5_pacesOf_48 mv_X2_lastTold lm_X5_250 so_S1_6 rfl rfl (Nat.le_of_ble_eq_true rfl) (Nat.le_trans (Nat.le_of_ble_eq_true rfl) hd0) (fun r6 M5 => ?_)
    refine j_aload_n (pc := 51) O 0 dX5_pacesOf_51 rfl ?_
    refine j_getf (pc := 52) (v := .ref (ad 5)) O 0 5 dX5_pacesOf_52 fl_X5_36 so_S1_0 rfl rfl ?_
    refine j_iload_n (pc := 55) O 1 dX5_pacesOf_55 rfl ?_
    refine j_iload_n (pc := 56) O 2 dX5_pacesOf_56 rfl ?_
    refine j_callVi (pc := 57) (dc := 4) (As := [.int x1, .int x2]) (rest := [.int r6]) O 5 (fun r M1 h => sp_X1_item h) dX5_pacesOf_57 mv_X1_item lm_X5_146 so_S1_5 rfl rfl (Nat.le_of_ble_eq_true rfl) (Nat.le_trans (Nat.le_of_ble_eq_true rfl) hd0) (fun r8 M7 => ?_)
    refine j_icmp_ne (pc := 60) (tgt := 70) O dX5_pacesOf_60 (by decide) ?_ ?_
    · refine j_iload_n (pc := 63) O 3 dX5_pacesOf_63 rfl ?_
      refine j_iconst (pc := 64) (v := 1) O dX5_pacesOf_64 (by decide) ?_
      refine j_iload (pc := 65) O 4 dX5_pacesOf_65 rfl ?_
      refine j_ishl (pc := 67) O dX5_pacesOf_67 ?_
      refine j_ior (pc := 68) O dX5_pacesOf_68 ?_
      refine jw_bi fun y10 => ?_
      refine j_istore_n (pc := 69) (L' := [(3, .int y10), (0, .ref (ad 0)), (1, .int x1), (2, .int x2), (4, .int x4)]) O dX5_pacesOf_69 (by decide) rfl ?_
      refine j_iinc (pc := 70) (v := 1) (L2 := fun y => [(4, .int y), (3, .int y10), (0, .ref (ad 0)), (1, .int x1), (2, .int x2)]) O 4 dX5_pacesOf_70 rfl (by decide) (by decide) (fun _ => rfl) (fun y11 => ?_)
      refine j_goto (pc := 73) (tgt := 5) O dX5_pacesOf_73 (by decide) ?_
      exact jw_next (fun hh => pw_sub [2, 3, 4, 1, 0] rfl hh)
    · refine j_iinc (pc := 70) (v := 1) (L2 := fun y => [(4, .int y), (0, .ref (ad 0)), (1, .int x1), (2, .int x2), (3, .int x3)]) O 4 dX5_pacesOf_70 rfl (by decide) (by decide) (fun _ => rfl) (fun y9 => ?_)
      refine j_goto (pc := 73) (tgt := 5) O dX5_pacesOf_73 (by decide) ?_
      exact jw_next (fun hh => pw_sub [1, 2, 3, 4, 0] rfl hh)
def f_X5_pacesOf (x1 : Int32) (x2 : Int32) (M : Mm) : Option (Int32 × Mm) :=
  iter (fun s => f_X5_pacesOf_b5 x1 x2 s.1 s.2.1 s.2.2) fuel ((0 : Int32), (1 : Int32), M)
set_option maxRecDepth 100000 in
set_option maxHeartbeats 4000000 in
theorem jf_X5_pacesOf {G : wn_G} {ad : Nat → Nat} {X : wn_X} {d : Nat} (O : Ok G RX5 cX5_pacesOf 5 d X) (hd0 : 7 ≤ d) (x1 : Int32) (x2 : Int32) (M : Mm) : JW G S1 ad X 0 [(0, .ref (ad 0)), (1, .int x1), (2, .int x2)] [] M (f_X5_pacesOf x1 x2 M) (Kri G S1 ad X) := by
  unfold f_X5_pacesOf
  refine j_iconst (pc := 0) (v := 0) O dX5_pacesOf_0 (by decide) ?_
  refine j_istore_n (pc := 1) (L' := [(3, .int (0 : Int32)), (0, .ref (ad 0)), (1, .int x1), (2, .int x2)]) O dX5_pacesOf_1 (by decide) rfl ?_
  refine j_iconst (pc := 2) (v := 1) O dX5_pacesOf_2 (by decide) ?_
  refine j_istore (pc := 3) (L' := [(4, .int (1 : Int32)), (3, .int (0 : Int32)), (0, .ref (ad 0)), (1, .int x1), (2, .int x2)]) O dX5_pacesOf_3 (by decide) rfl ?_
  exact jw_iter (hd := h_X5_pacesOf_5 G ad X x1 x2) (fun hh => pw_sub [2, 3, 4, 1, 0] rfl hh) (fun s => jf_X5_pacesOf_b5 O hd0 x1 x2 s.1 s.2.1 s.2.2)
theorem sp_X5_pacesOf {G : wn_G} {ad : Nat → Nat} {x1 : Int32} {x2 : Int32} {M : Mm} {r : Int32} {M1 : Mm} (h : f_X5_pacesOf x1 x2 M = some (r, M1)) : Sp G S1 ad mX5_pacesOf 7 [.ref (ad 0), .int x1, .int x2] M M1 (some (.int r)) :=
  sp_intro (own := RX5) (by decide +kernel) rfl (Nat.le_of_ble_eq_true rfl) (fun X O T => jf_X5_pacesOf O (Nat.le_refl _) x1 x2 M (r, M1) h T)
def h_X5_notSo_12 (G : wn_G) (ad : Nat → Nat) (X : wn_X) (x1 : Int32) : Int32 × Int32 × Mm → Prop := fun s => PW G S1 ad X 12 [(0, .ref (ad 0)), (1, .int x1), (2, .int s.1), (3, .int s.2.1)] [] s.2.2
def f_X5_notSo_b12 (x1 : Int32) (x2 : Int32) (x3 : Int32) (M : Mm) : Option ((Int32 × Int32 × Mm) ⊕ (Int32 × Mm)) :=
  if (5 : Int32) ≤ x3 then
    ex (
    some (x2, M))
  else
    if (M.1 1 3) ≤ x3 then
      ex (
      some (x2, M))
    else
      bd (f_X2_lastTold x3 M) fun r3 M2 =>
      bd (f_X1_item x1 x3 M2) fun r5 M4 =>
      if r3 = r5 then
        bi (x3 + (1 : Int32)) fun y6 =>
        some (.inl (x2, y6, M4))
      else
        bi (x2 ||| (isl (1 : Int32) x3)) fun y7 =>
        bi (x3 + (1 : Int32)) fun y8 =>
        some (.inl (y7, y8, M4))
set_option maxRecDepth 100000 in
set_option maxHeartbeats 4000000 in
theorem jf_X5_notSo_b12 {G : wn_G} {ad : Nat → Nat} {X : wn_X} {d : Nat} (O : Ok G RX5 cX5_notSo 4 d X) (hd0 : 7 ≤ d) (x1 : Int32) (x2 : Int32) (x3 : Int32) (M : Mm) : JW G S1 ad X 12 [(0, .ref (ad 0)), (1, .int x1), (2, .int x2), (3, .int x3)] [] M (f_X5_notSo_b12 x1 x2 x3 M) (Kl (h_X5_notSo_12 G ad X x1) (Kri G S1 ad X)) := by
  unfold f_X5_notSo_b12
  refine j_iload_n (pc := 12) O 3 dX5_notSo_12 rfl ?_
  refine j_iconst (pc := 13) (v := 5) O dX5_notSo_13 (by decide) ?_
  refine j_icmp_ge (pc := 14) (tgt := 60) O dX5_notSo_14 (by decide) ?_ ?_
  · refine jw_ex ?_
    refine j_iload_n (pc := 60) O 2 dX5_notSo_60 rfl ?_
    exact j_iret (pc := 61) O dX5_notSo_61
  · refine j_iload_n (pc := 17) O 3 dX5_notSo_17 rfl ?_
    refine j_aload_n (pc := 18) O 0 dX5_notSo_18 rfl ?_
    refine j_getf (pc := 19) (v := .ref (ad 1)) O 0 0 dX5_notSo_19 fl_X5_10 so_S1_0 rfl rfl ?_
    refine j_getf (pc := 22) (v := .int (M.1 1 3)) O 1 3 dX5_notSo_22 fl_X5_158 so_S1_1 rfl rfl ?_
    refine j_icmp_ge (pc := 25) (tgt := 60) O dX5_notSo_25 (by decide) ?_ ?_
    · refine jw_ex ?_
      refine j_iload_n (pc := 60) O 2 dX5_notSo_60 rfl ?_
      exact j_iret (pc := 61) O dX5_notSo_61
    · refine j_aload_n (pc := 28) O 0 dX5_notSo_28 rfl ?_
      refine j_getf (pc := 29) (v := .ref (ad 6)) O 0 6 dX5_notSo_29 fl_X5_45 so_S1_0 rfl rfl ?_
      refine j_iload_n (pc := 32) O 3 dX5_notSo_32 rfl ?_
      refine j_callVi (pc := 33) (dc := 2) (As := [.int x3]) (rest := []) O 6 (fun r M1 h => sp_X2_lastTold h) dX5_notSo_33 mv_X2_lastTold lm_X5_250 so_S1_6 rfl rfl (Nat.le_of_ble_eq_true rfl) (Nat.le_trans (Nat.le_of_ble_eq_true rfl) hd0) (fun r3 M2 => ?_)
      refine j_aload_n (pc := 36) O 0 dX5_notSo_36 rfl ?_
      refine j_getf (pc := 37) (v := .ref (ad 5)) O 0 5 dX5_notSo_37 fl_X5_36 so_S1_0 rfl rfl ?_
      refine j_iload_n (pc := 40) O 1 dX5_notSo_40 rfl ?_
      refine j_iload_n (pc := 41) O 3 dX5_notSo_41 rfl ?_
      refine j_callVi (pc := 42) (dc := 4) (As := [.int x1, .int x3]) (rest := [.int r3]) O 5 (fun r M1 h => sp_X1_item h) dX5_notSo_42 mv_X1_item lm_X5_146 so_S1_5 rfl rfl (Nat.le_of_ble_eq_true rfl) (Nat.le_trans (Nat.le_of_ble_eq_true rfl) hd0) (fun r5 M4 => ?_)
      refine j_icmp_eq (pc := 45) (tgt := 54) O dX5_notSo_45 (by decide) ?_ ?_
      · refine j_iinc (pc := 54) (v := 1) (L2 := fun y => [(3, .int y), (0, .ref (ad 0)), (1, .int x1), (2, .int x2)]) O 3 dX5_notSo_54 rfl (by decide) (by decide) (fun _ => rfl) (fun y6 => ?_)
        refine j_goto (pc := 57) (tgt := 12) O dX5_notSo_57 (by decide) ?_
        exact jw_next (fun hh => pw_sub [1, 2, 3, 0] rfl hh)
      · refine j_iload_n (pc := 48) O 2 dX5_notSo_48 rfl ?_
        refine j_iconst (pc := 49) (v := 1) O dX5_notSo_49 (by decide) ?_
        refine j_iload_n (pc := 50) O 3 dX5_notSo_50 rfl ?_
        refine j_ishl (pc := 51) O dX5_notSo_51 ?_
        refine j_ior (pc := 52) O dX5_notSo_52 ?_
        refine jw_bi fun y7 => ?_
        refine j_istore_n (pc := 53) (L' := [(2, .int y7), (0, .ref (ad 0)), (1, .int x1), (3, .int x3)]) O dX5_notSo_53 (by decide) rfl ?_
        refine j_iinc (pc := 54) (v := 1) (L2 := fun y => [(3, .int y), (2, .int y7), (0, .ref (ad 0)), (1, .int x1)]) O 3 dX5_notSo_54 rfl (by decide) (by decide) (fun _ => rfl) (fun y8 => ?_)
        refine j_goto (pc := 57) (tgt := 12) O dX5_notSo_57 (by decide) ?_
        exact jw_next (fun hh => pw_sub [2, 3, 1, 0] rfl hh)
def f_X5_notSo (x1 : Int32) (M : Mm) : Option (Int32 × Mm) :=
  bv (f_X2_run (1 : Int32) M) fun M1 =>
  iter (fun s => f_X5_notSo_b12 x1 s.1 s.2.1 s.2.2) fuel ((0 : Int32), (0 : Int32), M1)
set_option maxRecDepth 100000 in
set_option maxHeartbeats 4000000 in
theorem jf_X5_notSo {G : wn_G} {ad : Nat → Nat} {X : wn_X} {d : Nat} (O : Ok G RX5 cX5_notSo 4 d X) (hd0 : 7 ≤ d) (x1 : Int32) (M : Mm) : JW G S1 ad X 0 [(0, .ref (ad 0)), (1, .int x1)] [] M (f_X5_notSo x1 M) (Kri G S1 ad X) := by
  unfold f_X5_notSo
  refine j_aload_n (pc := 0) O 0 dX5_notSo_0 rfl ?_
  refine j_getf (pc := 1) (v := .ref (ad 6)) O 0 6 dX5_notSo_1 fl_X5_45 so_S1_0 rfl rfl ?_
  refine j_iconst (pc := 4) (v := 1) O dX5_notSo_4 (by decide) ?_
  refine j_callVv (pc := 5) (dc := 6) (As := [.int (1 : Int32)]) (rest := []) O 6 (fun M1 h => sp_X2_run h) dX5_notSo_5 mv_X2_run lm_X5_149 so_S1_6 rfl rfl (Nat.le_of_ble_eq_true rfl) (Nat.le_trans (Nat.le_of_ble_eq_true rfl) hd0) (fun M1 => ?_)
  refine j_iconst (pc := 8) (v := 0) O dX5_notSo_8 (by decide) ?_
  refine j_istore_n (pc := 9) (L' := [(2, .int (0 : Int32)), (0, .ref (ad 0)), (1, .int x1)]) O dX5_notSo_9 (by decide) rfl ?_
  refine j_iconst (pc := 10) (v := 0) O dX5_notSo_10 (by decide) ?_
  refine j_istore_n (pc := 11) (L' := [(3, .int (0 : Int32)), (2, .int (0 : Int32)), (0, .ref (ad 0)), (1, .int x1)]) O dX5_notSo_11 (by decide) rfl ?_
  exact jw_iter (hd := h_X5_notSo_12 G ad X x1) (fun hh => pw_sub [2, 3, 1, 0] rfl hh) (fun s => jf_X5_notSo_b12 O hd0 x1 s.1 s.2.1 s.2.2)
theorem sp_X5_notSo {G : wn_G} {ad : Nat → Nat} {x1 : Int32} {M : Mm} {r : Int32} {M1 : Mm} (h : f_X5_notSo x1 M = some (r, M1)) : Sp G S1 ad mX5_notSo 7 [.ref (ad 0), .int x1] M M1 (some (.int r)) :=
  sp_intro (own := RX5) (by decide +kernel) rfl (Nat.le_of_ble_eq_true rfl) (fun X O T => jf_X5_notSo O (Nat.le_refl _) x1 M (r, M1) h T)
def f_X5_eaten_j30 (x1 : Int32) (x2 : Int32) (M : Mm) : Option (Int32 × Mm) :=
  bd (f_X1_isMissing x1 M) fun r4 M3 =>
  if r4 = 0 then
    bd (f_X1_sizeOf x1 M3) fun r6 M5 =>
    if r6 = (M5.1 1 3) then
      bv (f_X2_lay (M5.1 1 1) M5) fun M7 =>
      if x2 = (-1 : Int32) then
        bd (f_X5_notSo x1 M7) fun r11 M10 =>
        some (r11, M10)
      else
        bd (f_X5_pacesOf x1 x2 M7) fun r9 M8 =>
        some (r9, M8)
    else
      some ((-2 : Int32), M5)
  else
    some ((-11 : Int32), M3)
set_option maxRecDepth 100000 in
set_option maxHeartbeats 4000000 in
theorem jf_X5_eaten_j30 {G : wn_G} {ad : Nat → Nat} {X : wn_X} {d : Nat} (O : Ok G RX5 cX5_eaten 3 d X) (hd0 : 8 ≤ d) (x1 : Int32) (x2 : Int32) (M : Mm) : JW G S1 ad X 30 [(0, .ref (ad 0)), (1, .int x1), (2, .int x2)] [] M (f_X5_eaten_j30 x1 x2 M) (Kri G S1 ad X) := by
  unfold f_X5_eaten_j30
  refine j_aload_n (pc := 30) O 0 dX5_eaten_30 rfl ?_
  refine j_getf (pc := 31) (v := .ref (ad 5)) O 0 5 dX5_eaten_31 fl_X5_36 so_S1_0 rfl rfl ?_
  refine j_iload_n (pc := 34) O 1 dX5_eaten_34 rfl ?_
  refine j_callVi (pc := 35) (dc := 2) (As := [.int x1]) (rest := []) O 5 (fun r M1 h => sp_X1_isMissing h) dX5_eaten_35 mv_X1_isMissing lm_X5_136 so_S1_5 rfl rfl (Nat.le_of_ble_eq_true rfl) (Nat.le_trans (Nat.le_of_ble_eq_true rfl) hd0) (fun r4 M3 => ?_)
  refine j_if_eq (pc := 38) (tgt := 44) O dX5_eaten_38 (by decide) ?_ ?_
  · refine j_aload_n (pc := 44) O 0 dX5_eaten_44 rfl ?_
    refine j_getf (pc := 45) (v := .ref (ad 5)) O 0 5 dX5_eaten_45 fl_X5_36 so_S1_0 rfl rfl ?_
    refine j_iload_n (pc := 48) O 1 dX5_eaten_48 rfl ?_
    refine j_callVi (pc := 49) (dc := 2) (As := [.int x1]) (rest := []) O 5 (fun r M1 h => sp_X1_sizeOf h) dX5_eaten_49 mv_X1_sizeOf lm_X5_142 so_S1_5 rfl rfl (Nat.le_of_ble_eq_true rfl) (Nat.le_trans (Nat.le_of_ble_eq_true rfl) hd0) (fun r6 M5 => ?_)
    refine j_aload_n (pc := 52) O 0 dX5_eaten_52 rfl ?_
    refine j_getf (pc := 53) (v := .ref (ad 1)) O 0 0 dX5_eaten_53 fl_X5_10 so_S1_0 rfl rfl ?_
    refine j_getf (pc := 56) (v := .int (M5.1 1 3)) O 1 3 dX5_eaten_56 fl_X5_158 so_S1_1 rfl rfl ?_
    refine j_icmp_eq (pc := 59) (tgt := 65) O dX5_eaten_59 (by decide) ?_ ?_
    · refine j_aload_n (pc := 65) O 0 dX5_eaten_65 rfl ?_
      refine j_getf (pc := 66) (v := .ref (ad 6)) O 0 6 dX5_eaten_66 fl_X5_45 so_S1_0 rfl rfl ?_
      refine j_aload_n (pc := 69) O 0 dX5_eaten_69 rfl ?_
      refine j_getf (pc := 70) (v := .ref (ad 1)) O 0 0 dX5_eaten_70 fl_X5_10 so_S1_0 rfl rfl ?_
      refine j_getf (pc := 73) (v := .int (M5.1 1 1)) O 1 1 dX5_eaten_73 fl_X5_97 so_S1_1 rfl rfl ?_
      refine j_callVv (pc := 76) (dc := 4) (As := [.int (M5.1 1 1)]) (rest := []) O 6 (fun M1 h => sp_X2_lay h) dX5_eaten_76 mv_X2_lay lm_X5_101 so_S1_6 rfl rfl (Nat.le_of_ble_eq_true rfl) (Nat.le_trans (Nat.le_of_ble_eq_true rfl) hd0) (fun M7 => ?_)
      refine j_iload_n (pc := 79) O 2 dX5_eaten_79 rfl ?_
      refine j_iconst (pc := 80) (v := -1) O dX5_eaten_80 (by decide) ?_
      refine j_icmp_ne (pc := 81) (tgt := 92) O dX5_eaten_81 (by decide) ?_ ?_
      · refine j_aload_n (pc := 84) O 0 dX5_eaten_84 rfl ?_
        refine j_iload_n (pc := 85) O 1 dX5_eaten_85 rfl ?_
        refine j_callVi (pc := 86) (dc := 7) (As := [.int x1]) (rest := []) O 0 (fun r M1 h => sp_X5_notSo h) dX5_eaten_86 mv_X5_notSo lm_X5_184 so_S1_0 rfl rfl (Nat.le_of_ble_eq_true rfl) (Nat.le_trans (Nat.le_of_ble_eq_true rfl) hd0) (fun r11 M10 => ?_)
        refine j_goto (pc := 89) (tgt := 98) O dX5_eaten_89 (by decide) ?_
        exact j_iret (pc := 98) O dX5_eaten_98
      · refine j_aload_n (pc := 92) O 0 dX5_eaten_92 rfl ?_
        refine j_iload_n (pc := 93) O 1 dX5_eaten_93 rfl ?_
        refine j_iload_n (pc := 94) O 2 dX5_eaten_94 rfl ?_
        refine j_callVi (pc := 95) (dc := 7) (As := [.int x1, .int x2]) (rest := []) O 0 (fun r M1 h => sp_X5_pacesOf h) dX5_eaten_95 mv_X5_pacesOf lm_X5_187 so_S1_0 rfl rfl (Nat.le_of_ble_eq_true rfl) (Nat.le_trans (Nat.le_of_ble_eq_true rfl) hd0) (fun r9 M8 => ?_)
        exact j_iret (pc := 98) O dX5_eaten_98
    · refine j_bipush (pc := 62) (v := -2) O dX5_eaten_62 (by decide) ?_
      exact j_iret (pc := 64) O dX5_eaten_64
  · refine j_bipush (pc := 41) (v := -11) O dX5_eaten_41 (by decide) ?_
    exact j_iret (pc := 43) O dX5_eaten_43
def f_X5_eaten (x1 : Int32) (x2 : Int32) (M : Mm) : Option (Int32 × Mm) :=
  bd (f_X1_has x1 M) fun r2 M1 =>
  if r2 = 0 then
    some ((-2 : Int32), M1)
  else
    if x2 = (-1 : Int32) then
      f_X5_eaten_j30 x1 x2 M1
    else
      bd (f_X3_has_1 x2 M1) fun r13 M12 =>
      if r13 = 0 then
        some ((-2 : Int32), M12)
      else
        f_X5_eaten_j30 x1 x2 M12
set_option maxRecDepth 100000 in
set_option maxHeartbeats 4000000 in
theorem jf_X5_eaten {G : wn_G} {ad : Nat → Nat} {X : wn_X} {d : Nat} (O : Ok G RX5 cX5_eaten 3 d X) (hd0 : 8 ≤ d) (x1 : Int32) (x2 : Int32) (M : Mm) : JW G S1 ad X 0 [(0, .ref (ad 0)), (1, .int x1), (2, .int x2)] [] M (f_X5_eaten x1 x2 M) (Kri G S1 ad X) := by
  unfold f_X5_eaten
  refine j_aload_n (pc := 0) O 0 dX5_eaten_0 rfl ?_
  refine j_getf (pc := 1) (v := .ref (ad 5)) O 0 5 dX5_eaten_1 fl_X5_36 so_S1_0 rfl rfl ?_
  refine j_iload_n (pc := 4) O 1 dX5_eaten_4 rfl ?_
  refine j_callVi (pc := 5) (dc := 1) (As := [.int x1]) (rest := []) O 5 (fun r M1 h => sp_X1_has h) dX5_eaten_5 mv_X1_has lm_X5_183 so_S1_5 rfl rfl (Nat.le_of_ble_eq_true rfl) (Nat.le_trans (Nat.le_of_ble_eq_true rfl) hd0) (fun r2 M1 => ?_)
  refine j_if_eq (pc := 8) (tgt := 27) O dX5_eaten_8 (by decide) ?_ ?_
  · refine j_bipush (pc := 27) (v := -2) O dX5_eaten_27 (by decide) ?_
    exact j_iret (pc := 29) O dX5_eaten_29
  · refine j_iload_n (pc := 11) O 2 dX5_eaten_11 rfl ?_
    refine j_iconst (pc := 12) (v := -1) O dX5_eaten_12 (by decide) ?_
    refine j_icmp_eq (pc := 13) (tgt := 30) O dX5_eaten_13 (by decide) ?_ ?_
    · exact jw_sub [0, 1, 2] rfl (jf_X5_eaten_j30 O hd0 x1 x2 M1)
    · refine j_aload_n (pc := 16) O 0 dX5_eaten_16 rfl ?_
      refine j_getf (pc := 17) (v := .ref (ad 1)) O 0 0 dX5_eaten_17 fl_X5_10 so_S1_0 rfl rfl ?_
      refine j_iload_n (pc := 20) O 2 dX5_eaten_20 rfl ?_
      refine j_callVi (pc := 21) (dc := 1) (As := [.int x2]) (rest := []) O 1 (fun r M1 h => sp_X3_has_1 h) dX5_eaten_21 mv_X3_has lm_X5_77 so_S1_1 rfl rfl (Nat.le_of_ble_eq_true rfl) (Nat.le_trans (Nat.le_of_ble_eq_true rfl) hd0) (fun r13 M12 => ?_)
      refine j_if_ne (pc := 24) (tgt := 30) O dX5_eaten_24 (by decide) ?_ ?_
      · refine j_bipush (pc := 27) (v := -2) O dX5_eaten_27 (by decide) ?_
        exact j_iret (pc := 29) O dX5_eaten_29
      · exact jw_sub [0, 1, 2] rfl (jf_X5_eaten_j30 O hd0 x1 x2 M12)
theorem sp_X5_eaten {G : wn_G} {ad : Nat → Nat} {x1 : Int32} {x2 : Int32} {M : Mm} {r : Int32} {M1 : Mm} (h : f_X5_eaten x1 x2 M = some (r, M1)) : Sp G S1 ad mX5_eaten 8 [.ref (ad 0), .int x1, .int x2] M M1 (some (.int r)) :=
  sp_intro (own := RX5) (by decide +kernel) rfl (Nat.le_of_ble_eq_true rfl) (fun X O T => jf_X5_eaten O (Nat.le_refl _) x1 x2 M (r, M1) h T)
def f_X6_isEatenSo_j22 (x1 : Int32) (x2 : Int32) (s0 : Int32) (M : Mm) : Option (Int32 × Mm) :=
  gd (bin (((40 : Int32) * x1) + x2) 160 = true) inferInstance <|
  if s0 = (M.1 19 (Int32.toNatClampNeg (((40 : Int32) * x1) + x2))) then
    some (1, M)
  else
    some (0, M)
set_option maxRecDepth 100000 in
set_option maxHeartbeats 4000000 in
theorem jf_X6_isEatenSo_j22 {G : wn_G} {ad : Nat → Nat} {X : wn_X} {d : Nat} (O : Ok G RX6 cX6_isEatenSo 4 d X) (hd0 : 1 ≤ d) (x1 : Int32) (x2 : Int32) (s0 : Int32) (M : Mm) : JW G S2 ad X 22 [(0, .ref (ad 0)), (1, .int x1), (2, .int x2)] [.int s0] M (f_X6_isEatenSo_j22 x1 x2 s0 M) (Krz G S2 ad X) := by
  unfold f_X6_isEatenSo_j22
  refine j_istore_n (pc := 22) (L' := [(3, .int s0), (0, .ref (ad 0)), (1, .int x1), (2, .int x2)]) O dX6_isEatenSo_22 (by decide) rfl ?_
  refine j_iload_n (pc := 23) O 0 dX6_isEatenSo_23 rfl ?_
  refine j_aload_n (pc := 24) O 1 dX6_isEatenSo_24 rfl ?_
  refine j_getf (pc := 25) (v := .ref (ad 19)) O 0 51 dX6_isEatenSo_25 fl_X6_81 so_S2_0 rfl rfl ?_
  refine j_bipush (pc := 28) (v := 40) O dX6_isEatenSo_28 (by decide) ?_
  refine j_iload_n (pc := 30) O 2 dX6_isEatenSo_30 rfl ?_
  refine j_imul (pc := 31) O dX6_isEatenSo_31 ?_
  refine j_iload_n (pc := 32) O 3 dX6_isEatenSo_32 rfl ?_
  refine j_iadd (pc := 33) O dX6_isEatenSo_33 ?_
  refine j_iald (pc := 34) O 19 dX6_isEatenSo_34 so_S2_19 ?_
  refine j_icmp_ne (pc := 35) (tgt := 42) O dX6_isEatenSo_35 (by decide) ?_ ?_
  · refine j_iconst (pc := 38) (v := 1) O dX6_isEatenSo_38 (by decide) ?_
    refine j_goto (pc := 39) (tgt := 43) O dX6_isEatenSo_39 (by decide) ?_
    exact j_z1 (pc := 43) O dX6_isEatenSo_43
  · refine j_iconst (pc := 42) (v := 0) O dX6_isEatenSo_42 (by decide) ?_
    exact j_z0 (pc := 43) O dX6_isEatenSo_43
def f_X6_isEatenSo (x1 : Int32) (x2 : Int32) (M : Mm) : Option (Int32 × Mm) :=
  gd (bin x2 5 = true) inferInstance <|
  if (M.1 9 (Int32.toNatClampNeg x2)) < (60 : Int32) then
    gd (bin x2 5 = true) inferInstance <|
    f_X6_isEatenSo_j22 x1 x2 (M.1 9 (Int32.toNatClampNeg x2)) M
  else
    f_X6_isEatenSo_j22 x1 x2 (60 : Int32) M
set_option maxRecDepth 100000 in
set_option maxHeartbeats 4000000 in
theorem jf_X6_isEatenSo {G : wn_G} {ad : Nat → Nat} {X : wn_X} {d : Nat} (O : Ok G RX6 cX6_isEatenSo 4 d X) (hd0 : 1 ≤ d) (x1 : Int32) (x2 : Int32) (M : Mm) : JW G S2 ad X 0 [(0, .ref (ad 0)), (1, .int x1), (2, .int x2)] [] M (f_X6_isEatenSo x1 x2 M) (Krz G S2 ad X) := by
  unfold f_X6_isEatenSo
  refine j_aload_n (pc := 0) O 0 dX6_isEatenSo_0 rfl ?_
  refine j_getf (pc := 1) (v := .ref (ad 9)) O 0 31 dX6_isEatenSo_1 fl_X6_47 so_S2_0 rfl rfl ?_
  refine j_iload_n (pc := 4) O 2 dX6_isEatenSo_4 rfl ?_
  refine j_iald (pc := 5) O 9 dX6_isEatenSo_5 so_S2_9 ?_
  refine j_bipush (pc := 6) (v := 60) O dX6_isEatenSo_6 (by decide) ?_
  refine j_icmp_lt (pc := 8) (tgt := 16) O dX6_isEatenSo_8 (by decide) ?_ ?_
  · refine j_aload_n (pc := 16) O 0 dX6_isEatenSo_16 rfl ?_
    refine j_getf (pc := 17) (v := .ref (ad 9)) O 0 31 dX6_isEatenSo_17 fl_X6_47 so_S2_0 rfl rfl ?_
    refine j_iload_n (pc := 20) O 2 dX6_isEatenSo_20 rfl ?_
    refine j_iald (pc := 21) O 9 dX6_isEatenSo_21 so_S2_9 ?_
    exact jw_sub [0, 1, 2] rfl (jf_X6_isEatenSo_j22 O hd0 x1 x2 (M.1 9 (Int32.toNatClampNeg x2)) M)
  · refine j_bipush (pc := 11) (v := 60) O dX6_isEatenSo_11 (by decide) ?_
    refine j_goto (pc := 13) (tgt := 22) O dX6_isEatenSo_13 (by decide) ?_
    exact jw_sub [0, 1, 2] rfl (jf_X6_isEatenSo_j22 O hd0 x1 x2 (60 : Int32) M)
theorem sp_X6_isEatenSo {G : wn_G} {ad : Nat → Nat} {x1 : Int32} {x2 : Int32} {M : Mm} {r : Int32} {M1 : Mm} (h : f_X6_isEatenSo x1 x2 M = some (r, M1)) : Sp G S2 ad mX6_isEatenSo 1 [.ref (ad 0), .int x1, .int x2] M M1 (some (.int r)) :=
  sp_intro (own := RX6) (by decide +kernel) rfl (Nat.le_of_ble_eq_true rfl) (fun X O T => jf_X6_isEatenSo O (Nat.le_refl _) x1 x2 M (r, M1) h T)
def h_X6_eaten_116 (G : wn_G) (ad : Nat → Nat) (X : wn_X) (x1 : Int32) (x2 : Int32) (x4 : Int32) : Int32 × Int32 × Mm → Prop := fun s => PW G S2 ad X 116 [(0, .ref (ad 0)), (1, .int x1), (2, .int x2), (3, .int s.1), (4, .int x4), (5, .int s.2.1)] [] s.2.2
def f_X6_eaten_b116 (x1 : Int32) (x2 : Int32) (x3 : Int32) (x4 : Int32) (x5 : Int32) (M : Mm) : Option ((Int32 × Int32 × Mm) ⊕ (Int32 × Mm)) :=
  if (20 : Int32) < x5 then
    ex (
    gd (bin x2 5 = true) inferInstance <| bm (ms M 7 (Int32.toNatClampNeg x2) x4) fun M4 =>
    some (x3, M4))
  else
    gd (bin x2 5 = true) inferInstance <| bm (ms M 7 (Int32.toNatClampNeg x2) x5) fun M5 =>
    bv (f_X6_sups (1 : Int32) (0 : Int32) M5) fun M6 =>
    bd (f_X6_isEatenSo x1 x2 M6) fun r8 M7 =>
    if r8 = 0 then
      bi (x3 ||| (isl (0 : Int32) x5)) fun y9 =>
      bi (x5 + (1 : Int32)) fun y10 =>
      some (.inl (y9, y10, M7))
    else
      bi (x3 ||| (isl (1 : Int32) x5)) fun y11 =>
      bi (x5 + (1 : Int32)) fun y12 =>
      some (.inl (y11, y12, M7))
set_option maxRecDepth 100000 in
set_option maxHeartbeats 4000000 in
theorem jf_X6_eaten_b116 {G : wn_G} {ad : Nat → Nat} {X : wn_X} {d : Nat} (O : Ok G RX6 cX6_eaten 6 d X) (hd0 : 112 ≤ d) (x1 : Int32) (x2 : Int32) (x3 : Int32) (x4 : Int32) (x5 : Int32) (M : Mm) : JW G S2 ad X 116 [(0, .ref (ad 0)), (1, .int x1), (2, .int x2), (3, .int x3), (4, .int x4), (5, .int x5)] [] M (f_X6_eaten_b116 x1 x2 x3 x4 x5 M) (Kl (h_X6_eaten_116 G ad X x1 x2 x4) (Kri G S2 ad X)) := by
  unfold f_X6_eaten_b116
  refine j_iload (pc := 116) O 5 dX6_eaten_116 rfl ?_
  refine j_bipush (pc := 118) (v := 20) O dX6_eaten_118 (by decide) ?_
  refine j_icmp_gt (pc := 120) (tgt := 163) O dX6_eaten_120 (by decide) ?_ ?_
  · refine jw_ex ?_
    refine j_aload_n (pc := 163) O 0 dX6_eaten_163 rfl ?_
    refine j_getf (pc := 164) (v := .ref (ad 7)) O 0 12 dX6_eaten_164 fl_X6_38 so_S2_0 rfl rfl ?_
    refine j_iload_n (pc := 167) O 2 dX6_eaten_167 rfl ?_
    refine j_iload (pc := 168) O 4 dX6_eaten_168 rfl ?_
    refine j_iast (pc := 170) O 7 dX6_eaten_170 so_S2_7 (fun M4 => ?_)
    refine j_iload_n (pc := 171) O 3 dX6_eaten_171 rfl ?_
    exact j_iret (pc := 172) O dX6_eaten_172
  · refine j_aload_n (pc := 123) O 0 dX6_eaten_123 rfl ?_
    refine j_getf (pc := 124) (v := .ref (ad 7)) O 0 12 dX6_eaten_124 fl_X6_38 so_S2_0 rfl rfl ?_
    refine j_iload_n (pc := 127) O 2 dX6_eaten_127 rfl ?_
    refine j_iload (pc := 128) O 5 dX6_eaten_128 rfl ?_
    refine j_iast (pc := 130) O 7 dX6_eaten_130 so_S2_7 (fun M5 => ?_)
    refine j_aload_n (pc := 131) O 0 dX6_eaten_131 rfl ?_
    refine j_iconst (pc := 132) (v := 1) O dX6_eaten_132 (by decide) ?_
    refine j_iconst (pc := 133) (v := 0) O dX6_eaten_133 (by decide) ?_
    refine j_callVv (pc := 134) (dc := 111) (As := [.int (1 : Int32), .int (0 : Int32)]) (rest := []) O 0 (fun M1 h => sp_X6_sups h) dX6_eaten_134 mv_X6_sups lm_X6_310 so_S2_0 rfl rfl (Nat.le_of_ble_eq_true rfl) (Nat.le_trans (Nat.le_of_ble_eq_true rfl) hd0) (fun M6 => ?_)
    refine j_iload_n (pc := 137) O 3 dX6_eaten_137 rfl ?_
    refine j_aload_n (pc := 138) O 0 dX6_eaten_138 rfl ?_
    refine j_iload_n (pc := 139) O 1 dX6_eaten_139 rfl ?_
    refine j_iload_n (pc := 140) O 2 dX6_eaten_140 rfl ?_
    refine j_callVi (pc := 141) (dc := 1) (As := [.int x1, .int x2]) (rest := [.int x3]) O 0 (fun r M1 h => sp_X6_isEatenSo h) dX6_eaten_141 mv_X6_isEatenSo lm_X6_337 so_S2_0 rfl rfl (Nat.le_of_ble_eq_true rfl) (Nat.le_trans (Nat.le_of_ble_eq_true rfl) hd0) (fun r8 M7 => ?_)
    refine j_if_eq (pc := 144) (tgt := 151) O dX6_eaten_144 (by decide) ?_ ?_
    · refine j_iconst (pc := 151) (v := 0) O dX6_eaten_151 (by decide) ?_
      refine j_iload (pc := 152) O 5 dX6_eaten_152 rfl ?_
      refine j_ishl (pc := 154) O dX6_eaten_154 ?_
      refine j_ior (pc := 155) O dX6_eaten_155 ?_
      refine jw_bi fun y9 => ?_
      refine j_istore_n (pc := 156) (L' := [(3, .int y9), (0, .ref (ad 0)), (1, .int x1), (2, .int x2), (4, .int x4), (5, .int x5)]) O dX6_eaten_156 (by decide) rfl ?_
      refine j_iinc (pc := 157) (v := 1) (L2 := fun y => [(5, .int y), (3, .int y9), (0, .ref (ad 0)), (1, .int x1), (2, .int x2), (4, .int x4)]) O 5 dX6_eaten_157 rfl (by decide) (by decide) (fun _ => rfl) (fun y10 => ?_)
      refine j_goto (pc := 160) (tgt := 116) O dX6_eaten_160 (by decide) ?_
      exact jw_next (fun hh => pw_sub [2, 3, 4, 1, 5, 0] rfl hh)
    · refine j_iconst (pc := 147) (v := 1) O dX6_eaten_147 (by decide) ?_
      refine j_goto (pc := 148) (tgt := 152) O dX6_eaten_148 (by decide) ?_
      refine j_iload (pc := 152) O 5 dX6_eaten_152 rfl ?_
      refine j_ishl (pc := 154) O dX6_eaten_154 ?_
      refine j_ior (pc := 155) O dX6_eaten_155 ?_
      refine jw_bi fun y11 => ?_
      refine j_istore_n (pc := 156) (L' := [(3, .int y11), (0, .ref (ad 0)), (1, .int x1), (2, .int x2), (4, .int x4), (5, .int x5)]) O dX6_eaten_156 (by decide) rfl ?_
      refine j_iinc (pc := 157) (v := 1) (L2 := fun y => [(5, .int y), (3, .int y11), (0, .ref (ad 0)), (1, .int x1), (2, .int x2), (4, .int x4)]) O 5 dX6_eaten_157 rfl (by decide) (by decide) (fun _ => rfl) (fun y12 => ?_)
      refine j_goto (pc := 160) (tgt := 116) O dX6_eaten_160 (by decide) ?_
      exact jw_next (fun hh => pw_sub [2, 3, 4, 1, 5, 0] rfl hh)
def h_X6_eaten_67 (G : wn_G) (ad : Nat → Nat) (X : wn_X) (x1 : Int32) : Int32 × Int32 × Mm → Prop := fun s => PW G S2 ad X 67 [(0, .ref (ad 0)), (1, .int x1), (3, .int s.1), (4, .int s.2.1)] [] s.2.2
def f_X6_eaten_b67 (x1 : Int32) (x3 : Int32) (x4 : Int32) (M : Mm) : Option ((Int32 × Int32 × Mm) ⊕ (Int32 × Mm)) :=
  if (M.1 0 13) ≤ x4 then
    ex (
    some (x3, M))
  else
    bd (f_X6_isEatenSo x1 x4 M) fun r15 M14 =>
    if r15 = 0 then
      bi (x3 ||| (isl (1 : Int32) x4)) fun y16 =>
      bi (x4 + (1 : Int32)) fun y17 =>
      some (.inl (y16, y17, M14))
    else
      bi (x3 ||| (isl (0 : Int32) x4)) fun y18 =>
      bi (x4 + (1 : Int32)) fun y19 =>
      some (.inl (y18, y19, M14))
set_option maxRecDepth 100000 in
set_option maxHeartbeats 4000000 in
theorem jf_X6_eaten_b67 {G : wn_G} {ad : Nat → Nat} {X : wn_X} {d : Nat} (O : Ok G RX6 cX6_eaten 6 d X) (hd0 : 112 ≤ d) (x1 : Int32) (x3 : Int32) (x4 : Int32) (M : Mm) : JW G S2 ad X 67 [(0, .ref (ad 0)), (1, .int x1), (3, .int x3), (4, .int x4)] [] M (f_X6_eaten_b67 x1 x3 x4 M) (Kl (h_X6_eaten_67 G ad X x1) (Kri G S2 ad X)) := by
  unfold f_X6_eaten_b67
  refine j_iload (pc := 67) O 3 dX6_eaten_67 rfl ?_
  refine j_aload_n (pc := 69) O 0 dX6_eaten_69 rfl ?_
  refine j_getf (pc := 70) (v := .int (M.1 0 13)) O 0 13 dX6_eaten_70 fl_X6_91 so_S2_0 rfl rfl ?_
  refine j_icmp_ge (pc := 73) (tgt := 103) O dX6_eaten_73 (by decide) ?_ ?_
  · refine jw_ex ?_
    refine j_iload_n (pc := 103) O 2 dX6_eaten_103 rfl ?_
    exact j_iret (pc := 104) O dX6_eaten_104
  · refine j_iload_n (pc := 76) O 2 dX6_eaten_76 rfl ?_
    refine j_aload_n (pc := 77) O 0 dX6_eaten_77 rfl ?_
    refine j_iload_n (pc := 78) O 1 dX6_eaten_78 rfl ?_
    refine j_iload (pc := 79) O 3 dX6_eaten_79 rfl ?_
    refine j_callVi (pc := 81) (dc := 1) (As := [.int x1, .int x4]) (rest := [.int x3]) O 0 (fun r M1 h => sp_X6_isEatenSo h) dX6_eaten_81 mv_X6_isEatenSo lm_X6_337 so_S2_0 rfl rfl (Nat.le_of_ble_eq_true rfl) (Nat.le_trans (Nat.le_of_ble_eq_true rfl) hd0) (fun r15 M14 => ?_)
    refine j_if_eq (pc := 84) (tgt := 91) O dX6_eaten_84 (by decide) ?_ ?_
    · refine j_iconst (pc := 91) (v := 1) O dX6_eaten_91 (by decide) ?_
      refine j_iload (pc := 92) O 3 dX6_eaten_92 rfl ?_
      refine j_ishl (pc := 94) O dX6_eaten_94 ?_
      refine j_ior (pc := 95) O dX6_eaten_95 ?_
      refine jw_bi fun y16 => ?_
      refine j_istore_n (pc := 96) (L' := [(3, .int y16), (0, .ref (ad 0)), (1, .int x1), (4, .int x4)]) O dX6_eaten_96 (by decide) rfl ?_
      refine j_iinc (pc := 97) (v := 1) (L2 := fun y => [(4, .int y), (3, .int y16), (0, .ref (ad 0)), (1, .int x1)]) O 3 dX6_eaten_97 rfl (by decide) (by decide) (fun _ => rfl) (fun y17 => ?_)
      refine j_goto (pc := 100) (tgt := 67) O dX6_eaten_100 (by decide) ?_
      exact jw_next (fun hh => pw_sub [2, 3, 1, 0] rfl hh)
    · refine j_iconst (pc := 87) (v := 0) O dX6_eaten_87 (by decide) ?_
      refine j_goto (pc := 88) (tgt := 92) O dX6_eaten_88 (by decide) ?_
      refine j_iload (pc := 92) O 3 dX6_eaten_92 rfl ?_
      refine j_ishl (pc := 94) O dX6_eaten_94 ?_
      refine j_ior (pc := 95) O dX6_eaten_95 ?_
      refine jw_bi fun y18 => ?_
      refine j_istore_n (pc := 96) (L' := [(3, .int y18), (0, .ref (ad 0)), (1, .int x1), (4, .int x4)]) O dX6_eaten_96 (by decide) rfl ?_
      refine j_iinc (pc := 97) (v := 1) (L2 := fun y => [(4, .int y), (3, .int y18), (0, .ref (ad 0)), (1, .int x1)]) O 3 dX6_eaten_97 rfl (by decide) (by decide) (fun _ => rfl) (fun y19 => ?_)
      refine j_goto (pc := 100) (tgt := 67) O dX6_eaten_100 (by decide) ?_
      exact jw_next (fun hh => pw_sub [2, 3, 1, 0] rfl hh)
def f_X6_eaten_j23 (x1 : Int32) (x2 : Int32) (M : Mm) : Option (Int32 × Mm) :=
  gd (bin x1 4 = true) inferInstance <|
  if (M.1 16 (Int32.toNatClampNeg x1)) = 0 then
    some ((-11 : Int32), M)
  else
    gd (bin x1 4 = true) inferInstance <|
    if (M.1 18 (Int32.toNatClampNeg x1)) = (M.1 0 13) then
      if x2 = (-1 : Int32) then
        bv (f_X6_sups (1 : Int32) (0 : Int32) M) fun M13 =>
        iter (fun s => f_X6_eaten_b67 x1 s.1 s.2.1 s.2.2) fuel ((0 : Int32), (0 : Int32), M13)
      else
        gd (bin x2 5 = true) inferInstance <|
        bi (M.1 7 (Int32.toNatClampNeg x2)) fun y3 =>
        iter (fun s => f_X6_eaten_b116 x1 x2 s.1 y3 s.2.1 s.2.2) fuel ((0 : Int32), (1 : Int32), M)
    else
      some ((-2 : Int32), M)
set_option maxRecDepth 100000 in
set_option maxHeartbeats 4000000 in
theorem jf_X6_eaten_j23 {G : wn_G} {ad : Nat → Nat} {X : wn_X} {d : Nat} (O : Ok G RX6 cX6_eaten 6 d X) (hd0 : 112 ≤ d) (x1 : Int32) (x2 : Int32) (M : Mm) : JW G S2 ad X 23 [(0, .ref (ad 0)), (1, .int x1), (2, .int x2)] [] M (f_X6_eaten_j23 x1 x2 M) (Kri G S2 ad X) := by
  unfold f_X6_eaten_j23
  refine j_aload_n (pc := 23) O 0 dX6_eaten_23 rfl ?_
  refine j_getf (pc := 24) (v := .ref (ad 16)) O 0 48 dX6_eaten_24 fl_X6_71 so_S2_0 rfl rfl ?_
  refine j_iload_n (pc := 27) O 1 dX6_eaten_27 rfl ?_
  refine j_zald (pc := 28) O 16 dX6_eaten_28 so_S2_16 ?_
  refine j_if_ne (pc := 29) (tgt := 35) O dX6_eaten_29 (by decide) ?_ ?_
  · refine j_bipush (pc := 32) (v := -11) O dX6_eaten_32 (by decide) ?_
    exact j_iret (pc := 34) O dX6_eaten_34
  · refine j_aload_n (pc := 35) O 0 dX6_eaten_35 rfl ?_
    refine j_getf (pc := 36) (v := .ref (ad 18)) O 0 50 dX6_eaten_36 fl_X6_78 so_S2_0 rfl rfl ?_
    refine j_iload_n (pc := 39) O 1 dX6_eaten_39 rfl ?_
    refine j_iald (pc := 40) O 18 dX6_eaten_40 so_S2_18 ?_
    refine j_aload_n (pc := 41) O 0 dX6_eaten_41 rfl ?_
    refine j_getf (pc := 42) (v := .int (M.1 0 13)) O 0 13 dX6_eaten_42 fl_X6_91 so_S2_0 rfl rfl ?_
    refine j_icmp_eq (pc := 45) (tgt := 51) O dX6_eaten_45 (by decide) ?_ ?_
    · refine j_iconst (pc := 51) (v := 0) O dX6_eaten_51 (by decide) ?_
      refine j_istore_n (pc := 52) (L' := [(3, .int (0 : Int32)), (0, .ref (ad 0)), (1, .int x1), (2, .int x2)]) O dX6_eaten_52 (by decide) rfl ?_
      refine j_iload_n (pc := 53) O 3 dX6_eaten_53 rfl ?_
      refine j_iconst (pc := 54) (v := -1) O dX6_eaten_54 (by decide) ?_
      refine j_icmp_ne (pc := 55) (tgt := 105) O dX6_eaten_55 (by decide) ?_ ?_
      · refine j_aload_n (pc := 58) O 1 dX6_eaten_58 rfl ?_
        refine j_iconst (pc := 59) (v := 1) O dX6_eaten_59 (by decide) ?_
        refine j_iconst (pc := 60) (v := 0) O dX6_eaten_60 (by decide) ?_
        refine j_callVv (pc := 61) (dc := 111) (As := [.int (1 : Int32), .int (0 : Int32)]) (rest := []) O 0 (fun M1 h => sp_X6_sups h) dX6_eaten_61 mv_X6_sups lm_X6_310 so_S2_0 rfl rfl (Nat.le_of_ble_eq_true rfl) (Nat.le_trans (Nat.le_of_ble_eq_true rfl) hd0) (fun M13 => ?_)
        refine j_iconst (pc := 64) (v := 0) O dX6_eaten_64 (by decide) ?_
        refine j_istore (pc := 65) (L' := [(4, .int (0 : Int32)), (3, .int (0 : Int32)), (0, .ref (ad 0)), (1, .int x1), (2, .int x2)]) O dX6_eaten_65 (by decide) rfl ?_
        exact jw_iter (hd := h_X6_eaten_67 G ad X x1) (fun hh => pw_sub [2, 3, 1, 0] rfl hh) (fun s => jf_X6_eaten_b67 O hd0 x1 s.1 s.2.1 s.2.2)
      · refine j_aload_n (pc := 105) O 1 dX6_eaten_105 rfl ?_
        refine j_getf (pc := 106) (v := .ref (ad 7)) O 0 12 dX6_eaten_106 fl_X6_38 so_S2_0 rfl rfl ?_
        refine j_iload_n (pc := 109) O 3 dX6_eaten_109 rfl ?_
        refine j_iald (pc := 110) O 7 dX6_eaten_110 so_S2_7 ?_
        refine jw_bi fun y3 => ?_
        refine j_istore (pc := 111) (L' := [(4, .int y3), (3, .int (0 : Int32)), (0, .ref (ad 0)), (1, .int x1), (2, .int x2)]) O dX6_eaten_111 (by decide) rfl ?_
        refine j_iconst (pc := 113) (v := 1) O dX6_eaten_113 (by decide) ?_
        refine j_istore (pc := 114) (L' := [(5, .int (1 : Int32)), (4, .int y3), (3, .int (0 : Int32)), (0, .ref (ad 0)), (1, .int x1), (2, .int x2)]) O dX6_eaten_114 (by decide) rfl ?_
        exact jw_iter (hd := h_X6_eaten_116 G ad X x1 x2 y3) (fun hh => pw_sub [3, 4, 5, 2, 1, 0] rfl hh) (fun s => jf_X6_eaten_b116 O hd0 x1 x2 s.1 y3 s.2.1 s.2.2)
    · refine j_bipush (pc := 48) (v := -2) O dX6_eaten_48 (by decide) ?_
      exact j_iret (pc := 50) O dX6_eaten_50
def f_X6_eaten (x1 : Int32) (x2 : Int32) (M : Mm) : Option (Int32 × Mm) :=
  bd (f_X6_isSheet x1 M) fun r2 M1 =>
  if r2 = 0 then
    some ((-2 : Int32), M1)
  else
    if x2 = (-1 : Int32) then
      f_X6_eaten_j23 x1 x2 M1
    else
      bd (f_X6_isEater x2 M1) fun r21 M20 =>
      if r21 = 0 then
        some ((-2 : Int32), M20)
      else
        f_X6_eaten_j23 x1 x2 M20
set_option maxRecDepth 100000 in
set_option maxHeartbeats 4000000 in
theorem jf_X6_eaten {G : wn_G} {ad : Nat → Nat} {X : wn_X} {d : Nat} (O : Ok G RX6 cX6_eaten 6 d X) (hd0 : 112 ≤ d) (x1 : Int32) (x2 : Int32) (M : Mm) : JW G S2 ad X 0 [(0, .ref (ad 0)), (1, .int x1), (2, .int x2)] [] M (f_X6_eaten x1 x2 M) (Kri G S2 ad X) := by
  unfold f_X6_eaten
  refine j_iload_n (pc := 0) O 1 dX6_eaten_0 rfl ?_
  refine j_callSi (pc := 1) (dc := 2) (As := [.int x1]) (rest := []) O (fun r M1 h => sp_X6_isSheet h) dX6_eaten_1 mst_X6_isSheet lm_X6_303 rfl rfl (Nat.le_of_ble_eq_true rfl) (Nat.le_trans (Nat.le_of_ble_eq_true rfl) hd0) (fun r2 M1 => ?_)
  refine j_if_eq (pc := 4) (tgt := 20) O dX6_eaten_4 (by decide) ?_ ?_
  · refine j_bipush (pc := 20) (v := -2) O dX6_eaten_20 (by decide) ?_
    exact j_iret (pc := 22) O dX6_eaten_22
  · refine j_iload_n (pc := 7) O 2 dX6_eaten_7 rfl ?_
    refine j_iconst (pc := 8) (v := -1) O dX6_eaten_8 (by decide) ?_
    refine j_icmp_eq (pc := 9) (tgt := 23) O dX6_eaten_9 (by decide) ?_ ?_
    · exact jw_sub [0, 1, 2] rfl (jf_X6_eaten_j23 O hd0 x1 x2 M1)
    · refine j_aload_n (pc := 12) O 0 dX6_eaten_12 rfl ?_
      refine j_iload_n (pc := 13) O 2 dX6_eaten_13 rfl ?_
      refine j_callVi (pc := 14) (dc := 2) (As := [.int x2]) (rest := []) O 0 (fun r M1 h => sp_X6_isEater h) dX6_eaten_14 mv_X6_isEater lm_X6_100 so_S2_0 rfl rfl (Nat.le_of_ble_eq_true rfl) (Nat.le_trans (Nat.le_of_ble_eq_true rfl) hd0) (fun r21 M20 => ?_)
      refine j_if_ne (pc := 17) (tgt := 23) O dX6_eaten_17 (by decide) ?_ ?_
      · refine j_bipush (pc := 20) (v := -2) O dX6_eaten_20 (by decide) ?_
        exact j_iret (pc := 22) O dX6_eaten_22
      · exact jw_sub [0, 1, 2] rfl (jf_X6_eaten_j23 O hd0 x1 x2 M20)
theorem sp_X6_eaten {G : wn_G} {ad : Nat → Nat} {x1 : Int32} {x2 : Int32} {M : Mm} {r : Int32} {M1 : Mm} (h : f_X6_eaten x1 x2 M = some (r, M1)) : Sp G S2 ad mX6_eaten 112 [.ref (ad 0), .int x1, .int x2] M M1 (some (.int r)) :=
  sp_intro (own := RX6) (by decide +kernel) rfl (Nat.le_of_ble_eq_true rfl) (fun X O T => jf_X6_eaten O (Nat.le_refl _) x1 x2 M (r, M1) h T)
def h_X1_lay_36 (G : wn_G) (ad : Nat → Nat) (X : wn_X) (x1 : Int32) (x3 : Int32) : Int32 × Mm → Prop := fun s => PW G S1 ad X 36 [(0, .ref (ad 5)), (1, .int x1), (3, .int x3), (4, .int s.1)] [] s.2
def f_X1_lay_b36 (x1 : Int32) (x3 : Int32) (x4 : Int32) (M : Mm) : Option ((Int32 × Mm) ⊕ (Mm)) :=
  if x3 ≤ x4 then
    ex (
    some M)
  else
    gd (bin ((x1 * (40 : Int32)) + x4) 160 = true) inferInstance <| bm (ms M 24 (Int32.toNatClampNeg ((x1 * (40 : Int32)) + x4)) (0 : Int32)) fun M5 =>
    bi (x4 + (1 : Int32)) fun y6 =>
    some (.inl (y6, M5))
set_option maxRecDepth 100000 in
set_option maxHeartbeats 4000000 in
theorem jf_X1_lay_b36 {G : wn_G} {ad : Nat → Nat} {X : wn_X} {d : Nat} (O : Ok G RX1 cX1_lay 5 d X) (hd0 : 2 ≤ d) (x1 : Int32) (x3 : Int32) (x4 : Int32) (M : Mm) : JW G S1 ad X 36 [(0, .ref (ad 5)), (1, .int x1), (3, .int x3), (4, .int x4)] [] M (f_X1_lay_b36 x1 x3 x4 M) (Kl (h_X1_lay_36 G ad X x1 x3) (Krv G S1 ad X)) := by
  unfold f_X1_lay_b36
  refine j_iload (pc := 36) O 3 dX1_lay_36 rfl ?_
  refine j_iload_n (pc := 38) O 2 dX1_lay_38 rfl ?_
  refine j_icmp_ge (pc := 39) (tgt := 61) O dX1_lay_39 (by decide) ?_ ?_
  · refine jw_ex ?_
    exact j_vret (pc := 61) O dX1_lay_61
  · refine j_aload_n (pc := 42) O 0 dX1_lay_42 rfl ?_
    refine j_getf (pc := 43) (v := .ref (ad 24)) O 5 2 dX1_lay_43 fl_X1_18 so_S1_5 rfl rfl ?_
    refine j_iload_n (pc := 46) O 1 dX1_lay_46 rfl ?_
    refine j_bipush (pc := 47) (v := 40) O dX1_lay_47 (by decide) ?_
    refine j_imul (pc := 49) O dX1_lay_49 ?_
    refine j_iload (pc := 50) O 3 dX1_lay_50 rfl ?_
    refine j_iadd (pc := 52) O dX1_lay_52 ?_
    refine j_iconst (pc := 53) (v := 0) O dX1_lay_53 (by decide) ?_
    refine j_iast (pc := 54) O 24 dX1_lay_54 so_S1_24 (fun M5 => ?_)
    refine j_iinc (pc := 55) (v := 1) (L2 := fun y => [(4, .int y), (0, .ref (ad 5)), (1, .int x1), (3, .int x3)]) O 3 dX1_lay_55 rfl (by decide) (by decide) (fun _ => rfl) (fun y6 => ?_)
    refine j_goto (pc := 58) (tgt := 36) O dX1_lay_58 (by decide) ?_
    exact jw_next (fun hh => pw_sub [1, 2, 3, 0] rfl hh)
def f_X1_lay (x1 : Int32) (x2 : Int32) (x3 : Int32) (M : Mm) : Option (Mm) :=
  bd (f_X1_has x1 M) fun r2 M1 =>
  if r2 = 0 then
    some M1
  else
    if x3 < 0 then
      some M1
    else
      if x3 ≤ (40 : Int32) then
        gd (bin x1 4 = true) inferInstance <| bm (ms M1 22 (Int32.toNatClampNeg x1) x2) fun M3 =>
        gd (bin x1 4 = true) inferInstance <| bm (ms M3 23 (Int32.toNatClampNeg x1) x3) fun M4 =>
        iter (fun s => f_X1_lay_b36 x1 x3 s.1 s.2) fuel ((0 : Int32), M4)
      else
        some M1
set_option maxRecDepth 100000 in
set_option maxHeartbeats 4000000 in
theorem jf_X1_lay {G : wn_G} {ad : Nat → Nat} {X : wn_X} {d : Nat} (O : Ok G RX1 cX1_lay 5 d X) (hd0 : 2 ≤ d) (x1 : Int32) (x2 : Int32) (x3 : Int32) (M : Mm) : JW G S1 ad X 0 [(0, .ref (ad 5)), (1, .int x1), (2, .int x2), (3, .int x3)] [] M (f_X1_lay x1 x2 x3 M) (Krv G S1 ad X) := by
  unfold f_X1_lay
  refine j_aload_n (pc := 0) O 0 dX1_lay_0 rfl ?_
  refine j_iload_n (pc := 1) O 1 dX1_lay_1 rfl ?_
  refine j_callVi (pc := 2) (dc := 1) (As := [.int x1]) (rest := []) O 5 (fun r M1 h => sp_X1_has h) dX1_lay_2 mv_X1_has lm_X1_21 so_S1_5 rfl rfl (Nat.le_of_ble_eq_true rfl) (Nat.le_trans (Nat.le_of_ble_eq_true rfl) hd0) (fun r2 M1 => ?_)
  refine j_if_eq (pc := 5) (tgt := 18) O dX1_lay_5 (by decide) ?_ ?_
  · exact j_vret (pc := 18) O dX1_lay_18
  · refine j_iload_n (pc := 8) O 3 dX1_lay_8 rfl ?_
    refine j_if_lt (pc := 9) (tgt := 18) O dX1_lay_9 (by decide) ?_ ?_
    · exact j_vret (pc := 18) O dX1_lay_18
    · refine j_iload_n (pc := 12) O 3 dX1_lay_12 rfl ?_
      refine j_bipush (pc := 13) (v := 40) O dX1_lay_13 (by decide) ?_
      refine j_icmp_le (pc := 15) (tgt := 19) O dX1_lay_15 (by decide) ?_ ?_
      · refine j_aload_n (pc := 19) O 0 dX1_lay_19 rfl ?_
        refine j_getf (pc := 20) (v := .ref (ad 22)) O 5 0 dX1_lay_20 fl_X1_9 so_S1_5 rfl rfl ?_
        refine j_iload_n (pc := 23) O 1 dX1_lay_23 rfl ?_
        refine j_iload_n (pc := 24) O 2 dX1_lay_24 rfl ?_
        refine j_iast (pc := 25) O 22 dX1_lay_25 so_S1_22 (fun M3 => ?_)
        refine j_aload_n (pc := 26) O 0 dX1_lay_26 rfl ?_
        refine j_getf (pc := 27) (v := .ref (ad 23)) O 5 1 dX1_lay_27 fl_X1_15 so_S1_5 rfl rfl ?_
        refine j_iload_n (pc := 30) O 1 dX1_lay_30 rfl ?_
        refine j_iload_n (pc := 31) O 3 dX1_lay_31 rfl ?_
        refine j_iast (pc := 32) O 23 dX1_lay_32 so_S1_23 (fun M4 => ?_)
        refine j_iconst (pc := 33) (v := 0) O dX1_lay_33 (by decide) ?_
        refine j_istore (pc := 34) (L' := [(4, .int (0 : Int32)), (0, .ref (ad 5)), (1, .int x1), (2, .int x2), (3, .int x3)]) O dX1_lay_34 (by decide) rfl ?_
        exact jw_iter (hd := h_X1_lay_36 G ad X x1 x3) (fun hh => pw_sub [1, 2, 4, 0] rfl hh) (fun s => jf_X1_lay_b36 O hd0 x1 x3 s.1 s.2)
      · exact j_vret (pc := 18) O dX1_lay_18
theorem sp_X1_lay {G : wn_G} {ad : Nat → Nat} {x1 : Int32} {x2 : Int32} {x3 : Int32} {M M1 : Mm} (h : f_X1_lay x1 x2 x3 M = some M1) : Sp G S1 ad mX1_lay 2 [.ref (ad 5), .int x1, .int x2, .int x3] M M1 none :=
  sp_intro (own := RX1) (by decide +kernel) rfl (Nat.le_of_ble_eq_true rfl) (fun X O T => jf_X1_lay O (Nat.le_refl _) x1 x2 x3 M M1 h T)
def f_X1_put_j44 (x1 : Int32) (x2 : Int32) (x4 : Int32) (M : Mm) : Option (Mm) :=
  gd (bin ((x1 * (40 : Int32)) + x2) 160 = true) inferInstance <| bm (ms M 24 (Int32.toNatClampNeg ((x1 * (40 : Int32)) + x2)) x4) fun M3 =>
  some M3
set_option maxRecDepth 100000 in
set_option maxHeartbeats 4000000 in
theorem jf_X1_put_j44 {G : wn_G} {ad : Nat → Nat} {X : wn_X} {d : Nat} (O : Ok G RX1 cX1_put 5 d X) (hd0 : 4 ≤ d) (x1 : Int32) (x2 : Int32) (x4 : Int32) (M : Mm) : JW G S1 ad X 44 [(0, .ref (ad 5)), (1, .int x1), (2, .int x2), (4, .int x4)] [] M (f_X1_put_j44 x1 x2 x4 M) (Krv G S1 ad X) := by
  unfold f_X1_put_j44
  refine j_aload_n (pc := 44) O 0 dX1_put_44 rfl ?_
  refine j_getf (pc := 45) (v := .ref (ad 24)) O 5 2 dX1_put_45 fl_X1_18 so_S1_5 rfl rfl ?_
  refine j_iload_n (pc := 48) O 1 dX1_put_48 rfl ?_
  refine j_bipush (pc := 49) (v := 40) O dX1_put_49 (by decide) ?_
  refine j_imul (pc := 51) O dX1_put_51 ?_
  refine j_iload_n (pc := 52) O 2 dX1_put_52 rfl ?_
  refine j_iadd (pc := 53) O dX1_put_53 ?_
  refine j_iload (pc := 54) O 3 dX1_put_54 rfl ?_
  refine j_iast (pc := 56) O 24 dX1_put_56 so_S1_24 (fun M3 => ?_)
  exact j_vret (pc := 57) O dX1_put_57
def f_X1_put (x1 : Int32) (x2 : Int32) (x3 : Int32) (M : Mm) : Option (Mm) :=
  bd (f_X1_spans x1 x2 (1 : Int32) M) fun r2 M1 =>
  if r2 = 0 then
    some M1
  else
    gd (bin x1 4 = true) inferInstance <|
    if (M1.1 22 (Int32.toNatClampNeg x1)) = 0 then
      bi (Int8.toInt32 (Int32.toInt8 x3)) fun y5 =>
      f_X1_put_j44 x1 x2 y5 M1
    else
      gd (bin x1 4 = true) inferInstance <|
      if (M1.1 22 (Int32.toNatClampNeg x1)) = (1 : Int32) then
        bi (Int16.toInt32 (Int32.toInt16 x3)) fun y4 =>
        f_X1_put_j44 x1 x2 y4 M1
      else
        f_X1_put_j44 x1 x2 x3 M1
set_option maxRecDepth 100000 in
set_option maxHeartbeats 4000000 in
theorem jf_X1_put {G : wn_G} {ad : Nat → Nat} {X : wn_X} {d : Nat} (O : Ok G RX1 cX1_put 5 d X) (hd0 : 4 ≤ d) (x1 : Int32) (x2 : Int32) (x3 : Int32) (M : Mm) : JW G S1 ad X 0 [(0, .ref (ad 5)), (1, .int x1), (2, .int x2), (3, .int x3)] [] M (f_X1_put x1 x2 x3 M) (Krv G S1 ad X) := by
  unfold f_X1_put
  refine j_aload_n (pc := 0) O 0 dX1_put_0 rfl ?_
  refine j_iload_n (pc := 1) O 1 dX1_put_1 rfl ?_
  refine j_iload_n (pc := 2) O 2 dX1_put_2 rfl ?_
  refine j_iconst (pc := 3) (v := 1) O dX1_put_3 (by decide) ?_
  refine j_callVi (pc := 4) (dc := 3) (As := [.int x1, .int x2, .int (1 : Int32)]) (rest := []) O 5 (fun r M1 h => sp_X1_spans h) dX1_put_4 mv_X1_spans lm_X1_29 so_S1_5 rfl rfl (Nat.le_of_ble_eq_true rfl) (Nat.le_trans (Nat.le_of_ble_eq_true rfl) hd0) (fun r2 M1 => ?_)
  refine j_if_ne (pc := 7) (tgt := 11) O dX1_put_7 (by decide) ?_ ?_
  · exact j_vret (pc := 10) O dX1_put_10
  · refine j_iload_n (pc := 11) O 3 dX1_put_11 rfl ?_
    refine j_istore (pc := 12) (L' := [(4, .int x3), (0, .ref (ad 5)), (1, .int x1), (2, .int x2), (3, .int x3)]) O dX1_put_12 (by decide) rfl ?_
    refine j_aload_n (pc := 14) O 1 dX1_put_14 rfl ?_
    refine j_getf (pc := 15) (v := .ref (ad 22)) O 5 0 dX1_put_15 fl_X1_9 so_S1_5 rfl rfl ?_
    refine j_iload_n (pc := 18) O 2 dX1_put_18 rfl ?_
    refine j_iald (pc := 19) O 22 dX1_put_19 so_S1_22 ?_
    refine j_if_ne (pc := 20) (tgt := 30) O dX1_put_20 (by decide) ?_ ?_
    · refine j_iload_n (pc := 23) O 4 dX1_put_23 rfl ?_
      refine j_i2b (pc := 24) O dX1_put_24 ?_
      refine jw_bi fun y5 => ?_
      refine j_istore (pc := 25) (L' := [(4, .int y5), (0, .ref (ad 5)), (1, .int x1), (2, .int x2), (3, .int x3)]) O dX1_put_25 (by decide) rfl ?_
      refine j_goto (pc := 27) (tgt := 44) O dX1_put_27 (by decide) ?_
      exact jw_sub [1, 2, 3, 0] rfl (jf_X1_put_j44 O hd0 x1 x2 y5 M1)
    · refine j_aload_n (pc := 30) O 1 dX1_put_30 rfl ?_
      refine j_getf (pc := 31) (v := .ref (ad 22)) O 5 0 dX1_put_31 fl_X1_9 so_S1_5 rfl rfl ?_
      refine j_iload_n (pc := 34) O 2 dX1_put_34 rfl ?_
      refine j_iald (pc := 35) O 22 dX1_put_35 so_S1_22 ?_
      refine j_iconst (pc := 36) (v := 1) O dX1_put_36 (by decide) ?_
      refine j_icmp_ne (pc := 37) (tgt := 44) O dX1_put_37 (by decide) ?_ ?_
      · refine j_iload_n (pc := 40) O 4 dX1_put_40 rfl ?_
        refine j_i2s (pc := 41) O dX1_put_41 ?_
        refine jw_bi fun y4 => ?_
        refine j_istore (pc := 42) (L' := [(4, .int y4), (0, .ref (ad 5)), (1, .int x1), (2, .int x2), (3, .int x3)]) O dX1_put_42 (by decide) rfl ?_
        exact jw_sub [1, 2, 3, 0] rfl (jf_X1_put_j44 O hd0 x1 x2 y4 M1)
      · exact jw_sub [1, 2, 3, 0] rfl (jf_X1_put_j44 O hd0 x1 x2 x3 M1)
theorem sp_X1_put {G : wn_G} {ad : Nat → Nat} {x1 : Int32} {x2 : Int32} {x3 : Int32} {M M1 : Mm} (h : f_X1_put x1 x2 x3 M = some M1) : Sp G S1 ad mX1_put 4 [.ref (ad 5), .int x1, .int x2, .int x3] M M1 none :=
  sp_intro (own := RX1) (by decide +kernel) rfl (Nat.le_of_ble_eq_true rfl) (fun X O T => jf_X1_put O (Nat.le_refl _) x1 x2 x3 M M1 h T)
def h_X5_film_64 (G : wn_G) (ad : Nat → Nat) (X : wn_X) (x1 : Int32) : Int32 × Mm → Prop := fun s => PW G S1 ad X 64 [(0, .ref (ad 0)), (1, .int x1), (3, .int s.1)] [] s.2
def f_X5_film_b64 (x1 : Int32) (x3 : Int32) (M : Mm) : Option ((Int32 × Mm) ⊕ (Int32 × Mm)) :=
  if (5 : Int32) ≤ x3 then
    ex (
    some ((M.1 1 3), M))
  else
    if (M.1 1 3) ≤ x3 then
      ex (
      some ((M.1 1 3), M))
    else
      gd (bin x3 5 = true) inferInstance <|
      bv (f_X1_put x1 x3 (M.1 29 (Int32.toNatClampNeg x3)) M) fun M6 =>
      bi (x3 + (1 : Int32)) fun y7 =>
      some (.inl (y7, M6))
set_option maxRecDepth 100000 in
set_option maxHeartbeats 4000000 in
theorem jf_X5_film_b64 {G : wn_G} {ad : Nat → Nat} {X : wn_X} {d : Nat} (O : Ok G RX5 cX5_film 4 d X) (hd0 : 7 ≤ d) (x1 : Int32) (x3 : Int32) (M : Mm) : JW G S1 ad X 64 [(0, .ref (ad 0)), (1, .int x1), (3, .int x3)] [] M (f_X5_film_b64 x1 x3 M) (Kl (h_X5_film_64 G ad X x1) (Kri G S1 ad X)) := by
  unfold f_X5_film_b64
  refine j_iload_n (pc := 64) O 2 dX5_film_64 rfl ?_
  refine j_iconst (pc := 65) (v := 5) O dX5_film_65 (by decide) ?_
  refine j_icmp_ge (pc := 66) (tgt := 104) O dX5_film_66 (by decide) ?_ ?_
  · refine jw_ex ?_
    refine j_aload_n (pc := 104) O 0 dX5_film_104 rfl ?_
    refine j_getf (pc := 105) (v := .ref (ad 1)) O 0 0 dX5_film_105 fl_X5_10 so_S1_0 rfl rfl ?_
    refine j_getf (pc := 108) (v := .int (M.1 1 3)) O 1 3 dX5_film_108 fl_X5_158 so_S1_1 rfl rfl ?_
    exact j_iret (pc := 111) O dX5_film_111
  · refine j_iload_n (pc := 69) O 2 dX5_film_69 rfl ?_
    refine j_aload_n (pc := 70) O 0 dX5_film_70 rfl ?_
    refine j_getf (pc := 71) (v := .ref (ad 1)) O 0 0 dX5_film_71 fl_X5_10 so_S1_0 rfl rfl ?_
    refine j_getf (pc := 74) (v := .int (M.1 1 3)) O 1 3 dX5_film_74 fl_X5_158 so_S1_1 rfl rfl ?_
    refine j_icmp_ge (pc := 77) (tgt := 104) O dX5_film_77 (by decide) ?_ ?_
    · refine jw_ex ?_
      refine j_aload_n (pc := 104) O 0 dX5_film_104 rfl ?_
      refine j_getf (pc := 105) (v := .ref (ad 1)) O 0 0 dX5_film_105 fl_X5_10 so_S1_0 rfl rfl ?_
      refine j_getf (pc := 108) (v := .int (M.1 1 3)) O 1 3 dX5_film_108 fl_X5_158 so_S1_1 rfl rfl ?_
      exact j_iret (pc := 111) O dX5_film_111
    · refine j_aload_n (pc := 80) O 0 dX5_film_80 rfl ?_
      refine j_getf (pc := 81) (v := .ref (ad 5)) O 0 5 dX5_film_81 fl_X5_36 so_S1_0 rfl rfl ?_
      refine j_iload_n (pc := 84) O 1 dX5_film_84 rfl ?_
      refine j_iload_n (pc := 85) O 2 dX5_film_85 rfl ?_
      refine j_aload_n (pc := 86) O 0 dX5_film_86 rfl ?_
      refine j_getf (pc := 87) (v := .ref (ad 6)) O 0 6 dX5_film_87 fl_X5_45 so_S1_0 rfl rfl ?_
      refine j_getf (pc := 90) (v := .ref (ad 29)) O 6 8 dX5_film_90 fl_X5_193 so_S1_6 rfl rfl ?_
      refine j_iload_n (pc := 93) O 2 dX5_film_93 rfl ?_
      refine j_iald (pc := 94) O 29 dX5_film_94 so_S1_29 ?_
      refine j_callVv (pc := 95) (dc := 4) (As := [.int x1, .int x3, .int (M.1 29 (Int32.toNatClampNeg x3))]) (rest := []) O 5 (fun M1 h => sp_X1_put h) dX5_film_95 mv_X1_put lm_X5_196 so_S1_5 rfl rfl (Nat.le_of_ble_eq_true rfl) (Nat.le_trans (Nat.le_of_ble_eq_true rfl) hd0) (fun M6 => ?_)
      refine j_iinc (pc := 98) (v := 1) (L2 := fun y => [(3, .int y), (0, .ref (ad 0)), (1, .int x1)]) O 2 dX5_film_98 rfl (by decide) (by decide) (fun _ => rfl) (fun y7 => ?_)
      refine j_goto (pc := 101) (tgt := 64) O dX5_film_101 (by decide) ?_
      exact jw_next (fun hh => pw_sub [1, 2, 0] rfl hh)
def f_X5_film (x1 : Int32) (x2 : Int32) (M : Mm) : Option (Int32 × Mm) :=
  bd (f_X1_has x1 M) fun r2 M1 =>
  if r2 = 0 then
    some ((-2 : Int32), M1)
  else
    if x2 < (1 : Int32) then
      some ((-2 : Int32), M1)
    else
      if x2 ≤ (3 : Int32) then
        bv (f_X2_lay (M1.1 1 1) M1) fun M3 =>
        bv (f_X2_run x2 M3) fun M4 =>
        bv (f_X1_lay x1 (0 : Int32) (M4.1 1 3) M4) fun M5 =>
        iter (fun s => f_X5_film_b64 x1 s.1 s.2) fuel ((0 : Int32), M5)
      else
        some ((-2 : Int32), M1)
set_option maxRecDepth 100000 in
set_option maxHeartbeats 4000000 in
theorem jf_X5_film {G : wn_G} {ad : Nat → Nat} {X : wn_X} {d : Nat} (O : Ok G RX5 cX5_film 4 d X) (hd0 : 7 ≤ d) (x1 : Int32) (x2 : Int32) (M : Mm) : JW G S1 ad X 0 [(0, .ref (ad 0)), (1, .int x1), (2, .int x2)] [] M (f_X5_film x1 x2 M) (Kri G S1 ad X) := by
  unfold f_X5_film
  refine j_aload_n (pc := 0) O 0 dX5_film_0 rfl ?_
  refine j_getf (pc := 1) (v := .ref (ad 5)) O 0 5 dX5_film_1 fl_X5_36 so_S1_0 rfl rfl ?_
  refine j_iload_n (pc := 4) O 1 dX5_film_4 rfl ?_
  refine j_callVi (pc := 5) (dc := 1) (As := [.int x1]) (rest := []) O 5 (fun r M1 h => sp_X1_has h) dX5_film_5 mv_X1_has lm_X5_183 so_S1_5 rfl rfl (Nat.le_of_ble_eq_true rfl) (Nat.le_trans (Nat.le_of_ble_eq_true rfl) hd0) (fun r2 M1 => ?_)
  refine j_if_eq (pc := 8) (tgt := 21) O dX5_film_8 (by decide) ?_ ?_
  · refine j_bipush (pc := 21) (v := -2) O dX5_film_21 (by decide) ?_
    exact j_iret (pc := 23) O dX5_film_23
  · refine j_iload_n (pc := 11) O 2 dX5_film_11 rfl ?_
    refine j_iconst (pc := 12) (v := 1) O dX5_film_12 (by decide) ?_
    refine j_icmp_lt (pc := 13) (tgt := 21) O dX5_film_13 (by decide) ?_ ?_
    · refine j_bipush (pc := 21) (v := -2) O dX5_film_21 (by decide) ?_
      exact j_iret (pc := 23) O dX5_film_23
    · refine j_iload_n (pc := 16) O 2 dX5_film_16 rfl ?_
      refine j_iconst (pc := 17) (v := 3) O dX5_film_17 (by decide) ?_
      refine j_icmp_le (pc := 18) (tgt := 24) O dX5_film_18 (by decide) ?_ ?_
      · refine j_aload_n (pc := 24) O 0 dX5_film_24 rfl ?_
        refine j_getf (pc := 25) (v := .ref (ad 6)) O 0 6 dX5_film_25 fl_X5_45 so_S1_0 rfl rfl ?_
        refine j_aload_n (pc := 28) O 0 dX5_film_28 rfl ?_
        refine j_getf (pc := 29) (v := .ref (ad 1)) O 0 0 dX5_film_29 fl_X5_10 so_S1_0 rfl rfl ?_
        refine j_getf (pc := 32) (v := .int (M1.1 1 1)) O 1 1 dX5_film_32 fl_X5_97 so_S1_1 rfl rfl ?_
        refine j_callVv (pc := 35) (dc := 4) (As := [.int (M1.1 1 1)]) (rest := []) O 6 (fun M1 h => sp_X2_lay h) dX5_film_35 mv_X2_lay lm_X5_101 so_S1_6 rfl rfl (Nat.le_of_ble_eq_true rfl) (Nat.le_trans (Nat.le_of_ble_eq_true rfl) hd0) (fun M3 => ?_)
        refine j_aload_n (pc := 38) O 0 dX5_film_38 rfl ?_
        refine j_getf (pc := 39) (v := .ref (ad 6)) O 0 6 dX5_film_39 fl_X5_45 so_S1_0 rfl rfl ?_
        refine j_iload_n (pc := 42) O 2 dX5_film_42 rfl ?_
        refine j_callVv (pc := 43) (dc := 6) (As := [.int x2]) (rest := []) O 6 (fun M1 h => sp_X2_run h) dX5_film_43 mv_X2_run lm_X5_149 so_S1_6 rfl rfl (Nat.le_of_ble_eq_true rfl) (Nat.le_trans (Nat.le_of_ble_eq_true rfl) hd0) (fun M4 => ?_)
        refine j_aload_n (pc := 46) O 0 dX5_film_46 rfl ?_
        refine j_getf (pc := 47) (v := .ref (ad 5)) O 0 5 dX5_film_47 fl_X5_36 so_S1_0 rfl rfl ?_
        refine j_iload_n (pc := 50) O 1 dX5_film_50 rfl ?_
        refine j_iconst (pc := 51) (v := 0) O dX5_film_51 (by decide) ?_
        refine j_aload_n (pc := 52) O 0 dX5_film_52 rfl ?_
        refine j_getf (pc := 53) (v := .ref (ad 1)) O 0 0 dX5_film_53 fl_X5_10 so_S1_0 rfl rfl ?_
        refine j_getf (pc := 56) (v := .int (M4.1 1 3)) O 1 3 dX5_film_56 fl_X5_158 so_S1_1 rfl rfl ?_
        refine j_callVv (pc := 59) (dc := 2) (As := [.int x1, .int (0 : Int32), .int (M4.1 1 3)]) (rest := []) O 5 (fun M1 h => sp_X1_lay h) dX5_film_59 mv_X1_lay lm_X5_190 so_S1_5 rfl rfl (Nat.le_of_ble_eq_true rfl) (Nat.le_trans (Nat.le_of_ble_eq_true rfl) hd0) (fun M5 => ?_)
        refine j_iconst (pc := 62) (v := 0) O dX5_film_62 (by decide) ?_
        refine j_istore_n (pc := 63) (L' := [(3, .int (0 : Int32)), (0, .ref (ad 0)), (1, .int x1), (2, .int x2)]) O dX5_film_63 (by decide) rfl ?_
        exact jw_iter (hd := h_X5_film_64 G ad X x1) (fun hh => pw_sub [1, 2, 0] rfl hh) (fun s => jf_X5_film_b64 O hd0 x1 s.1 s.2)
      · refine j_bipush (pc := 21) (v := -2) O dX5_film_21 (by decide) ?_
        exact j_iret (pc := 23) O dX5_film_23
theorem sp_X5_film {G : wn_G} {ad : Nat → Nat} {x1 : Int32} {x2 : Int32} {M : Mm} {r : Int32} {M1 : Mm} (h : f_X5_film x1 x2 M = some (r, M1)) : Sp G S1 ad mX5_film 7 [.ref (ad 0), .int x1, .int x2] M M1 (some (.int r)) :=
  sp_intro (own := RX5) (by decide +kernel) rfl (Nat.le_of_ble_eq_true rfl) (fun X O T => jf_X5_film O (Nat.le_refl _) x1 x2 M (r, M1) h T)
def h_X6_sheet_77 (G : wn_G) (ad : Nat → Nat) (X : wn_X) (x1 : Int32) (x2 : Int32) (x3 : Int32) : Int32 × Mm → Prop := fun s => PW G S2 ad X 77 [(0, .ref (ad 0)), (1, .int x1), (2, .int x2), (3, .int x3), (4, .int s.1)] [] s.2
def f_X6_sheet_b77 (x1 : Int32) (x2 : Int32) (x3 : Int32) (x4 : Int32) (M : Mm) : Option ((Int32 × Mm) ⊕ (Int32 × Mm)) :=
  if x3 ≤ x4 then
    ex (
    some ((1 : Int32), M))
  else
    if x2 < 0 then
      ex (
      some ((1 : Int32), M))
    else
      gd (bin (((40 : Int32) * x1) + x4) 160 = true) inferInstance <| bm (ms M 19 (Int32.toNatClampNeg (((40 : Int32) * x1) + x4)) (0 : Int32)) fun M8 =>
      bi (x4 + (1 : Int32)) fun y9 =>
      some (.inl (y9, M8))
set_option maxRecDepth 100000 in
set_option maxHeartbeats 4000000 in
theorem jf_X6_sheet_b77 {G : wn_G} {ad : Nat → Nat} {X : wn_X} {d : Nat} (O : Ok G RX6 cX6_sheet 5 d X) (hd0 : 3 ≤ d) (x1 : Int32) (x2 : Int32) (x3 : Int32) (x4 : Int32) (M : Mm) : JW G S2 ad X 77 [(0, .ref (ad 0)), (1, .int x1), (2, .int x2), (3, .int x3), (4, .int x4)] [] M (f_X6_sheet_b77 x1 x2 x3 x4 M) (Kl (h_X6_sheet_77 G ad X x1 x2 x3) (Kri G S2 ad X)) := by
  unfold f_X6_sheet_b77
  refine j_iload (pc := 77) O 4 dX6_sheet_77 rfl ?_
  refine j_iload_n (pc := 79) O 3 dX6_sheet_79 rfl ?_
  refine j_icmp_ge (pc := 80) (tgt := 106) O dX6_sheet_80 (by decide) ?_ ?_
  · refine jw_ex ?_
    refine j_iconst (pc := 106) (v := 1) O dX6_sheet_106 (by decide) ?_
    exact j_iret (pc := 107) O dX6_sheet_107
  · refine j_iload_n (pc := 83) O 2 dX6_sheet_83 rfl ?_
    refine j_if_lt (pc := 84) (tgt := 106) O dX6_sheet_84 (by decide) ?_ ?_
    · refine jw_ex ?_
      refine j_iconst (pc := 106) (v := 1) O dX6_sheet_106 (by decide) ?_
      exact j_iret (pc := 107) O dX6_sheet_107
    · refine j_aload_n (pc := 87) O 0 dX6_sheet_87 rfl ?_
      refine j_getf (pc := 88) (v := .ref (ad 19)) O 0 51 dX6_sheet_88 fl_X6_81 so_S2_0 rfl rfl ?_
      refine j_bipush (pc := 91) (v := 40) O dX6_sheet_91 (by decide) ?_
      refine j_iload_n (pc := 93) O 1 dX6_sheet_93 rfl ?_
      refine j_imul (pc := 94) O dX6_sheet_94 ?_
      refine j_iload (pc := 95) O 4 dX6_sheet_95 rfl ?_
      refine j_iadd (pc := 97) O dX6_sheet_97 ?_
      refine j_iconst (pc := 98) (v := 0) O dX6_sheet_98 (by decide) ?_
      refine j_iast (pc := 99) O 19 dX6_sheet_99 so_S2_19 (fun M8 => ?_)
      refine j_iinc (pc := 100) (v := 1) (L2 := fun y => [(4, .int y), (0, .ref (ad 0)), (1, .int x1), (2, .int x2), (3, .int x3)]) O 4 dX6_sheet_100 rfl (by decide) (by decide) (fun _ => rfl) (fun y9 => ?_)
      refine j_goto (pc := 103) (tgt := 77) O dX6_sheet_103 (by decide) ?_
      exact jw_next (fun hh => pw_sub [1, 2, 3, 4, 0] rfl hh)
def f_X6_sheet_j59 (x1 : Int32) (x2 : Int32) (x3 : Int32) (s0 : Int32) (s1 : Int32) (M : Mm) : Option (Int32 × Mm) :=
  gd (bin s1 4 = true) inferInstance <| bm (ms M 16 (Int32.toNatClampNeg s1) (vp_nar .boolean s0)) fun M5 =>
  gd (bin x1 4 = true) inferInstance <| bm (ms M5 17 (Int32.toNatClampNeg x1) x2) fun M6 =>
  gd (bin x1 4 = true) inferInstance <| bm (ms M6 18 (Int32.toNatClampNeg x1) x3) fun M7 =>
  iter (fun s => f_X6_sheet_b77 x1 x2 x3 s.1 s.2) fuel ((0 : Int32), M7)
set_option maxRecDepth 100000 in
set_option maxHeartbeats 4000000 in
theorem jf_X6_sheet_j59 {G : wn_G} {ad : Nat → Nat} {X : wn_X} {d : Nat} (O : Ok G RX6 cX6_sheet 5 d X) (hd0 : 3 ≤ d) (x1 : Int32) (x2 : Int32) (x3 : Int32) (s0 : Int32) (s1 : Int32) (M : Mm) : JW G S2 ad X 59 [(0, .ref (ad 0)), (1, .int x1), (2, .int x2), (3, .int x3)] [.int s0, .int s1, .ref (ad 16)] M (f_X6_sheet_j59 x1 x2 x3 s0 s1 M) (Kri G S2 ad X) := by
  unfold f_X6_sheet_j59
  refine j_zast (pc := 59) O 16 dX6_sheet_59 so_S2_16 (fun M5 => ?_)
  refine j_aload_n (pc := 60) O 0 dX6_sheet_60 rfl ?_
  refine j_getf (pc := 61) (v := .ref (ad 17)) O 0 49 dX6_sheet_61 fl_X6_75 so_S2_0 rfl rfl ?_
  refine j_iload_n (pc := 64) O 1 dX6_sheet_64 rfl ?_
  refine j_iload_n (pc := 65) O 2 dX6_sheet_65 rfl ?_
  refine j_iast (pc := 66) O 17 dX6_sheet_66 so_S2_17 (fun M6 => ?_)
  refine j_aload_n (pc := 67) O 0 dX6_sheet_67 rfl ?_
  refine j_getf (pc := 68) (v := .ref (ad 18)) O 0 50 dX6_sheet_68 fl_X6_78 so_S2_0 rfl rfl ?_
  refine j_iload_n (pc := 71) O 1 dX6_sheet_71 rfl ?_
  refine j_iload_n (pc := 72) O 3 dX6_sheet_72 rfl ?_
  refine j_iast (pc := 73) O 18 dX6_sheet_73 so_S2_18 (fun M7 => ?_)
  refine j_iconst (pc := 74) (v := 0) O dX6_sheet_74 (by decide) ?_
  refine j_istore (pc := 75) (L' := [(4, .int (0 : Int32)), (0, .ref (ad 0)), (1, .int x1), (2, .int x2), (3, .int x3)]) O dX6_sheet_75 (by decide) rfl ?_
  exact jw_iter (hd := h_X6_sheet_77 G ad X x1 x2 x3) (fun hh => pw_sub [1, 2, 3, 4, 0] rfl hh) (fun s => jf_X6_sheet_b77 O hd0 x1 x2 x3 s.1 s.2)
def f_X6_sheet_j45 (x1 : Int32) (x2 : Int32) (x3 : Int32) (M : Mm) : Option (Int32 × Mm) :=
  if x2 < 0 then
    f_X6_sheet_j59 x1 x2 x3 (0 : Int32) x1 M
  else
    f_X6_sheet_j59 x1 x2 x3 (1 : Int32) x1 M
set_option maxRecDepth 100000 in
set_option maxHeartbeats 4000000 in
theorem jf_X6_sheet_j45 {G : wn_G} {ad : Nat → Nat} {X : wn_X} {d : Nat} (O : Ok G RX6 cX6_sheet 5 d X) (hd0 : 3 ≤ d) (x1 : Int32) (x2 : Int32) (x3 : Int32) (M : Mm) : JW G S2 ad X 45 [(0, .ref (ad 0)), (1, .int x1), (2, .int x2), (3, .int x3)] [] M (f_X6_sheet_j45 x1 x2 x3 M) (Kri G S2 ad X) := by
  unfold f_X6_sheet_j45
  refine j_aload_n (pc := 45) O 0 dX6_sheet_45 rfl ?_
  refine j_getf (pc := 46) (v := .ref (ad 16)) O 0 48 dX6_sheet_46 fl_X6_71 so_S2_0 rfl rfl ?_
  refine j_iload_n (pc := 49) O 1 dX6_sheet_49 rfl ?_
  refine j_iload_n (pc := 50) O 2 dX6_sheet_50 rfl ?_
  refine j_if_lt (pc := 51) (tgt := 58) O dX6_sheet_51 (by decide) ?_ ?_
  · refine j_iconst (pc := 58) (v := 0) O dX6_sheet_58 (by decide) ?_
    exact jw_sub [0, 1, 2, 3] rfl (jf_X6_sheet_j59 O hd0 x1 x2 x3 (0 : Int32) x1 M)
  · refine j_iconst (pc := 54) (v := 1) O dX6_sheet_54 (by decide) ?_
    refine j_goto (pc := 55) (tgt := 59) O dX6_sheet_55 (by decide) ?_
    exact jw_sub [0, 1, 2, 3] rfl (jf_X6_sheet_j59 O hd0 x1 x2 x3 (1 : Int32) x1 M)
def f_X6_sheet_j34 (x1 : Int32) (x2 : Int32) (x3 : Int32) (M : Mm) : Option (Int32 × Mm) :=
  if x2 < 0 then
    f_X6_sheet_j45 x1 x2 x3 M
  else
    if 0 ≤ x3 then
      f_X6_sheet_j45 x1 x2 x3 M
    else
      some ((-14 : Int32), M)
set_option maxRecDepth 100000 in
set_option maxHeartbeats 4000000 in
theorem jf_X6_sheet_j34 {G : wn_G} {ad : Nat → Nat} {X : wn_X} {d : Nat} (O : Ok G RX6 cX6_sheet 5 d X) (hd0 : 3 ≤ d) (x1 : Int32) (x2 : Int32) (x3 : Int32) (M : Mm) : JW G S2 ad X 34 [(0, .ref (ad 0)), (1, .int x1), (2, .int x2), (3, .int x3)] [] M (f_X6_sheet_j34 x1 x2 x3 M) (Kri G S2 ad X) := by
  unfold f_X6_sheet_j34
  refine j_iload_n (pc := 34) O 2 dX6_sheet_34 rfl ?_
  refine j_if_lt (pc := 35) (tgt := 45) O dX6_sheet_35 (by decide) ?_ ?_
  · exact jw_sub [0, 1, 2, 3] rfl (jf_X6_sheet_j45 O hd0 x1 x2 x3 M)
  · refine j_iload_n (pc := 38) O 3 dX6_sheet_38 rfl ?_
    refine j_if_ge (pc := 39) (tgt := 45) O dX6_sheet_39 (by decide) ?_ ?_
    · exact jw_sub [0, 1, 2, 3] rfl (jf_X6_sheet_j45 O hd0 x1 x2 x3 M)
    · refine j_bipush (pc := 42) (v := -14) O dX6_sheet_42 (by decide) ?_
      exact j_iret (pc := 44) O dX6_sheet_44
def f_X6_sheet (x1 : Int32) (x2 : Int32) (x3 : Int32) (M : Mm) : Option (Int32 × Mm) :=
  bd (f_X6_isSheet x1 M) fun r2 M1 =>
  if r2 = 0 then
    some ((-2 : Int32), M1)
  else
    bd (f_X6_in (Int32.toInt64 x2) (-1 : Int64) (2 : Int64) M1) fun r4 M3 =>
    if r4 = 0 then
      some ((-2 : Int32), M3)
    else
      if x2 < 0 then
        f_X6_sheet_j34 x1 x2 x3 M3
      else
        if x3 ≤ (40 : Int32) then
          f_X6_sheet_j34 x1 x2 x3 M3
        else
          some ((-2 : Int32), M3)
set_option maxRecDepth 100000 in
set_option maxHeartbeats 4000000 in
theorem jf_X6_sheet {G : wn_G} {ad : Nat → Nat} {X : wn_X} {d : Nat} (O : Ok G RX6 cX6_sheet 5 d X) (hd0 : 3 ≤ d) (x1 : Int32) (x2 : Int32) (x3 : Int32) (M : Mm) : JW G S2 ad X 0 [(0, .ref (ad 0)), (1, .int x1), (2, .int x2), (3, .int x3)] [] M (f_X6_sheet x1 x2 x3 M) (Kri G S2 ad X) := by
  unfold f_X6_sheet
  refine j_iload_n (pc := 0) O 1 dX6_sheet_0 rfl ?_
  refine j_callSi (pc := 1) (dc := 2) (As := [.int x1]) (rest := []) O (fun r M1 h => sp_X6_isSheet h) dX6_sheet_1 mst_X6_isSheet lm_X6_303 rfl rfl (Nat.le_of_ble_eq_true rfl) (Nat.le_trans (Nat.le_of_ble_eq_true rfl) hd0) (fun r2 M1 => ?_)
  refine j_if_eq (pc := 4) (tgt := 31) O dX6_sheet_4 (by decide) ?_ ?_
  · refine j_bipush (pc := 31) (v := -2) O dX6_sheet_31 (by decide) ?_
    exact j_iret (pc := 33) O dX6_sheet_33
  · refine j_iload_n (pc := 7) O 2 dX6_sheet_7 rfl ?_
    refine j_i2l (pc := 8) O dX6_sheet_8 ?_
    refine j_ldc2 (pc := 9) (v := -1) O dX6_sheet_9 gk_X6_358 ?_
    refine j_ldc2 (pc := 12) (v := 2) O dX6_sheet_12 gk_X6_106 ?_
    refine j_callSi (pc := 15) (dc := 1) (As := [.long (Int32.toInt64 x2), .long (-1 : Int64), .long (2 : Int64)]) (rest := []) O (fun r M1 h => sp_X6_in h) dX6_sheet_15 mst_X6_in lm_X6_94 rfl rfl (Nat.le_of_ble_eq_true rfl) (Nat.le_trans (Nat.le_of_ble_eq_true rfl) hd0) (fun r4 M3 => ?_)
    refine j_if_eq (pc := 18) (tgt := 31) O dX6_sheet_18 (by decide) ?_ ?_
    · refine j_bipush (pc := 31) (v := -2) O dX6_sheet_31 (by decide) ?_
      exact j_iret (pc := 33) O dX6_sheet_33
    · refine j_iload_n (pc := 21) O 2 dX6_sheet_21 rfl ?_
      refine j_if_lt (pc := 22) (tgt := 34) O dX6_sheet_22 (by decide) ?_ ?_
      · exact jw_sub [0, 1, 2, 3] rfl (jf_X6_sheet_j34 O hd0 x1 x2 x3 M3)
      · refine j_iload_n (pc := 25) O 3 dX6_sheet_25 rfl ?_
        refine j_bipush (pc := 26) (v := 40) O dX6_sheet_26 (by decide) ?_
        refine j_icmp_le (pc := 28) (tgt := 34) O dX6_sheet_28 (by decide) ?_ ?_
        · exact jw_sub [0, 1, 2, 3] rfl (jf_X6_sheet_j34 O hd0 x1 x2 x3 M3)
        · refine j_bipush (pc := 31) (v := -2) O dX6_sheet_31 (by decide) ?_
          exact j_iret (pc := 33) O dX6_sheet_33
theorem sp_X6_sheet {G : wn_G} {ad : Nat → Nat} {x1 : Int32} {x2 : Int32} {x3 : Int32} {M : Mm} {r : Int32} {M1 : Mm} (h : f_X6_sheet x1 x2 x3 M = some (r, M1)) : Sp G S2 ad mX6_sheet 3 [.ref (ad 0), .int x1, .int x2, .int x3] M M1 (some (.int r)) :=
  sp_intro (own := RX6) (by decide +kernel) rfl (Nat.le_of_ble_eq_true rfl) (fun X O T => jf_X6_sheet O (Nat.le_refl _) x1 x2 x3 M (r, M1) h T)
