-- printed
def f_X3_has_1 (x1 : Int32) (M : Mm) : Option (Int32 × Mm) :=
  if x1 < 0 then
    some (0, M)
  else
    if (5 : Int32) ≤ x1 then
      some (0, M)
    else
      if (M.1 1 3) ≤ x1 then
        some (0, M)
      else
        some (1, M)
set_option maxRecDepth 100000 in
set_option maxHeartbeats 4000000 in
theorem jf_X3_has_1 {G : wn_G} {ad : Nat → Nat} {X : wn_X} {d : Nat} (O : Ok G RX3 cX3_has 2 d X) (hd0 : 1 ≤ d) (x1 : Int32) (M : Mm) : JW G S1 ad X 0 [(0, .ref (ad 1)), (1, .int x1)] [] M (f_X3_has_1 x1 M) (Krz G S1 ad X) := by
  unfold f_X3_has_1
  refine j_iload_n (pc := 0) O 1 dX3_has_0 rfl ?_
  refine j_if_lt (pc := 1) (tgt := 21) O dX3_has_1 (by decide) ?_ ?_
  · refine j_iconst (pc := 21) (v := 0) O dX3_has_21 (by decide) ?_
    exact j_z0 (pc := 22) O dX3_has_22
  · refine j_iload_n (pc := 4) O 1 dX3_has_4 rfl ?_
    refine j_iconst (pc := 5) (v := 5) O dX3_has_5 (by decide) ?_
    refine j_icmp_ge (pc := 6) (tgt := 21) O dX3_has_6 (by decide) ?_ ?_
    · refine j_iconst (pc := 21) (v := 0) O dX3_has_21 (by decide) ?_
      exact j_z0 (pc := 22) O dX3_has_22
    · refine j_iload_n (pc := 9) O 1 dX3_has_9 rfl ?_
      refine j_aload_n (pc := 10) O 0 dX3_has_10 rfl ?_
      refine j_getf (pc := 11) (v := .int (M.1 1 3)) O 1 3 dX3_has_11 fl_X3_31 so_S1_1 rfl rfl ?_
      refine j_icmp_ge (pc := 14) (tgt := 21) O dX3_has_14 (by decide) ?_ ?_
      · refine j_iconst (pc := 21) (v := 0) O dX3_has_21 (by decide) ?_
        exact j_z0 (pc := 22) O dX3_has_22
      · refine j_iconst (pc := 17) (v := 1) O dX3_has_17 (by decide) ?_
        refine j_goto (pc := 18) (tgt := 22) O dX3_has_18 (by decide) ?_
        exact j_z1 (pc := 22) O dX3_has_22
theorem sp_X3_has_1 {G : wn_G} {ad : Nat → Nat} {x1 : Int32} {M : Mm} {r : Int32} {M1 : Mm} (h : f_X3_has_1 x1 M = some (r, M1)) : Sp G S1 ad mX3_has 1 [.ref (ad 1), .int x1] M M1 (some (.int r)) :=
  sp_intro (own := RX3) (by decide +kernel) rfl (Nat.le_of_ble_eq_true rfl) (fun X O T => jf_X3_has_1 O (Nat.le_refl _) x1 M (r, M1) h T)
def f_X3_change_1_j79 (x2 : Int32) (x3 : Int32) (M : Mm) : Option (Int32 × Mm) :=
  gd (bin x2 5 = true) inferInstance <|
  bi (M.1 10 (Int32.toNatClampNeg x2)) fun y3 =>
  gd (bin x2 5 = true) inferInstance <| bm (ms M 10 (Int32.toNatClampNeg x2) x3) fun M4 =>
  some (y3, M4)
set_option maxRecDepth 100000 in
set_option maxHeartbeats 4000000 in
theorem jf_X3_change_1_j79 {G : wn_G} {ad : Nat → Nat} {X : wn_X} {d : Nat} (O : Ok G RX3 cX3_change 6 d X) (hd0 : 2 ≤ d) (x2 : Int32) (x3 : Int32) (M : Mm) : JW G S1 ad X 79 [(2, .int x2), (3, .int x3), (5, .ref (ad 10))] [] M (f_X3_change_1_j79 x2 x3 M) (Kri G S1 ad X) := by
  unfold f_X3_change_1_j79
  refine j_aload (pc := 79) O 2 dX3_change_79 rfl ?_
  refine j_iload_n (pc := 81) O 0 dX3_change_81 rfl ?_
  refine j_iald (pc := 82) O 10 dX3_change_82 so_S1_10 ?_
  refine jw_bi fun y3 => ?_
  refine j_istore (pc := 83) (L' := [(4, .int y3), (2, .int x2), (3, .int x3), (5, .ref (ad 10))]) O dX3_change_83 (by decide) rfl ?_
  refine j_aload (pc := 85) O 3 dX3_change_85 rfl ?_
  refine j_iload_n (pc := 87) O 1 dX3_change_87 rfl ?_
  refine j_iload_n (pc := 88) O 2 dX3_change_88 rfl ?_
  refine j_iast (pc := 89) O 10 dX3_change_89 so_S1_10 (fun M4 => ?_)
  refine j_iload (pc := 90) O 0 dX3_change_90 rfl ?_
  exact j_iret (pc := 92) O dX3_change_92
def f_X3_change_1_j79_2 (x2 : Int32) (x3 : Int32) (M : Mm) : Option (Int32 × Mm) :=
  gd (bin x2 5 = true) inferInstance <|
  bi (M.1 9 (Int32.toNatClampNeg x2)) fun y5 =>
  gd (bin x2 5 = true) inferInstance <| bm (ms M 9 (Int32.toNatClampNeg x2) x3) fun M6 =>
  some (y5, M6)
set_option maxRecDepth 100000 in
set_option maxHeartbeats 4000000 in
theorem jf_X3_change_1_j79_2 {G : wn_G} {ad : Nat → Nat} {X : wn_X} {d : Nat} (O : Ok G RX3 cX3_change 6 d X) (hd0 : 2 ≤ d) (x2 : Int32) (x3 : Int32) (M : Mm) : JW G S1 ad X 79 [(2, .int x2), (3, .int x3), (5, .ref (ad 9))] [] M (f_X3_change_1_j79_2 x2 x3 M) (Kri G S1 ad X) := by
  unfold f_X3_change_1_j79_2
  refine j_aload (pc := 79) O 2 dX3_change_79 rfl ?_
  refine j_iload_n (pc := 81) O 0 dX3_change_81 rfl ?_
  refine j_iald (pc := 82) O 9 dX3_change_82 so_S1_9 ?_
  refine jw_bi fun y5 => ?_
  refine j_istore (pc := 83) (L' := [(4, .int y5), (2, .int x2), (3, .int x3), (5, .ref (ad 9))]) O dX3_change_83 (by decide) rfl ?_
  refine j_aload (pc := 85) O 3 dX3_change_85 rfl ?_
  refine j_iload_n (pc := 87) O 1 dX3_change_87 rfl ?_
  refine j_iload_n (pc := 88) O 2 dX3_change_88 rfl ?_
  refine j_iast (pc := 89) O 9 dX3_change_89 so_S1_9 (fun M6 => ?_)
  refine j_iload (pc := 90) O 0 dX3_change_90 rfl ?_
  exact j_iret (pc := 92) O dX3_change_92
def f_X3_change_1_j79_3 (x2 : Int32) (x3 : Int32) (M : Mm) : Option (Int32 × Mm) :=
  gd (bin x2 5 = true) inferInstance <|
  bi (M.1 8 (Int32.toNatClampNeg x2)) fun y7 =>
  gd (bin x2 5 = true) inferInstance <| bm (ms M 8 (Int32.toNatClampNeg x2) x3) fun M8 =>
  some (y7, M8)
set_option maxRecDepth 100000 in
set_option maxHeartbeats 4000000 in
theorem jf_X3_change_1_j79_3 {G : wn_G} {ad : Nat → Nat} {X : wn_X} {d : Nat} (O : Ok G RX3 cX3_change 6 d X) (hd0 : 2 ≤ d) (x2 : Int32) (x3 : Int32) (M : Mm) : JW G S1 ad X 79 [(2, .int x2), (3, .int x3), (5, .ref (ad 8))] [] M (f_X3_change_1_j79_3 x2 x3 M) (Kri G S1 ad X) := by
  unfold f_X3_change_1_j79_3
  refine j_aload (pc := 79) O 2 dX3_change_79 rfl ?_
  refine j_iload_n (pc := 81) O 0 dX3_change_81 rfl ?_
  refine j_iald (pc := 82) O 8 dX3_change_82 so_S1_8 ?_
  refine jw_bi fun y7 => ?_
  refine j_istore (pc := 83) (L' := [(4, .int y7), (2, .int x2), (3, .int x3), (5, .ref (ad 8))]) O dX3_change_83 (by decide) rfl ?_
  refine j_aload (pc := 85) O 3 dX3_change_85 rfl ?_
  refine j_iload_n (pc := 87) O 1 dX3_change_87 rfl ?_
  refine j_iload_n (pc := 88) O 2 dX3_change_88 rfl ?_
  refine j_iast (pc := 89) O 8 dX3_change_89 so_S1_8 (fun M8 => ?_)
  refine j_iload (pc := 90) O 0 dX3_change_90 rfl ?_
  exact j_iret (pc := 92) O dX3_change_92
def f_X3_change_1 (x1 : Int32) (x2 : Int32) (x3 : Int32) (M : Mm) : Option (Int32 × Mm) :=
  if x1 = 0 then
    bi (M.1 1 0) fun y11 =>
    bm (ms M 1 0 x3) fun M12 =>
    some (y11, M12)
  else
    if x1 = (1 : Int32) then
      bi (M.1 1 1) fun y9 =>
      bm (ms M 1 1 x3) fun M10 =>
      some (y9, M10)
    else
      bd (f_X3_has_1 x2 M) fun r2 M1 =>
      if r2 = 0 then
        some ((-2 : Int32), M1)
      else
        if x1 = (2 : Int32) then
          f_X3_change_1_j79_3 x2 x3 M1
        else
          if x1 = (3 : Int32) then
            f_X3_change_1_j79_2 x2 x3 M1
          else
            f_X3_change_1_j79 x2 x3 M1
set_option maxRecDepth 100000 in
set_option maxHeartbeats 4000000 in
theorem jf_X3_change_1 {G : wn_G} {ad : Nat → Nat} {X : wn_X} {d : Nat} (O : Ok G RX3 cX3_change 6 d X) (hd0 : 2 ≤ d) (x1 : Int32) (x2 : Int32) (x3 : Int32) (M : Mm) : JW G S1 ad X 0 [(0, .ref (ad 1)), (1, .int x1), (2, .int x2), (3, .int x3)] [] M (f_X3_change_1 x1 x2 x3 M) (Kri G S1 ad X) := by
  unfold f_X3_change_1
  refine j_iload_n (pc := 0) O 1 dX3_change_0 rfl ?_
  refine j_if_ne (pc := 1) (tgt := 18) O dX3_change_1 (by decide) ?_ ?_
  · refine j_aload_n (pc := 4) O 0 dX3_change_4 rfl ?_
    refine j_getf (pc := 5) (v := .int (M.1 1 0)) O 1 0 dX3_change_5 fl_X3_9 so_S1_1 rfl rfl ?_
    refine jw_bi fun y11 => ?_
    refine j_istore (pc := 8) (L' := [(4, .int y11), (0, .ref (ad 1)), (1, .int x1), (2, .int x2), (3, .int x3)]) O dX3_change_8 (by decide) rfl ?_
    refine j_aload_n (pc := 10) O 1 dX3_change_10 rfl ?_
    refine j_iload_n (pc := 11) O 4 dX3_change_11 rfl ?_
    refine j_puti (pc := 12) O 1 0 dX3_change_12 fl_X3_9 so_S1_1 ft_X3_0 rfl (fun M12 => ?_)
    refine j_iload (pc := 15) O 0 dX3_change_15 rfl ?_
    exact j_iret (pc := 17) O dX3_change_17
  · refine j_iload_n (pc := 18) O 1 dX3_change_18 rfl ?_
    refine j_iconst (pc := 19) (v := 1) O dX3_change_19 (by decide) ?_
    refine j_icmp_ne (pc := 20) (tgt := 37) O dX3_change_20 (by decide) ?_ ?_
    · refine j_aload_n (pc := 23) O 0 dX3_change_23 rfl ?_
      refine j_getf (pc := 24) (v := .int (M.1 1 1)) O 1 1 dX3_change_24 fl_X3_15 so_S1_1 rfl rfl ?_
      refine jw_bi fun y9 => ?_
      refine j_istore (pc := 27) (L' := [(4, .int y9), (0, .ref (ad 1)), (1, .int x1), (2, .int x2), (3, .int x3)]) O dX3_change_27 (by decide) rfl ?_
      refine j_aload_n (pc := 29) O 1 dX3_change_29 rfl ?_
      refine j_iload_n (pc := 30) O 4 dX3_change_30 rfl ?_
      refine j_puti (pc := 31) O 1 1 dX3_change_31 fl_X3_15 so_S1_1 ft_X3_1 rfl (fun M10 => ?_)
      refine j_iload (pc := 34) O 0 dX3_change_34 rfl ?_
      exact j_iret (pc := 36) O dX3_change_36
    · refine j_aload_n (pc := 37) O 0 dX3_change_37 rfl ?_
      refine j_iload_n (pc := 38) O 2 dX3_change_38 rfl ?_
      refine j_callVi (pc := 39) (dc := 1) (As := [.int x2]) (rest := []) O 1 (fun r M1 h => sp_X3_has_1 h) dX3_change_39 mv_X3_has lm_X3_34 so_S1_1 rfl rfl (Nat.le_of_ble_eq_true rfl) (Nat.le_trans (Nat.le_of_ble_eq_true rfl) hd0) (fun r2 M1 => ?_)
      refine j_if_ne (pc := 42) (tgt := 48) O dX3_change_42 (by decide) ?_ ?_
      · refine j_bipush (pc := 45) (v := -2) O dX3_change_45 (by decide) ?_
        exact j_iret (pc := 47) O dX3_change_47
      · refine j_aload_n (pc := 48) O 0 dX3_change_48 rfl ?_
        refine j_getf (pc := 49) (v := .ref (ad 10)) O 1 7 dX3_change_49 fl_X3_28 so_S1_1 rfl rfl ?_
        refine j_astore (pc := 52) (L' := [(5, .ref (ad 10)), (0, .ref (ad 1)), (1, .int x1), (2, .int x2), (3, .int x3)]) O dX3_change_52 (by decide) rfl ?_
        refine j_iload_n (pc := 54) O 2 dX3_change_54 rfl ?_
        refine j_iconst (pc := 55) (v := 2) O dX3_change_55 (by decide) ?_
        refine j_icmp_ne (pc := 56) (tgt := 68) O dX3_change_56 (by decide) ?_ ?_
        · refine j_aload_n (pc := 59) O 1 dX3_change_59 rfl ?_
          refine j_getf (pc := 60) (v := .ref (ad 8)) O 1 5 dX3_change_60 fl_X3_22 so_S1_1 rfl rfl ?_
          refine j_astore (pc := 63) (L' := [(5, .ref (ad 8)), (0, .ref (ad 1)), (1, .int x1), (2, .int x2), (3, .int x3)]) O dX3_change_63 (by decide) rfl ?_
          refine j_goto (pc := 65) (tgt := 79) O dX3_change_65 (by decide) ?_
          exact jw_sub [3, 4, 0] rfl (jf_X3_change_1_j79_3 O hd0 x2 x3 M1)
        · refine j_iload_n (pc := 68) O 2 dX3_change_68 rfl ?_
          refine j_iconst (pc := 69) (v := 3) O dX3_change_69 (by decide) ?_
          refine j_icmp_ne (pc := 70) (tgt := 79) O dX3_change_70 (by decide) ?_ ?_
          · refine j_aload_n (pc := 73) O 1 dX3_change_73 rfl ?_
            refine j_getf (pc := 74) (v := .ref (ad 9)) O 1 6 dX3_change_74 fl_X3_25 so_S1_1 rfl rfl ?_
            refine j_astore (pc := 77) (L' := [(5, .ref (ad 9)), (0, .ref (ad 1)), (1, .int x1), (2, .int x2), (3, .int x3)]) O dX3_change_77 (by decide) rfl ?_
            exact jw_sub [3, 4, 0] rfl (jf_X3_change_1_j79_2 O hd0 x2 x3 M1)
          · exact jw_sub [3, 4, 0] rfl (jf_X3_change_1_j79 O hd0 x2 x3 M1)
theorem sp_X3_change_1 {G : wn_G} {ad : Nat → Nat} {x1 : Int32} {x2 : Int32} {x3 : Int32} {M : Mm} {r : Int32} {M1 : Mm} (h : f_X3_change_1 x1 x2 x3 M = some (r, M1)) : Sp G S1 ad mX3_change 2 [.ref (ad 1), .int x1, .int x2, .int x3] M M1 (some (.int r)) :=
  sp_intro (own := RX3) (by decide +kernel) rfl (Nat.le_of_ble_eq_true rfl) (fun X O T => jf_X3_change_1 O (Nat.le_refl _) x1 x2 x3 M (r, M1) h T)
def f_X5_set (x1 : Int32) (x2 : Int32) (x3 : Int32) (M : Mm) : Option (Int32 × Mm) :=
  if x1 < 0 then
    some ((-2 : Int32), M)
  else
    if (5 : Int32) ≤ x1 then
      some ((-2 : Int32), M)
    else
      if x1 < (5 : Int32) then
        gd (bin x1 5 = true) inferInstance <|
        if x3 < (lowV (Int32.toNatClampNeg x1)) then
          some ((-2 : Int32), M)
        else
          gd (bin x1 5 = true) inferInstance <|
          if x3 ≤ (highV (Int32.toNatClampNeg x1)) then
            bd (f_X3_change_1 x1 x2 x3 M) fun r2 M1 =>
            some (r2, M1)
          else
            some ((-2 : Int32), M)
      else
        some ((-2 : Int32), M)
set_option maxRecDepth 100000 in
set_option maxHeartbeats 4000000 in
theorem jf_X5_set {G : wn_G} {ad : Nat → Nat} {X : wn_X} {d : Nat} (O : Ok G RX5 cX5_set 4 d X) (hd0 : 3 ≤ d) (x1 : Int32) (x2 : Int32) (x3 : Int32) (M : Mm) : JW G S1 ad X 0 [(0, .ref (ad 0)), (1, .int x1), (2, .int x2), (3, .int x3)] [] M (f_X5_set x1 x2 x3 M) (Kri G S1 ad X) := by
  unfold f_X5_set
  refine j_iload_n (pc := 0) O 1 dX5_set_0 rfl ?_
  refine j_if_lt (pc := 1) (tgt := 20) O dX5_set_1 (by decide) ?_ ?_
  · refine j_bipush (pc := 20) (v := -2) O dX5_set_20 (by decide) ?_
    exact j_iret (pc := 22) O dX5_set_22
  · refine j_iload_n (pc := 4) O 1 dX5_set_4 rfl ?_
    refine j_gets_low (pc := 5) O dX5_set_5 gf_X5_63 ?_
    refine j_low_len (pc := 8) O dX5_set_8 ?_
    refine j_icmp_ge (pc := 9) (tgt := 20) O dX5_set_9 (by decide) ?_ ?_
    · refine j_bipush (pc := 20) (v := -2) O dX5_set_20 (by decide) ?_
      exact j_iret (pc := 22) O dX5_set_22
    · refine j_iload_n (pc := 12) O 1 dX5_set_12 rfl ?_
      refine j_gets_high (pc := 13) O dX5_set_13 gf_X5_67 ?_
      refine j_high_len (pc := 16) O dX5_set_16 ?_
      refine j_icmp_lt (pc := 17) (tgt := 23) O dX5_set_17 (by decide) ?_ ?_
      · refine j_iload_n (pc := 23) O 3 dX5_set_23 rfl ?_
        refine j_gets_low (pc := 24) O dX5_set_24 gf_X5_63 ?_
        refine j_iload_n (pc := 27) O 1 dX5_set_27 rfl ?_
        refine j_low_ald (pc := 28) O dX5_set_28 ?_
        refine j_icmp_lt (pc := 29) (tgt := 41) O dX5_set_29 (by decide) ?_ ?_
        · refine j_bipush (pc := 41) (v := -2) O dX5_set_41 (by decide) ?_
          exact j_iret (pc := 43) O dX5_set_43
        · refine j_iload_n (pc := 32) O 3 dX5_set_32 rfl ?_
          refine j_gets_high (pc := 33) O dX5_set_33 gf_X5_67 ?_
          refine j_iload_n (pc := 36) O 1 dX5_set_36 rfl ?_
          refine j_high_ald (pc := 37) O dX5_set_37 ?_
          refine j_icmp_le (pc := 38) (tgt := 44) O dX5_set_38 (by decide) ?_ ?_
          · refine j_aload_n (pc := 44) O 0 dX5_set_44 rfl ?_
            refine j_getf (pc := 45) (v := .ref (ad 1)) O 0 0 dX5_set_45 fl_X5_10 so_S1_0 rfl rfl ?_
            refine j_iload_n (pc := 48) O 1 dX5_set_48 rfl ?_
            refine j_iload_n (pc := 49) O 2 dX5_set_49 rfl ?_
            refine j_iload_n (pc := 50) O 3 dX5_set_50 rfl ?_
            refine j_callVi (pc := 51) (dc := 2) (As := [.int x1, .int x2, .int x3]) (rest := []) O 1 (fun r M1 h => sp_X3_change_1 h) dX5_set_51 mv_X3_change lm_X5_70 so_S1_1 rfl rfl (Nat.le_of_ble_eq_true rfl) (Nat.le_trans (Nat.le_of_ble_eq_true rfl) hd0) (fun r2 M1 => ?_)
            exact j_iret (pc := 54) O dX5_set_54
          · refine j_bipush (pc := 41) (v := -2) O dX5_set_41 (by decide) ?_
            exact j_iret (pc := 43) O dX5_set_43
      · refine j_bipush (pc := 20) (v := -2) O dX5_set_20 (by decide) ?_
        exact j_iret (pc := 22) O dX5_set_22
theorem sp_X5_set {G : wn_G} {ad : Nat → Nat} {x1 : Int32} {x2 : Int32} {x3 : Int32} {M : Mm} {r : Int32} {M1 : Mm} (h : f_X5_set x1 x2 x3 M = some (r, M1)) : Sp G S1 ad mX5_set 3 [.ref (ad 0), .int x1, .int x2, .int x3] M M1 (some (.int r)) :=
  sp_intro (own := RX5) (by decide +kernel) rfl (Nat.le_of_ble_eq_true rfl) (fun X O T => jf_X5_set O (Nat.le_refl _) x1 x2 x3 M (r, M1) h T)
def f_X6_in (x0 : Int64) (x2 : Int64) (x4 : Int64) (M : Mm) : Option (Int32 × Mm) :=
  if (lg_cmp x0 x2) < 0 then
    some (0, M)
  else
    if 0 < (lg_cmp x0 x4) then
      some (0, M)
    else
      some (1, M)
set_option maxRecDepth 100000 in
set_option maxHeartbeats 4000000 in
theorem jf_X6_in {G : wn_G} {ad : Nat → Nat} {X : wn_X} {d : Nat} (O : Ok G RX6 cX6_in 6 d X) (hd0 : 1 ≤ d) (x0 : Int64) (x2 : Int64) (x4 : Int64) (M : Mm) : JW G S2 ad X 0 [(0, .long x0), (2, .long x2), (4, .long x4)] [] M (f_X6_in x0 x2 x4 M) (Krz G S2 ad X) := by
  unfold f_X6_in
  refine j_lload_n (pc := 0) O 0 dX6_in_0 rfl ?_
  refine j_lload_n (pc := 1) O 1 dX6_in_1 rfl ?_
  refine j_lcmp (pc := 2) O dX6_in_2 ?_
  refine j_if_lt (pc := 3) (tgt := 17) O dX6_in_3 (by decide) ?_ ?_
  · refine j_iconst (pc := 17) (v := 0) O dX6_in_17 (by decide) ?_
    exact j_z0 (pc := 18) O dX6_in_18
  · refine j_lload_n (pc := 6) O 0 dX6_in_6 rfl ?_
    refine j_lload (pc := 7) O 2 dX6_in_7 rfl ?_
    refine j_lcmp (pc := 9) O dX6_in_9 ?_
    refine j_if_gt (pc := 10) (tgt := 17) O dX6_in_10 (by decide) ?_ ?_
    · refine j_iconst (pc := 17) (v := 0) O dX6_in_17 (by decide) ?_
      exact j_z0 (pc := 18) O dX6_in_18
    · refine j_iconst (pc := 13) (v := 1) O dX6_in_13 (by decide) ?_
      refine j_goto (pc := 14) (tgt := 18) O dX6_in_14 (by decide) ?_
      exact j_z1 (pc := 18) O dX6_in_18
theorem sp_X6_in {G : wn_G} {ad : Nat → Nat} {x0 : Int64} {x2 : Int64} {x4 : Int64} {M : Mm} {r : Int32} {M1 : Mm} (h : f_X6_in x0 x2 x4 M = some (r, M1)) : Sp G S2 ad mX6_in 1 [.long x0, .long x2, .long x4] M M1 (some (.int r)) :=
  sp_intro (own := RX6) (by decide +kernel) rfl (Nat.le_of_ble_eq_true rfl) (fun X O T => jf_X6_in O (Nat.le_refl _) x0 x2 x4 M (r, M1) h T)
def f_X6_isEater (x1 : Int32) (M : Mm) : Option (Int32 × Mm) :=
  bd (f_X6_in (Int32.toInt64 x1) (0 : Int64) (Int32.toInt64 ((M.1 0 13) - (1 : Int32))) M) fun r2 M1 =>
  gd (r2 = 0 ∨ r2 = 1) inferInstance (some (r2, M1))
set_option maxRecDepth 100000 in
set_option maxHeartbeats 4000000 in
theorem jf_X6_isEater {G : wn_G} {ad : Nat → Nat} {X : wn_X} {d : Nat} (O : Ok G RX6 cX6_isEater 2 d X) (hd0 : 2 ≤ d) (x1 : Int32) (M : Mm) : JW G S2 ad X 0 [(0, .ref (ad 0)), (1, .int x1)] [] M (f_X6_isEater x1 M) (Krz G S2 ad X) := by
  unfold f_X6_isEater
  refine j_iload_n (pc := 0) O 1 dX6_isEater_0 rfl ?_
  refine j_i2l (pc := 1) O dX6_isEater_1 ?_
  refine j_lconst (pc := 2) (v := 0) O dX6_isEater_2 (by decide) ?_
  refine j_aload_n (pc := 3) O 0 dX6_isEater_3 rfl ?_
  refine j_getf (pc := 4) (v := .int (M.1 0 13)) O 0 13 dX6_isEater_4 fl_X6_91 so_S2_0 rfl rfl ?_
  refine j_iconst (pc := 7) (v := 1) O dX6_isEater_7 (by decide) ?_
  refine j_isub (pc := 8) O dX6_isEater_8 ?_
  refine j_i2l (pc := 9) O dX6_isEater_9 ?_
  refine j_callSi (pc := 10) (dc := 1) (As := [.long (Int32.toInt64 x1), .long (0 : Int64), .long (Int32.toInt64 ((M.1 0 13) - (1 : Int32)))]) (rest := []) O (fun r M1 h => sp_X6_in h) dX6_isEater_10 mst_X6_in lm_X6_94 rfl rfl (Nat.le_of_ble_eq_true rfl) (Nat.le_trans (Nat.le_of_ble_eq_true rfl) hd0) (fun r2 M1 => ?_)
  exact j_zret (pc := 13) O dX6_isEater_13
theorem sp_X6_isEater {G : wn_G} {ad : Nat → Nat} {x1 : Int32} {M : Mm} {r : Int32} {M1 : Mm} (h : f_X6_isEater x1 M = some (r, M1)) : Sp G S2 ad mX6_isEater 2 [.ref (ad 0), .int x1] M M1 (some (.int r)) :=
  sp_intro (own := RX6) (by decide +kernel) rfl (Nat.le_of_ble_eq_true rfl) (fun X O T => jf_X6_isEater O (Nat.le_refl _) x1 M (r, M1) h T)
def f_X6_set_j151 (x1 : Int32) (x2 : Int32) (x3 : Int32) (s0 : Int32) (M : Mm) : Option (Int32 × Mm) :=
  if x1 = 0 then
    bm (ms M 0 7 x3) fun M9 =>
    some (s0, M9)
  else
    if x1 = (1 : Int32) then
      bm (ms M 0 8 x3) fun M8 =>
      some (s0, M8)
    else
      if x1 = (2 : Int32) then
        gd (bin x2 5 = true) inferInstance <| bm (ms M 5 (Int32.toNatClampNeg x2) x3) fun M7 =>
        some (s0, M7)
      else
        if x1 = (3 : Int32) then
          gd (bin x2 5 = true) inferInstance <| bm (ms M 6 (Int32.toNatClampNeg x2) x3) fun M6 =>
          some (s0, M6)
        else
          gd (bin x2 5 = true) inferInstance <| bm (ms M 7 (Int32.toNatClampNeg x2) x3) fun M5 =>
          some (s0, M5)
set_option maxRecDepth 100000 in
set_option maxHeartbeats 4000000 in
theorem jf_X6_set_j151 {G : wn_G} {ad : Nat → Nat} {X : wn_X} {d : Nat} (O : Ok G RX6 cX6_set 5 d X) (hd0 : 3 ≤ d) (x1 : Int32) (x2 : Int32) (x3 : Int32) (s0 : Int32) (M : Mm) : JW G S2 ad X 151 [(0, .ref (ad 0)), (1, .int x1), (2, .int x2), (3, .int x3)] [.int s0] M (f_X6_set_j151 x1 x2 x3 s0 M) (Kri G S2 ad X) := by
  unfold f_X6_set_j151
  refine j_istore (pc := 151) (L' := [(4, .int s0), (0, .ref (ad 0)), (1, .int x1), (2, .int x2), (3, .int x3)]) O dX6_set_151 (by decide) rfl ?_
  refine j_iload_n (pc := 153) O 2 dX6_set_153 rfl ?_
  refine j_if_ne (pc := 154) (tgt := 165) O dX6_set_154 (by decide) ?_ ?_
  · refine j_aload_n (pc := 157) O 1 dX6_set_157 rfl ?_
    refine j_iload_n (pc := 158) O 4 dX6_set_158 rfl ?_
    refine j_puti (pc := 159) O 0 7 dX6_set_159 fl_X6_23 so_S2_0 ft_X6_7 rfl (fun M9 => ?_)
    refine j_goto (pc := 162) (tgt := 215) O dX6_set_162 (by decide) ?_
    refine j_iload (pc := 215) O 0 dX6_set_215 rfl ?_
    exact j_iret (pc := 217) O dX6_set_217
  · refine j_iload_n (pc := 165) O 2 dX6_set_165 rfl ?_
    refine j_iconst (pc := 166) (v := 1) O dX6_set_166 (by decide) ?_
    refine j_icmp_ne (pc := 167) (tgt := 178) O dX6_set_167 (by decide) ?_ ?_
    · refine j_aload_n (pc := 170) O 1 dX6_set_170 rfl ?_
      refine j_iload_n (pc := 171) O 4 dX6_set_171 rfl ?_
      refine j_puti (pc := 172) O 0 8 dX6_set_172 fl_X6_26 so_S2_0 ft_X6_8 rfl (fun M8 => ?_)
      refine j_goto (pc := 175) (tgt := 215) O dX6_set_175 (by decide) ?_
      refine j_iload (pc := 215) O 0 dX6_set_215 rfl ?_
      exact j_iret (pc := 217) O dX6_set_217
    · refine j_iload_n (pc := 178) O 2 dX6_set_178 rfl ?_
      refine j_iconst (pc := 179) (v := 2) O dX6_set_179 (by decide) ?_
      refine j_icmp_ne (pc := 180) (tgt := 193) O dX6_set_180 (by decide) ?_ ?_
      · refine j_aload_n (pc := 183) O 1 dX6_set_183 rfl ?_
        refine j_getf (pc := 184) (v := .ref (ad 5)) O 0 10 dX6_set_184 fl_X6_32 so_S2_0 rfl rfl ?_
        refine j_iload_n (pc := 187) O 3 dX6_set_187 rfl ?_
        refine j_iload_n (pc := 188) O 4 dX6_set_188 rfl ?_
        refine j_iast (pc := 189) O 5 dX6_set_189 so_S2_5 (fun M7 => ?_)
        refine j_goto (pc := 190) (tgt := 215) O dX6_set_190 (by decide) ?_
        refine j_iload (pc := 215) O 0 dX6_set_215 rfl ?_
        exact j_iret (pc := 217) O dX6_set_217
      · refine j_iload_n (pc := 193) O 2 dX6_set_193 rfl ?_
        refine j_iconst (pc := 194) (v := 3) O dX6_set_194 (by decide) ?_
        refine j_icmp_ne (pc := 195) (tgt := 208) O dX6_set_195 (by decide) ?_ ?_
        · refine j_aload_n (pc := 198) O 1 dX6_set_198 rfl ?_
          refine j_getf (pc := 199) (v := .ref (ad 6)) O 0 11 dX6_set_199 fl_X6_35 so_S2_0 rfl rfl ?_
          refine j_iload_n (pc := 202) O 3 dX6_set_202 rfl ?_
          refine j_iload_n (pc := 203) O 4 dX6_set_203 rfl ?_
          refine j_iast (pc := 204) O 6 dX6_set_204 so_S2_6 (fun M6 => ?_)
          refine j_goto (pc := 205) (tgt := 215) O dX6_set_205 (by decide) ?_
          refine j_iload (pc := 215) O 0 dX6_set_215 rfl ?_
          exact j_iret (pc := 217) O dX6_set_217
        · refine j_aload_n (pc := 208) O 1 dX6_set_208 rfl ?_
          refine j_getf (pc := 209) (v := .ref (ad 7)) O 0 12 dX6_set_209 fl_X6_38 so_S2_0 rfl rfl ?_
          refine j_iload_n (pc := 212) O 3 dX6_set_212 rfl ?_
          refine j_iload_n (pc := 213) O 4 dX6_set_213 rfl ?_
          refine j_iast (pc := 214) O 7 dX6_set_214 so_S2_7 (fun M5 => ?_)
          refine j_iload (pc := 215) O 0 dX6_set_215 rfl ?_
          exact j_iret (pc := 217) O dX6_set_217
def f_X6_set_j85 (x1 : Int32) (x2 : Int32) (x3 : Int32) (s0 : Int64) (s1 : Int64) (s2 : Int64) (M : Mm) : Option (Int32 × Mm) :=
  bd (f_X6_in s2 s1 s0 M) fun r4 M3 =>
  if r4 = 0 then
    some ((-2 : Int32), M3)
  else
    if x1 = 0 then
      f_X6_set_j151 x1 x2 x3 (M3.1 0 7) M3
    else
      if x1 = (1 : Int32) then
        f_X6_set_j151 x1 x2 x3 (M3.1 0 8) M3
      else
        if x1 = (2 : Int32) then
          gd (bin x2 5 = true) inferInstance <|
          f_X6_set_j151 x1 x2 x3 (M3.1 5 (Int32.toNatClampNeg x2)) M3
        else
          if x1 = (3 : Int32) then
            gd (bin x2 5 = true) inferInstance <|
            f_X6_set_j151 x1 x2 x3 (M3.1 6 (Int32.toNatClampNeg x2)) M3
          else
            gd (bin x2 5 = true) inferInstance <|
            f_X6_set_j151 x1 x2 x3 (M3.1 7 (Int32.toNatClampNeg x2)) M3
set_option maxRecDepth 100000 in
set_option maxHeartbeats 4000000 in
theorem jf_X6_set_j85 {G : wn_G} {ad : Nat → Nat} {X : wn_X} {d : Nat} (O : Ok G RX6 cX6_set 5 d X) (hd0 : 3 ≤ d) (x1 : Int32) (x2 : Int32) (x3 : Int32) (s0 : Int64) (s1 : Int64) (s2 : Int64) (M : Mm) : JW G S2 ad X 85 [(0, .ref (ad 0)), (1, .int x1), (2, .int x2), (3, .int x3)] [.long s0, .long s1, .long s2] M (f_X6_set_j85 x1 x2 x3 s0 s1 s2 M) (Kri G S2 ad X) := by
  unfold f_X6_set_j85
  refine j_callSi (pc := 85) (dc := 1) (As := [.long s2, .long s1, .long s0]) (rest := []) O (fun r M1 h => sp_X6_in h) dX6_set_85 mst_X6_in lm_X6_94 rfl rfl (Nat.le_of_ble_eq_true rfl) (Nat.le_trans (Nat.le_of_ble_eq_true rfl) hd0) (fun r4 M3 => ?_)
  refine j_if_ne (pc := 88) (tgt := 94) O dX6_set_88 (by decide) ?_ ?_
  · refine j_bipush (pc := 91) (v := -2) O dX6_set_91 (by decide) ?_
    exact j_iret (pc := 93) O dX6_set_93
  · refine j_iload_n (pc := 94) O 1 dX6_set_94 rfl ?_
    refine j_if_ne (pc := 95) (tgt := 105) O dX6_set_95 (by decide) ?_ ?_
    · refine j_aload_n (pc := 98) O 0 dX6_set_98 rfl ?_
      refine j_getf (pc := 99) (v := .int (M3.1 0 7)) O 0 7 dX6_set_99 fl_X6_23 so_S2_0 rfl rfl ?_
      refine j_goto (pc := 102) (tgt := 151) O dX6_set_102 (by decide) ?_
      exact jw_sub [0, 1, 2, 3] rfl (jf_X6_set_j151 O hd0 x1 x2 x3 (M3.1 0 7) M3)
    · refine j_iload_n (pc := 105) O 1 dX6_set_105 rfl ?_
      refine j_iconst (pc := 106) (v := 1) O dX6_set_106 (by decide) ?_
      refine j_icmp_ne (pc := 107) (tgt := 117) O dX6_set_107 (by decide) ?_ ?_
      · refine j_aload_n (pc := 110) O 0 dX6_set_110 rfl ?_
        refine j_getf (pc := 111) (v := .int (M3.1 0 8)) O 0 8 dX6_set_111 fl_X6_26 so_S2_0 rfl rfl ?_
        refine j_goto (pc := 114) (tgt := 151) O dX6_set_114 (by decide) ?_
        exact jw_sub [0, 1, 2, 3] rfl (jf_X6_set_j151 O hd0 x1 x2 x3 (M3.1 0 8) M3)
      · refine j_iload_n (pc := 117) O 1 dX6_set_117 rfl ?_
        refine j_iconst (pc := 118) (v := 2) O dX6_set_118 (by decide) ?_
        refine j_icmp_ne (pc := 119) (tgt := 131) O dX6_set_119 (by decide) ?_ ?_
        · refine j_aload_n (pc := 122) O 0 dX6_set_122 rfl ?_
          refine j_getf (pc := 123) (v := .ref (ad 5)) O 0 10 dX6_set_123 fl_X6_32 so_S2_0 rfl rfl ?_
          refine j_iload_n (pc := 126) O 2 dX6_set_126 rfl ?_
          refine j_iald (pc := 127) O 5 dX6_set_127 so_S2_5 ?_
          refine j_goto (pc := 128) (tgt := 151) O dX6_set_128 (by decide) ?_
          exact jw_sub [0, 1, 2, 3] rfl (jf_X6_set_j151 O hd0 x1 x2 x3 (M3.1 5 (Int32.toNatClampNeg x2)) M3)
        · refine j_iload_n (pc := 131) O 1 dX6_set_131 rfl ?_
          refine j_iconst (pc := 132) (v := 3) O dX6_set_132 (by decide) ?_
          refine j_icmp_ne (pc := 133) (tgt := 145) O dX6_set_133 (by decide) ?_ ?_
          · refine j_aload_n (pc := 136) O 0 dX6_set_136 rfl ?_
            refine j_getf (pc := 137) (v := .ref (ad 6)) O 0 11 dX6_set_137 fl_X6_35 so_S2_0 rfl rfl ?_
            refine j_iload_n (pc := 140) O 2 dX6_set_140 rfl ?_
            refine j_iald (pc := 141) O 6 dX6_set_141 so_S2_6 ?_
            refine j_goto (pc := 142) (tgt := 151) O dX6_set_142 (by decide) ?_
            exact jw_sub [0, 1, 2, 3] rfl (jf_X6_set_j151 O hd0 x1 x2 x3 (M3.1 6 (Int32.toNatClampNeg x2)) M3)
          · refine j_aload_n (pc := 145) O 0 dX6_set_145 rfl ?_
            refine j_getf (pc := 146) (v := .ref (ad 7)) O 0 12 dX6_set_146 fl_X6_38 so_S2_0 rfl rfl ?_
            refine j_iload_n (pc := 149) O 2 dX6_set_149 rfl ?_
            refine j_iald (pc := 150) O 7 dX6_set_150 so_S2_7 ?_
            exact jw_sub [0, 1, 2, 3] rfl (jf_X6_set_j151 O hd0 x1 x2 x3 (M3.1 7 (Int32.toNatClampNeg x2)) M3)
def f_X6_set_j54 (x1 : Int32) (x2 : Int32) (x3 : Int32) (s0 : Int64) (s1 : Int64) (M : Mm) : Option (Int32 × Mm) :=
  f_X6_set_j85 x1 x2 x3 (12 : Int64) s0 s1 M
set_option maxRecDepth 100000 in
set_option maxHeartbeats 4000000 in
theorem jf_X6_set_j54 {G : wn_G} {ad : Nat → Nat} {X : wn_X} {d : Nat} (O : Ok G RX6 cX6_set 5 d X) (hd0 : 3 ≤ d) (x1 : Int32) (x2 : Int32) (x3 : Int32) (s0 : Int64) (s1 : Int64) (M : Mm) : JW G S2 ad X 54 [(0, .ref (ad 0)), (1, .int x1), (2, .int x2), (3, .int x3)] [.long s0, .long s1] M (f_X6_set_j54 x1 x2 x3 s0 s1 M) (Kri G S2 ad X) := by
  unfold f_X6_set_j54
  refine j_ldc2 (pc := 54) (v := 12) O dX6_set_54 gk_X6_104 ?_
  refine j_goto (pc := 57) (tgt := 85) O dX6_set_57 (by decide) ?_
  exact jw_sub [0, 1, 2, 3] rfl (jf_X6_set_j85 O hd0 x1 x2 x3 (12 : Int64) s0 s1 M)
def f_X6_set_j45 (x1 : Int32) (x2 : Int32) (x3 : Int32) (s0 : Int64) (s1 : Int64) (M : Mm) : Option (Int32 × Mm) :=
  if x1 = 0 then
    f_X6_set_j54 x1 x2 x3 s0 s1 M
  else
    if x1 = (3 : Int32) then
      f_X6_set_j54 x1 x2 x3 s0 s1 M
    else
      if x1 = (1 : Int32) then
        f_X6_set_j85 x1 x2 x3 (2 : Int64) s0 s1 M
      else
        if x1 = (2 : Int32) then
          f_X6_set_j85 x1 x2 x3 (9 : Int64) s0 s1 M
        else
          f_X6_set_j85 x1 x2 x3 (20 : Int64) s0 s1 M
set_option maxRecDepth 100000 in
set_option maxHeartbeats 4000000 in
theorem jf_X6_set_j45 {G : wn_G} {ad : Nat → Nat} {X : wn_X} {d : Nat} (O : Ok G RX6 cX6_set 5 d X) (hd0 : 3 ≤ d) (x1 : Int32) (x2 : Int32) (x3 : Int32) (s0 : Int64) (s1 : Int64) (M : Mm) : JW G S2 ad X 45 [(0, .ref (ad 0)), (1, .int x1), (2, .int x2), (3, .int x3)] [.long s0, .long s1] M (f_X6_set_j45 x1 x2 x3 s0 s1 M) (Kri G S2 ad X) := by
  unfold f_X6_set_j45
  refine j_iload_n (pc := 45) O 1 dX6_set_45 rfl ?_
  refine j_if_eq (pc := 46) (tgt := 54) O dX6_set_46 (by decide) ?_ ?_
  · exact jw_sub [0, 1, 2, 3] rfl (jf_X6_set_j54 O hd0 x1 x2 x3 s0 s1 M)
  · refine j_iload_n (pc := 49) O 1 dX6_set_49 rfl ?_
    refine j_iconst (pc := 50) (v := 3) O dX6_set_50 (by decide) ?_
    refine j_icmp_ne (pc := 51) (tgt := 60) O dX6_set_51 (by decide) ?_ ?_
    · exact jw_sub [0, 1, 2, 3] rfl (jf_X6_set_j54 O hd0 x1 x2 x3 s0 s1 M)
    · refine j_iload_n (pc := 60) O 1 dX6_set_60 rfl ?_
      refine j_iconst (pc := 61) (v := 1) O dX6_set_61 (by decide) ?_
      refine j_icmp_ne (pc := 62) (tgt := 71) O dX6_set_62 (by decide) ?_ ?_
      · refine j_ldc2 (pc := 65) (v := 2) O dX6_set_65 gk_X6_106 ?_
        refine j_goto (pc := 68) (tgt := 85) O dX6_set_68 (by decide) ?_
        exact jw_sub [0, 1, 2, 3] rfl (jf_X6_set_j85 O hd0 x1 x2 x3 (2 : Int64) s0 s1 M)
      · refine j_iload_n (pc := 71) O 1 dX6_set_71 rfl ?_
        refine j_iconst (pc := 72) (v := 2) O dX6_set_72 (by decide) ?_
        refine j_icmp_ne (pc := 73) (tgt := 82) O dX6_set_73 (by decide) ?_ ?_
        · refine j_ldc2 (pc := 76) (v := 9) O dX6_set_76 gk_X6_108 ?_
          refine j_goto (pc := 79) (tgt := 85) O dX6_set_79 (by decide) ?_
          exact jw_sub [0, 1, 2, 3] rfl (jf_X6_set_j85 O hd0 x1 x2 x3 (9 : Int64) s0 s1 M)
        · refine j_ldc2 (pc := 82) (v := 20) O dX6_set_82 gk_X6_110 ?_
          exact jw_sub [0, 1, 2, 3] rfl (jf_X6_set_j85 O hd0 x1 x2 x3 (20 : Int64) s0 s1 M)
def f_X6_set_j40 (x1 : Int32) (x2 : Int32) (x3 : Int32) (s0 : Int64) (M : Mm) : Option (Int32 × Mm) :=
  f_X6_set_j45 x1 x2 x3 (1 : Int64) s0 M
set_option maxRecDepth 100000 in
set_option maxHeartbeats 4000000 in
theorem jf_X6_set_j40 {G : wn_G} {ad : Nat → Nat} {X : wn_X} {d : Nat} (O : Ok G RX6 cX6_set 5 d X) (hd0 : 3 ≤ d) (x1 : Int32) (x2 : Int32) (x3 : Int32) (s0 : Int64) (M : Mm) : JW G S2 ad X 40 [(0, .ref (ad 0)), (1, .int x1), (2, .int x2), (3, .int x3)] [.long s0] M (f_X6_set_j40 x1 x2 x3 s0 M) (Kri G S2 ad X) := by
  unfold f_X6_set_j40
  refine j_lconst (pc := 40) (v := 1) O dX6_set_40 (by decide) ?_
  refine j_goto (pc := 41) (tgt := 45) O dX6_set_41 (by decide) ?_
  exact jw_sub [0, 1, 2, 3] rfl (jf_X6_set_j45 O hd0 x1 x2 x3 (1 : Int64) s0 M)
def f_X6_set_j28 (x1 : Int32) (x2 : Int32) (x3 : Int32) (M : Mm) : Option (Int32 × Mm) :=
  if x1 = (1 : Int32) then
    f_X6_set_j40 x1 x2 x3 (Int32.toInt64 x3) M
  else
    if x1 = (4 : Int32) then
      f_X6_set_j40 x1 x2 x3 (Int32.toInt64 x3) M
    else
      f_X6_set_j45 x1 x2 x3 (0 : Int64) (Int32.toInt64 x3) M
set_option maxRecDepth 100000 in
set_option maxHeartbeats 4000000 in
theorem jf_X6_set_j28 {G : wn_G} {ad : Nat → Nat} {X : wn_X} {d : Nat} (O : Ok G RX6 cX6_set 5 d X) (hd0 : 3 ≤ d) (x1 : Int32) (x2 : Int32) (x3 : Int32) (M : Mm) : JW G S2 ad X 28 [(0, .ref (ad 0)), (1, .int x1), (2, .int x2), (3, .int x3)] [] M (f_X6_set_j28 x1 x2 x3 M) (Kri G S2 ad X) := by
  unfold f_X6_set_j28
  refine j_iload_n (pc := 28) O 3 dX6_set_28 rfl ?_
  refine j_i2l (pc := 29) O dX6_set_29 ?_
  refine j_iload_n (pc := 30) O 1 dX6_set_30 rfl ?_
  refine j_iconst (pc := 31) (v := 1) O dX6_set_31 (by decide) ?_
  refine j_icmp_eq (pc := 32) (tgt := 40) O dX6_set_32 (by decide) ?_ ?_
  · exact jw_sub [0, 1, 2, 3] rfl (jf_X6_set_j40 O hd0 x1 x2 x3 (Int32.toInt64 x3) M)
  · refine j_iload_n (pc := 35) O 1 dX6_set_35 rfl ?_
    refine j_iconst (pc := 36) (v := 4) O dX6_set_36 (by decide) ?_
    refine j_icmp_ne (pc := 37) (tgt := 44) O dX6_set_37 (by decide) ?_ ?_
    · exact jw_sub [0, 1, 2, 3] rfl (jf_X6_set_j40 O hd0 x1 x2 x3 (Int32.toInt64 x3) M)
    · refine j_lconst (pc := 44) (v := 0) O dX6_set_44 (by decide) ?_
      exact jw_sub [0, 1, 2, 3] rfl (jf_X6_set_j45 O hd0 x1 x2 x3 (0 : Int64) (Int32.toInt64 x3) M)
def f_X6_set (x1 : Int32) (x2 : Int32) (x3 : Int32) (M : Mm) : Option (Int32 × Mm) :=
  bd (f_X6_in (Int32.toInt64 x1) (0 : Int64) (4 : Int64) M) fun r2 M1 =>
  if r2 = 0 then
    some ((-2 : Int32), M1)
  else
    if x1 ≤ (1 : Int32) then
      f_X6_set_j28 x1 x2 x3 M1
    else
      bd (f_X6_isEater x2 M1) fun r11 M10 =>
      if r11 = 0 then
        some ((-2 : Int32), M10)
      else
        f_X6_set_j28 x1 x2 x3 M10
set_option maxRecDepth 100000 in
set_option maxHeartbeats 4000000 in
theorem jf_X6_set {G : wn_G} {ad : Nat → Nat} {X : wn_X} {d : Nat} (O : Ok G RX6 cX6_set 5 d X) (hd0 : 3 ≤ d) (x1 : Int32) (x2 : Int32) (x3 : Int32) (M : Mm) : JW G S2 ad X 0 [(0, .ref (ad 0)), (1, .int x1), (2, .int x2), (3, .int x3)] [] M (f_X6_set x1 x2 x3 M) (Kri G S2 ad X) := by
  unfold f_X6_set
  refine j_iload_n (pc := 0) O 1 dX6_set_0 rfl ?_
  refine j_i2l (pc := 1) O dX6_set_1 ?_
  refine j_lconst (pc := 2) (v := 0) O dX6_set_2 (by decide) ?_
  refine j_ldc2 (pc := 3) (v := 4) O dX6_set_3 gk_X6_98 ?_
  refine j_callSi (pc := 6) (dc := 1) (As := [.long (Int32.toInt64 x1), .long (0 : Int64), .long (4 : Int64)]) (rest := []) O (fun r M1 h => sp_X6_in h) dX6_set_6 mst_X6_in lm_X6_94 rfl rfl (Nat.le_of_ble_eq_true rfl) (Nat.le_trans (Nat.le_of_ble_eq_true rfl) hd0) (fun r2 M1 => ?_)
  refine j_if_eq (pc := 9) (tgt := 25) O dX6_set_9 (by decide) ?_ ?_
  · refine j_bipush (pc := 25) (v := -2) O dX6_set_25 (by decide) ?_
    exact j_iret (pc := 27) O dX6_set_27
  · refine j_iload_n (pc := 12) O 1 dX6_set_12 rfl ?_
    refine j_iconst (pc := 13) (v := 1) O dX6_set_13 (by decide) ?_
    refine j_icmp_le (pc := 14) (tgt := 28) O dX6_set_14 (by decide) ?_ ?_
    · exact jw_sub [0, 1, 2, 3] rfl (jf_X6_set_j28 O hd0 x1 x2 x3 M1)
    · refine j_aload_n (pc := 17) O 0 dX6_set_17 rfl ?_
      refine j_iload_n (pc := 18) O 2 dX6_set_18 rfl ?_
      refine j_callVi (pc := 19) (dc := 2) (As := [.int x2]) (rest := []) O 0 (fun r M1 h => sp_X6_isEater h) dX6_set_19 mv_X6_isEater lm_X6_100 so_S2_0 rfl rfl (Nat.le_of_ble_eq_true rfl) (Nat.le_trans (Nat.le_of_ble_eq_true rfl) hd0) (fun r11 M10 => ?_)
      refine j_if_ne (pc := 22) (tgt := 28) O dX6_set_22 (by decide) ?_ ?_
      · refine j_bipush (pc := 25) (v := -2) O dX6_set_25 (by decide) ?_
        exact j_iret (pc := 27) O dX6_set_27
      · exact jw_sub [0, 1, 2, 3] rfl (jf_X6_set_j28 O hd0 x1 x2 x3 M10)
theorem sp_X6_set {G : wn_G} {ad : Nat → Nat} {x1 : Int32} {x2 : Int32} {x3 : Int32} {M : Mm} {r : Int32} {M1 : Mm} (h : f_X6_set x1 x2 x3 M = some (r, M1)) : Sp G S2 ad mX6_set 3 [.ref (ad 0), .int x1, .int x2, .int x3] M M1 (some (.int r)) :=
  sp_intro (own := RX6) (by decide +kernel) rfl (Nat.le_of_ble_eq_true rfl) (fun X O T => jf_X6_set O (Nat.le_refl _) x1 x2 x3 M (r, M1) h T)
def f_X3_seat_1 (x1 : Int32) (x2 : Int32) (x3 : Int32) (M : Mm) : Option (Int32 × Mm) :=
  if x1 < 0 then
    some ((-2 : Int32), M)
  else
    if (6 : Int32) ≤ x1 then
      some ((-2 : Int32), M)
    else
      if x2 < 0 then
        some ((-2 : Int32), M)
      else
        if x3 < (1 : Int32) then
          some ((-2 : Int32), M)
        else
          if x3 ≤ (20 : Int32) then
            gd (¬ (100 : Int32) = 0) inferInstance <|
            if (9 : Int32) < (x2 / (100 : Int32)) then
              some ((-2 : Int32), M)
            else
              gd (¬ (100 : Int32) = 0) inferInstance <|
              if (irm x2 (100 : Int32)) ≤ (12 : Int32) then
                if (M.1 1 3) < 0 then
                  some ((-4 : Int32), M)
                else
                  if (M.1 1 3) < (5 : Int32) then
                    gd (bin (M.1 1 3) 5 = true) inferInstance <| bm (ms M 7 (Int32.toNatClampNeg (M.1 1 3)) x1) fun M1 =>
                    gd (¬ (100 : Int32) = 0) inferInstance <|
                    gd (bin (M1.1 1 3) 5 = true) inferInstance <| bm (ms M1 8 (Int32.toNatClampNeg (M1.1 1 3)) (x2 / (100 : Int32))) fun M2 =>
                    gd (¬ (100 : Int32) = 0) inferInstance <|
                    gd (bin (M2.1 1 3) 5 = true) inferInstance <| bm (ms M2 9 (Int32.toNatClampNeg (M2.1 1 3)) (irm x2 (100 : Int32))) fun M3 =>
                    gd (bin (M3.1 1 3) 5 = true) inferInstance <| bm (ms M3 10 (Int32.toNatClampNeg (M3.1 1 3)) x3) fun M4 =>
                    bm (ms M4 1 3 ((M4.1 1 3) + (1 : Int32))) fun M5 =>
                    some (((M5.1 1 3) - (1 : Int32)), M5)
                  else
                    some ((-4 : Int32), M)
              else
                some ((-2 : Int32), M)
          else
            some ((-2 : Int32), M)
set_option maxRecDepth 100000 in
set_option maxHeartbeats 4000000 in
theorem jf_X3_seat_1 {G : wn_G} {ad : Nat → Nat} {X : wn_X} {d : Nat} (O : Ok G RX3 cX3_seat 4 d X) (hd0 : 1 ≤ d) (x1 : Int32) (x2 : Int32) (x3 : Int32) (M : Mm) : JW G S1 ad X 0 [(0, .ref (ad 1)), (1, .int x1), (2, .int x2), (3, .int x3)] [] M (f_X3_seat_1 x1 x2 x3 M) (Kri G S1 ad X) := by
  unfold f_X3_seat_1
  refine j_iload_n (pc := 0) O 1 dX3_seat_0 rfl ?_
  refine j_if_lt (pc := 1) (tgt := 25) O dX3_seat_1 (by decide) ?_ ?_
  · refine j_bipush (pc := 25) (v := -2) O dX3_seat_25 (by decide) ?_
    exact j_iret (pc := 27) O dX3_seat_27
  · refine j_iload_n (pc := 4) O 1 dX3_seat_4 rfl ?_
    refine j_bipush (pc := 5) (v := 6) O dX3_seat_5 (by decide) ?_
    refine j_icmp_ge (pc := 7) (tgt := 25) O dX3_seat_7 (by decide) ?_ ?_
    · refine j_bipush (pc := 25) (v := -2) O dX3_seat_25 (by decide) ?_
      exact j_iret (pc := 27) O dX3_seat_27
    · refine j_iload_n (pc := 10) O 2 dX3_seat_10 rfl ?_
      refine j_if_lt (pc := 11) (tgt := 25) O dX3_seat_11 (by decide) ?_ ?_
      · refine j_bipush (pc := 25) (v := -2) O dX3_seat_25 (by decide) ?_
        exact j_iret (pc := 27) O dX3_seat_27
      · refine j_iload_n (pc := 14) O 3 dX3_seat_14 rfl ?_
        refine j_iconst (pc := 15) (v := 1) O dX3_seat_15 (by decide) ?_
        refine j_icmp_lt (pc := 16) (tgt := 25) O dX3_seat_16 (by decide) ?_ ?_
        · refine j_bipush (pc := 25) (v := -2) O dX3_seat_25 (by decide) ?_
          exact j_iret (pc := 27) O dX3_seat_27
        · refine j_iload_n (pc := 19) O 3 dX3_seat_19 rfl ?_
          refine j_bipush (pc := 20) (v := 20) O dX3_seat_20 (by decide) ?_
          refine j_icmp_le (pc := 22) (tgt := 28) O dX3_seat_22 (by decide) ?_ ?_
          · refine j_iload_n (pc := 28) O 2 dX3_seat_28 rfl ?_
            refine j_bipush (pc := 29) (v := 100) O dX3_seat_29 (by decide) ?_
            refine j_idiv (pc := 31) O dX3_seat_31 ?_
            refine j_bipush (pc := 32) (v := 9) O dX3_seat_32 (by decide) ?_
            refine j_icmp_gt (pc := 34) (tgt := 46) O dX3_seat_34 (by decide) ?_ ?_
            · refine j_bipush (pc := 46) (v := -2) O dX3_seat_46 (by decide) ?_
              exact j_iret (pc := 48) O dX3_seat_48
            · refine j_iload_n (pc := 37) O 2 dX3_seat_37 rfl ?_
              refine j_bipush (pc := 38) (v := 100) O dX3_seat_38 (by decide) ?_
              refine j_irem (pc := 40) O dX3_seat_40 ?_
              refine j_bipush (pc := 41) (v := 12) O dX3_seat_41 (by decide) ?_
              refine j_icmp_le (pc := 43) (tgt := 49) O dX3_seat_43 (by decide) ?_ ?_
              · refine j_aload_n (pc := 49) O 0 dX3_seat_49 rfl ?_
                refine j_getf (pc := 50) (v := .int (M.1 1 3)) O 1 3 dX3_seat_50 fl_X3_31 so_S1_1 rfl rfl ?_
                refine j_if_lt (pc := 53) (tgt := 64) O dX3_seat_53 (by decide) ?_ ?_
                · refine j_bipush (pc := 64) (v := -4) O dX3_seat_64 (by decide) ?_
                  exact j_iret (pc := 66) O dX3_seat_66
                · refine j_aload_n (pc := 56) O 0 dX3_seat_56 rfl ?_
                  refine j_getf (pc := 57) (v := .int (M.1 1 3)) O 1 3 dX3_seat_57 fl_X3_31 so_S1_1 rfl rfl ?_
                  refine j_iconst (pc := 60) (v := 5) O dX3_seat_60 (by decide) ?_
                  refine j_icmp_lt (pc := 61) (tgt := 67) O dX3_seat_61 (by decide) ?_ ?_
                  · refine j_aload_n (pc := 67) O 0 dX3_seat_67 rfl ?_
                    refine j_getf (pc := 68) (v := .ref (ad 7)) O 1 4 dX3_seat_68 fl_X3_18 so_S1_1 rfl rfl ?_
                    refine j_aload_n (pc := 71) O 0 dX3_seat_71 rfl ?_
                    refine j_getf (pc := 72) (v := .int (M.1 1 3)) O 1 3 dX3_seat_72 fl_X3_31 so_S1_1 rfl rfl ?_
                    refine j_iload_n (pc := 75) O 1 dX3_seat_75 rfl ?_
                    refine j_iast (pc := 76) O 7 dX3_seat_76 so_S1_7 (fun M1 => ?_)
                    refine j_aload_n (pc := 77) O 0 dX3_seat_77 rfl ?_
                    refine j_getf (pc := 78) (v := .ref (ad 8)) O 1 5 dX3_seat_78 fl_X3_22 so_S1_1 rfl rfl ?_
                    refine j_aload_n (pc := 81) O 0 dX3_seat_81 rfl ?_
                    refine j_getf (pc := 82) (v := .int (M1.1 1 3)) O 1 3 dX3_seat_82 fl_X3_31 so_S1_1 rfl rfl ?_
                    refine j_iload_n (pc := 85) O 2 dX3_seat_85 rfl ?_
                    refine j_bipush (pc := 86) (v := 100) O dX3_seat_86 (by decide) ?_
                    refine j_idiv (pc := 88) O dX3_seat_88 ?_
                    refine j_iast (pc := 89) O 8 dX3_seat_89 so_S1_8 (fun M2 => ?_)
                    refine j_aload_n (pc := 90) O 0 dX3_seat_90 rfl ?_
                    refine j_getf (pc := 91) (v := .ref (ad 9)) O 1 6 dX3_seat_91 fl_X3_25 so_S1_1 rfl rfl ?_
                    refine j_aload_n (pc := 94) O 0 dX3_seat_94 rfl ?_
                    refine j_getf (pc := 95) (v := .int (M2.1 1 3)) O 1 3 dX3_seat_95 fl_X3_31 so_S1_1 rfl rfl ?_
                    refine j_iload_n (pc := 98) O 2 dX3_seat_98 rfl ?_
                    refine j_bipush (pc := 99) (v := 100) O dX3_seat_99 (by decide) ?_
                    refine j_irem (pc := 101) O dX3_seat_101 ?_
                    refine j_iast (pc := 102) O 9 dX3_seat_102 so_S1_9 (fun M3 => ?_)
                    refine j_aload_n (pc := 103) O 0 dX3_seat_103 rfl ?_
                    refine j_getf (pc := 104) (v := .ref (ad 10)) O 1 7 dX3_seat_104 fl_X3_28 so_S1_1 rfl rfl ?_
                    refine j_aload_n (pc := 107) O 0 dX3_seat_107 rfl ?_
                    refine j_getf (pc := 108) (v := .int (M3.1 1 3)) O 1 3 dX3_seat_108 fl_X3_31 so_S1_1 rfl rfl ?_
                    refine j_iload_n (pc := 111) O 3 dX3_seat_111 rfl ?_
                    refine j_iast (pc := 112) O 10 dX3_seat_112 so_S1_10 (fun M4 => ?_)
                    refine j_aload_n (pc := 113) O 0 dX3_seat_113 rfl ?_
                    refine j_dup (pc := 114) O dX3_seat_114 rfl ?_
                    refine j_getf (pc := 115) (v := .int (M4.1 1 3)) O 1 3 dX3_seat_115 fl_X3_31 so_S1_1 rfl rfl ?_
                    refine j_iconst (pc := 118) (v := 1) O dX3_seat_118 (by decide) ?_
                    refine j_iadd (pc := 119) O dX3_seat_119 ?_
                    refine j_puti (pc := 120) O 1 3 dX3_seat_120 fl_X3_31 so_S1_1 ft_X3_3 rfl (fun M5 => ?_)
                    refine j_aload_n (pc := 123) O 0 dX3_seat_123 rfl ?_
                    refine j_getf (pc := 124) (v := .int (M5.1 1 3)) O 1 3 dX3_seat_124 fl_X3_31 so_S1_1 rfl rfl ?_
                    refine j_iconst (pc := 127) (v := 1) O dX3_seat_127 (by decide) ?_
                    refine j_isub (pc := 128) O dX3_seat_128 ?_
                    exact j_iret (pc := 129) O dX3_seat_129
                  · refine j_bipush (pc := 64) (v := -4) O dX3_seat_64 (by decide) ?_
                    exact j_iret (pc := 66) O dX3_seat_66
              · refine j_bipush (pc := 46) (v := -2) O dX3_seat_46 (by decide) ?_
                exact j_iret (pc := 48) O dX3_seat_48
          · refine j_bipush (pc := 25) (v := -2) O dX3_seat_25 (by decide) ?_
            exact j_iret (pc := 27) O dX3_seat_27
theorem sp_X3_seat_1 {G : wn_G} {ad : Nat → Nat} {x1 : Int32} {x2 : Int32} {x3 : Int32} {M : Mm} {r : Int32} {M1 : Mm} (h : f_X3_seat_1 x1 x2 x3 M = some (r, M1)) : Sp G S1 ad mX3_seat 1 [.ref (ad 1), .int x1, .int x2, .int x3] M M1 (some (.int r)) :=
  sp_intro (own := RX3) (by decide +kernel) rfl (Nat.le_of_ble_eq_true rfl) (fun X O T => jf_X3_seat_1 O (Nat.le_refl _) x1 x2 x3 M (r, M1) h T)
def f_X5_eater (x1 : Int32) (x2 : Int32) (x3 : Int32) (M : Mm) : Option (Int32 × Mm) :=
  bd (f_X3_seat_1 x1 x2 x3 M) fun r2 M1 =>
  some (r2, M1)
set_option maxRecDepth 100000 in
set_option maxHeartbeats 4000000 in
theorem jf_X5_eater {G : wn_G} {ad : Nat → Nat} {X : wn_X} {d : Nat} (O : Ok G RX5 cX5_eater 4 d X) (hd0 : 2 ≤ d) (x1 : Int32) (x2 : Int32) (x3 : Int32) (M : Mm) : JW G S1 ad X 0 [(0, .ref (ad 0)), (1, .int x1), (2, .int x2), (3, .int x3)] [] M (f_X5_eater x1 x2 x3 M) (Kri G S1 ad X) := by
  unfold f_X5_eater
  refine j_aload_n (pc := 0) O 0 dX5_eater_0 rfl ?_
  refine j_getf (pc := 1) (v := .ref (ad 1)) O 0 0 dX5_eater_1 fl_X5_10 so_S1_0 rfl rfl ?_
  refine j_iload_n (pc := 4) O 1 dX5_eater_4 rfl ?_
  refine j_iload_n (pc := 5) O 2 dX5_eater_5 rfl ?_
  refine j_iload_n (pc := 6) O 3 dX5_eater_6 rfl ?_
  refine j_callVi (pc := 7) (dc := 1) (As := [.int x1, .int x2, .int x3]) (rest := []) O 1 (fun r M1 h => sp_X3_seat_1 h) dX5_eater_7 mv_X3_seat lm_X5_74 so_S1_1 rfl rfl (Nat.le_of_ble_eq_true rfl) (Nat.le_trans (Nat.le_of_ble_eq_true rfl) hd0) (fun r2 M1 => ?_)
  exact j_iret (pc := 10) O dX5_eater_10
theorem sp_X5_eater {G : wn_G} {ad : Nat → Nat} {x1 : Int32} {x2 : Int32} {x3 : Int32} {M : Mm} {r : Int32} {M1 : Mm} (h : f_X5_eater x1 x2 x3 M = some (r, M1)) : Sp G S1 ad mX5_eater 2 [.ref (ad 0), .int x1, .int x2, .int x3] M M1 (some (.int r)) :=
  sp_intro (own := RX5) (by decide +kernel) rfl (Nat.le_of_ble_eq_true rfl) (fun X O T => jf_X5_eater O (Nat.le_refl _) x1 x2 x3 M (r, M1) h T)
def f_X6_eater (x1 : Int32) (x2 : Int32) (x3 : Int32) (M : Mm) : Option (Int32 × Mm) :=
  bd (f_X6_in (Int32.toInt64 x1) (0 : Int64) (5 : Int64) M) fun r2 M1 =>
  if r2 = 0 then
    some ((-2 : Int32), M1)
  else
    bd (f_X6_in (Int32.toInt64 x2) (0 : Int64) (912 : Int64) M1) fun r4 M3 =>
    if r4 = 0 then
      some ((-2 : Int32), M3)
    else
      gd (¬ (100 : Int32) = 0) inferInstance <|
      if (12 : Int32) < (irm x2 (100 : Int32)) then
        some ((-2 : Int32), M3)
      else
        bd (f_X6_in (Int32.toInt64 x3) (1 : Int64) (20 : Int64) M3) fun r6 M5 =>
        if r6 = 0 then
          some ((-2 : Int32), M5)
        else
          if (M5.1 0 13) = (5 : Int32) then
            some ((-4 : Int32), M5)
          else
            gd (bin (M5.1 0 13) 5 = true) inferInstance <| bm (ms M5 4 (Int32.toNatClampNeg (M5.1 0 13)) x1) fun M7 =>
            gd (¬ (100 : Int32) = 0) inferInstance <|
            gd (bin (M7.1 0 13) 5 = true) inferInstance <| bm (ms M7 5 (Int32.toNatClampNeg (M7.1 0 13)) (x2 / (100 : Int32))) fun M8 =>
            gd (¬ (100 : Int32) = 0) inferInstance <|
            gd (bin (M8.1 0 13) 5 = true) inferInstance <| bm (ms M8 6 (Int32.toNatClampNeg (M8.1 0 13)) (irm x2 (100 : Int32))) fun M9 =>
            gd (bin (M9.1 0 13) 5 = true) inferInstance <| bm (ms M9 7 (Int32.toNatClampNeg (M9.1 0 13)) x3) fun M10 =>
            bm (ms M10 0 13 ((M10.1 0 13) + (1 : Int32))) fun M11 =>
            some (((M11.1 0 13) - (1 : Int32)), M11)
set_option maxRecDepth 100000 in
set_option maxHeartbeats 4000000 in
theorem jf_X6_eater {G : wn_G} {ad : Nat → Nat} {X : wn_X} {d : Nat} (O : Ok G RX6 cX6_eater 4 d X) (hd0 : 2 ≤ d) (x1 : Int32) (x2 : Int32) (x3 : Int32) (M : Mm) : JW G S2 ad X 0 [(0, .ref (ad 0)), (1, .int x1), (2, .int x2), (3, .int x3)] [] M (f_X6_eater x1 x2 x3 M) (Kri G S2 ad X) := by
  unfold f_X6_eater
  refine j_iload_n (pc := 0) O 1 dX6_eater_0 rfl ?_
  refine j_i2l (pc := 1) O dX6_eater_1 ?_
  refine j_lconst (pc := 2) (v := 0) O dX6_eater_2 (by decide) ?_
  refine j_ldc2 (pc := 3) (v := 5) O dX6_eater_3 gk_X6_112 ?_
  refine j_callSi (pc := 6) (dc := 1) (As := [.long (Int32.toInt64 x1), .long (0 : Int64), .long (5 : Int64)]) (rest := []) O (fun r M1 h => sp_X6_in h) dX6_eater_6 mst_X6_in lm_X6_94 rfl rfl (Nat.le_of_ble_eq_true rfl) (Nat.le_trans (Nat.le_of_ble_eq_true rfl) hd0) (fun r2 M1 => ?_)
  refine j_if_eq (pc := 9) (tgt := 45) O dX6_eater_9 (by decide) ?_ ?_
  · refine j_bipush (pc := 45) (v := -2) O dX6_eater_45 (by decide) ?_
    exact j_iret (pc := 47) O dX6_eater_47
  · refine j_iload_n (pc := 12) O 2 dX6_eater_12 rfl ?_
    refine j_i2l (pc := 13) O dX6_eater_13 ?_
    refine j_lconst (pc := 14) (v := 0) O dX6_eater_14 (by decide) ?_
    refine j_ldc2 (pc := 15) (v := 912) O dX6_eater_15 gk_X6_114 ?_
    refine j_callSi (pc := 18) (dc := 1) (As := [.long (Int32.toInt64 x2), .long (0 : Int64), .long (912 : Int64)]) (rest := []) O (fun r M1 h => sp_X6_in h) dX6_eater_18 mst_X6_in lm_X6_94 rfl rfl (Nat.le_of_ble_eq_true rfl) (Nat.le_trans (Nat.le_of_ble_eq_true rfl) hd0) (fun r4 M3 => ?_)
    refine j_if_eq (pc := 21) (tgt := 45) O dX6_eater_21 (by decide) ?_ ?_
    · refine j_bipush (pc := 45) (v := -2) O dX6_eater_45 (by decide) ?_
      exact j_iret (pc := 47) O dX6_eater_47
    · refine j_iload_n (pc := 24) O 2 dX6_eater_24 rfl ?_
      refine j_bipush (pc := 25) (v := 100) O dX6_eater_25 (by decide) ?_
      refine j_irem (pc := 27) O dX6_eater_27 ?_
      refine j_bipush (pc := 28) (v := 12) O dX6_eater_28 (by decide) ?_
      refine j_icmp_gt (pc := 30) (tgt := 45) O dX6_eater_30 (by decide) ?_ ?_
      · refine j_bipush (pc := 45) (v := -2) O dX6_eater_45 (by decide) ?_
        exact j_iret (pc := 47) O dX6_eater_47
      · refine j_iload_n (pc := 33) O 3 dX6_eater_33 rfl ?_
        refine j_i2l (pc := 34) O dX6_eater_34 ?_
        refine j_lconst (pc := 35) (v := 1) O dX6_eater_35 (by decide) ?_
        refine j_ldc2 (pc := 36) (v := 20) O dX6_eater_36 gk_X6_110 ?_
        refine j_callSi (pc := 39) (dc := 1) (As := [.long (Int32.toInt64 x3), .long (1 : Int64), .long (20 : Int64)]) (rest := []) O (fun r M1 h => sp_X6_in h) dX6_eater_39 mst_X6_in lm_X6_94 rfl rfl (Nat.le_of_ble_eq_true rfl) (Nat.le_trans (Nat.le_of_ble_eq_true rfl) hd0) (fun r6 M5 => ?_)
        refine j_if_ne (pc := 42) (tgt := 48) O dX6_eater_42 (by decide) ?_ ?_
        · refine j_bipush (pc := 45) (v := -2) O dX6_eater_45 (by decide) ?_
          exact j_iret (pc := 47) O dX6_eater_47
        · refine j_aload_n (pc := 48) O 0 dX6_eater_48 rfl ?_
          refine j_getf (pc := 49) (v := .int (M5.1 0 13)) O 0 13 dX6_eater_49 fl_X6_91 so_S2_0 rfl rfl ?_
          refine j_iconst (pc := 52) (v := 5) O dX6_eater_52 (by decide) ?_
          refine j_icmp_ne (pc := 53) (tgt := 59) O dX6_eater_53 (by decide) ?_ ?_
          · refine j_bipush (pc := 56) (v := -4) O dX6_eater_56 (by decide) ?_
            exact j_iret (pc := 58) O dX6_eater_58
          · refine j_aload_n (pc := 59) O 0 dX6_eater_59 rfl ?_
            refine j_getf (pc := 60) (v := .ref (ad 4)) O 0 9 dX6_eater_60 fl_X6_29 so_S2_0 rfl rfl ?_
            refine j_aload_n (pc := 63) O 0 dX6_eater_63 rfl ?_
            refine j_getf (pc := 64) (v := .int (M5.1 0 13)) O 0 13 dX6_eater_64 fl_X6_91 so_S2_0 rfl rfl ?_
            refine j_iload_n (pc := 67) O 1 dX6_eater_67 rfl ?_
            refine j_iast (pc := 68) O 4 dX6_eater_68 so_S2_4 (fun M7 => ?_)
            refine j_aload_n (pc := 69) O 0 dX6_eater_69 rfl ?_
            refine j_getf (pc := 70) (v := .ref (ad 5)) O 0 10 dX6_eater_70 fl_X6_32 so_S2_0 rfl rfl ?_
            refine j_aload_n (pc := 73) O 0 dX6_eater_73 rfl ?_
            refine j_getf (pc := 74) (v := .int (M7.1 0 13)) O 0 13 dX6_eater_74 fl_X6_91 so_S2_0 rfl rfl ?_
            refine j_iload_n (pc := 77) O 2 dX6_eater_77 rfl ?_
            refine j_bipush (pc := 78) (v := 100) O dX6_eater_78 (by decide) ?_
            refine j_idiv (pc := 80) O dX6_eater_80 ?_
            refine j_iast (pc := 81) O 5 dX6_eater_81 so_S2_5 (fun M8 => ?_)
            refine j_aload_n (pc := 82) O 0 dX6_eater_82 rfl ?_
            refine j_getf (pc := 83) (v := .ref (ad 6)) O 0 11 dX6_eater_83 fl_X6_35 so_S2_0 rfl rfl ?_
            refine j_aload_n (pc := 86) O 0 dX6_eater_86 rfl ?_
            refine j_getf (pc := 87) (v := .int (M8.1 0 13)) O 0 13 dX6_eater_87 fl_X6_91 so_S2_0 rfl rfl ?_
            refine j_iload_n (pc := 90) O 2 dX6_eater_90 rfl ?_
            refine j_bipush (pc := 91) (v := 100) O dX6_eater_91 (by decide) ?_
            refine j_irem (pc := 93) O dX6_eater_93 ?_
            refine j_iast (pc := 94) O 6 dX6_eater_94 so_S2_6 (fun M9 => ?_)
            refine j_aload_n (pc := 95) O 0 dX6_eater_95 rfl ?_
            refine j_getf (pc := 96) (v := .ref (ad 7)) O 0 12 dX6_eater_96 fl_X6_38 so_S2_0 rfl rfl ?_
            refine j_aload_n (pc := 99) O 0 dX6_eater_99 rfl ?_
            refine j_getf (pc := 100) (v := .int (M9.1 0 13)) O 0 13 dX6_eater_100 fl_X6_91 so_S2_0 rfl rfl ?_
            refine j_iload_n (pc := 103) O 3 dX6_eater_103 rfl ?_
            refine j_iast (pc := 104) O 7 dX6_eater_104 so_S2_7 (fun M10 => ?_)
            refine j_aload_n (pc := 105) O 0 dX6_eater_105 rfl ?_
            refine j_dup (pc := 106) O dX6_eater_106 rfl ?_
            refine j_getf (pc := 107) (v := .int (M10.1 0 13)) O 0 13 dX6_eater_107 fl_X6_91 so_S2_0 rfl rfl ?_
            refine j_iconst (pc := 110) (v := 1) O dX6_eater_110 (by decide) ?_
            refine j_iadd (pc := 111) O dX6_eater_111 ?_
            refine j_puti (pc := 112) O 0 13 dX6_eater_112 fl_X6_91 so_S2_0 ft_X6_13 rfl (fun M11 => ?_)
            refine j_aload_n (pc := 115) O 0 dX6_eater_115 rfl ?_
            refine j_getf (pc := 116) (v := .int (M11.1 0 13)) O 0 13 dX6_eater_116 fl_X6_91 so_S2_0 rfl rfl ?_
            refine j_iconst (pc := 119) (v := 1) O dX6_eater_119 (by decide) ?_
            refine j_isub (pc := 120) O dX6_eater_120 ?_
            exact j_iret (pc := 121) O dX6_eater_121
theorem sp_X6_eater {G : wn_G} {ad : Nat → Nat} {x1 : Int32} {x2 : Int32} {x3 : Int32} {M : Mm} {r : Int32} {M1 : Mm} (h : f_X6_eater x1 x2 x3 M = some (r, M1)) : Sp G S2 ad mX6_eater 2 [.ref (ad 0), .int x1, .int x2, .int x3] M M1 (some (.int r)) :=
  sp_intro (own := RX6) (by decide +kernel) rfl (Nat.le_of_ble_eq_true rfl) (fun X O T => jf_X6_eater O (Nat.le_refl _) x1 x2 x3 M (r, M1) h T)
def f_X5_eatsOf_j66 (x2 : Int32) (M : Mm) : Option (Int32 × Mm) :=
  some ((imx (1 : Int32) x2), M)
set_option maxRecDepth 100000 in
set_option maxHeartbeats 4000000 in
theorem jf_X5_eatsOf_j66 {G : wn_G} {ad : Nat → Nat} {X : wn_X} {d : Nat} (O : Ok G RX5 cX5_eatsOf 3 d X) (hd0 : 1 ≤ d) (x2 : Int32) (M : Mm) : JW G S1 ad X 66 [(2, .int x2)] [] M (f_X5_eatsOf_j66 x2 M) (Kri G S1 ad X) := by
  unfold f_X5_eatsOf_j66
  refine j_iconst (pc := 66) (v := 1) O dX5_eatsOf_66 (by decide) ?_
  refine j_iload_n (pc := 67) O 0 dX5_eatsOf_67 rfl ?_
  refine j_max (pc := 68) O dX5_eatsOf_68 gl_X5_205 gt_Math_max gi_java_lang_Math gc_Math_max (Nat.le_trans (Nat.le_of_ble_eq_true rfl) hd0) (Nat.le_of_ble_eq_true rfl) ?_
  exact j_iret (pc := 71) O dX5_eatsOf_71
def f_X5_eatsOf (x0 : Int32) (x1 : Int32) (M : Mm) : Option (Int32 × Mm) :=
  bi x0 fun y1 => swc y1 [
((1 : Int32),
    gd (¬ (2 : Int32) = 0) inferInstance <|
    bi (x1 / (2 : Int32)) fun y2 =>
    f_X5_eatsOf_j66 y2 M),
((2 : Int32),
    f_X5_eatsOf_j66 x1 M),
((3 : Int32),
    gd (¬ (2 : Int32) = 0) inferInstance <|
    bi ((x1 / (2 : Int32)) - (1 : Int32)) fun y3 =>
    f_X5_eatsOf_j66 y3 M),
((4 : Int32),
    bi (x1 + (2 : Int32)) fun y4 =>
    f_X5_eatsOf_j66 y4 M),
((5 : Int32),
    bi (x1 * (2 : Int32)) fun y5 =>
    f_X5_eatsOf_j66 y5 M)] (
    f_X5_eatsOf_j66 x1 M)
set_option maxRecDepth 100000 in
set_option maxHeartbeats 4000000 in
theorem jf_X5_eatsOf {G : wn_G} {ad : Nat → Nat} {X : wn_X} {d : Nat} (O : Ok G RX5 cX5_eatsOf 3 d X) (hd0 : 1 ≤ d) (x0 : Int32) (x1 : Int32) (M : Mm) : JW G S1 ad X 0 [(0, .int x0), (1, .int x1)] [] M (f_X5_eatsOf x0 x1 M) (Kri G S1 ad X) := by
  unfold f_X5_eatsOf
  refine j_iload_n (pc := 0) O 1 dX5_eatsOf_0 rfl ?_
  refine j_istore_n (pc := 1) (L' := [(2, .int x1), (0, .int x0), (1, .int x1)]) O dX5_eatsOf_1 (by decide) rfl ?_
  refine j_iload_n (pc := 2) O 1 dX5_eatsOf_2 rfl ?_
  refine jw_bi fun y1 => ?_
  refine jw_swc (fun hc => ?_) (fun n0 => ?_)
  · subst hc
    refine j_tin (pc := 3) (tgt := 36) O dX5_eatsOf_3 (by decide) (by decide) rfl (by decide) ?_
    refine j_iload_n (pc := 36) O 2 dX5_eatsOf_36 rfl ?_
    refine j_iconst (pc := 37) (v := 2) O dX5_eatsOf_37 (by decide) ?_
    refine j_idiv (pc := 38) O dX5_eatsOf_38 ?_
    refine jw_bi fun y2 => ?_
    refine j_istore_n (pc := 39) (L' := [(2, .int y2), (0, .int x0), (1, .int x1)]) O dX5_eatsOf_39 (by decide) rfl ?_
    refine j_goto (pc := 40) (tgt := 66) O dX5_eatsOf_40 (by decide) ?_
    exact jw_sub [0] rfl (jf_X5_eatsOf_j66 O hd0 y2 M)
  refine jw_swc (fun hc => ?_) (fun n1 => ?_)
  · subst hc
    refine j_tin (pc := 3) (tgt := 66) O dX5_eatsOf_3 (by decide) (by decide) rfl (by decide) ?_
    exact jw_sub [0] rfl (jf_X5_eatsOf_j66 O hd0 x1 M)
  refine jw_swc (fun hc => ?_) (fun n2 => ?_)
  · subst hc
    refine j_tin (pc := 3) (tgt := 43) O dX5_eatsOf_3 (by decide) (by decide) rfl (by decide) ?_
    refine j_iload_n (pc := 43) O 2 dX5_eatsOf_43 rfl ?_
    refine j_iconst (pc := 44) (v := 2) O dX5_eatsOf_44 (by decide) ?_
    refine j_idiv (pc := 45) O dX5_eatsOf_45 ?_
    refine j_iconst (pc := 46) (v := 1) O dX5_eatsOf_46 (by decide) ?_
    refine j_isub (pc := 47) O dX5_eatsOf_47 ?_
    refine jw_bi fun y3 => ?_
    refine j_istore_n (pc := 48) (L' := [(2, .int y3), (0, .int x0), (1, .int x1)]) O dX5_eatsOf_48 (by decide) rfl ?_
    refine j_goto (pc := 49) (tgt := 66) O dX5_eatsOf_49 (by decide) ?_
    exact jw_sub [0] rfl (jf_X5_eatsOf_j66 O hd0 y3 M)
  refine jw_swc (fun hc => ?_) (fun n3 => ?_)
  · subst hc
    refine j_tin (pc := 3) (tgt := 52) O dX5_eatsOf_3 (by decide) (by decide) rfl (by decide) ?_
    refine j_iload_n (pc := 52) O 2 dX5_eatsOf_52 rfl ?_
    refine j_iconst (pc := 53) (v := 2) O dX5_eatsOf_53 (by decide) ?_
    refine j_iadd (pc := 54) O dX5_eatsOf_54 ?_
    refine jw_bi fun y4 => ?_
    refine j_istore_n (pc := 55) (L' := [(2, .int y4), (0, .int x0), (1, .int x1)]) O dX5_eatsOf_55 (by decide) rfl ?_
    refine j_goto (pc := 56) (tgt := 66) O dX5_eatsOf_56 (by decide) ?_
    exact jw_sub [0] rfl (jf_X5_eatsOf_j66 O hd0 y4 M)
  refine jw_swc (fun hc => ?_) (fun n4 => ?_)
  · subst hc
    refine j_tin (pc := 3) (tgt := 59) O dX5_eatsOf_3 (by decide) (by decide) rfl (by decide) ?_
    refine j_iload_n (pc := 59) O 2 dX5_eatsOf_59 rfl ?_
    refine j_iconst (pc := 60) (v := 2) O dX5_eatsOf_60 (by decide) ?_
    refine j_imul (pc := 61) O dX5_eatsOf_61 ?_
    refine jw_bi fun y5 => ?_
    refine j_istore_n (pc := 62) (L' := [(2, .int y5), (0, .int x0), (1, .int x1)]) O dX5_eatsOf_62 (by decide) rfl ?_
    refine j_goto (pc := 63) (tgt := 66) O dX5_eatsOf_63 (by decide) ?_
    exact jw_sub [0] rfl (jf_X5_eatsOf_j66 O hd0 y5 M)
  refine jw_swd ?_
  have q0 := lv_neT (a := 1) n0 (by decide)
  have q1 := lv_neT (a := 2) n1 (by decide)
  have q2 := lv_neT (a := 3) n2 (by decide)
  have q3 := lv_neT (a := 4) n3 (by decide)
  have q4 := lv_neT (a := 5) n4 (by decide)
  refine j_tout (pc := 3) (tgt := 66) O dX5_eatsOf_3 (by omega) (by decide) ?_
  exact jw_sub [0] rfl (jf_X5_eatsOf_j66 O hd0 x1 M)
theorem sp_X5_eatsOf {G : wn_G} {ad : Nat → Nat} {x0 : Int32} {x1 : Int32} {M : Mm} {r : Int32} {M1 : Mm} (h : f_X5_eatsOf x0 x1 M = some (r, M1)) : Sp G S1 ad mX5_eatsOf 1 [.int x0, .int x1] M M1 (some (.int r)) :=
  sp_intro (own := RX5) (by decide +kernel) rfl (Nat.le_of_ble_eq_true rfl) (fun X O T => jf_X5_eatsOf O (Nat.le_refl _) x0 x1 M (r, M1) h T)
def h_X2_heapUp_13 (G : wn_G) (ad : Nat → Nat) (X : wn_X) (x2 : Int32) : Int32 × Mm → Prop := fun s => PW G S1 ad X 13 [(0, .ref (ad 6)), (2, .int x2), (3, .int s.1)] [] s.2
def h_X2_heapUp_44 (G : wn_G) (ad : Nat → Nat) (X : wn_X) (x2 : Int32) (x3 : Int32) (x5 : Int32) : Int32 × Int32 × Mm → Prop := fun s => PW G S1 ad X 44 [(0, .ref (ad 6)), (2, .int x2), (3, .int x3), (4, .int s.1), (5, .int x5), (6, .int s.2.1)] [] s.2.2
def f_X2_heapUp_j92 (x2 : Int32) (x3 : Int32) (x4 : Int32) (M : Mm) : Option ((Int32 × Mm) ⊕ (Mm)) :=
  gd (bin x3 12 = true) inferInstance <| bm (ms M 26 (Int32.toNatClampNeg x3) x4) fun M4 =>
  if (60 : Int32) ≤ x4 then
    bi (x3 + (1 : Int32)) fun y5 =>
    some (.inl (y5, M4))
  else
    bm (ml M4 6 ((M4.2 6) ||| (lsl' (1 : Int64) x4))) fun M6 =>
    bi (x3 + (1 : Int32)) fun y7 =>
    some (.inl (y7, M6))
set_option maxRecDepth 100000 in
set_option maxHeartbeats 4000000 in
theorem jf_X2_heapUp_j92 {G : wn_G} {ad : Nat → Nat} {X : wn_X} {d : Nat} (O : Ok G RX2 cX2_heapUp 7 d X) (hd0 : 1 ≤ d) (x2 : Int32) (x3 : Int32) (x4 : Int32) (M : Mm) : JW G S1 ad X 92 [(0, .ref (ad 6)), (2, .int x2), (3, .int x3), (4, .int x4)] [] M (f_X2_heapUp_j92 x2 x3 x4 M) (Kl (h_X2_heapUp_13 G ad X x2) (Krv G S1 ad X)) := by
  unfold f_X2_heapUp_j92
  refine j_aload_n (pc := 92) O 0 dX2_heapUp_92 rfl ?_
  refine j_getf (pc := 93) (v := .ref (ad 26)) O 6 3 dX2_heapUp_93 fl_X2_15 so_S1_6 rfl rfl ?_
  refine j_iload_n (pc := 96) O 2 dX2_heapUp_96 rfl ?_
  refine j_iload (pc := 97) O 3 dX2_heapUp_97 rfl ?_
  refine j_iast (pc := 99) O 26 dX2_heapUp_99 so_S1_26 (fun M4 => ?_)
  refine j_iload (pc := 100) O 3 dX2_heapUp_100 rfl ?_
  refine j_bipush (pc := 102) (v := 60) O dX2_heapUp_102 (by decide) ?_
  refine j_icmp_ge (pc := 104) (tgt := 120) O dX2_heapUp_104 (by decide) ?_ ?_
  · refine j_iinc (pc := 120) (v := 1) (L2 := fun y => [(3, .int y), (0, .ref (ad 6)), (2, .int x2), (4, .int x4)]) O 2 dX2_heapUp_120 rfl (by decide) (by decide) (fun _ => rfl) (fun y5 => ?_)
    refine j_goto (pc := 123) (tgt := 13) O dX2_heapUp_123 (by decide) ?_
    exact jw_next (fun hh => pw_sub [1, 2, 0] rfl hh)
  · refine j_aload_n (pc := 107) O 0 dX2_heapUp_107 rfl ?_
    refine j_dup (pc := 108) O dX2_heapUp_108 rfl ?_
    refine j_getf (pc := 109) (v := .long (M4.2 6)) O 6 4 dX2_heapUp_109 fl_X2_97 so_S1_6 rfl rfl ?_
    refine j_lconst (pc := 112) (v := 1) O dX2_heapUp_112 (by decide) ?_
    refine j_iload (pc := 113) O 3 dX2_heapUp_113 rfl ?_
    refine j_lshl (pc := 115) O dX2_heapUp_115 ?_
    refine j_lor (pc := 116) O dX2_heapUp_116 ?_
    refine j_putl (pc := 117) O 6 4 dX2_heapUp_117 fl_X2_97 so_S1_6 ft_X2_4 rfl (by decide) (fun M6 => ?_)
    refine j_iinc (pc := 120) (v := 1) (L2 := fun y => [(3, .int y), (0, .ref (ad 6)), (2, .int x2), (4, .int x4)]) O 2 dX2_heapUp_120 rfl (by decide) (by decide) (fun _ => rfl) (fun y7 => ?_)
    refine j_goto (pc := 123) (tgt := 13) O dX2_heapUp_123 (by decide) ?_
    exact jw_next (fun hh => pw_sub [1, 2, 0] rfl hh)
def f_X2_heapUp_b44 (x2 : Int32) (x3 : Int32) (x4 : Int32) (x5 : Int32) (x6 : Int32) (M : Mm) : Option ((Int32 × Int32 × Mm) ⊕ ((Int32 × Mm) ⊕ (Mm))) :=
  if (x5 + x2) ≤ x6 then
    ex (
    f_X2_heapUp_j92 x2 x3 x4 M)
  else
    if (12 : Int32) ≤ x6 then
      ex (
      f_X2_heapUp_j92 x2 x3 x4 M)
    else
      if (M.1 1 0) ≤ x6 then
        ex (
        f_X2_heapUp_j92 x2 x3 x4 M)
      else
        gd (bin x6 12 = true) inferInstance <|
        bi (imx x4 (M.1 25 (Int32.toNatClampNeg x6))) fun y8 =>
        bi (x6 + (1 : Int32)) fun y9 =>
        some (.inl (y8, y9, M))
set_option maxRecDepth 100000 in
set_option maxHeartbeats 4000000 in
theorem jf_X2_heapUp_b44 {G : wn_G} {ad : Nat → Nat} {X : wn_X} {d : Nat} (O : Ok G RX2 cX2_heapUp 7 d X) (hd0 : 1 ≤ d) (x2 : Int32) (x3 : Int32) (x4 : Int32) (x5 : Int32) (x6 : Int32) (M : Mm) : JW G S1 ad X 44 [(0, .ref (ad 6)), (2, .int x2), (3, .int x3), (4, .int x4), (5, .int x5), (6, .int x6)] [] M (f_X2_heapUp_b44 x2 x3 x4 x5 x6 M) (Kl (h_X2_heapUp_44 G ad X x2 x3 x5) (Kl (h_X2_heapUp_13 G ad X x2) (Krv G S1 ad X))) := by
  unfold f_X2_heapUp_b44
  refine j_iload (pc := 44) O 5 dX2_heapUp_44 rfl ?_
  refine j_iload (pc := 46) O 4 dX2_heapUp_46 rfl ?_
  refine j_iload_n (pc := 48) O 1 dX2_heapUp_48 rfl ?_
  refine j_iadd (pc := 49) O dX2_heapUp_49 ?_
  refine j_icmp_ge (pc := 50) (tgt := 92) O dX2_heapUp_50 (by decide) ?_ ?_
  · refine jw_ex ?_
    exact jw_sub [0, 1, 2, 3] rfl (jf_X2_heapUp_j92 O hd0 x2 x3 x4 M)
  · refine j_iload (pc := 53) O 5 dX2_heapUp_53 rfl ?_
    refine j_bipush (pc := 55) (v := 12) O dX2_heapUp_55 (by decide) ?_
    refine j_icmp_ge (pc := 57) (tgt := 92) O dX2_heapUp_57 (by decide) ?_ ?_
    · refine jw_ex ?_
      exact jw_sub [0, 1, 2, 3] rfl (jf_X2_heapUp_j92 O hd0 x2 x3 x4 M)
    · refine j_iload (pc := 60) O 5 dX2_heapUp_60 rfl ?_
      refine j_aload_n (pc := 62) O 0 dX2_heapUp_62 rfl ?_
      refine j_getf (pc := 63) (v := .ref (ad 1)) O 6 0 dX2_heapUp_63 fl_X2_36 so_S1_6 rfl rfl ?_
      refine j_getf (pc := 66) (v := .int (M.1 1 0)) O 1 0 dX2_heapUp_66 fl_X2_101 so_S1_1 rfl rfl ?_
      refine j_icmp_ge (pc := 69) (tgt := 92) O dX2_heapUp_69 (by decide) ?_ ?_
      · refine jw_ex ?_
        exact jw_sub [0, 1, 2, 3] rfl (jf_X2_heapUp_j92 O hd0 x2 x3 x4 M)
      · refine j_iload (pc := 72) O 3 dX2_heapUp_72 rfl ?_
        refine j_aload_n (pc := 74) O 0 dX2_heapUp_74 rfl ?_
        refine j_getf (pc := 75) (v := .ref (ad 25)) O 6 2 dX2_heapUp_75 fl_X2_9 so_S1_6 rfl rfl ?_
        refine j_iload (pc := 78) O 5 dX2_heapUp_78 rfl ?_
        refine j_iald (pc := 80) O 25 dX2_heapUp_80 so_S1_25 ?_
        refine j_max (pc := 81) O dX2_heapUp_81 gl_X2_92 gt_Math_max gi_java_lang_Math gc_Math_max (Nat.le_trans (Nat.le_of_ble_eq_true rfl) hd0) (Nat.le_of_ble_eq_true rfl) ?_
        refine jw_bi fun y8 => ?_
        refine j_istore (pc := 84) (L' := [(4, .int y8), (0, .ref (ad 6)), (2, .int x2), (3, .int x3), (5, .int x5), (6, .int x6)]) O dX2_heapUp_84 (by decide) rfl ?_
        refine j_iinc (pc := 86) (v := 1) (L2 := fun y => [(6, .int y), (4, .int y8), (0, .ref (ad 6)), (2, .int x2), (3, .int x3), (5, .int x5)]) O 5 dX2_heapUp_86 rfl (by decide) (by decide) (fun _ => rfl) (fun y9 => ?_)
        refine j_goto (pc := 89) (tgt := 44) O dX2_heapUp_89 (by decide) ?_
        exact jw_next (fun hh => pw_sub [2, 3, 4, 1, 5, 0] rfl hh)
def f_X2_heapUp_b13 (x2 : Int32) (x3 : Int32) (M : Mm) : Option ((Int32 × Mm) ⊕ (Mm)) :=
  if (12 : Int32) ≤ x3 then
    ex (
    some M)
  else
    if (M.1 1 0) ≤ x3 then
      ex (
      some M)
    else
      gd (¬ x2 = 0) inferInstance <|
      bi (x3 - (irm x3 x2)) fun y3 =>
      iter (fun s => f_X2_heapUp_b44 x2 x3 s.1 y3 s.2.1 s.2.2) fuel ((0 : Int32), y3, M)
set_option maxRecDepth 100000 in
set_option maxHeartbeats 4000000 in
theorem jf_X2_heapUp_b13 {G : wn_G} {ad : Nat → Nat} {X : wn_X} {d : Nat} (O : Ok G RX2 cX2_heapUp 7 d X) (hd0 : 1 ≤ d) (x2 : Int32) (x3 : Int32) (M : Mm) : JW G S1 ad X 13 [(0, .ref (ad 6)), (2, .int x2), (3, .int x3)] [] M (f_X2_heapUp_b13 x2 x3 M) (Kl (h_X2_heapUp_13 G ad X x2) (Krv G S1 ad X)) := by
  unfold f_X2_heapUp_b13
  refine j_iload_n (pc := 13) O 2 dX2_heapUp_13 rfl ?_
  refine j_bipush (pc := 14) (v := 12) O dX2_heapUp_14 (by decide) ?_
  refine j_icmp_ge (pc := 16) (tgt := 126) O dX2_heapUp_16 (by decide) ?_ ?_
  · refine jw_ex ?_
    exact j_vret (pc := 126) O dX2_heapUp_126
  · refine j_iload_n (pc := 19) O 2 dX2_heapUp_19 rfl ?_
    refine j_aload_n (pc := 20) O 0 dX2_heapUp_20 rfl ?_
    refine j_getf (pc := 21) (v := .ref (ad 1)) O 6 0 dX2_heapUp_21 fl_X2_36 so_S1_6 rfl rfl ?_
    refine j_getf (pc := 24) (v := .int (M.1 1 0)) O 1 0 dX2_heapUp_24 fl_X2_101 so_S1_1 rfl rfl ?_
    refine j_icmp_ge (pc := 27) (tgt := 126) O dX2_heapUp_27 (by decide) ?_ ?_
    · refine jw_ex ?_
      exact j_vret (pc := 126) O dX2_heapUp_126
    · refine j_iconst (pc := 30) (v := 0) O dX2_heapUp_30 (by decide) ?_
      refine j_istore (pc := 31) (L' := [(4, .int (0 : Int32)), (0, .ref (ad 6)), (2, .int x2), (3, .int x3)]) O dX2_heapUp_31 (by decide) rfl ?_
      refine j_iload_n (pc := 33) O 3 dX2_heapUp_33 rfl ?_
      refine j_iload_n (pc := 34) O 3 dX2_heapUp_34 rfl ?_
      refine j_iload_n (pc := 35) O 2 dX2_heapUp_35 rfl ?_
      refine j_irem (pc := 36) O dX2_heapUp_36 ?_
      refine j_isub (pc := 37) O dX2_heapUp_37 ?_
      refine jw_bi fun y3 => ?_
      refine j_istore (pc := 38) (L' := [(5, .int y3), (4, .int (0 : Int32)), (0, .ref (ad 6)), (2, .int x2), (3, .int x3)]) O dX2_heapUp_38 (by decide) rfl ?_
      refine j_iload (pc := 40) O 0 dX2_heapUp_40 rfl ?_
      refine j_istore (pc := 42) (L' := [(6, .int y3), (5, .int y3), (4, .int (0 : Int32)), (0, .ref (ad 6)), (2, .int x2), (3, .int x3)]) O dX2_heapUp_42 (by decide) rfl ?_
      exact jw_iter (hd := h_X2_heapUp_44 G ad X x2 x3 y3) (fun hh => pw_sub [3, 4, 5, 2, 1, 0] rfl hh) (fun s => jf_X2_heapUp_b44 O hd0 x2 x3 s.1 y3 s.2.1 s.2.2)
def f_X2_heapUp (x1 : Int32) (M : Mm) : Option (Mm) :=
  bi (imx (1 : Int32) x1) fun y1 =>
  bm (ml M 6 (0 : Int64)) fun M2 =>
  iter (fun s => f_X2_heapUp_b13 y1 s.1 s.2) fuel ((0 : Int32), M2)
set_option maxRecDepth 100000 in
set_option maxHeartbeats 4000000 in
theorem jf_X2_heapUp {G : wn_G} {ad : Nat → Nat} {X : wn_X} {d : Nat} (O : Ok G RX2 cX2_heapUp 7 d X) (hd0 : 1 ≤ d) (x1 : Int32) (M : Mm) : JW G S1 ad X 0 [(0, .ref (ad 6)), (1, .int x1)] [] M (f_X2_heapUp x1 M) (Krv G S1 ad X) := by
  unfold f_X2_heapUp
  refine j_iconst (pc := 0) (v := 1) O dX2_heapUp_0 (by decide) ?_
  refine j_iload_n (pc := 1) O 1 dX2_heapUp_1 rfl ?_
  refine j_max (pc := 2) O dX2_heapUp_2 gl_X2_92 gt_Math_max gi_java_lang_Math gc_Math_max (Nat.le_trans (Nat.le_of_ble_eq_true rfl) hd0) (Nat.le_of_ble_eq_true rfl) ?_
  refine jw_bi fun y1 => ?_
  refine j_istore_n (pc := 5) (L' := [(2, .int y1), (0, .ref (ad 6)), (1, .int x1)]) O dX2_heapUp_5 (by decide) rfl ?_
  refine j_aload_n (pc := 6) O 1 dX2_heapUp_6 rfl ?_
  refine j_lconst (pc := 7) (v := 0) O dX2_heapUp_7 (by decide) ?_
  refine j_putl (pc := 8) O 6 4 dX2_heapUp_8 fl_X2_97 so_S1_6 ft_X2_4 rfl (by decide) (fun M2 => ?_)
  refine j_iconst (pc := 11) (v := 0) O dX2_heapUp_11 (by decide) ?_
  refine j_istore_n (pc := 12) (L' := [(3, .int (0 : Int32)), (2, .int y1), (0, .ref (ad 6)), (1, .int x1)]) O dX2_heapUp_12 (by decide) rfl ?_
  exact jw_iter (hd := h_X2_heapUp_13 G ad X y1) (fun hh => pw_sub [2, 1, 0] rfl hh) (fun s => jf_X2_heapUp_b13 O hd0 y1 s.1 s.2)
theorem sp_X2_heapUp {G : wn_G} {ad : Nat → Nat} {x1 : Int32} {M M1 : Mm} (h : f_X2_heapUp x1 M = some M1) : Sp G S1 ad mX2_heapUp 1 [.ref (ad 6), .int x1] M M1 none :=
  sp_intro (own := RX2) (by decide +kernel) rfl (Nat.le_of_ble_eq_true rfl) (fun X O T => jf_X2_heapUp O (Nat.le_refl _) x1 M M1 h T)
def f_X4_name (x1 : Int32) (x2 : Int32) (x3 : Int32) (x4 : Int32) (x5 : Int32) (x6 : Int32) (M : Mm) : Option (Mm) :=
  gd (bin (0 : Int32) 6 = true) inferInstance <| bm (ms M 20 (Int32.toNatClampNeg (0 : Int32)) x1) fun M1 =>
  gd (bin (1 : Int32) 6 = true) inferInstance <| bm (ms M1 20 (Int32.toNatClampNeg (1 : Int32)) x2) fun M2 =>
  gd (bin (2 : Int32) 6 = true) inferInstance <| bm (ms M2 20 (Int32.toNatClampNeg (2 : Int32)) x3) fun M3 =>
  gd (bin (3 : Int32) 6 = true) inferInstance <| bm (ms M3 20 (Int32.toNatClampNeg (3 : Int32)) x4) fun M4 =>
  gd (bin (4 : Int32) 6 = true) inferInstance <| bm (ms M4 20 (Int32.toNatClampNeg (4 : Int32)) x5) fun M5 =>
  gd (bin (5 : Int32) 6 = true) inferInstance <| bm (ms M5 20 (Int32.toNatClampNeg (5 : Int32)) x6) fun M6 =>
  some M6
set_option maxRecDepth 100000 in
set_option maxHeartbeats 4000000 in
theorem jf_X4_name {G : wn_G} {ad : Nat → Nat} {X : wn_X} {d : Nat} (O : Ok G RX4 cX4_name 7 d X) (hd0 : 1 ≤ d) (x1 : Int32) (x2 : Int32) (x3 : Int32) (x4 : Int32) (x5 : Int32) (x6 : Int32) (M : Mm) : JW G S1 ad X 0 [(0, .ref (ad 4)), (1, .int x1), (2, .int x2), (3, .int x3), (4, .int x4), (5, .int x5), (6, .int x6)] [] M (f_X4_name x1 x2 x3 x4 x5 x6 M) (Krv G S1 ad X) := by
  unfold f_X4_name
  refine j_aload_n (pc := 0) O 0 dX4_name_0 rfl ?_
  refine j_getf (pc := 1) (v := .ref (ad 20)) O 4 3 dX4_name_1 fl_X4_18 so_S1_4 rfl rfl ?_
  refine j_iconst (pc := 4) (v := 0) O dX4_name_4 (by decide) ?_
  refine j_iload_n (pc := 5) O 1 dX4_name_5 rfl ?_
  refine j_iast (pc := 6) O 20 dX4_name_6 so_S1_20 (fun M1 => ?_)
  refine j_aload_n (pc := 7) O 0 dX4_name_7 rfl ?_
  refine j_getf (pc := 8) (v := .ref (ad 20)) O 4 3 dX4_name_8 fl_X4_18 so_S1_4 rfl rfl ?_
  refine j_iconst (pc := 11) (v := 1) O dX4_name_11 (by decide) ?_
  refine j_iload_n (pc := 12) O 2 dX4_name_12 rfl ?_
  refine j_iast (pc := 13) O 20 dX4_name_13 so_S1_20 (fun M2 => ?_)
  refine j_aload_n (pc := 14) O 0 dX4_name_14 rfl ?_
  refine j_getf (pc := 15) (v := .ref (ad 20)) O 4 3 dX4_name_15 fl_X4_18 so_S1_4 rfl rfl ?_
  refine j_iconst (pc := 18) (v := 2) O dX4_name_18 (by decide) ?_
  refine j_iload_n (pc := 19) O 3 dX4_name_19 rfl ?_
  refine j_iast (pc := 20) O 20 dX4_name_20 so_S1_20 (fun M3 => ?_)
  refine j_aload_n (pc := 21) O 0 dX4_name_21 rfl ?_
  refine j_getf (pc := 22) (v := .ref (ad 20)) O 4 3 dX4_name_22 fl_X4_18 so_S1_4 rfl rfl ?_
  refine j_iconst (pc := 25) (v := 3) O dX4_name_25 (by decide) ?_
  refine j_iload (pc := 26) O 4 dX4_name_26 rfl ?_
  refine j_iast (pc := 28) O 20 dX4_name_28 so_S1_20 (fun M4 => ?_)
  refine j_aload_n (pc := 29) O 0 dX4_name_29 rfl ?_
  refine j_getf (pc := 30) (v := .ref (ad 20)) O 4 3 dX4_name_30 fl_X4_18 so_S1_4 rfl rfl ?_
  refine j_iconst (pc := 33) (v := 4) O dX4_name_33 (by decide) ?_
  refine j_iload (pc := 34) O 5 dX4_name_34 rfl ?_
  refine j_iast (pc := 36) O 20 dX4_name_36 so_S1_20 (fun M5 => ?_)
  refine j_aload_n (pc := 37) O 0 dX4_name_37 rfl ?_
  refine j_getf (pc := 38) (v := .ref (ad 20)) O 4 3 dX4_name_38 fl_X4_18 so_S1_4 rfl rfl ?_
  refine j_iconst (pc := 41) (v := 5) O dX4_name_41 (by decide) ?_
  refine j_iload (pc := 42) O 6 dX4_name_42 rfl ?_
  refine j_iast (pc := 44) O 20 dX4_name_44 so_S1_20 (fun M6 => ?_)
  exact j_vret (pc := 45) O dX4_name_45
theorem sp_X4_name {G : wn_G} {ad : Nat → Nat} {x1 : Int32} {x2 : Int32} {x3 : Int32} {x4 : Int32} {x5 : Int32} {x6 : Int32} {M M1 : Mm} (h : f_X4_name x1 x2 x3 x4 x5 x6 M = some M1) : Sp G S1 ad mX4_name 1 [.ref (ad 4), .int x1, .int x2, .int x3, .int x4, .int x5, .int x6] M M1 none :=
  sp_intro (own := RX4) (by decide +kernel) rfl (Nat.le_of_ble_eq_true rfl) (fun X O T => jf_X4_name O (Nat.le_refl _) x1 x2 x3 x4 x5 x6 M M1 h T)
def f_X4_turned (x0 : Int32) (x1 : Int32) (M : Mm) : Option (Int32 × Mm) :=
  if x0 = (20000 : Int32) then
    some ((-x1), M)
  else
    if x1 = 0 then
      some ((1 : Int32), M)
    else
      some ((0 : Int32), M)
set_option maxRecDepth 100000 in
set_option maxHeartbeats 4000000 in
theorem jf_X4_turned {G : wn_G} {ad : Nat → Nat} {X : wn_X} {d : Nat} (O : Ok G RX4 cX4_turned 2 d X) (hd0 : 1 ≤ d) (x0 : Int32) (x1 : Int32) (M : Mm) : JW G S1 ad X 0 [(0, .int x0), (1, .int x1)] [] M (f_X4_turned x0 x1 M) (Kri G S1 ad X) := by
  unfold f_X4_turned
  refine j_iload_n (pc := 0) O 0 dX4_turned_0 rfl ?_
  refine j_sipush (pc := 1) (v := 20000) O dX4_turned_1 (by decide) ?_
  refine j_icmp_ne (pc := 4) (tgt := 10) O dX4_turned_4 (by decide) ?_ ?_
  · refine j_iload_n (pc := 7) O 1 dX4_turned_7 rfl ?_
    refine j_ineg (pc := 8) O dX4_turned_8 ?_
    exact j_iret (pc := 9) O dX4_turned_9
  · refine j_iload_n (pc := 10) O 1 dX4_turned_10 rfl ?_
    refine j_if_ne (pc := 11) (tgt := 18) O dX4_turned_11 (by decide) ?_ ?_
    · refine j_iconst (pc := 14) (v := 1) O dX4_turned_14 (by decide) ?_
      refine j_goto (pc := 15) (tgt := 19) O dX4_turned_15 (by decide) ?_
      exact j_iret (pc := 19) O dX4_turned_19
    · refine j_iconst (pc := 18) (v := 0) O dX4_turned_18 (by decide) ?_
      exact j_iret (pc := 19) O dX4_turned_19
theorem sp_X4_turned {G : wn_G} {ad : Nat → Nat} {x0 : Int32} {x1 : Int32} {M : Mm} {r : Int32} {M1 : Mm} (h : f_X4_turned x0 x1 M = some (r, M1)) : Sp G S1 ad mX4_turned 1 [.int x0, .int x1] M M1 (some (.int r)) :=
  sp_intro (own := RX4) (by decide +kernel) rfl (Nat.le_of_ble_eq_true rfl) (fun X O T => jf_X4_turned O (Nat.le_refl _) x0 x1 M (r, M1) h T)
def f_X4_joined (x0 : Int32) (x1 : Int32) (x2 : Int32) (M : Mm) : Option (Int32 × Mm) :=
  bi x0 fun y1 => swc y1 [
((43 : Int32),
    some ((x1 + x2), M)),
((45 : Int32),
    some ((x1 - x2), M)),
((60 : Int32),
    if x2 ≤ x1 then
      some ((0 : Int32), M)
    else
      some ((1 : Int32), M)),
((61 : Int32),
    if x1 = x2 then
      some ((1 : Int32), M)
    else
      some ((0 : Int32), M)),
((103 : Int32),
    if x1 = 0 then
      if x2 = 0 then
        some ((0 : Int32), M)
      else
        some ((1 : Int32), M)
    else
      some ((1 : Int32), M)),
((104 : Int32),
    if x1 = 0 then
      some ((0 : Int32), M)
    else
      if x2 = 0 then
        some ((0 : Int32), M)
      else
        some ((1 : Int32), M))] (
    some ((x1 * x2), M))
set_option maxRecDepth 100000 in
set_option maxHeartbeats 4000000 in
theorem jf_X4_joined {G : wn_G} {ad : Nat → Nat} {X : wn_X} {d : Nat} (O : Ok G RX4 cX4_joined 3 d X) (hd0 : 1 ≤ d) (x0 : Int32) (x1 : Int32) (x2 : Int32) (M : Mm) : JW G S1 ad X 0 [(0, .int x0), (1, .int x1), (2, .int x2)] [] M (f_X4_joined x0 x1 x2 M) (Kri G S1 ad X) := by
  unfold f_X4_joined
  refine j_iload_n (pc := 0) O 0 dX4_joined_0 rfl ?_
  refine jw_bi fun y1 => ?_
  refine jw_swc (fun hc => ?_) (fun n0 => ?_)
  · subst hc
    refine j_lsw (pc := 1) (tgt := 110) (off := 109) O dX4_joined_1 (by decide) rfl (by decide) ?_
    refine j_iload_n (pc := 110) O 1 dX4_joined_110 rfl ?_
    refine j_iload_n (pc := 111) O 2 dX4_joined_111 rfl ?_
    refine j_iadd (pc := 112) O dX4_joined_112 ?_
    exact j_iret (pc := 113) O dX4_joined_113
  refine jw_swc (fun hc => ?_) (fun n1 => ?_)
  · subst hc
    refine j_lsw (pc := 1) (tgt := 114) (off := 113) O dX4_joined_1 (by decide) rfl (by decide) ?_
    refine j_iload_n (pc := 114) O 1 dX4_joined_114 rfl ?_
    refine j_iload_n (pc := 115) O 2 dX4_joined_115 rfl ?_
    refine j_isub (pc := 116) O dX4_joined_116 ?_
    exact j_iret (pc := 117) O dX4_joined_117
  refine jw_swc (fun hc => ?_) (fun n2 => ?_)
  · subst hc
    refine j_lsw (pc := 1) (tgt := 88) (off := 87) O dX4_joined_1 (by decide) rfl (by decide) ?_
    refine j_iload_n (pc := 88) O 1 dX4_joined_88 rfl ?_
    refine j_iload_n (pc := 89) O 2 dX4_joined_89 rfl ?_
    refine j_icmp_ge (pc := 90) (tgt := 97) O dX4_joined_90 (by decide) ?_ ?_
    · refine j_iconst (pc := 97) (v := 0) O dX4_joined_97 (by decide) ?_
      exact j_iret (pc := 98) O dX4_joined_98
    · refine j_iconst (pc := 93) (v := 1) O dX4_joined_93 (by decide) ?_
      refine j_goto (pc := 94) (tgt := 98) O dX4_joined_94 (by decide) ?_
      exact j_iret (pc := 98) O dX4_joined_98
  refine jw_swc (fun hc => ?_) (fun n3 => ?_)
  · subst hc
    refine j_lsw (pc := 1) (tgt := 99) (off := 98) O dX4_joined_1 (by decide) rfl (by decide) ?_
    refine j_iload_n (pc := 99) O 1 dX4_joined_99 rfl ?_
    refine j_iload_n (pc := 100) O 2 dX4_joined_100 rfl ?_
    refine j_icmp_ne (pc := 101) (tgt := 108) O dX4_joined_101 (by decide) ?_ ?_
    · refine j_iconst (pc := 104) (v := 1) O dX4_joined_104 (by decide) ?_
      refine j_goto (pc := 105) (tgt := 109) O dX4_joined_105 (by decide) ?_
      exact j_iret (pc := 109) O dX4_joined_109
    · refine j_iconst (pc := 108) (v := 0) O dX4_joined_108 (by decide) ?_
      exact j_iret (pc := 109) O dX4_joined_109
  refine jw_swc (fun hc => ?_) (fun n4 => ?_)
  · subst hc
    refine j_lsw (pc := 1) (tgt := 60) (off := 59) O dX4_joined_1 (by decide) rfl (by decide) ?_
    refine j_iload_n (pc := 60) O 1 dX4_joined_60 rfl ?_
    refine j_if_ne (pc := 61) (tgt := 68) O dX4_joined_61 (by decide) ?_ ?_
    · refine j_iload_n (pc := 64) O 2 dX4_joined_64 rfl ?_
      refine j_if_eq (pc := 65) (tgt := 72) O dX4_joined_65 (by decide) ?_ ?_
      · refine j_iconst (pc := 72) (v := 0) O dX4_joined_72 (by decide) ?_
        exact j_iret (pc := 73) O dX4_joined_73
      · refine j_iconst (pc := 68) (v := 1) O dX4_joined_68 (by decide) ?_
        refine j_goto (pc := 69) (tgt := 73) O dX4_joined_69 (by decide) ?_
        exact j_iret (pc := 73) O dX4_joined_73
    · refine j_iconst (pc := 68) (v := 1) O dX4_joined_68 (by decide) ?_
      refine j_goto (pc := 69) (tgt := 73) O dX4_joined_69 (by decide) ?_
      exact j_iret (pc := 73) O dX4_joined_73
  refine jw_swc (fun hc => ?_) (fun n5 => ?_)
  · subst hc
    refine j_lsw (pc := 1) (tgt := 74) (off := 73) O dX4_joined_1 (by decide) rfl (by decide) ?_
    refine j_iload_n (pc := 74) O 1 dX4_joined_74 rfl ?_
    refine j_if_eq (pc := 75) (tgt := 86) O dX4_joined_75 (by decide) ?_ ?_
    · refine j_iconst (pc := 86) (v := 0) O dX4_joined_86 (by decide) ?_
      exact j_iret (pc := 87) O dX4_joined_87
    · refine j_iload_n (pc := 78) O 2 dX4_joined_78 rfl ?_
      refine j_if_eq (pc := 79) (tgt := 86) O dX4_joined_79 (by decide) ?_ ?_
      · refine j_iconst (pc := 86) (v := 0) O dX4_joined_86 (by decide) ?_
        exact j_iret (pc := 87) O dX4_joined_87
      · refine j_iconst (pc := 82) (v := 1) O dX4_joined_82 (by decide) ?_
        refine j_goto (pc := 83) (tgt := 87) O dX4_joined_83 (by decide) ?_
        exact j_iret (pc := 87) O dX4_joined_87
  refine jw_swd ?_
  refine j_lsw (pc := 1) (tgt := 118) (off := 117) O dX4_joined_1 (by decide) ((lv_osw n0 (by decide)).trans ((lv_osw n1 (by decide)).trans ((lv_osw n2 (by decide)).trans ((lv_osw n3 (by decide)).trans ((lv_osw n4 (by decide)).trans ((lv_osw n5 (by decide)).trans (rfl))))))) (by decide) ?_
  refine j_iload_n (pc := 118) O 1 dX4_joined_118 rfl ?_
  refine j_iload_n (pc := 119) O 2 dX4_joined_119 rfl ?_
  refine j_imul (pc := 120) O dX4_joined_120 ?_
  exact j_iret (pc := 121) O dX4_joined_121
theorem sp_X4_joined {G : wn_G} {ad : Nat → Nat} {x0 : Int32} {x1 : Int32} {x2 : Int32} {M : Mm} {r : Int32} {M1 : Mm} (h : f_X4_joined x0 x1 x2 M = some (r, M1)) : Sp G S1 ad mX4_joined 1 [.int x0, .int x1, .int x2] M M1 (some (.int r)) :=
  sp_intro (own := RX4) (by decide +kernel) rfl (Nat.le_of_ble_eq_true rfl) (fun X O T => jf_X4_joined O (Nat.le_refl _) x0 x1 x2 M (r, M1) h T)
def f_X4_operand (x1 : Int32) (M : Mm) : Option (Int32 × Mm) :=
  bi (x1 - (10000 : Int32)) fun y1 =>
  if 0 ≤ y1 then
    if (6 : Int32) ≤ y1 then
      some ((0 : Int32), M)
    else
      gd (bin y1 6 = true) inferInstance <|
      some ((M.1 20 (Int32.toNatClampNeg y1)), M)
  else
    some (x1, M)
set_option maxRecDepth 100000 in
set_option maxHeartbeats 4000000 in
theorem jf_X4_operand {G : wn_G} {ad : Nat → Nat} {X : wn_X} {d : Nat} (O : Ok G RX4 cX4_operand 3 d X) (hd0 : 1 ≤ d) (x1 : Int32) (M : Mm) : JW G S1 ad X 0 [(0, .ref (ad 4)), (1, .int x1)] [] M (f_X4_operand x1 M) (Kri G S1 ad X) := by
  unfold f_X4_operand
  refine j_iload_n (pc := 0) O 1 dX4_operand_0 rfl ?_
  refine j_sipush (pc := 1) (v := 10000) O dX4_operand_1 (by decide) ?_
  refine j_isub (pc := 4) O dX4_operand_4 ?_
  refine jw_bi fun y1 => ?_
  refine j_istore_n (pc := 5) (L' := [(2, .int y1), (0, .ref (ad 4)), (1, .int x1)]) O dX4_operand_5 (by decide) rfl ?_
  refine j_iload_n (pc := 6) O 0 dX4_operand_6 rfl ?_
  refine j_if_ge (pc := 7) (tgt := 12) O dX4_operand_7 (by decide) ?_ ?_
  · refine j_iload_n (pc := 12) O 0 dX4_operand_12 rfl ?_
    refine j_bipush (pc := 13) (v := 6) O dX4_operand_13 (by decide) ?_
    refine j_icmp_ge (pc := 15) (tgt := 27) O dX4_operand_15 (by decide) ?_ ?_
    · refine j_iconst (pc := 27) (v := 0) O dX4_operand_27 (by decide) ?_
      exact j_iret (pc := 28) O dX4_operand_28
    · refine j_aload_n (pc := 18) O 1 dX4_operand_18 rfl ?_
      refine j_getf (pc := 19) (v := .ref (ad 20)) O 4 3 dX4_operand_19 fl_X4_18 so_S1_4 rfl rfl ?_
      refine j_iload_n (pc := 22) O 0 dX4_operand_22 rfl ?_
      refine j_iald (pc := 23) O 20 dX4_operand_23 so_S1_20 ?_
      refine j_goto (pc := 24) (tgt := 28) O dX4_operand_24 (by decide) ?_
      exact j_iret (pc := 28) O dX4_operand_28
  · refine j_iload_n (pc := 10) O 2 dX4_operand_10 rfl ?_
    exact j_iret (pc := 11) O dX4_operand_11
theorem sp_X4_operand {G : wn_G} {ad : Nat → Nat} {x1 : Int32} {M : Mm} {r : Int32} {M1 : Mm} (h : f_X4_operand x1 M = some (r, M1)) : Sp G S1 ad mX4_operand 1 [.ref (ad 4), .int x1] M M1 (some (.int r)) :=
  sp_intro (own := RX4) (by decide +kernel) rfl (Nat.le_of_ble_eq_true rfl) (fun X O T => jf_X4_operand O (Nat.le_refl _) x1 M (r, M1) h T)
def h_X4_valueOf_64 (G : wn_G) (ad : Nat → Nat) (X : wn_X) (x1 : Int32) (x4 : Int32) : Int32 × Int32 × Mm → Prop := fun s => PW G S1 ad X 64 [(0, .ref (ad 4)), (1, .int x1), (4, .int x4), (5, .int s.1), (6, .int s.2.1)] [] s.2.2
def f_X4_valueOf_j225 (x5 : Int32) (M : Mm) : Option (Int32 × Mm) :=
  if x5 ≤ 0 then
    some ((0 : Int32), M)
  else
    gd (bin (0 : Int32) 160 = true) inferInstance <|
    some ((M.1 21 (Int32.toNatClampNeg (0 : Int32))), M)
set_option maxRecDepth 100000 in
set_option maxHeartbeats 4000000 in
theorem jf_X4_valueOf_j225 {G : wn_G} {ad : Nat → Nat} {X : wn_X} {d : Nat} (O : Ok G RX4 cX4_valueOf 8 d X) (hd0 : 2 ≤ d) (x5 : Int32) (M : Mm) : JW G S1 ad X 225 [(0, .ref (ad 4)), (5, .int x5)] [] M (f_X4_valueOf_j225 x5 M) (Kri G S1 ad X) := by
  unfold f_X4_valueOf_j225
  refine j_iload (pc := 225) O 1 dX4_valueOf_225 rfl ?_
  refine j_if_le (pc := 227) (tgt := 239) O dX4_valueOf_227 (by decide) ?_ ?_
  · refine j_iconst (pc := 239) (v := 0) O dX4_valueOf_239 (by decide) ?_
    exact j_iret (pc := 240) O dX4_valueOf_240
  · refine j_aload_n (pc := 230) O 0 dX4_valueOf_230 rfl ?_
    refine j_getf (pc := 231) (v := .ref (ad 21)) O 4 4 dX4_valueOf_231 fl_X4_21 so_S1_4 rfl rfl ?_
    refine j_iconst (pc := 234) (v := 0) O dX4_valueOf_234 (by decide) ?_
    refine j_iald (pc := 235) O 21 dX4_valueOf_235 so_S1_21 ?_
    refine j_goto (pc := 236) (tgt := 240) O dX4_valueOf_236 (by decide) ?_
    exact j_iret (pc := 240) O dX4_valueOf_240
def f_X4_valueOf_j145 (x1 : Int32) (x4 : Int32) (x5 : Int32) (x6 : Int32) (x7 : Int32) (M : Mm) : Option ((Int32 × Int32 × Mm) ⊕ (Int32 × Mm)) :=
  if x5 ≤ 0 then
    bi (x6 + (1 : Int32)) fun y4 =>
    some (.inl (x5, y4, M))
  else
    gd (bin (x5 - (1 : Int32)) 160 = true) inferInstance <|
    bd (f_X4_turned x7 (M.1 21 (Int32.toNatClampNeg (x5 - (1 : Int32)))) M) fun r6 M5 =>
    gd (bin (x5 - (1 : Int32)) 160 = true) inferInstance <| bm (ms M5 21 (Int32.toNatClampNeg (x5 - (1 : Int32))) r6) fun M7 =>
    bi (x6 + (1 : Int32)) fun y8 =>
    some (.inl (x5, y8, M7))
set_option maxRecDepth 100000 in
set_option maxHeartbeats 4000000 in
theorem jf_X4_valueOf_j145 {G : wn_G} {ad : Nat → Nat} {X : wn_X} {d : Nat} (O : Ok G RX4 cX4_valueOf 8 d X) (hd0 : 2 ≤ d) (x1 : Int32) (x4 : Int32) (x5 : Int32) (x6 : Int32) (x7 : Int32) (M : Mm) : JW G S1 ad X 145 [(0, .ref (ad 4)), (1, .int x1), (4, .int x4), (5, .int x5), (6, .int x6), (7, .int x7)] [] M (f_X4_valueOf_j145 x1 x4 x5 x6 x7 M) (Kl (h_X4_valueOf_64 G ad X x1 x4) (Kri G S1 ad X)) := by
  unfold f_X4_valueOf_j145
  refine j_iload (pc := 145) O 3 dX4_valueOf_145 rfl ?_
  refine j_if_le (pc := 147) (tgt := 219) O dX4_valueOf_147 (by decide) ?_ ?_
  · refine j_iinc (pc := 219) (v := 1) (L2 := fun y => [(6, .int y), (0, .ref (ad 4)), (1, .int x1), (4, .int x4), (5, .int x5), (7, .int x7)]) O 4 dX4_valueOf_219 rfl (by decide) (by decide) (fun _ => rfl) (fun y4 => ?_)
    refine j_goto (pc := 222) (tgt := 64) O dX4_valueOf_222 (by decide) ?_
    exact jw_next (fun hh => pw_sub [1, 2, 3, 4, 0] rfl hh)
  · refine j_aload_n (pc := 150) O 0 dX4_valueOf_150 rfl ?_
    refine j_getf (pc := 151) (v := .ref (ad 21)) O 4 4 dX4_valueOf_151 fl_X4_21 so_S1_4 rfl rfl ?_
    refine j_iload (pc := 154) O 3 dX4_valueOf_154 rfl ?_
    refine j_iconst (pc := 156) (v := 1) O dX4_valueOf_156 (by decide) ?_
    refine j_isub (pc := 157) O dX4_valueOf_157 ?_
    refine j_iload (pc := 158) O 5 dX4_valueOf_158 rfl ?_
    refine j_aload_n (pc := 160) O 0 dX4_valueOf_160 rfl ?_
    refine j_getf (pc := 161) (v := .ref (ad 21)) O 4 4 dX4_valueOf_161 fl_X4_21 so_S1_4 rfl rfl ?_
    refine j_iload (pc := 164) O 3 dX4_valueOf_164 rfl ?_
    refine j_iconst (pc := 166) (v := 1) O dX4_valueOf_166 (by decide) ?_
    refine j_isub (pc := 167) O dX4_valueOf_167 ?_
    refine j_iald (pc := 168) O 21 dX4_valueOf_168 so_S1_21 ?_
    refine j_callSi (pc := 169) (dc := 1) (As := [.int x7, .int (M.1 21 (Int32.toNatClampNeg (x5 - (1 : Int32))))]) (rest := [.int (x5 - (1 : Int32)), .ref (ad 21)]) O (fun r M1 h => sp_X4_turned h) dX4_valueOf_169 mst_X4_turned lm_X4_44 rfl rfl (Nat.le_of_ble_eq_true rfl) (Nat.le_trans (Nat.le_of_ble_eq_true rfl) hd0) (fun r6 M5 => ?_)
    refine j_iast (pc := 172) O 21 dX4_valueOf_172 so_S1_21 (fun M7 => ?_)
    refine j_goto (pc := 173) (tgt := 219) O dX4_valueOf_173 (by decide) ?_
    refine j_iinc (pc := 219) (v := 1) (L2 := fun y => [(6, .int y), (0, .ref (ad 4)), (1, .int x1), (4, .int x4), (5, .int x5), (7, .int x7)]) O 4 dX4_valueOf_219 rfl (by decide) (by decide) (fun _ => rfl) (fun y8 => ?_)
    refine j_goto (pc := 222) (tgt := 64) O dX4_valueOf_222 (by decide) ?_
    exact jw_next (fun hh => pw_sub [1, 2, 3, 4, 0] rfl hh)
def f_X4_valueOf_b64 (x1 : Int32) (x4 : Int32) (x5 : Int32) (x6 : Int32) (M : Mm) : Option ((Int32 × Int32 × Mm) ⊕ (Int32 × Mm)) :=
  if x4 ≤ x6 then
    ex (
    f_X4_valueOf_j225 x5 M)
  else
    if (160 : Int32) ≤ x6 then
      ex (
      f_X4_valueOf_j225 x5 M)
    else
      if (160 : Int32) ≤ x5 then
        ex (
        f_X4_valueOf_j225 x5 M)
      else
        gd (bin ((x1 * (160 : Int32)) + x6) 960 = true) inferInstance <|
        bi (M.1 18 (Int32.toNatClampNeg ((x1 * (160 : Int32)) + x6))) fun y3 =>
        if (20000 : Int32) ≤ y3 then
          if y3 = (20000 : Int32) then
            f_X4_valueOf_j145 x1 x4 x5 x6 y3 M
          else
            if y3 = (20105 : Int32) then
              f_X4_valueOf_j145 x1 x4 x5 x6 y3 M
            else
              if x5 ≤ (1 : Int32) then
                bi (x6 + (1 : Int32)) fun y9 =>
                some (.inl (x5, y9, M))
              else
                bi (x5 + (-1 : Int32)) fun y10 =>
                gd (bin (y10 - (1 : Int32)) 160 = true) inferInstance <|
                gd (bin y10 160 = true) inferInstance <|
                bd (f_X4_joined (y3 - (20000 : Int32)) (M.1 21 (Int32.toNatClampNeg (y10 - (1 : Int32)))) (M.1 21 (Int32.toNatClampNeg y10)) M) fun r12 M11 =>
                gd (bin (y10 - (1 : Int32)) 160 = true) inferInstance <| bm (ms M11 21 (Int32.toNatClampNeg (y10 - (1 : Int32))) r12) fun M13 =>
                bi (x6 + (1 : Int32)) fun y14 =>
                some (.inl (y10, y14, M13))
        else
          bd (f_X4_operand y3 M) fun r16 M15 =>
          gd (bin x5 160 = true) inferInstance <| bm (ms M15 21 (Int32.toNatClampNeg x5) r16) fun M17 =>
          bi (x5 + (1 : Int32)) fun y18 =>
          bi (x6 + (1 : Int32)) fun y19 =>
          some (.inl (y18, y19, M17))
set_option maxRecDepth 100000 in
set_option maxHeartbeats 4000000 in
theorem jf_X4_valueOf_b64 {G : wn_G} {ad : Nat → Nat} {X : wn_X} {d : Nat} (O : Ok G RX4 cX4_valueOf 8 d X) (hd0 : 2 ≤ d) (x1 : Int32) (x4 : Int32) (x5 : Int32) (x6 : Int32) (M : Mm) : JW G S1 ad X 64 [(0, .ref (ad 4)), (1, .int x1), (4, .int x4), (5, .int x5), (6, .int x6)] [] M (f_X4_valueOf_b64 x1 x4 x5 x6 M) (Kl (h_X4_valueOf_64 G ad X x1 x4) (Kri G S1 ad X)) := by
  unfold f_X4_valueOf_b64
  refine j_iload (pc := 64) O 4 dX4_valueOf_64 rfl ?_
  refine j_iload (pc := 66) O 2 dX4_valueOf_66 rfl ?_
  refine j_icmp_ge (pc := 68) (tgt := 225) O dX4_valueOf_68 (by decide) ?_ ?_
  · refine jw_ex ?_
    exact jw_sub [0, 3] rfl (jf_X4_valueOf_j225 O hd0 x5 M)
  · refine j_iload (pc := 71) O 4 dX4_valueOf_71 rfl ?_
    refine j_sipush (pc := 73) (v := 160) O dX4_valueOf_73 (by decide) ?_
    refine j_icmp_ge (pc := 76) (tgt := 225) O dX4_valueOf_76 (by decide) ?_ ?_
    · refine jw_ex ?_
      exact jw_sub [0, 3] rfl (jf_X4_valueOf_j225 O hd0 x5 M)
    · refine j_iload (pc := 79) O 3 dX4_valueOf_79 rfl ?_
      refine j_sipush (pc := 81) (v := 160) O dX4_valueOf_81 (by decide) ?_
      refine j_icmp_ge (pc := 84) (tgt := 225) O dX4_valueOf_84 (by decide) ?_ ?_
      · refine jw_ex ?_
        exact jw_sub [0, 3] rfl (jf_X4_valueOf_j225 O hd0 x5 M)
      · refine j_aload_n (pc := 87) O 0 dX4_valueOf_87 rfl ?_
        refine j_getf (pc := 88) (v := .ref (ad 18)) O 4 1 dX4_valueOf_88 fl_X4_9 so_S1_4 rfl rfl ?_
        refine j_iload_n (pc := 91) O 1 dX4_valueOf_91 rfl ?_
        refine j_sipush (pc := 92) (v := 160) O dX4_valueOf_92 (by decide) ?_
        refine j_imul (pc := 95) O dX4_valueOf_95 ?_
        refine j_iload (pc := 96) O 4 dX4_valueOf_96 rfl ?_
        refine j_iadd (pc := 98) O dX4_valueOf_98 ?_
        refine j_iald (pc := 99) O 18 dX4_valueOf_99 so_S1_18 ?_
        refine jw_bi fun y3 => ?_
        refine j_istore (pc := 100) (L' := [(7, .int y3), (0, .ref (ad 4)), (1, .int x1), (4, .int x4), (5, .int x5), (6, .int x6)]) O dX4_valueOf_100 (by decide) rfl ?_
        refine j_iload (pc := 102) O 0 dX4_valueOf_102 rfl ?_
        refine j_sipush (pc := 104) (v := 20000) O dX4_valueOf_104 (by decide) ?_
        refine j_icmp_ge (pc := 107) (tgt := 129) O dX4_valueOf_107 (by decide) ?_ ?_
        · refine j_iload (pc := 129) O 0 dX4_valueOf_129 rfl ?_
          refine j_sipush (pc := 131) (v := 20000) O dX4_valueOf_131 (by decide) ?_
          refine j_icmp_eq (pc := 134) (tgt := 145) O dX4_valueOf_134 (by decide) ?_ ?_
          · exact jw_sub [1, 2, 3, 4, 5, 0] rfl (jf_X4_valueOf_j145 O hd0 x1 x4 x5 x6 y3 M)
          · refine j_iload (pc := 137) O 0 dX4_valueOf_137 rfl ?_
            refine j_sipush (pc := 139) (v := 20105) O dX4_valueOf_139 (by decide) ?_
            refine j_icmp_ne (pc := 142) (tgt := 176) O dX4_valueOf_142 (by decide) ?_ ?_
            · exact jw_sub [1, 2, 3, 4, 5, 0] rfl (jf_X4_valueOf_j145 O hd0 x1 x4 x5 x6 y3 M)
            · refine j_iload (pc := 176) O 4 dX4_valueOf_176 rfl ?_
              refine j_iconst (pc := 178) (v := 1) O dX4_valueOf_178 (by decide) ?_
              refine j_icmp_le (pc := 179) (tgt := 219) O dX4_valueOf_179 (by decide) ?_ ?_
              · refine j_iinc (pc := 219) (v := 1) (L2 := fun y => [(6, .int y), (7, .int y3), (0, .ref (ad 4)), (1, .int x1), (4, .int x4), (5, .int x5)]) O 5 dX4_valueOf_219 rfl (by decide) (by decide) (fun _ => rfl) (fun y9 => ?_)
                refine j_goto (pc := 222) (tgt := 64) O dX4_valueOf_222 (by decide) ?_
                exact jw_next (fun hh => pw_sub [2, 3, 4, 5, 0] rfl hh)
              · refine j_iinc (pc := 182) (v := -1) (L2 := fun y => [(5, .int y), (7, .int y3), (0, .ref (ad 4)), (1, .int x1), (4, .int x4), (6, .int x6)]) O 4 dX4_valueOf_182 rfl (by decide) (by decide) (fun _ => rfl) (fun y10 => ?_)
                refine j_aload_n (pc := 185) O 2 dX4_valueOf_185 rfl ?_
                refine j_getf (pc := 186) (v := .ref (ad 21)) O 4 4 dX4_valueOf_186 fl_X4_21 so_S1_4 rfl rfl ?_
                refine j_iload (pc := 189) O 0 dX4_valueOf_189 rfl ?_
                refine j_iconst (pc := 191) (v := 1) O dX4_valueOf_191 (by decide) ?_
                refine j_isub (pc := 192) O dX4_valueOf_192 ?_
                refine j_iload (pc := 193) O 1 dX4_valueOf_193 rfl ?_
                refine j_sipush (pc := 195) (v := 20000) O dX4_valueOf_195 (by decide) ?_
                refine j_isub (pc := 198) O dX4_valueOf_198 ?_
                refine j_aload_n (pc := 199) O 2 dX4_valueOf_199 rfl ?_
                refine j_getf (pc := 200) (v := .ref (ad 21)) O 4 4 dX4_valueOf_200 fl_X4_21 so_S1_4 rfl rfl ?_
                refine j_iload (pc := 203) O 0 dX4_valueOf_203 rfl ?_
                refine j_iconst (pc := 205) (v := 1) O dX4_valueOf_205 (by decide) ?_
                refine j_isub (pc := 206) O dX4_valueOf_206 ?_
                refine j_iald (pc := 207) O 21 dX4_valueOf_207 so_S1_21 ?_
                refine j_aload_n (pc := 208) O 2 dX4_valueOf_208 rfl ?_
                refine j_getf (pc := 209) (v := .ref (ad 21)) O 4 4 dX4_valueOf_209 fl_X4_21 so_S1_4 rfl rfl ?_
                refine j_iload (pc := 212) O 0 dX4_valueOf_212 rfl ?_
                refine j_iald (pc := 214) O 21 dX4_valueOf_214 so_S1_21 ?_
                refine j_callSi (pc := 215) (dc := 1) (As := [.int (y3 - (20000 : Int32)), .int (M.1 21 (Int32.toNatClampNeg (y10 - (1 : Int32)))), .int (M.1 21 (Int32.toNatClampNeg y10))]) (rest := [.int (y10 - (1 : Int32)), .ref (ad 21)]) O (fun r M1 h => sp_X4_joined h) dX4_valueOf_215 mst_X4_joined lm_X4_47 rfl rfl (Nat.le_of_ble_eq_true rfl) (Nat.le_trans (Nat.le_of_ble_eq_true rfl) hd0) (fun r12 M11 => ?_)
                refine j_iast (pc := 218) O 21 dX4_valueOf_218 so_S1_21 (fun M13 => ?_)
                refine j_iinc (pc := 219) (v := 1) (L2 := fun y => [(6, .int y), (5, .int y10), (7, .int y3), (0, .ref (ad 4)), (1, .int x1), (4, .int x4)]) O 5 dX4_valueOf_219 rfl (by decide) (by decide) (fun _ => rfl) (fun y14 => ?_)
                refine j_goto (pc := 222) (tgt := 64) O dX4_valueOf_222 (by decide) ?_
                exact jw_next (fun hh => pw_sub [3, 4, 5, 1, 0] rfl hh)
        · refine j_aload_n (pc := 110) O 1 dX4_valueOf_110 rfl ?_
          refine j_getf (pc := 111) (v := .ref (ad 21)) O 4 4 dX4_valueOf_111 fl_X4_21 so_S1_4 rfl rfl ?_
          refine j_iload (pc := 114) O 4 dX4_valueOf_114 rfl ?_
          refine j_aload_n (pc := 116) O 1 dX4_valueOf_116 rfl ?_
          refine j_iload (pc := 117) O 0 dX4_valueOf_117 rfl ?_
          refine j_callVi (pc := 119) (dc := 1) (As := [.int y3]) (rest := [.int x5, .ref (ad 21)]) O 4 (fun r M1 h => sp_X4_operand h) dX4_valueOf_119 mv_X4_operand lm_X4_40 so_S1_4 rfl rfl (Nat.le_of_ble_eq_true rfl) (Nat.le_trans (Nat.le_of_ble_eq_true rfl) hd0) (fun r16 M15 => ?_)
          refine j_iast (pc := 122) O 21 dX4_valueOf_122 so_S1_21 (fun M17 => ?_)
          refine j_iinc (pc := 123) (v := 1) (L2 := fun y => [(5, .int y), (7, .int y3), (0, .ref (ad 4)), (1, .int x1), (4, .int x4), (6, .int x6)]) O 4 dX4_valueOf_123 rfl (by decide) (by decide) (fun _ => rfl) (fun y18 => ?_)
          refine j_goto (pc := 126) (tgt := 219) O dX4_valueOf_126 (by decide) ?_
          refine j_iinc (pc := 219) (v := 1) (L2 := fun y => [(6, .int y), (5, .int y18), (7, .int y3), (0, .ref (ad 4)), (1, .int x1), (4, .int x4)]) O 5 dX4_valueOf_219 rfl (by decide) (by decide) (fun _ => rfl) (fun y19 => ?_)
          refine j_goto (pc := 222) (tgt := 64) O dX4_valueOf_222 (by decide) ?_
          exact jw_next (fun hh => pw_sub [3, 4, 5, 1, 0] rfl hh)
def f_X4_valueOf_j41 (x1 : Int32) (x2 : Int32) (s0 : Int32) (M : Mm) : Option (Int32 × Mm) :=
  gd (bin ((x1 * (3 : Int32)) + x2) 18 = true) inferInstance <|
  bi (M.1 19 (Int32.toNatClampNeg ((x1 * (3 : Int32)) + x2))) fun y1 =>
  bi (imx (0 : Int32) s0) fun y2 =>
  iter (fun s => f_X4_valueOf_b64 x1 y1 s.1 s.2.1 s.2.2) fuel ((0 : Int32), y2, M)
set_option maxRecDepth 100000 in
set_option maxHeartbeats 4000000 in
theorem jf_X4_valueOf_j41 {G : wn_G} {ad : Nat → Nat} {X : wn_X} {d : Nat} (O : Ok G RX4 cX4_valueOf 8 d X) (hd0 : 2 ≤ d) (x1 : Int32) (x2 : Int32) (s0 : Int32) (M : Mm) : JW G S1 ad X 41 [(0, .ref (ad 4)), (1, .int x1), (2, .int x2)] [.int s0] M (f_X4_valueOf_j41 x1 x2 s0 M) (Kri G S1 ad X) := by
  unfold f_X4_valueOf_j41
  refine j_istore_n (pc := 41) (L' := [(3, .int s0), (0, .ref (ad 4)), (1, .int x1), (2, .int x2)]) O dX4_valueOf_41 (by decide) rfl ?_
  refine j_aload_n (pc := 42) O 1 dX4_valueOf_42 rfl ?_
  refine j_getf (pc := 43) (v := .ref (ad 19)) O 4 2 dX4_valueOf_43 fl_X4_15 so_S1_4 rfl rfl ?_
  refine j_iload_n (pc := 46) O 2 dX4_valueOf_46 rfl ?_
  refine j_iconst (pc := 47) (v := 3) O dX4_valueOf_47 (by decide) ?_
  refine j_imul (pc := 48) O dX4_valueOf_48 ?_
  refine j_iload_n (pc := 49) O 3 dX4_valueOf_49 rfl ?_
  refine j_iadd (pc := 50) O dX4_valueOf_50 ?_
  refine j_iald (pc := 51) O 19 dX4_valueOf_51 so_S1_19 ?_
  refine jw_bi fun y1 => ?_
  refine j_istore (pc := 52) (L' := [(4, .int y1), (3, .int s0), (0, .ref (ad 4)), (1, .int x1), (2, .int x2)]) O dX4_valueOf_52 (by decide) rfl ?_
  refine j_iconst (pc := 54) (v := 0) O dX4_valueOf_54 (by decide) ?_
  refine j_istore (pc := 55) (L' := [(5, .int (0 : Int32)), (4, .int y1), (3, .int s0), (0, .ref (ad 4)), (1, .int x1), (2, .int x2)]) O dX4_valueOf_55 (by decide) rfl ?_
  refine j_iconst (pc := 57) (v := 0) O dX4_valueOf_57 (by decide) ?_
  refine j_iload_n (pc := 58) O 2 dX4_valueOf_58 rfl ?_
  refine j_max (pc := 59) O dX4_valueOf_59 gl_X4_34 gt_Math_max gi_java_lang_Math gc_Math_max (Nat.le_trans (Nat.le_of_ble_eq_true rfl) hd0) (Nat.le_of_ble_eq_true rfl) ?_
  refine jw_bi fun y2 => ?_
  refine j_istore (pc := 62) (L' := [(6, .int y2), (5, .int (0 : Int32)), (4, .int y1), (3, .int s0), (0, .ref (ad 4)), (1, .int x1), (2, .int x2)]) O dX4_valueOf_62 (by decide) rfl ?_
  exact jw_iter (hd := h_X4_valueOf_64 G ad X x1 y1) (fun hh => pw_sub [4, 5, 2, 1, 0] rfl hh) (fun s => jf_X4_valueOf_b64 O hd0 x1 y1 s.1 s.2.1 s.2.2)
def f_X4_valueOf (x1 : Int32) (x2 : Int32) (M : Mm) : Option (Int32 × Mm) :=
  if x1 < 0 then
    some ((0 : Int32), M)
  else
    if (6 : Int32) ≤ x1 then
      some ((0 : Int32), M)
    else
      if x2 < 0 then
        some ((0 : Int32), M)
      else
        if x2 < (3 : Int32) then
          if x2 = 0 then
            f_X4_valueOf_j41 x1 x2 (0 : Int32) M
          else
            gd (bin (((x1 * (3 : Int32)) + x2) - (1 : Int32)) 18 = true) inferInstance <|
            f_X4_valueOf_j41 x1 x2 (M.1 19 (Int32.toNatClampNeg (((x1 * (3 : Int32)) + x2) - (1 : Int32)))) M
        else
          some ((0 : Int32), M)
set_option maxRecDepth 100000 in
set_option maxHeartbeats 4000000 in
theorem jf_X4_valueOf {G : wn_G} {ad : Nat → Nat} {X : wn_X} {d : Nat} (O : Ok G RX4 cX4_valueOf 8 d X) (hd0 : 2 ≤ d) (x1 : Int32) (x2 : Int32) (M : Mm) : JW G S1 ad X 0 [(0, .ref (ad 4)), (1, .int x1), (2, .int x2)] [] M (f_X4_valueOf x1 x2 M) (Kri G S1 ad X) := by
  unfold f_X4_valueOf
  refine j_iload_n (pc := 0) O 1 dX4_valueOf_0 rfl ?_
  refine j_if_lt (pc := 1) (tgt := 19) O dX4_valueOf_1 (by decide) ?_ ?_
  · refine j_iconst (pc := 19) (v := 0) O dX4_valueOf_19 (by decide) ?_
    exact j_iret (pc := 20) O dX4_valueOf_20
  · refine j_iload_n (pc := 4) O 1 dX4_valueOf_4 rfl ?_
    refine j_bipush (pc := 5) (v := 6) O dX4_valueOf_5 (by decide) ?_
    refine j_icmp_ge (pc := 7) (tgt := 19) O dX4_valueOf_7 (by decide) ?_ ?_
    · refine j_iconst (pc := 19) (v := 0) O dX4_valueOf_19 (by decide) ?_
      exact j_iret (pc := 20) O dX4_valueOf_20
    · refine j_iload_n (pc := 10) O 2 dX4_valueOf_10 rfl ?_
      refine j_if_lt (pc := 11) (tgt := 19) O dX4_valueOf_11 (by decide) ?_ ?_
      · refine j_iconst (pc := 19) (v := 0) O dX4_valueOf_19 (by decide) ?_
        exact j_iret (pc := 20) O dX4_valueOf_20
      · refine j_iload_n (pc := 14) O 2 dX4_valueOf_14 rfl ?_
        refine j_iconst (pc := 15) (v := 3) O dX4_valueOf_15 (by decide) ?_
        refine j_icmp_lt (pc := 16) (tgt := 21) O dX4_valueOf_16 (by decide) ?_ ?_
        · refine j_iload_n (pc := 21) O 2 dX4_valueOf_21 rfl ?_
          refine j_if_ne (pc := 22) (tgt := 29) O dX4_valueOf_22 (by decide) ?_ ?_
          · refine j_iconst (pc := 25) (v := 0) O dX4_valueOf_25 (by decide) ?_
            refine j_goto (pc := 26) (tgt := 41) O dX4_valueOf_26 (by decide) ?_
            exact jw_sub [0, 1, 2] rfl (jf_X4_valueOf_j41 O hd0 x1 x2 (0 : Int32) M)
          · refine j_aload_n (pc := 29) O 0 dX4_valueOf_29 rfl ?_
            refine j_getf (pc := 30) (v := .ref (ad 19)) O 4 2 dX4_valueOf_30 fl_X4_15 so_S1_4 rfl rfl ?_
            refine j_iload_n (pc := 33) O 1 dX4_valueOf_33 rfl ?_
            refine j_iconst (pc := 34) (v := 3) O dX4_valueOf_34 (by decide) ?_
            refine j_imul (pc := 35) O dX4_valueOf_35 ?_
            refine j_iload_n (pc := 36) O 2 dX4_valueOf_36 rfl ?_
            refine j_iadd (pc := 37) O dX4_valueOf_37 ?_
            refine j_iconst (pc := 38) (v := 1) O dX4_valueOf_38 (by decide) ?_
            refine j_isub (pc := 39) O dX4_valueOf_39 ?_
            refine j_iald (pc := 40) O 19 dX4_valueOf_40 so_S1_19 ?_
            exact jw_sub [0, 1, 2] rfl (jf_X4_valueOf_j41 O hd0 x1 x2 (M.1 19 (Int32.toNatClampNeg (((x1 * (3 : Int32)) + x2) - (1 : Int32)))) M)
        · refine j_iconst (pc := 19) (v := 0) O dX4_valueOf_19 (by decide) ?_
          exact j_iret (pc := 20) O dX4_valueOf_20
theorem sp_X4_valueOf {G : wn_G} {ad : Nat → Nat} {x1 : Int32} {x2 : Int32} {M : Mm} {r : Int32} {M1 : Mm} (h : f_X4_valueOf x1 x2 M = some (r, M1)) : Sp G S1 ad mX4_valueOf 2 [.ref (ad 4), .int x1, .int x2] M M1 (some (.int r)) :=
  sp_intro (own := RX4) (by decide +kernel) rfl (Nat.le_of_ble_eq_true rfl) (fun X O T => jf_X4_valueOf O (Nat.le_refl _) x1 x2 M (r, M1) h T)
def f_X2_within (x0 : Int32) (x1 : Int32) (x2 : Int32) (M : Mm) : Option (Int32 × Mm) :=
  some ((imx x0 (imn x1 x2)), M)
set_option maxRecDepth 100000 in
set_option maxHeartbeats 4000000 in
theorem jf_X2_within {G : wn_G} {ad : Nat → Nat} {X : wn_X} {d : Nat} (O : Ok G RX2 cX2_within 3 d X) (hd0 : 1 ≤ d) (x0 : Int32) (x1 : Int32) (x2 : Int32) (M : Mm) : JW G S1 ad X 0 [(0, .int x0), (1, .int x1), (2, .int x2)] [] M (f_X2_within x0 x1 x2 M) (Kri G S1 ad X) := by
  unfold f_X2_within
  refine j_iload_n (pc := 0) O 0 dX2_within_0 rfl ?_
  refine j_iload_n (pc := 1) O 1 dX2_within_1 rfl ?_
  refine j_iload_n (pc := 2) O 2 dX2_within_2 rfl ?_
  refine j_min (pc := 3) O dX2_within_3 gl_X2_107 gt_Math_min gi_java_lang_Math gc_Math_min (Nat.le_trans (Nat.le_of_ble_eq_true rfl) hd0) (Nat.le_of_ble_eq_true rfl) ?_
  refine j_max (pc := 6) O dX2_within_6 gl_X2_92 gt_Math_max gi_java_lang_Math gc_Math_max (Nat.le_trans (Nat.le_of_ble_eq_true rfl) hd0) (Nat.le_of_ble_eq_true rfl) ?_
  exact j_iret (pc := 9) O dX2_within_9
theorem sp_X2_within {G : wn_G} {ad : Nat → Nat} {x0 : Int32} {x1 : Int32} {x2 : Int32} {M : Mm} {r : Int32} {M1 : Mm} (h : f_X2_within x0 x1 x2 M = some (r, M1)) : Sp G S1 ad mX2_within 1 [.int x0, .int x1, .int x2] M M1 (some (.int r)) :=
  sp_intro (own := RX2) (by decide +kernel) rfl (Nat.le_of_ble_eq_true rfl) (fun X O T => jf_X2_within O (Nat.le_refl _) x0 x1 x2 M (r, M1) h T)
def h_X2_bake_2 (G : wn_G) (ad : Nat → Nat) (X : wn_X) (x1 : Int32) : Int32 × Mm → Prop := fun s => PW G S1 ad X 2 [(0, .ref (ad 6)), (1, .int x1), (2, .int s.1)] [] s.2
def f_X2_bake_j77 (x1 : Int32) (x2 : Int32) (s0 : Int32) (s1 : Int32) (M : Mm) : Option ((Int32 × Mm) ⊕ (Mm)) :=
  gd (bin s1 12 = true) inferInstance <| bm (ms M 25 (Int32.toNatClampNeg s1) s0) fun M8 =>
  bi (x2 + (1 : Int32)) fun y9 =>
  some (.inl (y9, M8))
set_option maxRecDepth 100000 in
set_option maxHeartbeats 4000000 in
theorem jf_X2_bake_j77 {G : wn_G} {ad : Nat → Nat} {X : wn_X} {d : Nat} (O : Ok G RX2 cX2_bake 5 d X) (hd0 : 3 ≤ d) (x1 : Int32) (x2 : Int32) (s0 : Int32) (s1 : Int32) (M : Mm) : JW G S1 ad X 77 [(0, .ref (ad 6)), (1, .int x1), (2, .int x2)] [.int s0, .int s1, .ref (ad 25)] M (f_X2_bake_j77 x1 x2 s0 s1 M) (Kl (h_X2_bake_2 G ad X x1) (Krv G S1 ad X)) := by
  unfold f_X2_bake_j77
  refine j_iast (pc := 77) O 25 dX2_bake_77 so_S1_25 (fun M8 => ?_)
  refine j_iinc (pc := 78) (v := 1) (L2 := fun y => [(2, .int y), (0, .ref (ad 6)), (1, .int x1)]) O 2 dX2_bake_78 rfl (by decide) (by decide) (fun _ => rfl) (fun y9 => ?_)
  refine j_goto (pc := 81) (tgt := 2) O dX2_bake_81 (by decide) ?_
  exact jw_next (fun hh => pw_sub [1, 2, 0] rfl hh)
def f_X2_bake_j76 (x1 : Int32) (x2 : Int32) (x3 : Int32) (s0 : Int32) (M : Mm) : Option ((Int32 × Mm) ⊕ (Mm)) :=
  f_X2_bake_j77 x1 x2 x3 s0 M
set_option maxRecDepth 100000 in
set_option maxHeartbeats 4000000 in
theorem jf_X2_bake_j76 {G : wn_G} {ad : Nat → Nat} {X : wn_X} {d : Nat} (O : Ok G RX2 cX2_bake 5 d X) (hd0 : 3 ≤ d) (x1 : Int32) (x2 : Int32) (x3 : Int32) (s0 : Int32) (M : Mm) : JW G S1 ad X 76 [(0, .ref (ad 6)), (1, .int x1), (2, .int x2), (3, .int x3)] [.int s0, .ref (ad 25)] M (f_X2_bake_j76 x1 x2 x3 s0 M) (Kl (h_X2_bake_2 G ad X x1) (Krv G S1 ad X)) := by
  unfold f_X2_bake_j76
  refine j_iload_n (pc := 76) O 3 dX2_bake_76 rfl ?_
  exact jw_sub [0, 1, 2] rfl (jf_X2_bake_j77 O hd0 x1 x2 x3 s0 M)
def f_X2_bake_b2 (x1 : Int32) (x2 : Int32) (M : Mm) : Option ((Int32 × Mm) ⊕ (Mm)) :=
  if (12 : Int32) ≤ x2 then
    ex (
    bv (f_X2_heapUp (1 : Int32) M) fun M1 =>
    some M1)
  else
    bv (f_X4_name x2 (0 : Int32) (0 : Int32) (0 : Int32) (0 : Int32) (0 : Int32) M) fun M2 =>
    bd (f_X4_valueOf (M2.1 1 2) (0 : Int32) M2) fun r4 M3 =>
    bd (f_X2_within (1 : Int32) r4 (20 : Int32) M3) fun r6 M5 =>
    bi (x2 - x1) fun y7 =>
    if y7 < 0 then
      f_X2_bake_j76 x1 x2 r6 x2 M5
    else
      if x2 ≤ y7 then
        f_X2_bake_j76 x1 x2 r6 x2 M5
      else
        gd (bin y7 12 = true) inferInstance <|
        f_X2_bake_j77 x1 x2 ((M5.1 25 (Int32.toNatClampNeg y7)) + r6) x2 M5
set_option maxRecDepth 100000 in
set_option maxHeartbeats 4000000 in
theorem jf_X2_bake_b2 {G : wn_G} {ad : Nat → Nat} {X : wn_X} {d : Nat} (O : Ok G RX2 cX2_bake 5 d X) (hd0 : 3 ≤ d) (x1 : Int32) (x2 : Int32) (M : Mm) : JW G S1 ad X 2 [(0, .ref (ad 6)), (1, .int x1), (2, .int x2)] [] M (f_X2_bake_b2 x1 x2 M) (Kl (h_X2_bake_2 G ad X x1) (Krv G S1 ad X)) := by
  unfold f_X2_bake_b2
  refine j_iload_n (pc := 2) O 2 dX2_bake_2 rfl ?_
  refine j_bipush (pc := 3) (v := 12) O dX2_bake_3 (by decide) ?_
  refine j_icmp_ge (pc := 5) (tgt := 84) O dX2_bake_5 (by decide) ?_ ?_
  · refine jw_ex ?_
    refine j_aload_n (pc := 84) O 0 dX2_bake_84 rfl ?_
    refine j_iconst (pc := 85) (v := 1) O dX2_bake_85 (by decide) ?_
    refine j_callVv (pc := 86) (dc := 1) (As := [.int (1 : Int32)]) (rest := []) O 6 (fun M1 h => sp_X2_heapUp h) dX2_bake_86 mv_X2_heapUp lm_X2_64 so_S1_6 rfl rfl (Nat.le_of_ble_eq_true rfl) (Nat.le_trans (Nat.le_of_ble_eq_true rfl) hd0) (fun M1 => ?_)
    exact j_vret (pc := 89) O dX2_bake_89
  · refine j_aload_n (pc := 8) O 0 dX2_bake_8 rfl ?_
    refine j_getf (pc := 9) (v := .ref (ad 4)) O 6 1 dX2_bake_9 fl_X2_40 so_S1_6 rfl rfl ?_
    refine j_iload_n (pc := 12) O 2 dX2_bake_12 rfl ?_
    refine j_iconst (pc := 13) (v := 0) O dX2_bake_13 (by decide) ?_
    refine j_iconst (pc := 14) (v := 0) O dX2_bake_14 (by decide) ?_
    refine j_iconst (pc := 15) (v := 0) O dX2_bake_15 (by decide) ?_
    refine j_iconst (pc := 16) (v := 0) O dX2_bake_16 (by decide) ?_
    refine j_iconst (pc := 17) (v := 0) O dX2_bake_17 (by decide) ?_
    refine j_callVv (pc := 18) (dc := 1) (As := [.int x2, .int (0 : Int32), .int (0 : Int32), .int (0 : Int32), .int (0 : Int32), .int (0 : Int32)]) (rest := []) O 4 (fun M1 h => sp_X4_name h) dX2_bake_18 mv_X4_name lm_X2_44 so_S1_4 rfl rfl (Nat.le_of_ble_eq_true rfl) (Nat.le_trans (Nat.le_of_ble_eq_true rfl) hd0) (fun M2 => ?_)
    refine j_iconst (pc := 21) (v := 1) O dX2_bake_21 (by decide) ?_
    refine j_aload_n (pc := 22) O 0 dX2_bake_22 rfl ?_
    refine j_getf (pc := 23) (v := .ref (ad 4)) O 6 1 dX2_bake_23 fl_X2_40 so_S1_6 rfl rfl ?_
    refine j_aload_n (pc := 26) O 0 dX2_bake_26 rfl ?_
    refine j_getf (pc := 27) (v := .ref (ad 1)) O 6 0 dX2_bake_27 fl_X2_36 so_S1_6 rfl rfl ?_
    refine j_getf (pc := 30) (v := .int (M2.1 1 2)) O 1 2 dX2_bake_30 fl_X2_50 so_S1_1 rfl rfl ?_
    refine j_iconst (pc := 33) (v := 0) O dX2_bake_33 (by decide) ?_
    refine j_callVi (pc := 34) (dc := 2) (As := [.int (M2.1 1 2), .int (0 : Int32)]) (rest := [.int (1 : Int32)]) O 4 (fun r M1 h => sp_X4_valueOf h) dX2_bake_34 mv_X4_valueOf lm_X2_56 so_S1_4 rfl rfl (Nat.le_of_ble_eq_true rfl) (Nat.le_trans (Nat.le_of_ble_eq_true rfl) hd0) (fun r4 M3 => ?_)
    refine j_bipush (pc := 37) (v := 20) O dX2_bake_37 (by decide) ?_
    refine j_callSi (pc := 39) (dc := 1) (As := [.int (1 : Int32), .int r4, .int (20 : Int32)]) (rest := []) O (fun r M1 h => sp_X2_within h) dX2_bake_39 mst_X2_within lm_X2_60 rfl rfl (Nat.le_of_ble_eq_true rfl) (Nat.le_trans (Nat.le_of_ble_eq_true rfl) hd0) (fun r6 M5 => ?_)
    refine j_istore_n (pc := 42) (L' := [(3, .int r6), (0, .ref (ad 6)), (1, .int x1), (2, .int x2)]) O dX2_bake_42 (by decide) rfl ?_
    refine j_iload_n (pc := 43) O 3 dX2_bake_43 rfl ?_
    refine j_iload_n (pc := 44) O 2 dX2_bake_44 rfl ?_
    refine j_isub (pc := 45) O dX2_bake_45 ?_
    refine jw_bi fun y7 => ?_
    refine j_istore (pc := 46) (L' := [(4, .int y7), (3, .int r6), (0, .ref (ad 6)), (1, .int x1), (2, .int x2)]) O dX2_bake_46 (by decide) rfl ?_
    refine j_aload_n (pc := 48) O 2 dX2_bake_48 rfl ?_
    refine j_getf (pc := 49) (v := .ref (ad 25)) O 6 2 dX2_bake_49 fl_X2_9 so_S1_6 rfl rfl ?_
    refine j_iload_n (pc := 52) O 4 dX2_bake_52 rfl ?_
    refine j_iload (pc := 53) O 0 dX2_bake_53 rfl ?_
    refine j_if_lt (pc := 55) (tgt := 76) O dX2_bake_55 (by decide) ?_ ?_
    · exact jw_sub [2, 3, 4, 1] rfl (jf_X2_bake_j76 O hd0 x1 x2 r6 x2 M5)
    · refine j_iload (pc := 58) O 0 dX2_bake_58 rfl ?_
      refine j_iload_n (pc := 60) O 4 dX2_bake_60 rfl ?_
      refine j_icmp_ge (pc := 61) (tgt := 76) O dX2_bake_61 (by decide) ?_ ?_
      · exact jw_sub [2, 3, 4, 1] rfl (jf_X2_bake_j76 O hd0 x1 x2 r6 x2 M5)
      · refine j_aload_n (pc := 64) O 2 dX2_bake_64 rfl ?_
        refine j_getf (pc := 65) (v := .ref (ad 25)) O 6 2 dX2_bake_65 fl_X2_9 so_S1_6 rfl rfl ?_
        refine j_iload (pc := 68) O 0 dX2_bake_68 rfl ?_
        refine j_iald (pc := 70) O 25 dX2_bake_70 so_S1_25 ?_
        refine j_iload_n (pc := 71) O 1 dX2_bake_71 rfl ?_
        refine j_iadd (pc := 72) O dX2_bake_72 ?_
        refine j_goto (pc := 73) (tgt := 77) O dX2_bake_73 (by decide) ?_
        exact jw_sub [2, 3, 4] rfl (jf_X2_bake_j77 O hd0 x1 x2 ((M5.1 25 (Int32.toNatClampNeg y7)) + r6) x2 M5)
def f_X2_bake (x1 : Int32) (M : Mm) : Option (Mm) :=
  iter (fun s => f_X2_bake_b2 x1 s.1 s.2) fuel ((0 : Int32), M)
set_option maxRecDepth 100000 in
set_option maxHeartbeats 4000000 in
theorem jf_X2_bake {G : wn_G} {ad : Nat → Nat} {X : wn_X} {d : Nat} (O : Ok G RX2 cX2_bake 5 d X) (hd0 : 3 ≤ d) (x1 : Int32) (M : Mm) : JW G S1 ad X 0 [(0, .ref (ad 6)), (1, .int x1)] [] M (f_X2_bake x1 M) (Krv G S1 ad X) := by
  unfold f_X2_bake
  refine j_iconst (pc := 0) (v := 0) O dX2_bake_0 (by decide) ?_
  refine j_istore_n (pc := 1) (L' := [(2, .int (0 : Int32)), (0, .ref (ad 6)), (1, .int x1)]) O dX2_bake_1 (by decide) rfl ?_
  exact jw_iter (hd := h_X2_bake_2 G ad X x1) (fun hh => pw_sub [1, 2, 0] rfl hh) (fun s => jf_X2_bake_b2 O hd0 x1 s.1 s.2)
theorem sp_X2_bake {G : wn_G} {ad : Nat → Nat} {x1 : Int32} {M M1 : Mm} (h : f_X2_bake x1 M = some M1) : Sp G S1 ad mX2_bake 3 [.ref (ad 6), .int x1] M M1 none :=
  sp_intro (own := RX2) (by decide +kernel) rfl (Nat.le_of_ble_eq_true rfl) (fun X O T => jf_X2_bake O (Nat.le_refl _) x1 M M1 h T)
def h_J7_fill_53178_32_5 (G : wn_G) (ad : Nat → Nat) (X : wn_X) (x1 : Int32) (x3 : Int32) : Int32 × Mm → Prop := fun s => PW G S1 ad X 5 [(0, .ref (ad 32)), (1, .int x1), (2, .int s.1), (3, .int x3)] [] s.2
def f_J7_fill_53178_32_b5 (x1 : Int32) (x2 : Int32) (x3 : Int32) (M : Mm) : Option ((Int32 × Mm) ⊕ (Mm)) :=
  if x3 ≤ x2 then
    ex (
    some M)
  else
    gd (bin x2 3900 = true) inferInstance <| bm (ms M 32 (Int32.toNatClampNeg x2) x1) fun M1 =>
    bi (x2 + (1 : Int32)) fun y2 =>
    some (.inl (y2, M1))
set_option maxRecDepth 100000 in
set_option maxHeartbeats 4000000 in
theorem jf_J7_fill_53178_32_b5 {G : wn_G} {ad : Nat → Nat} {X : wn_X} {d : Nat} (O : Ok G RJ7 cJ7_fill_53178 4 d X) (hd0 : 1 ≤ d) (x1 : Int32) (x2 : Int32) (x3 : Int32) (M : Mm) : JW G S1 ad X 5 [(0, .ref (ad 32)), (1, .int x1), (2, .int x2), (3, .int x3)] [] M (f_J7_fill_53178_32_b5 x1 x2 x3 M) (Kl (h_J7_fill_53178_32_5 G ad X x1 x3) (Krv G S1 ad X)) := by
  unfold f_J7_fill_53178_32_b5
  refine j_iload_n (pc := 5) O 2 dJ7_fill_53178_5 rfl ?_
  refine j_iload_n (pc := 6) O 3 dJ7_fill_53178_6 rfl ?_
  refine j_icmp_ge (pc := 7) (tgt := 20) O dJ7_fill_53178_7 (by decide) ?_ ?_
  · refine jw_ex ?_
    exact j_vret (pc := 20) O dJ7_fill_53178_20
  · refine j_aload_n (pc := 10) O 0 dJ7_fill_53178_10 rfl ?_
    refine j_iload_n (pc := 11) O 2 dJ7_fill_53178_11 rfl ?_
    refine j_iload_n (pc := 12) O 1 dJ7_fill_53178_12 rfl ?_
    refine j_iast (pc := 13) O 32 dJ7_fill_53178_13 so_S1_32 (fun M1 => ?_)
    refine j_iinc (pc := 14) (v := 1) (L2 := fun y => [(2, .int y), (0, .ref (ad 32)), (1, .int x1), (3, .int x3)]) O 2 dJ7_fill_53178_14 rfl (by decide) (by decide) (fun _ => rfl) (fun y2 => ?_)
    refine j_goto (pc := 17) (tgt := 5) O dJ7_fill_53178_17 (by decide) ?_
    exact jw_next (fun hh => pw_sub [1, 2, 0, 3] rfl hh)
def f_J7_fill_53178_32 (x1 : Int32) (M : Mm) : Option (Mm) :=
  iter (fun s => f_J7_fill_53178_32_b5 x1 s.1 (3900 : Int32) s.2) fuel ((0 : Int32), M)
set_option maxRecDepth 100000 in
set_option maxHeartbeats 4000000 in
theorem jf_J7_fill_53178_32 {G : wn_G} {ad : Nat → Nat} {X : wn_X} {d : Nat} (O : Ok G RJ7 cJ7_fill_53178 4 d X) (hd0 : 1 ≤ d) (x1 : Int32) (M : Mm) : JW G S1 ad X 0 [(0, .ref (ad 32)), (1, .int x1)] [] M (f_J7_fill_53178_32 x1 M) (Krv G S1 ad X) := by
  unfold f_J7_fill_53178_32
  refine j_iconst (pc := 0) (v := 0) O dJ7_fill_53178_0 (by decide) ?_
  refine j_istore_n (pc := 1) (L' := [(2, .int (0 : Int32)), (0, .ref (ad 32)), (1, .int x1)]) O dJ7_fill_53178_1 (by decide) rfl ?_
  refine j_aload_n (pc := 2) O 1 dJ7_fill_53178_2 rfl ?_
  refine j_alen (pc := 3) (v := 3900) O 32 dJ7_fill_53178_3 so_S1_32 (by decide) ?_
  refine j_istore_n (pc := 4) (L' := [(3, .int (3900 : Int32)), (2, .int (0 : Int32)), (0, .ref (ad 32)), (1, .int x1)]) O dJ7_fill_53178_4 (by decide) rfl ?_
  exact jw_iter (hd := h_J7_fill_53178_32_5 G ad X x1 (3900 : Int32)) (fun hh => pw_sub [2, 3, 1, 0] rfl hh) (fun s => jf_J7_fill_53178_32_b5 O hd0 x1 s.1 (3900 : Int32) s.2)
theorem sp_J7_fill_53178_32 {G : wn_G} {ad : Nat → Nat} {x1 : Int32} {M M1 : Mm} (h : f_J7_fill_53178_32 x1 M = some M1) : Sp G S1 ad mJ7_fill_53178 1 [.ref (ad 32), .int x1] M M1 none :=
  sp_intro (own := RJ7) (by decide +kernel) rfl (Nat.le_of_ble_eq_true rfl) (fun X O T => jf_J7_fill_53178_32 O (Nat.le_refl _) x1 M M1 h T)
def h_X2_lay_12 (G : wn_G) (ad : Nat → Nat) (X : wn_X) : Int32 × Mm → Prop := fun s => PW G S1 ad X 12 [(0, .ref (ad 6)), (2, .int s.1)] [] s.2
def f_X2_lay_b12 (x2 : Int32) (M : Mm) : Option ((Int32 × Mm) ⊕ (Mm)) :=
  if (5 : Int32) ≤ x2 then
    ex (
    bm (ms M 6 11 (0 : Int32)) fun M3 =>
    bv (f_J7_fill_53178_32 (-1 : Int32) M3) fun M4 =>
    some M4)
  else
    gd (bin x2 5 = true) inferInstance <|
    gd (bin x2 5 = true) inferInstance <|
    bd (f_X5_eatsOf (M.1 7 (Int32.toNatClampNeg x2)) (M.1 10 (Int32.toNatClampNeg x2)) M) fun r6 M5 =>
    gd (bin x2 5 = true) inferInstance <| bm (ms M5 28 (Int32.toNatClampNeg x2) r6) fun M7 =>
    gd (bin x2 5 = true) inferInstance <| bm (ms M7 29 (Int32.toNatClampNeg x2) (0 : Int32)) fun M8 =>
    bi (x2 + (1 : Int32)) fun y9 =>
    some (.inl (y9, M8))
set_option maxRecDepth 100000 in
set_option maxHeartbeats 4000000 in
theorem jf_X2_lay_b12 {G : wn_G} {ad : Nat → Nat} {X : wn_X} {d : Nat} (O : Ok G RX2 cX2_lay 3 d X) (hd0 : 4 ≤ d) (x2 : Int32) (M : Mm) : JW G S1 ad X 12 [(0, .ref (ad 6)), (2, .int x2)] [] M (f_X2_lay_b12 x2 M) (Kl (h_X2_lay_12 G ad X) (Krv G S1 ad X)) := by
  unfold f_X2_lay_b12
  refine j_iload_n (pc := 12) O 1 dX2_lay_12 rfl ?_
  refine j_iconst (pc := 13) (v := 5) O dX2_lay_13 (by decide) ?_
  refine j_icmp_ge (pc := 14) (tgt := 57) O dX2_lay_14 (by decide) ?_ ?_
  · refine jw_ex ?_
    refine j_aload_n (pc := 57) O 0 dX2_lay_57 rfl ?_
    refine j_iconst (pc := 58) (v := 0) O dX2_lay_58 (by decide) ?_
    refine j_puti (pc := 59) O 6 11 dX2_lay_59 fl_X2_83 so_S1_6 ft_X2_11 rfl (fun M3 => ?_)
    refine j_aload_n (pc := 62) O 0 dX2_lay_62 rfl ?_
    refine j_getf (pc := 63) (v := .ref (ad 32)) O 6 16 dX2_lay_63 fl_X2_33 so_S1_6 rfl rfl ?_
    refine j_iconst (pc := 66) (v := -1) O dX2_lay_66 (by decide) ?_
    refine j_callSv (pc := 67) (dc := 1) (As := [.ref (ad 32), .int (-1 : Int32)]) (rest := []) O (fun M1 h => sp_J7_fill_53178_32 h) dX2_lay_67 mst_J7_fill_53178 lm_X2_86 rfl rfl (Nat.le_of_ble_eq_true rfl) (Nat.le_trans (Nat.le_of_ble_eq_true rfl) hd0) (fun M4 => ?_)
    exact j_vret (pc := 70) O dX2_lay_70
  · refine j_aload_n (pc := 17) O 0 dX2_lay_17 rfl ?_
    refine j_getf (pc := 18) (v := .ref (ad 28)) O 6 6 dX2_lay_18 fl_X2_21 so_S1_6 rfl rfl ?_
    refine j_iload_n (pc := 21) O 1 dX2_lay_21 rfl ?_
    refine j_aload_n (pc := 22) O 0 dX2_lay_22 rfl ?_
    refine j_getf (pc := 23) (v := .ref (ad 1)) O 6 0 dX2_lay_23 fl_X2_36 so_S1_6 rfl rfl ?_
    refine j_getf (pc := 26) (v := .ref (ad 7)) O 1 4 dX2_lay_26 fl_X2_74 so_S1_1 rfl rfl ?_
    refine j_iload_n (pc := 29) O 1 dX2_lay_29 rfl ?_
    refine j_iald (pc := 30) O 7 dX2_lay_30 so_S1_7 ?_
    refine j_aload_n (pc := 31) O 0 dX2_lay_31 rfl ?_
    refine j_getf (pc := 32) (v := .ref (ad 1)) O 6 0 dX2_lay_32 fl_X2_36 so_S1_6 rfl rfl ?_
    refine j_getf (pc := 35) (v := .ref (ad 10)) O 1 7 dX2_lay_35 fl_X2_77 so_S1_1 rfl rfl ?_
    refine j_iload_n (pc := 38) O 1 dX2_lay_38 rfl ?_
    refine j_iald (pc := 39) O 10 dX2_lay_39 so_S1_10 ?_
    refine j_callSi (pc := 40) (dc := 1) (As := [.int (M.1 7 (Int32.toNatClampNeg x2)), .int (M.1 10 (Int32.toNatClampNeg x2))]) (rest := [.int x2, .ref (ad 28)]) O (fun r M1 h => sp_X5_eatsOf h) dX2_lay_40 mst_X5_eatsOf lm_X2_80 rfl rfl (Nat.le_of_ble_eq_true rfl) (Nat.le_trans (Nat.le_of_ble_eq_true rfl) hd0) (fun r6 M5 => ?_)
    refine j_iast (pc := 43) O 28 dX2_lay_43 so_S1_28 (fun M7 => ?_)
    refine j_aload_n (pc := 44) O 0 dX2_lay_44 rfl ?_
    refine j_getf (pc := 45) (v := .ref (ad 29)) O 6 8 dX2_lay_45 fl_X2_24 so_S1_6 rfl rfl ?_
    refine j_iload_n (pc := 48) O 1 dX2_lay_48 rfl ?_
    refine j_iconst (pc := 49) (v := 0) O dX2_lay_49 (by decide) ?_
    refine j_iast (pc := 50) O 29 dX2_lay_50 so_S1_29 (fun M8 => ?_)
    refine j_iinc (pc := 51) (v := 1) (L2 := fun y => [(2, .int y), (0, .ref (ad 6))]) O 1 dX2_lay_51 rfl (by decide) (by decide) (fun _ => rfl) (fun y9 => ?_)
    refine j_goto (pc := 54) (tgt := 12) O dX2_lay_54 (by decide) ?_
    exact jw_next (fun hh => pw_sub [1, 0] rfl hh)
def f_X2_lay (x1 : Int32) (M : Mm) : Option (Mm) :=
  bv (f_X2_bake x1 M) fun M1 =>
  bm (ms M1 6 7 (-1 : Int32)) fun M2 =>
  iter (fun s => f_X2_lay_b12 s.1 s.2) fuel ((0 : Int32), M2)
set_option maxRecDepth 100000 in
set_option maxHeartbeats 4000000 in
theorem jf_X2_lay {G : wn_G} {ad : Nat → Nat} {X : wn_X} {d : Nat} (O : Ok G RX2 cX2_lay 3 d X) (hd0 : 4 ≤ d) (x1 : Int32) (M : Mm) : JW G S1 ad X 0 [(0, .ref (ad 6)), (1, .int x1)] [] M (f_X2_lay x1 M) (Krv G S1 ad X) := by
  unfold f_X2_lay
  refine j_aload_n (pc := 0) O 0 dX2_lay_0 rfl ?_
  refine j_iload_n (pc := 1) O 1 dX2_lay_1 rfl ?_
  refine j_callVv (pc := 2) (dc := 3) (As := [.int x1]) (rest := []) O 6 (fun M1 h => sp_X2_bake h) dX2_lay_2 mv_X2_bake lm_X2_68 so_S1_6 rfl rfl (Nat.le_of_ble_eq_true rfl) (Nat.le_trans (Nat.le_of_ble_eq_true rfl) hd0) (fun M1 => ?_)
  refine j_aload_n (pc := 5) O 0 dX2_lay_5 rfl ?_
  refine j_iconst (pc := 6) (v := -1) O dX2_lay_6 (by decide) ?_
  refine j_puti (pc := 7) O 6 7 dX2_lay_7 fl_X2_71 so_S1_6 ft_X2_7 rfl (fun M2 => ?_)
  refine j_iconst (pc := 10) (v := 0) O dX2_lay_10 (by decide) ?_
  refine j_istore_n (pc := 11) (L' := [(2, .int (0 : Int32)), (0, .ref (ad 6)), (1, .int x1)]) O dX2_lay_11 (by decide) rfl ?_
  exact jw_iter (hd := h_X2_lay_12 G ad X) (fun hh => pw_sub [1, 0] rfl hh) (fun s => jf_X2_lay_b12 O hd0 s.1 s.2)
theorem sp_X2_lay {G : wn_G} {ad : Nat → Nat} {x1 : Int32} {M M1 : Mm} (h : f_X2_lay x1 M = some M1) : Sp G S1 ad mX2_lay 4 [.ref (ad 6), .int x1] M M1 none :=
  sp_intro (own := RX2) (by decide +kernel) rfl (Nat.le_of_ble_eq_true rfl) (fun X O T => jf_X2_lay O (Nat.le_refl _) x1 M M1 h T)
def f_X5_hungersOf_j112 (x5 : Int32) (M : Mm) : Option (Int32 × Mm) :=
  some ((imx (0 : Int32) x5), M)
set_option maxRecDepth 100000 in
set_option maxHeartbeats 4000000 in
theorem jf_X5_hungersOf_j112 {G : wn_G} {ad : Nat → Nat} {X : wn_X} {d : Nat} (O : Ok G RX5 cX5_hungersOf 6 d X) (hd0 : 1 ≤ d) (x5 : Int32) (M : Mm) : JW G S1 ad X 112 [(5, .int x5)] [] M (f_X5_hungersOf_j112 x5 M) (Kri G S1 ad X) := by
  unfold f_X5_hungersOf_j112
  refine j_iconst (pc := 112) (v := 0) O dX5_hungersOf_112 (by decide) ?_
  refine j_iload (pc := 113) O 0 dX5_hungersOf_113 rfl ?_
  refine j_max (pc := 115) O dX5_hungersOf_115 gl_X5_205 gt_Math_max gi_java_lang_Math gc_Math_max (Nat.le_trans (Nat.le_of_ble_eq_true rfl) hd0) (Nat.le_of_ble_eq_true rfl) ?_
  exact j_iret (pc := 118) O dX5_hungersOf_118
def f_X5_hungersOf_j59 (s0 : Int32) (M : Mm) : Option (Int32 × Mm) :=
  f_X5_hungersOf_j112 s0 M
set_option maxRecDepth 100000 in
set_option maxHeartbeats 4000000 in
theorem jf_X5_hungersOf_j59 {G : wn_G} {ad : Nat → Nat} {X : wn_X} {d : Nat} (O : Ok G RX5 cX5_hungersOf 6 d X) (hd0 : 1 ≤ d) (s0 : Int32) (M : Mm) : JW G S1 ad X 59 [] [.int s0] M (f_X5_hungersOf_j59 s0 M) (Kri G S1 ad X) := by
  unfold f_X5_hungersOf_j59
  refine j_istore (pc := 59) (L' := [(5, .int s0)]) O dX5_hungersOf_59 (by decide) rfl ?_
  refine j_goto (pc := 61) (tgt := 112) O dX5_hungersOf_61 (by decide) ?_
  exact jw_sub [0] rfl (jf_X5_hungersOf_j112 O hd0 s0 M)
def f_X5_hungersOf_j79 (s0 : Int32) (M : Mm) : Option (Int32 × Mm) :=
  f_X5_hungersOf_j112 s0 M
set_option maxRecDepth 100000 in
set_option maxHeartbeats 4000000 in
theorem jf_X5_hungersOf_j79 {G : wn_G} {ad : Nat → Nat} {X : wn_X} {d : Nat} (O : Ok G RX5 cX5_hungersOf 6 d X) (hd0 : 1 ≤ d) (s0 : Int32) (M : Mm) : JW G S1 ad X 79 [] [.int s0] M (f_X5_hungersOf_j79 s0 M) (Kri G S1 ad X) := by
  unfold f_X5_hungersOf_j79
  refine j_istore (pc := 79) (L' := [(5, .int s0)]) O dX5_hungersOf_79 (by decide) rfl ?_
  refine j_goto (pc := 81) (tgt := 112) O dX5_hungersOf_81 (by decide) ?_
  exact jw_sub [0] rfl (jf_X5_hungersOf_j112 O hd0 s0 M)
def f_X5_hungersOf_j97 (s0 : Int32) (M : Mm) : Option (Int32 × Mm) :=
  f_X5_hungersOf_j112 s0 M
set_option maxRecDepth 100000 in
set_option maxHeartbeats 4000000 in
theorem jf_X5_hungersOf_j97 {G : wn_G} {ad : Nat → Nat} {X : wn_X} {d : Nat} (O : Ok G RX5 cX5_hungersOf 6 d X) (hd0 : 1 ≤ d) (s0 : Int32) (M : Mm) : JW G S1 ad X 97 [] [.int s0] M (f_X5_hungersOf_j97 s0 M) (Kri G S1 ad X) := by
  unfold f_X5_hungersOf_j97
  refine j_istore (pc := 97) (L' := [(5, .int s0)]) O dX5_hungersOf_97 (by decide) rfl ?_
  refine j_goto (pc := 99) (tgt := 112) O dX5_hungersOf_99 (by decide) ?_
  exact jw_sub [0] rfl (jf_X5_hungersOf_j112 O hd0 s0 M)
def f_X5_hungersOf (x0 : Int32) (x1 : Int32) (x2 : Int32) (x3 : Int32) (x4 : Int32) (M : Mm) : Option (Int32 × Mm) :=
  bi x0 fun y1 => swc y1 [
((1 : Int32),
    bi (x1 + x2) fun y2 =>
    f_X5_hungersOf_j112 y2 M),
((2 : Int32),
    if x3 ≤ x4 then
      f_X5_hungersOf_j59 x2 M
    else
      f_X5_hungersOf_j59 (0 : Int32) M),
((3 : Int32),
    if x3 = 0 then
      f_X5_hungersOf_j79 ((2 : Int32) * (x1 + x2)) M
    else
      f_X5_hungersOf_j79 (x1 + x2) M),
((4 : Int32),
    if x3 ≤ x4 then
      gd (¬ (2 : Int32) = 0) inferInstance <|
      f_X5_hungersOf_j97 (x2 / (2 : Int32)) M
    else
      f_X5_hungersOf_j97 (0 : Int32) M),
((5 : Int32),
    bi (imn (5 : Int32) x2) fun y3 =>
    f_X5_hungersOf_j112 y3 M)] (
    f_X5_hungersOf_j112 x2 M)
set_option maxRecDepth 100000 in
set_option maxHeartbeats 4000000 in
theorem jf_X5_hungersOf {G : wn_G} {ad : Nat → Nat} {X : wn_X} {d : Nat} (O : Ok G RX5 cX5_hungersOf 6 d X) (hd0 : 1 ≤ d) (x0 : Int32) (x1 : Int32) (x2 : Int32) (x3 : Int32) (x4 : Int32) (M : Mm) : JW G S1 ad X 0 [(0, .int x0), (1, .int x1), (2, .int x2), (3, .int x3), (4, .int x4)] [] M (f_X5_hungersOf x0 x1 x2 x3 x4 M) (Kri G S1 ad X) := by
  unfold f_X5_hungersOf
  refine j_iload_n (pc := 0) O 2 dX5_hungersOf_0 rfl ?_
  refine j_istore (pc := 1) (L' := [(5, .int x2), (0, .int x0), (1, .int x1), (2, .int x2), (3, .int x3), (4, .int x4)]) O dX5_hungersOf_1 (by decide) rfl ?_
  refine j_iload_n (pc := 3) O 1 dX5_hungersOf_3 rfl ?_
  refine jw_bi fun y1 => ?_
  refine jw_swc (fun hc => ?_) (fun n0 => ?_)
  · subst hc
    refine j_tin (pc := 4) (tgt := 40) O dX5_hungersOf_4 (by decide) (by decide) rfl (by decide) ?_
    refine j_iload_n (pc := 40) O 2 dX5_hungersOf_40 rfl ?_
    refine j_iload_n (pc := 41) O 3 dX5_hungersOf_41 rfl ?_
    refine j_iadd (pc := 42) O dX5_hungersOf_42 ?_
    refine jw_bi fun y2 => ?_
    refine j_istore (pc := 43) (L' := [(5, .int y2), (0, .int x0), (1, .int x1), (2, .int x2), (3, .int x3), (4, .int x4)]) O dX5_hungersOf_43 (by decide) rfl ?_
    refine j_goto (pc := 45) (tgt := 112) O dX5_hungersOf_45 (by decide) ?_
    exact jw_sub [0] rfl (jf_X5_hungersOf_j112 O hd0 y2 M)
  refine jw_swc (fun hc => ?_) (fun n1 => ?_)
  · subst hc
    refine j_tin (pc := 4) (tgt := 48) O dX5_hungersOf_4 (by decide) (by decide) rfl (by decide) ?_
    refine j_iload_n (pc := 48) O 4 dX5_hungersOf_48 rfl ?_
    refine j_iload (pc := 49) O 5 dX5_hungersOf_49 rfl ?_
    refine j_icmp_le (pc := 51) (tgt := 58) O dX5_hungersOf_51 (by decide) ?_ ?_
    · refine j_iload_n (pc := 58) O 3 dX5_hungersOf_58 rfl ?_
      exact jw_sub [] rfl (jf_X5_hungersOf_j59 O hd0 x2 M)
    · refine j_iconst (pc := 54) (v := 0) O dX5_hungersOf_54 (by decide) ?_
      refine j_goto (pc := 55) (tgt := 59) O dX5_hungersOf_55 (by decide) ?_
      exact jw_sub [] rfl (jf_X5_hungersOf_j59 O hd0 (0 : Int32) M)
  refine jw_swc (fun hc => ?_) (fun n2 => ?_)
  · subst hc
    refine j_tin (pc := 4) (tgt := 64) O dX5_hungersOf_4 (by decide) (by decide) rfl (by decide) ?_
    refine j_iload_n (pc := 64) O 4 dX5_hungersOf_64 rfl ?_
    refine j_if_ne (pc := 65) (tgt := 76) O dX5_hungersOf_65 (by decide) ?_ ?_
    · refine j_iconst (pc := 68) (v := 2) O dX5_hungersOf_68 (by decide) ?_
      refine j_iload_n (pc := 69) O 2 dX5_hungersOf_69 rfl ?_
      refine j_iload_n (pc := 70) O 3 dX5_hungersOf_70 rfl ?_
      refine j_iadd (pc := 71) O dX5_hungersOf_71 ?_
      refine j_imul (pc := 72) O dX5_hungersOf_72 ?_
      refine j_goto (pc := 73) (tgt := 79) O dX5_hungersOf_73 (by decide) ?_
      exact jw_sub [] rfl (jf_X5_hungersOf_j79 O hd0 ((2 : Int32) * (x1 + x2)) M)
    · refine j_iload_n (pc := 76) O 2 dX5_hungersOf_76 rfl ?_
      refine j_iload_n (pc := 77) O 3 dX5_hungersOf_77 rfl ?_
      refine j_iadd (pc := 78) O dX5_hungersOf_78 ?_
      exact jw_sub [] rfl (jf_X5_hungersOf_j79 O hd0 (x1 + x2) M)
  refine jw_swc (fun hc => ?_) (fun n3 => ?_)
  · subst hc
    refine j_tin (pc := 4) (tgt := 84) O dX5_hungersOf_4 (by decide) (by decide) rfl (by decide) ?_
    refine j_iload_n (pc := 84) O 4 dX5_hungersOf_84 rfl ?_
    refine j_iload (pc := 85) O 5 dX5_hungersOf_85 rfl ?_
    refine j_icmp_le (pc := 87) (tgt := 94) O dX5_hungersOf_87 (by decide) ?_ ?_
    · refine j_iload_n (pc := 94) O 3 dX5_hungersOf_94 rfl ?_
      refine j_iconst (pc := 95) (v := 2) O dX5_hungersOf_95 (by decide) ?_
      refine j_idiv (pc := 96) O dX5_hungersOf_96 ?_
      exact jw_sub [] rfl (jf_X5_hungersOf_j97 O hd0 (x2 / (2 : Int32)) M)
    · refine j_iconst (pc := 90) (v := 0) O dX5_hungersOf_90 (by decide) ?_
      refine j_goto (pc := 91) (tgt := 97) O dX5_hungersOf_91 (by decide) ?_
      exact jw_sub [] rfl (jf_X5_hungersOf_j97 O hd0 (0 : Int32) M)
  refine jw_swc (fun hc => ?_) (fun n4 => ?_)
  · subst hc
    refine j_tin (pc := 4) (tgt := 102) O dX5_hungersOf_4 (by decide) (by decide) rfl (by decide) ?_
    refine j_iconst (pc := 102) (v := 5) O dX5_hungersOf_102 (by decide) ?_
    refine j_iload_n (pc := 103) O 3 dX5_hungersOf_103 rfl ?_
    refine j_min (pc := 104) O dX5_hungersOf_104 gl_X5_240 gt_Math_min gi_java_lang_Math gc_Math_min (Nat.le_trans (Nat.le_of_ble_eq_true rfl) hd0) (Nat.le_of_ble_eq_true rfl) ?_
    refine jw_bi fun y3 => ?_
    refine j_istore (pc := 107) (L' := [(5, .int y3), (0, .int x0), (1, .int x1), (2, .int x2), (3, .int x3), (4, .int x4)]) O dX5_hungersOf_107 (by decide) rfl ?_
    refine j_goto (pc := 109) (tgt := 112) O dX5_hungersOf_109 (by decide) ?_
    exact jw_sub [0] rfl (jf_X5_hungersOf_j112 O hd0 y3 M)
  refine jw_swd ?_
  have q0 := lv_neT (a := 1) n0 (by decide)
  have q1 := lv_neT (a := 2) n1 (by decide)
  have q2 := lv_neT (a := 3) n2 (by decide)
  have q3 := lv_neT (a := 4) n3 (by decide)
  have q4 := lv_neT (a := 5) n4 (by decide)
  refine j_tout (pc := 4) (tgt := 112) O dX5_hungersOf_4 (by omega) (by decide) ?_
  exact jw_sub [0] rfl (jf_X5_hungersOf_j112 O hd0 x2 M)
theorem sp_X5_hungersOf {G : wn_G} {ad : Nat → Nat} {x0 : Int32} {x1 : Int32} {x2 : Int32} {x3 : Int32} {x4 : Int32} {M : Mm} {r : Int32} {M1 : Mm} (h : f_X5_hungersOf x0 x1 x2 x3 x4 M = some (r, M1)) : Sp G S1 ad mX5_hungersOf 1 [.int x0, .int x1, .int x2, .int x3, .int x4] M M1 (some (.int r)) :=
  sp_intro (own := RX5) (by decide +kernel) rfl (Nat.le_of_ble_eq_true rfl) (fun X O T => jf_X5_hungersOf O (Nat.le_refl _) x0 x1 x2 x3 x4 M (r, M1) h T)
def f_X2_hungers_j95 (x1 : Int32) (x3 : Int32) (M : Mm) : Option (Int32 × Mm) :=
  gd (bin x1 5 = true) inferInstance <|
  gd (bin x1 5 = true) inferInstance <|
  gd (bin x3 3900 = true) inferInstance <|
  gd (bin x1 5 = true) inferInstance <|
  bd (f_X5_hungersOf (M.1 7 (Int32.toNatClampNeg x1)) (M.1 8 (Int32.toNatClampNeg x1)) (M.1 32 (Int32.toNatClampNeg x3)) (M.1 29 (Int32.toNatClampNeg x1)) (M.1 6 11) M) fun r3 M2 =>
  some (r3, M2)
set_option maxRecDepth 100000 in
set_option maxHeartbeats 4000000 in
theorem jf_X2_hungers_j95 {G : wn_G} {ad : Nat → Nat} {X : wn_X} {d : Nat} (O : Ok G RX2 cX2_hungers 4 d X) (hd0 : 3 ≤ d) (x1 : Int32) (x3 : Int32) (M : Mm) : JW G S1 ad X 95 [(0, .ref (ad 6)), (1, .int x1), (3, .int x3)] [] M (f_X2_hungers_j95 x1 x3 M) (Kri G S1 ad X) := by
  unfold f_X2_hungers_j95
  refine j_aload_n (pc := 95) O 0 dX2_hungers_95 rfl ?_
  refine j_getf (pc := 96) (v := .ref (ad 1)) O 6 0 dX2_hungers_96 fl_X2_36 so_S1_6 rfl rfl ?_
  refine j_getf (pc := 99) (v := .ref (ad 7)) O 1 4 dX2_hungers_99 fl_X2_74 so_S1_1 rfl rfl ?_
  refine j_iload_n (pc := 102) O 1 dX2_hungers_102 rfl ?_
  refine j_iald (pc := 103) O 7 dX2_hungers_103 so_S1_7 ?_
  refine j_aload_n (pc := 104) O 0 dX2_hungers_104 rfl ?_
  refine j_getf (pc := 105) (v := .ref (ad 1)) O 6 0 dX2_hungers_105 fl_X2_36 so_S1_6 rfl rfl ?_
  refine j_getf (pc := 108) (v := .ref (ad 8)) O 1 5 dX2_hungers_108 fl_X2_158 so_S1_1 rfl rfl ?_
  refine j_iload_n (pc := 111) O 1 dX2_hungers_111 rfl ?_
  refine j_iald (pc := 112) O 8 dX2_hungers_112 so_S1_8 ?_
  refine j_aload_n (pc := 113) O 0 dX2_hungers_113 rfl ?_
  refine j_getf (pc := 114) (v := .ref (ad 32)) O 6 16 dX2_hungers_114 fl_X2_33 so_S1_6 rfl rfl ?_
  refine j_iload_n (pc := 117) O 2 dX2_hungers_117 rfl ?_
  refine j_iald (pc := 118) O 32 dX2_hungers_118 so_S1_32 ?_
  refine j_aload_n (pc := 119) O 0 dX2_hungers_119 rfl ?_
  refine j_getf (pc := 120) (v := .ref (ad 29)) O 6 8 dX2_hungers_120 fl_X2_24 so_S1_6 rfl rfl ?_
  refine j_iload_n (pc := 123) O 1 dX2_hungers_123 rfl ?_
  refine j_iald (pc := 124) O 29 dX2_hungers_124 so_S1_29 ?_
  refine j_aload_n (pc := 125) O 0 dX2_hungers_125 rfl ?_
  refine j_getf (pc := 126) (v := .int (M.1 6 11)) O 6 11 dX2_hungers_126 fl_X2_83 so_S1_6 rfl rfl ?_
  refine j_callSi (pc := 129) (dc := 1) (As := [.int (M.1 7 (Int32.toNatClampNeg x1)), .int (M.1 8 (Int32.toNatClampNeg x1)), .int (M.1 32 (Int32.toNatClampNeg x3)), .int (M.1 29 (Int32.toNatClampNeg x1)), .int (M.1 6 11)]) (rest := []) O (fun r M1 h => sp_X5_hungersOf h) dX2_hungers_129 mst_X5_hungersOf lm_X2_161 rfl rfl (Nat.le_of_ble_eq_true rfl) (Nat.le_trans (Nat.le_of_ble_eq_true rfl) hd0) (fun r3 M2 => ?_)
  exact j_iret (pc := 132) O dX2_hungers_132
def f_X2_hungers (x1 : Int32) (x2 : Int32) (M : Mm) : Option (Int32 × Mm) :=
  gd (bin x1 5 = true) inferInstance <|
  bi ((((x1 * (60 : Int32)) + x2) * (13 : Int32)) + (M.1 29 (Int32.toNatClampNeg x1))) fun y1 =>
  if y1 < 0 then
    some ((0 : Int32), M)
  else
    if y1 < (3900 : Int32) then
      gd (bin y1 3900 = true) inferInstance <|
      if (M.1 32 (Int32.toNatClampNeg y1)) = (-1 : Int32) then
        gd (bin x1 5 = true) inferInstance <|
        gd (bin x1 5 = true) inferInstance <|
        bv (f_X4_name (0 : Int32) x2 (M.1 29 (Int32.toNatClampNeg x1)) (M.1 9 (Int32.toNatClampNeg x1)) x1 (0 : Int32) M) fun M4 =>
        bd (f_X4_valueOf (M4.1 1 2) (1 : Int32) M4) fun r6 M5 =>
        bd (f_X2_within (0 : Int32) r6 (99 : Int32) M5) fun r8 M7 =>
        gd (bin y1 3900 = true) inferInstance <| bm (ms M7 32 (Int32.toNatClampNeg y1) r8) fun M9 =>
        f_X2_hungers_j95 x1 y1 M9
      else
        f_X2_hungers_j95 x1 y1 M
    else
      some ((0 : Int32), M)
set_option maxRecDepth 100000 in
set_option maxHeartbeats 4000000 in
theorem jf_X2_hungers {G : wn_G} {ad : Nat → Nat} {X : wn_X} {d : Nat} (O : Ok G RX2 cX2_hungers 4 d X) (hd0 : 3 ≤ d) (x1 : Int32) (x2 : Int32) (M : Mm) : JW G S1 ad X 0 [(0, .ref (ad 6)), (1, .int x1), (2, .int x2)] [] M (f_X2_hungers x1 x2 M) (Kri G S1 ad X) := by
  unfold f_X2_hungers
  refine j_iload_n (pc := 0) O 1 dX2_hungers_0 rfl ?_
  refine j_bipush (pc := 1) (v := 60) O dX2_hungers_1 (by decide) ?_
  refine j_imul (pc := 3) O dX2_hungers_3 ?_
  refine j_iload_n (pc := 4) O 2 dX2_hungers_4 rfl ?_
  refine j_iadd (pc := 5) O dX2_hungers_5 ?_
  refine j_bipush (pc := 6) (v := 13) O dX2_hungers_6 (by decide) ?_
  refine j_imul (pc := 8) O dX2_hungers_8 ?_
  refine j_aload_n (pc := 9) O 0 dX2_hungers_9 rfl ?_
  refine j_getf (pc := 10) (v := .ref (ad 29)) O 6 8 dX2_hungers_10 fl_X2_24 so_S1_6 rfl rfl ?_
  refine j_iload_n (pc := 13) O 1 dX2_hungers_13 rfl ?_
  refine j_iald (pc := 14) O 29 dX2_hungers_14 so_S1_29 ?_
  refine j_iadd (pc := 15) O dX2_hungers_15 ?_
  refine jw_bi fun y1 => ?_
  refine j_istore_n (pc := 16) (L' := [(3, .int y1), (0, .ref (ad 6)), (1, .int x1), (2, .int x2)]) O dX2_hungers_16 (by decide) rfl ?_
  refine j_iload_n (pc := 17) O 0 dX2_hungers_17 rfl ?_
  refine j_if_lt (pc := 18) (tgt := 30) O dX2_hungers_18 (by decide) ?_ ?_
  · refine j_iconst (pc := 30) (v := 0) O dX2_hungers_30 (by decide) ?_
    exact j_iret (pc := 31) O dX2_hungers_31
  · refine j_iload_n (pc := 21) O 0 dX2_hungers_21 rfl ?_
    refine j_aload_n (pc := 22) O 1 dX2_hungers_22 rfl ?_
    refine j_getf (pc := 23) (v := .ref (ad 32)) O 6 16 dX2_hungers_23 fl_X2_33 so_S1_6 rfl rfl ?_
    refine j_alen (pc := 26) (v := 3900) O 32 dX2_hungers_26 so_S1_32 (by decide) ?_
    refine j_icmp_lt (pc := 27) (tgt := 32) O dX2_hungers_27 (by decide) ?_ ?_
    · refine j_aload_n (pc := 32) O 1 dX2_hungers_32 rfl ?_
      refine j_getf (pc := 33) (v := .ref (ad 32)) O 6 16 dX2_hungers_33 fl_X2_33 so_S1_6 rfl rfl ?_
      refine j_iload_n (pc := 36) O 0 dX2_hungers_36 rfl ?_
      refine j_iald (pc := 37) O 32 dX2_hungers_37 so_S1_32 ?_
      refine j_iconst (pc := 38) (v := -1) O dX2_hungers_38 (by decide) ?_
      refine j_icmp_ne (pc := 39) (tgt := 95) O dX2_hungers_39 (by decide) ?_ ?_
      · refine j_aload_n (pc := 42) O 1 dX2_hungers_42 rfl ?_
        refine j_getf (pc := 43) (v := .ref (ad 4)) O 6 1 dX2_hungers_43 fl_X2_40 so_S1_6 rfl rfl ?_
        refine j_iconst (pc := 46) (v := 0) O dX2_hungers_46 (by decide) ?_
        refine j_iload_n (pc := 47) O 3 dX2_hungers_47 rfl ?_
        refine j_aload_n (pc := 48) O 1 dX2_hungers_48 rfl ?_
        refine j_getf (pc := 49) (v := .ref (ad 29)) O 6 8 dX2_hungers_49 fl_X2_24 so_S1_6 rfl rfl ?_
        refine j_iload_n (pc := 52) O 2 dX2_hungers_52 rfl ?_
        refine j_iald (pc := 53) O 29 dX2_hungers_53 so_S1_29 ?_
        refine j_aload_n (pc := 54) O 1 dX2_hungers_54 rfl ?_
        refine j_getf (pc := 55) (v := .ref (ad 1)) O 6 0 dX2_hungers_55 fl_X2_36 so_S1_6 rfl rfl ?_
        refine j_getf (pc := 58) (v := .ref (ad 9)) O 1 6 dX2_hungers_58 fl_X2_149 so_S1_1 rfl rfl ?_
        refine j_iload_n (pc := 61) O 2 dX2_hungers_61 rfl ?_
        refine j_iald (pc := 62) O 9 dX2_hungers_62 so_S1_9 ?_
        refine j_iload_n (pc := 63) O 2 dX2_hungers_63 rfl ?_
        refine j_iconst (pc := 64) (v := 0) O dX2_hungers_64 (by decide) ?_
        refine j_callVv (pc := 65) (dc := 1) (As := [.int (0 : Int32), .int x2, .int (M.1 29 (Int32.toNatClampNeg x1)), .int (M.1 9 (Int32.toNatClampNeg x1)), .int x1, .int (0 : Int32)]) (rest := []) O 4 (fun M1 h => sp_X4_name h) dX2_hungers_65 mv_X4_name lm_X2_44 so_S1_4 rfl rfl (Nat.le_of_ble_eq_true rfl) (Nat.le_trans (Nat.le_of_ble_eq_true rfl) hd0) (fun M4 => ?_)
        refine j_aload_n (pc := 68) O 1 dX2_hungers_68 rfl ?_
        refine j_getf (pc := 69) (v := .ref (ad 32)) O 6 16 dX2_hungers_69 fl_X2_33 so_S1_6 rfl rfl ?_
        refine j_iload_n (pc := 72) O 0 dX2_hungers_72 rfl ?_
        refine j_iconst (pc := 73) (v := 0) O dX2_hungers_73 (by decide) ?_
        refine j_aload_n (pc := 74) O 1 dX2_hungers_74 rfl ?_
        refine j_getf (pc := 75) (v := .ref (ad 4)) O 6 1 dX2_hungers_75 fl_X2_40 so_S1_6 rfl rfl ?_
        refine j_aload_n (pc := 78) O 1 dX2_hungers_78 rfl ?_
        refine j_getf (pc := 79) (v := .ref (ad 1)) O 6 0 dX2_hungers_79 fl_X2_36 so_S1_6 rfl rfl ?_
        refine j_getf (pc := 82) (v := .int (M4.1 1 2)) O 1 2 dX2_hungers_82 fl_X2_50 so_S1_1 rfl rfl ?_
        refine j_iconst (pc := 85) (v := 1) O dX2_hungers_85 (by decide) ?_
        refine j_callVi (pc := 86) (dc := 2) (As := [.int (M4.1 1 2), .int (1 : Int32)]) (rest := [.int (0 : Int32), .int y1, .ref (ad 32)]) O 4 (fun r M1 h => sp_X4_valueOf h) dX2_hungers_86 mv_X4_valueOf lm_X2_56 so_S1_4 rfl rfl (Nat.le_of_ble_eq_true rfl) (Nat.le_trans (Nat.le_of_ble_eq_true rfl) hd0) (fun r6 M5 => ?_)
        refine j_bipush (pc := 89) (v := 99) O dX2_hungers_89 (by decide) ?_
        refine j_callSi (pc := 91) (dc := 1) (As := [.int (0 : Int32), .int r6, .int (99 : Int32)]) (rest := [.int y1, .ref (ad 32)]) O (fun r M1 h => sp_X2_within h) dX2_hungers_91 mst_X2_within lm_X2_60 rfl rfl (Nat.le_of_ble_eq_true rfl) (Nat.le_trans (Nat.le_of_ble_eq_true rfl) hd0) (fun r8 M7 => ?_)
        refine j_iast (pc := 94) O 32 dX2_hungers_94 so_S1_32 (fun M9 => ?_)
        exact jw_sub [1, 2, 0] rfl (jf_X2_hungers_j95 O hd0 x1 y1 M9)
      · exact jw_sub [1, 2, 0] rfl (jf_X2_hungers_j95 O hd0 x1 y1 M)
    · refine j_iconst (pc := 30) (v := 0) O dX2_hungers_30 (by decide) ?_
      exact j_iret (pc := 31) O dX2_hungers_31
theorem sp_X2_hungers {G : wn_G} {ad : Nat → Nat} {x1 : Int32} {x2 : Int32} {M : Mm} {r : Int32} {M1 : Mm} (h : f_X2_hungers x1 x2 M = some (r, M1)) : Sp G S1 ad mX2_hungers 3 [.ref (ad 6), .int x1, .int x2] M M1 (some (.int r)) :=
  sp_intro (own := RX2) (by decide +kernel) rfl (Nat.le_of_ble_eq_true rfl) (fun X O T => jf_X2_hungers O (Nat.le_refl _) x1 x2 M (r, M1) h T)
def f_X5_told (x1 : Int32) (x2 : Int32) (M : Mm) : Option (Int32 × Mm) :=
  bd (f_X3_has_1 x1 M) fun r2 M1 =>
  if r2 = 0 then
    some ((-2 : Int32), M1)
  else
    bi x2 fun y3 => swc y3 [
((0 : Int32),
      gd (bin x1 5 = true) inferInstance <|
      some ((M1.1 7 (Int32.toNatClampNeg x1)), M1)),
((1 : Int32),
      gd (bin x1 5 = true) inferInstance <|
      gd (bin x1 5 = true) inferInstance <|
      bd (f_X5_eatsOf (M1.1 7 (Int32.toNatClampNeg x1)) (M1.1 10 (Int32.toNatClampNeg x1)) M1) fun r5 M4 =>
      some (r5, M4)),
((2 : Int32),
      gd (bin x1 5 = true) inferInstance <|
      some ((M1.1 8 (Int32.toNatClampNeg x1)), M1)),
((3 : Int32),
      gd (bin x1 5 = true) inferInstance <|
      some ((M1.1 9 (Int32.toNatClampNeg x1)), M1)),
((4 : Int32),
      gd (bin x1 5 = true) inferInstance <|
      some ((M1.1 10 (Int32.toNatClampNeg x1)), M1)),
((5 : Int32),
      bv (f_X2_lay (M1.1 1 1) M1) fun M6 =>
      bd (f_X2_hungers x1 (0 : Int32) M6) fun r8 M7 =>
      some (r8, M7))] (
      some ((-2 : Int32), M1))
set_option maxRecDepth 100000 in
set_option maxHeartbeats 4000000 in
theorem jf_X5_told {G : wn_G} {ad : Nat → Nat} {X : wn_X} {d : Nat} (O : Ok G RX5 cX5_told 3 d X) (hd0 : 5 ≤ d) (x1 : Int32) (x2 : Int32) (M : Mm) : JW G S1 ad X 0 [(0, .ref (ad 0)), (1, .int x1), (2, .int x2)] [] M (f_X5_told x1 x2 M) (Kri G S1 ad X) := by
  unfold f_X5_told
  refine j_aload_n (pc := 0) O 0 dX5_told_0 rfl ?_
  refine j_getf (pc := 1) (v := .ref (ad 1)) O 0 0 dX5_told_1 fl_X5_10 so_S1_0 rfl rfl ?_
  refine j_iload_n (pc := 4) O 1 dX5_told_4 rfl ?_
  refine j_callVi (pc := 5) (dc := 1) (As := [.int x1]) (rest := []) O 1 (fun r M1 h => sp_X3_has_1 h) dX5_told_5 mv_X3_has lm_X5_77 so_S1_1 rfl rfl (Nat.le_of_ble_eq_true rfl) (Nat.le_trans (Nat.le_of_ble_eq_true rfl) hd0) (fun r2 M1 => ?_)
  refine j_if_ne (pc := 8) (tgt := 14) O dX5_told_8 (by decide) ?_ ?_
  · refine j_bipush (pc := 11) (v := -2) O dX5_told_11 (by decide) ?_
    exact j_iret (pc := 13) O dX5_told_13
  · refine j_iload_n (pc := 14) O 2 dX5_told_14 rfl ?_
    refine jw_bi fun y3 => ?_
    refine jw_swc (fun hc => ?_) (fun n0 => ?_)
    · subst hc
      refine j_tin (pc := 15) (tgt := 52) O dX5_told_15 (by decide) (by decide) rfl (by decide) ?_
      refine j_aload_n (pc := 52) O 0 dX5_told_52 rfl ?_
      refine j_getf (pc := 53) (v := .ref (ad 1)) O 0 0 dX5_told_53 fl_X5_10 so_S1_0 rfl rfl ?_
      refine j_getf (pc := 56) (v := .ref (ad 7)) O 1 4 dX5_told_56 fl_X5_81 so_S1_1 rfl rfl ?_
      refine j_iload_n (pc := 59) O 1 dX5_told_59 rfl ?_
      refine j_iald (pc := 60) O 7 dX5_told_60 so_S1_7 ?_
      exact j_iret (pc := 61) O dX5_told_61
    refine jw_swc (fun hc => ?_) (fun n1 => ?_)
    · subst hc
      refine j_tin (pc := 15) (tgt := 62) O dX5_told_15 (by decide) (by decide) rfl (by decide) ?_
      refine j_aload_n (pc := 62) O 0 dX5_told_62 rfl ?_
      refine j_getf (pc := 63) (v := .ref (ad 1)) O 0 0 dX5_told_63 fl_X5_10 so_S1_0 rfl rfl ?_
      refine j_getf (pc := 66) (v := .ref (ad 7)) O 1 4 dX5_told_66 fl_X5_81 so_S1_1 rfl rfl ?_
      refine j_iload_n (pc := 69) O 1 dX5_told_69 rfl ?_
      refine j_iald (pc := 70) O 7 dX5_told_70 so_S1_7 ?_
      refine j_aload_n (pc := 71) O 0 dX5_told_71 rfl ?_
      refine j_getf (pc := 72) (v := .ref (ad 1)) O 0 0 dX5_told_72 fl_X5_10 so_S1_0 rfl rfl ?_
      refine j_getf (pc := 75) (v := .ref (ad 10)) O 1 7 dX5_told_75 fl_X5_84 so_S1_1 rfl rfl ?_
      refine j_iload_n (pc := 78) O 1 dX5_told_78 rfl ?_
      refine j_iald (pc := 79) O 10 dX5_told_79 so_S1_10 ?_
      refine j_callSi (pc := 80) (dc := 1) (As := [.int (M1.1 7 (Int32.toNatClampNeg x1)), .int (M1.1 10 (Int32.toNatClampNeg x1))]) (rest := []) O (fun r M1 h => sp_X5_eatsOf h) dX5_told_80 mst_X5_eatsOf lm_X5_87 rfl rfl (Nat.le_of_ble_eq_true rfl) (Nat.le_trans (Nat.le_of_ble_eq_true rfl) hd0) (fun r5 M4 => ?_)
      exact j_iret (pc := 83) O dX5_told_83
    refine jw_swc (fun hc => ?_) (fun n2 => ?_)
    · subst hc
      refine j_tin (pc := 15) (tgt := 84) O dX5_told_15 (by decide) (by decide) rfl (by decide) ?_
      refine j_aload_n (pc := 84) O 0 dX5_told_84 rfl ?_
      refine j_getf (pc := 85) (v := .ref (ad 1)) O 0 0 dX5_told_85 fl_X5_10 so_S1_0 rfl rfl ?_
      refine j_getf (pc := 88) (v := .ref (ad 8)) O 1 5 dX5_told_88 fl_X5_91 so_S1_1 rfl rfl ?_
      refine j_iload_n (pc := 91) O 1 dX5_told_91 rfl ?_
      refine j_iald (pc := 92) O 8 dX5_told_92 so_S1_8 ?_
      exact j_iret (pc := 93) O dX5_told_93
    refine jw_swc (fun hc => ?_) (fun n3 => ?_)
    · subst hc
      refine j_tin (pc := 15) (tgt := 94) O dX5_told_15 (by decide) (by decide) rfl (by decide) ?_
      refine j_aload_n (pc := 94) O 0 dX5_told_94 rfl ?_
      refine j_getf (pc := 95) (v := .ref (ad 1)) O 0 0 dX5_told_95 fl_X5_10 so_S1_0 rfl rfl ?_
      refine j_getf (pc := 98) (v := .ref (ad 9)) O 1 6 dX5_told_98 fl_X5_94 so_S1_1 rfl rfl ?_
      refine j_iload_n (pc := 101) O 1 dX5_told_101 rfl ?_
      refine j_iald (pc := 102) O 9 dX5_told_102 so_S1_9 ?_
      exact j_iret (pc := 103) O dX5_told_103
    refine jw_swc (fun hc => ?_) (fun n4 => ?_)
    · subst hc
      refine j_tin (pc := 15) (tgt := 104) O dX5_told_15 (by decide) (by decide) rfl (by decide) ?_
      refine j_aload_n (pc := 104) O 0 dX5_told_104 rfl ?_
      refine j_getf (pc := 105) (v := .ref (ad 1)) O 0 0 dX5_told_105 fl_X5_10 so_S1_0 rfl rfl ?_
      refine j_getf (pc := 108) (v := .ref (ad 10)) O 1 7 dX5_told_108 fl_X5_84 so_S1_1 rfl rfl ?_
      refine j_iload_n (pc := 111) O 1 dX5_told_111 rfl ?_
      refine j_iald (pc := 112) O 10 dX5_told_112 so_S1_10 ?_
      exact j_iret (pc := 113) O dX5_told_113
    refine jw_swc (fun hc => ?_) (fun n5 => ?_)
    · subst hc
      refine j_tin (pc := 15) (tgt := 114) O dX5_told_15 (by decide) (by decide) rfl (by decide) ?_
      refine j_aload_n (pc := 114) O 0 dX5_told_114 rfl ?_
      refine j_getf (pc := 115) (v := .ref (ad 6)) O 0 6 dX5_told_115 fl_X5_45 so_S1_0 rfl rfl ?_
      refine j_aload_n (pc := 118) O 0 dX5_told_118 rfl ?_
      refine j_getf (pc := 119) (v := .ref (ad 1)) O 0 0 dX5_told_119 fl_X5_10 so_S1_0 rfl rfl ?_
      refine j_getf (pc := 122) (v := .int (M1.1 1 1)) O 1 1 dX5_told_122 fl_X5_97 so_S1_1 rfl rfl ?_
      refine j_callVv (pc := 125) (dc := 4) (As := [.int (M1.1 1 1)]) (rest := []) O 6 (fun M1 h => sp_X2_lay h) dX5_told_125 mv_X2_lay lm_X5_101 so_S1_6 rfl rfl (Nat.le_of_ble_eq_true rfl) (Nat.le_trans (Nat.le_of_ble_eq_true rfl) hd0) (fun M6 => ?_)
      refine j_aload_n (pc := 128) O 0 dX5_told_128 rfl ?_
      refine j_getf (pc := 129) (v := .ref (ad 6)) O 0 6 dX5_told_129 fl_X5_45 so_S1_0 rfl rfl ?_
      refine j_iload_n (pc := 132) O 1 dX5_told_132 rfl ?_
      refine j_iconst (pc := 133) (v := 0) O dX5_told_133 (by decide) ?_
      refine j_callVi (pc := 134) (dc := 3) (As := [.int x1, .int (0 : Int32)]) (rest := []) O 6 (fun r M1 h => sp_X2_hungers h) dX5_told_134 mv_X2_hungers lm_X5_105 so_S1_6 rfl rfl (Nat.le_of_ble_eq_true rfl) (Nat.le_trans (Nat.le_of_ble_eq_true rfl) hd0) (fun r8 M7 => ?_)
      exact j_iret (pc := 137) O dX5_told_137
    refine jw_swd ?_
    have q0 := lv_neT (a := 0) n0 (by decide)
    have q1 := lv_neT (a := 1) n1 (by decide)
    have q2 := lv_neT (a := 2) n2 (by decide)
    have q3 := lv_neT (a := 3) n3 (by decide)
    have q4 := lv_neT (a := 4) n4 (by decide)
    have q5 := lv_neT (a := 5) n5 (by decide)
    refine j_tout (pc := 15) (tgt := 138) O dX5_told_15 (by omega) (by decide) ?_
    refine j_bipush (pc := 138) (v := -2) O dX5_told_138 (by decide) ?_
    exact j_iret (pc := 140) O dX5_told_140
theorem sp_X5_told {G : wn_G} {ad : Nat → Nat} {x1 : Int32} {x2 : Int32} {M : Mm} {r : Int32} {M1 : Mm} (h : f_X5_told x1 x2 M = some (r, M1)) : Sp G S1 ad mX5_told 5 [.ref (ad 0), .int x1, .int x2] M M1 (some (.int r)) :=
  sp_intro (own := RX5) (by decide +kernel) rfl (Nat.le_of_ble_eq_true rfl) (fun X O T => jf_X5_told O (Nat.le_refl _) x1 x2 M (r, M1) h T)
def f_X6_eatsOf_j61 (s0 : Int32) (M : Mm) : Option (Int32 × Mm) :=
  if (1 : Int32) ≤ s0 then
    some (s0, M)
  else
    some ((1 : Int32), M)
set_option maxRecDepth 100000 in
set_option maxHeartbeats 4000000 in
theorem jf_X6_eatsOf_j61 {G : wn_G} {ad : Nat → Nat} {X : wn_X} {d : Nat} (O : Ok G RX6 cX6_eatsOf 5 d X) (hd0 : 1 ≤ d) (s0 : Int32) (M : Mm) : JW G S2 ad X 61 [] [.int s0] M (f_X6_eatsOf_j61 s0 M) (Kri G S2 ad X) := by
  unfold f_X6_eatsOf_j61
  refine j_istore (pc := 61) (L' := [(4, .int s0)]) O dX6_eatsOf_61 (by decide) rfl ?_
  refine j_iload (pc := 63) O 0 dX6_eatsOf_63 rfl ?_
  refine j_iconst (pc := 65) (v := 1) O dX6_eatsOf_65 (by decide) ?_
  refine j_icmp_ge (pc := 66) (tgt := 73) O dX6_eatsOf_66 (by decide) ?_ ?_
  · refine j_iload (pc := 73) O 0 dX6_eatsOf_73 rfl ?_
    exact j_iret (pc := 75) O dX6_eatsOf_75
  · refine j_iconst (pc := 69) (v := 1) O dX6_eatsOf_69 (by decide) ?_
    refine j_goto (pc := 70) (tgt := 75) O dX6_eatsOf_70 (by decide) ?_
    exact j_iret (pc := 75) O dX6_eatsOf_75
def f_X6_eatsOf (x1 : Int32) (M : Mm) : Option (Int32 × Mm) :=
  gd (bin x1 5 = true) inferInstance <|
  bi (M.1 4 (Int32.toNatClampNeg x1)) fun y1 =>
  gd (bin x1 5 = true) inferInstance <|
  bi (M.1 7 (Int32.toNatClampNeg x1)) fun y2 =>
  if y1 = (1 : Int32) then
    gd (¬ (2 : Int32) = 0) inferInstance <|
    f_X6_eatsOf_j61 (y2 / (2 : Int32)) M
  else
    if y1 = (3 : Int32) then
      gd (¬ (2 : Int32) = 0) inferInstance <|
      f_X6_eatsOf_j61 ((y2 / (2 : Int32)) - (1 : Int32)) M
    else
      if y1 = (4 : Int32) then
        f_X6_eatsOf_j61 (y2 + (2 : Int32)) M
      else
        if y1 = (5 : Int32) then
          f_X6_eatsOf_j61 ((2 : Int32) * y2) M
        else
          f_X6_eatsOf_j61 y2 M
set_option maxRecDepth 100000 in
set_option maxHeartbeats 4000000 in
theorem jf_X6_eatsOf {G : wn_G} {ad : Nat → Nat} {X : wn_X} {d : Nat} (O : Ok G RX6 cX6_eatsOf 5 d X) (hd0 : 1 ≤ d) (x1 : Int32) (M : Mm) : JW G S2 ad X 0 [(0, .ref (ad 0)), (1, .int x1)] [] M (f_X6_eatsOf x1 M) (Kri G S2 ad X) := by
  unfold f_X6_eatsOf
  refine j_aload_n (pc := 0) O 0 dX6_eatsOf_0 rfl ?_
  refine j_getf (pc := 1) (v := .ref (ad 4)) O 0 9 dX6_eatsOf_1 fl_X6_29 so_S2_0 rfl rfl ?_
  refine j_iload_n (pc := 4) O 1 dX6_eatsOf_4 rfl ?_
  refine j_iald (pc := 5) O 4 dX6_eatsOf_5 so_S2_4 ?_
  refine jw_bi fun y1 => ?_
  refine j_istore_n (pc := 6) (L' := [(2, .int y1), (0, .ref (ad 0)), (1, .int x1)]) O dX6_eatsOf_6 (by decide) rfl ?_
  refine j_aload_n (pc := 7) O 1 dX6_eatsOf_7 rfl ?_
  refine j_getf (pc := 8) (v := .ref (ad 7)) O 0 12 dX6_eatsOf_8 fl_X6_38 so_S2_0 rfl rfl ?_
  refine j_iload_n (pc := 11) O 2 dX6_eatsOf_11 rfl ?_
  refine j_iald (pc := 12) O 7 dX6_eatsOf_12 so_S2_7 ?_
  refine jw_bi fun y2 => ?_
  refine j_istore_n (pc := 13) (L' := [(3, .int y2), (2, .int y1), (0, .ref (ad 0)), (1, .int x1)]) O dX6_eatsOf_13 (by decide) rfl ?_
  refine j_iload_n (pc := 14) O 1 dX6_eatsOf_14 rfl ?_
  refine j_iconst (pc := 15) (v := 1) O dX6_eatsOf_15 (by decide) ?_
  refine j_icmp_ne (pc := 16) (tgt := 25) O dX6_eatsOf_16 (by decide) ?_ ?_
  · refine j_iload_n (pc := 19) O 0 dX6_eatsOf_19 rfl ?_
    refine j_iconst (pc := 20) (v := 2) O dX6_eatsOf_20 (by decide) ?_
    refine j_idiv (pc := 21) O dX6_eatsOf_21 ?_
    refine j_goto (pc := 22) (tgt := 61) O dX6_eatsOf_22 (by decide) ?_
    exact jw_sub [] rfl (jf_X6_eatsOf_j61 O hd0 (y2 / (2 : Int32)) M)
  · refine j_iload_n (pc := 25) O 1 dX6_eatsOf_25 rfl ?_
    refine j_iconst (pc := 26) (v := 3) O dX6_eatsOf_26 (by decide) ?_
    refine j_icmp_ne (pc := 27) (tgt := 38) O dX6_eatsOf_27 (by decide) ?_ ?_
    · refine j_iload_n (pc := 30) O 0 dX6_eatsOf_30 rfl ?_
      refine j_iconst (pc := 31) (v := 2) O dX6_eatsOf_31 (by decide) ?_
      refine j_idiv (pc := 32) O dX6_eatsOf_32 ?_
      refine j_iconst (pc := 33) (v := 1) O dX6_eatsOf_33 (by decide) ?_
      refine j_isub (pc := 34) O dX6_eatsOf_34 ?_
      refine j_goto (pc := 35) (tgt := 61) O dX6_eatsOf_35 (by decide) ?_
      exact jw_sub [] rfl (jf_X6_eatsOf_j61 O hd0 ((y2 / (2 : Int32)) - (1 : Int32)) M)
    · refine j_iload_n (pc := 38) O 1 dX6_eatsOf_38 rfl ?_
      refine j_iconst (pc := 39) (v := 4) O dX6_eatsOf_39 (by decide) ?_
      refine j_icmp_ne (pc := 40) (tgt := 49) O dX6_eatsOf_40 (by decide) ?_ ?_
      · refine j_iload_n (pc := 43) O 0 dX6_eatsOf_43 rfl ?_
        refine j_iconst (pc := 44) (v := 2) O dX6_eatsOf_44 (by decide) ?_
        refine j_iadd (pc := 45) O dX6_eatsOf_45 ?_
        refine j_goto (pc := 46) (tgt := 61) O dX6_eatsOf_46 (by decide) ?_
        exact jw_sub [] rfl (jf_X6_eatsOf_j61 O hd0 (y2 + (2 : Int32)) M)
      · refine j_iload_n (pc := 49) O 1 dX6_eatsOf_49 rfl ?_
        refine j_iconst (pc := 50) (v := 5) O dX6_eatsOf_50 (by decide) ?_
        refine j_icmp_ne (pc := 51) (tgt := 60) O dX6_eatsOf_51 (by decide) ?_ ?_
        · refine j_iconst (pc := 54) (v := 2) O dX6_eatsOf_54 (by decide) ?_
          refine j_iload_n (pc := 55) O 0 dX6_eatsOf_55 rfl ?_
          refine j_imul (pc := 56) O dX6_eatsOf_56 ?_
          refine j_goto (pc := 57) (tgt := 61) O dX6_eatsOf_57 (by decide) ?_
          exact jw_sub [] rfl (jf_X6_eatsOf_j61 O hd0 ((2 : Int32) * y2) M)
        · refine j_iload_n (pc := 60) O 0 dX6_eatsOf_60 rfl ?_
          exact jw_sub [] rfl (jf_X6_eatsOf_j61 O hd0 y2 M)
theorem sp_X6_eatsOf {G : wn_G} {ad : Nat → Nat} {x1 : Int32} {M : Mm} {r : Int32} {M1 : Mm} (h : f_X6_eatsOf x1 M = some (r, M1)) : Sp G S2 ad mX6_eatsOf 1 [.ref (ad 0), .int x1] M M1 (some (.int r)) :=
  sp_intro (own := RX6) (by decide +kernel) rfl (Nat.le_of_ble_eq_true rfl) (fun X O T => jf_X6_eatsOf O (Nat.le_refl _) x1 M (r, M1) h T)
def f_X6_byteAt (x1 : Int32) (M : Mm) : Option (Int32 × Mm) :=
  if (M.1 0 22) ≤ x1 then
    some ((-1 : Int32), M)
  else
    gd (bin ((M.1 0 21) + x1) 960 = true) inferInstance <|
    some ((M.1 1 (Int32.toNatClampNeg ((M.1 0 21) + x1))), M)
set_option maxRecDepth 100000 in
set_option maxHeartbeats 4000000 in
theorem jf_X6_byteAt {G : wn_G} {ad : Nat → Nat} {X : wn_X} {d : Nat} (O : Ok G RX6 cX6_byteAt 2 d X) (hd0 : 1 ≤ d) (x1 : Int32) (M : Mm) : JW G S2 ad X 0 [(0, .ref (ad 0)), (1, .int x1)] [] M (f_X6_byteAt x1 M) (Kri G S2 ad X) := by
  unfold f_X6_byteAt
  refine j_iload_n (pc := 0) O 1 dX6_byteAt_0 rfl ?_
  refine j_aload_n (pc := 1) O 0 dX6_byteAt_1 rfl ?_
  refine j_getf (pc := 2) (v := .int (M.1 0 22)) O 0 22 dX6_byteAt_2 fl_X6_129 so_S2_0 rfl rfl ?_
  refine j_icmp_ge (pc := 5) (tgt := 22) O dX6_byteAt_5 (by decide) ?_ ?_
  · refine j_iconst (pc := 22) (v := -1) O dX6_byteAt_22 (by decide) ?_
    exact j_iret (pc := 23) O dX6_byteAt_23
  · refine j_aload_n (pc := 8) O 0 dX6_byteAt_8 rfl ?_
    refine j_getf (pc := 9) (v := .ref (ad 1)) O 0 1 dX6_byteAt_9 fl_X6_13 so_S2_0 rfl rfl ?_
    refine j_aload_n (pc := 12) O 0 dX6_byteAt_12 rfl ?_
    refine j_getf (pc := 13) (v := .int (M.1 0 21)) O 0 21 dX6_byteAt_13 fl_X6_132 so_S2_0 rfl rfl ?_
    refine j_iload_n (pc := 16) O 1 dX6_byteAt_16 rfl ?_
    refine j_iadd (pc := 17) O dX6_byteAt_17 ?_
    refine j_iald (pc := 18) O 1 dX6_byteAt_18 so_S2_1 ?_
    refine j_goto (pc := 19) (tgt := 23) O dX6_byteAt_19 (by decide) ?_
    exact j_iret (pc := 23) O dX6_byteAt_23
theorem sp_X6_byteAt {G : wn_G} {ad : Nat → Nat} {x1 : Int32} {M : Mm} {r : Int32} {M1 : Mm} (h : f_X6_byteAt x1 M = some (r, M1)) : Sp G S2 ad mX6_byteAt 1 [.ref (ad 0), .int x1] M M1 (some (.int r)) :=
  sp_intro (own := RX6) (by decide +kernel) rfl (Nat.le_of_ble_eq_true rfl) (fun X O T => jf_X6_byteAt O (Nat.le_refl _) x1 M (r, M1) h T)
def h_X6_next_0 (G : wn_G) (ad : Nat → Nat) (X : wn_X) : Mm → Prop := fun s => PW G S2 ad X 0 [(0, .ref (ad 0))] [] s
def f_X6_next_j26 (M : Mm) : Option ((Mm) ⊕ (Mm)) :=
  bm (ms M 0 23 ((M.1 0 23) + (1 : Int32))) fun M3 =>
  some (.inl M3)
set_option maxRecDepth 100000 in
set_option maxHeartbeats 4000000 in
theorem jf_X6_next_j26 {G : wn_G} {ad : Nat → Nat} {X : wn_X} {d : Nat} (O : Ok G RX6 cX6_next 3 d X) (hd0 : 2 ≤ d) (M : Mm) : JW G S2 ad X 26 [(0, .ref (ad 0))] [] M (f_X6_next_j26 M) (Kl (h_X6_next_0 G ad X) (Krv G S2 ad X)) := by
  unfold f_X6_next_j26
  refine j_aload_n (pc := 26) O 0 dX6_next_26 rfl ?_
  refine j_dup (pc := 27) O dX6_next_27 rfl ?_
  refine j_getf (pc := 28) (v := .int (M.1 0 23)) O 0 23 dX6_next_28 fl_X6_135 so_S2_0 rfl rfl ?_
  refine j_iconst (pc := 31) (v := 1) O dX6_next_31 (by decide) ?_
  refine j_iadd (pc := 32) O dX6_next_32 ?_
  refine j_puti (pc := 33) O 0 23 dX6_next_33 fl_X6_135 so_S2_0 ft_X6_23 rfl (fun M3 => ?_)
  refine j_goto (pc := 36) (tgt := 0) O dX6_next_36 (by decide) ?_
  exact jw_next (fun hh => pw_sub [0] rfl hh)
def f_X6_next_j300 (x1 : Int32) (M : Mm) : Option (Mm) :=
  bm (ms M 0 24 (3 : Int32)) fun M14 =>
  bm (ml M14 0 (Int32.toInt64 x1)) fun M15 =>
  bm (ms M15 0 23 ((M15.1 0 23) + (1 : Int32))) fun M16 =>
  some M16
set_option maxRecDepth 100000 in
set_option maxHeartbeats 4000000 in
theorem jf_X6_next_j300 {G : wn_G} {ad : Nat → Nat} {X : wn_X} {d : Nat} (O : Ok G RX6 cX6_next 3 d X) (hd0 : 2 ≤ d) (x1 : Int32) (M : Mm) : JW G S2 ad X 300 [(0, .ref (ad 0)), (1, .int x1)] [] M (f_X6_next_j300 x1 M) (Krv G S2 ad X) := by
  unfold f_X6_next_j300
  refine j_aload_n (pc := 300) O 0 dX6_next_300 rfl ?_
  refine j_iconst (pc := 301) (v := 3) O dX6_next_301 (by decide) ?_
  refine j_puti (pc := 302) O 0 24 dX6_next_302 fl_X6_144 so_S2_0 ft_X6_24 rfl (fun M14 => ?_)
  refine j_aload_n (pc := 305) O 0 dX6_next_305 rfl ?_
  refine j_iload_n (pc := 306) O 1 dX6_next_306 rfl ?_
  refine j_i2l (pc := 307) O dX6_next_307 ?_
  refine j_putl (pc := 308) O 0 26 dX6_next_308 fl_X6_155 so_S2_0 ft_X6_26 rfl (by decide) (fun M15 => ?_)
  refine j_aload_n (pc := 311) O 0 dX6_next_311 rfl ?_
  refine j_dup (pc := 312) O dX6_next_312 rfl ?_
  refine j_getf (pc := 313) (v := .int (M15.1 0 23)) O 0 23 dX6_next_313 fl_X6_135 so_S2_0 rfl rfl ?_
  refine j_iconst (pc := 316) (v := 1) O dX6_next_316 (by decide) ?_
  refine j_iadd (pc := 317) O dX6_next_317 ?_
  refine j_puti (pc := 318) O 0 23 dX6_next_318 fl_X6_135 so_S2_0 ft_X6_23 rfl (fun M16 => ?_)
  exact j_vret (pc := 321) O dX6_next_321
def h_X6_next_160 (G : wn_G) (ad : Nat → Nat) (X : wn_X) : Int32 × Mm → Prop := fun s => PW G S2 ad X 160 [(0, .ref (ad 0)), (2, .int s.1)] [] s.2
def f_X6_next_j246 (s0 : Int32) (M : Mm) : Option (Mm) :=
  bm (ms M 0 24 s0) fun M23 =>
  some M23
set_option maxRecDepth 100000 in
set_option maxHeartbeats 4000000 in
theorem jf_X6_next_j246 {G : wn_G} {ad : Nat → Nat} {X : wn_X} {d : Nat} (O : Ok G RX6 cX6_next 3 d X) (hd0 : 2 ≤ d) (s0 : Int32) (M : Mm) : JW G S2 ad X 246 [] [.int s0, .ref (ad 0)] M (f_X6_next_j246 s0 M) (Krv G S2 ad X) := by
  unfold f_X6_next_j246
  refine j_puti (pc := 246) O 0 24 dX6_next_246 fl_X6_144 so_S2_0 ft_X6_24 rfl (fun M23 => ?_)
  refine j_goto (pc := 249) (tgt := 321) O dX6_next_249 (by decide) ?_
  exact j_vret (pc := 321) O dX6_next_321
def f_X6_next_j216 (x2 : Int32) (s0 : Int64) (M : Mm) : Option ((Int32 × Mm) ⊕ (Mm)) :=
  bm (ml M 0 s0) fun M24 =>
  bi (x2 + (1 : Int32)) fun y25 =>
  bm (ms M24 0 23 ((M24.1 0 23) + (1 : Int32))) fun M26 =>
  some (.inl (y25, M26))
set_option maxRecDepth 100000 in
set_option maxHeartbeats 4000000 in
theorem jf_X6_next_j216 {G : wn_G} {ad : Nat → Nat} {X : wn_X} {d : Nat} (O : Ok G RX6 cX6_next 3 d X) (hd0 : 2 ≤ d) (x2 : Int32) (s0 : Int64) (M : Mm) : JW G S2 ad X 216 [(0, .ref (ad 0)), (2, .int x2)] [.long s0, .ref (ad 0)] M (f_X6_next_j216 x2 s0 M) (Kl (h_X6_next_160 G ad X) (Krv G S2 ad X)) := by
  unfold f_X6_next_j216
  refine j_putl (pc := 216) O 0 26 dX6_next_216 fl_X6_155 so_S2_0 ft_X6_26 rfl (by decide) (fun M24 => ?_)
  refine j_iinc (pc := 219) (v := 1) (L2 := fun y => [(2, .int y), (0, .ref (ad 0))]) O 1 dX6_next_219 rfl (by decide) (by decide) (fun _ => rfl) (fun y25 => ?_)
  refine j_aload_n (pc := 222) O 1 dX6_next_222 rfl ?_
  refine j_dup (pc := 223) O dX6_next_223 rfl ?_
  refine j_getf (pc := 224) (v := .int (M24.1 0 23)) O 0 23 dX6_next_224 fl_X6_135 so_S2_0 rfl rfl ?_
  refine j_iconst (pc := 227) (v := 1) O dX6_next_227 (by decide) ?_
  refine j_iadd (pc := 228) O dX6_next_228 ?_
  refine j_puti (pc := 229) O 0 23 dX6_next_229 fl_X6_135 so_S2_0 ft_X6_23 rfl (fun M26 => ?_)
  refine j_goto (pc := 232) (tgt := 160) O dX6_next_232 (by decide) ?_
  exact jw_next (fun hh => pw_sub [1, 0] rfl hh)
def f_X6_next_b160 (x2 : Int32) (M : Mm) : Option ((Int32 × Mm) ⊕ (Mm)) :=
  bd (f_X6_byteAt (M.1 0 23) M) fun r20 M19 =>
  bd (f_X6_in (Int32.toInt64 r20) (48 : Int64) (57 : Int64) M19) fun r22 M21 =>
  if r22 = 0 then
    ex (
    if x2 ≤ (4 : Int32) then
      f_X6_next_j246 (2 : Int32) M21
    else
      f_X6_next_j246 (4 : Int32) M21)
  else
    if (4 : Int32) ≤ x2 then
      f_X6_next_j216 x2 (M21.2 0) M21
    else
      bd (f_X6_byteAt (M21.1 0 23) M21) fun r28 M27 =>
      f_X6_next_j216 x2 ((((10 : Int64) * (M21.2 0)) + (Int32.toInt64 r28)) - (48 : Int64)) M27
set_option maxRecDepth 100000 in
set_option maxHeartbeats 4000000 in
theorem jf_X6_next_b160 {G : wn_G} {ad : Nat → Nat} {X : wn_X} {d : Nat} (O : Ok G RX6 cX6_next 3 d X) (hd0 : 2 ≤ d) (x2 : Int32) (M : Mm) : JW G S2 ad X 160 [(0, .ref (ad 0)), (2, .int x2)] [] M (f_X6_next_b160 x2 M) (Kl (h_X6_next_160 G ad X) (Krv G S2 ad X)) := by
  unfold f_X6_next_b160
  refine j_aload_n (pc := 160) O 0 dX6_next_160 rfl ?_
  refine j_aload_n (pc := 161) O 0 dX6_next_161 rfl ?_
  refine j_getf (pc := 162) (v := .int (M.1 0 23)) O 0 23 dX6_next_162 fl_X6_135 so_S2_0 rfl rfl ?_
  refine j_callVi (pc := 165) (dc := 1) (As := [.int (M.1 0 23)]) (rest := []) O 0 (fun r M1 h => sp_X6_byteAt h) dX6_next_165 mv_X6_byteAt lm_X6_138 so_S2_0 rfl rfl (Nat.le_of_ble_eq_true rfl) (Nat.le_trans (Nat.le_of_ble_eq_true rfl) hd0) (fun r20 M19 => ?_)
  refine j_i2l (pc := 168) O dX6_next_168 ?_
  refine j_ldc2 (pc := 169) (v := 48) O dX6_next_169 gk_X6_151 ?_
  refine j_ldc2 (pc := 172) (v := 57) O dX6_next_172 gk_X6_153 ?_
  refine j_callSi (pc := 175) (dc := 1) (As := [.long (Int32.toInt64 r20), .long (48 : Int64), .long (57 : Int64)]) (rest := []) O (fun r M1 h => sp_X6_in h) dX6_next_175 mst_X6_in lm_X6_94 rfl rfl (Nat.le_of_ble_eq_true rfl) (Nat.le_trans (Nat.le_of_ble_eq_true rfl) hd0) (fun r22 M21 => ?_)
  refine j_if_eq (pc := 178) (tgt := 235) O dX6_next_178 (by decide) ?_ ?_
  · refine jw_ex ?_
    refine j_aload_n (pc := 235) O 0 dX6_next_235 rfl ?_
    refine j_iload_n (pc := 236) O 1 dX6_next_236 rfl ?_
    refine j_iconst (pc := 237) (v := 4) O dX6_next_237 (by decide) ?_
    refine j_icmp_le (pc := 238) (tgt := 245) O dX6_next_238 (by decide) ?_ ?_
    · refine j_iconst (pc := 245) (v := 2) O dX6_next_245 (by decide) ?_
      exact jw_sub [] rfl (jf_X6_next_j246 O hd0 (2 : Int32) M21)
    · refine j_iconst (pc := 241) (v := 4) O dX6_next_241 (by decide) ?_
      refine j_goto (pc := 242) (tgt := 246) O dX6_next_242 (by decide) ?_
      exact jw_sub [] rfl (jf_X6_next_j246 O hd0 (4 : Int32) M21)
  · refine j_aload_n (pc := 181) O 0 dX6_next_181 rfl ?_
    refine j_iload_n (pc := 182) O 1 dX6_next_182 rfl ?_
    refine j_iconst (pc := 183) (v := 4) O dX6_next_183 (by decide) ?_
    refine j_icmp_ge (pc := 184) (tgt := 212) O dX6_next_184 (by decide) ?_ ?_
    · refine j_aload_n (pc := 212) O 0 dX6_next_212 rfl ?_
      refine j_getf (pc := 213) (v := .long (M21.2 0)) O 0 26 dX6_next_213 fl_X6_155 so_S2_0 rfl rfl ?_
      exact jw_sub [0, 1] rfl (jf_X6_next_j216 O hd0 x2 (M21.2 0) M21)
    · refine j_ldc2 (pc := 187) (v := 10) O dX6_next_187 gk_X6_159 ?_
      refine j_aload_n (pc := 190) O 0 dX6_next_190 rfl ?_
      refine j_getf (pc := 191) (v := .long (M21.2 0)) O 0 26 dX6_next_191 fl_X6_155 so_S2_0 rfl rfl ?_
      refine j_lmul (pc := 194) O dX6_next_194 ?_
      refine j_aload_n (pc := 195) O 0 dX6_next_195 rfl ?_
      refine j_aload_n (pc := 196) O 0 dX6_next_196 rfl ?_
      refine j_getf (pc := 197) (v := .int (M21.1 0 23)) O 0 23 dX6_next_197 fl_X6_135 so_S2_0 rfl rfl ?_
      refine j_callVi (pc := 200) (dc := 1) (As := [.int (M21.1 0 23)]) (rest := [.long ((10 : Int64) * (M21.2 0)), .ref (ad 0)]) O 0 (fun r M1 h => sp_X6_byteAt h) dX6_next_200 mv_X6_byteAt lm_X6_138 so_S2_0 rfl rfl (Nat.le_of_ble_eq_true rfl) (Nat.le_trans (Nat.le_of_ble_eq_true rfl) hd0) (fun r28 M27 => ?_)
      refine j_i2l (pc := 203) O dX6_next_203 ?_
      refine j_ladd (pc := 204) O dX6_next_204 ?_
      refine j_ldc2 (pc := 205) (v := 48) O dX6_next_205 gk_X6_151 ?_
      refine j_lsub (pc := 208) O dX6_next_208 ?_
      refine j_goto (pc := 209) (tgt := 216) O dX6_next_209 (by decide) ?_
      exact jw_sub [0, 1] rfl (jf_X6_next_j216 O hd0 x2 ((((10 : Int64) * (M21.2 0)) + (Int32.toInt64 r28)) - (48 : Int64)) M27)
def h_X6_next_100 (G : wn_G) (ad : Nat → Nat) (X : wn_X) : Mm → Prop := fun s => PW G S2 ad X 100 [(0, .ref (ad 0))] [] s
def f_X6_next_b100 (M : Mm) : Option ((Mm) ⊕ (Mm)) :=
  bd (f_X6_byteAt (M.1 0 23) M) fun r31 M30 =>
  bd (f_X6_in (Int32.toInt64 r31) (97 : Int64) (122 : Int64) M30) fun r33 M32 =>
  if r33 = 0 then
    ex (
    some M32)
  else
    bm (ms M32 0 23 ((M32.1 0 23) + (1 : Int32))) fun M34 =>
    some (.inl M34)
set_option maxRecDepth 100000 in
set_option maxHeartbeats 4000000 in
theorem jf_X6_next_b100 {G : wn_G} {ad : Nat → Nat} {X : wn_X} {d : Nat} (O : Ok G RX6 cX6_next 3 d X) (hd0 : 2 ≤ d) (M : Mm) : JW G S2 ad X 100 [(0, .ref (ad 0))] [] M (f_X6_next_b100 M) (Kl (h_X6_next_100 G ad X) (Krv G S2 ad X)) := by
  unfold f_X6_next_b100
  refine j_aload_n (pc := 100) O 0 dX6_next_100 rfl ?_
  refine j_aload_n (pc := 101) O 0 dX6_next_101 rfl ?_
  refine j_getf (pc := 102) (v := .int (M.1 0 23)) O 0 23 dX6_next_102 fl_X6_135 so_S2_0 rfl rfl ?_
  refine j_callVi (pc := 105) (dc := 1) (As := [.int (M.1 0 23)]) (rest := []) O 0 (fun r M1 h => sp_X6_byteAt h) dX6_next_105 mv_X6_byteAt lm_X6_138 so_S2_0 rfl rfl (Nat.le_of_ble_eq_true rfl) (Nat.le_trans (Nat.le_of_ble_eq_true rfl) hd0) (fun r31 M30 => ?_)
  refine j_i2l (pc := 108) O dX6_next_108 ?_
  refine j_ldc2 (pc := 109) (v := 97) O dX6_next_109 gk_X6_147 ?_
  refine j_ldc2 (pc := 112) (v := 122) O dX6_next_112 gk_X6_149 ?_
  refine j_callSi (pc := 115) (dc := 1) (As := [.long (Int32.toInt64 r31), .long (97 : Int64), .long (122 : Int64)]) (rest := []) O (fun r M1 h => sp_X6_in h) dX6_next_115 mst_X6_in lm_X6_94 rfl rfl (Nat.le_of_ble_eq_true rfl) (Nat.le_trans (Nat.le_of_ble_eq_true rfl) hd0) (fun r33 M32 => ?_)
  refine j_if_eq (pc := 118) (tgt := 321) O dX6_next_118 (by decide) ?_ ?_
  · refine jw_ex ?_
    exact j_vret (pc := 321) O dX6_next_321
  · refine j_aload_n (pc := 121) O 0 dX6_next_121 rfl ?_
    refine j_dup (pc := 122) O dX6_next_122 rfl ?_
    refine j_getf (pc := 123) (v := .int (M32.1 0 23)) O 0 23 dX6_next_123 fl_X6_135 so_S2_0 rfl rfl ?_
    refine j_iconst (pc := 126) (v := 1) O dX6_next_126 (by decide) ?_
    refine j_iadd (pc := 127) O dX6_next_127 ?_
    refine j_puti (pc := 128) O 0 23 dX6_next_128 fl_X6_135 so_S2_0 ft_X6_23 rfl (fun M34 => ?_)
    refine j_goto (pc := 131) (tgt := 100) O dX6_next_131 (by decide) ?_
    exact jw_next (fun hh => pw_sub [0] rfl hh)
def f_X6_next_b0 (M : Mm) : Option ((Mm) ⊕ (Mm)) :=
  bd (f_X6_byteAt (M.1 0 23) M) fun r2 M1 =>
  if r2 = (32 : Int32) then
    f_X6_next_j26 M1
  else
    bd (f_X6_byteAt (M1.1 0 23) M1) fun r5 M4 =>
    if r5 = (10 : Int32) then
      f_X6_next_j26 M4
    else
      ex (
      bm (ms M4 0 25 (M4.1 0 23)) fun M6 =>
      bd (f_X6_byteAt (M6.1 0 23) M6) fun r8 M7 =>
      bm (ms M7 0 24 (4 : Int32)) fun M9 =>
      if 0 ≤ r8 then
        bd (f_X6_in (Int32.toInt64 r8) (97 : Int64) (122 : Int64) M9) fun r11 M10 =>
        if r11 = 0 then
          bd (f_X6_in (Int32.toInt64 r8) (48 : Int64) (57 : Int64) M10) fun r13 M12 =>
          if r13 = 0 then
            if r8 = (40 : Int32) then
              f_X6_next_j300 r8 M12
            else
              if r8 = (41 : Int32) then
                f_X6_next_j300 r8 M12
              else
                if r8 = (59 : Int32) then
                  f_X6_next_j300 r8 M12
                else
                  if r8 = (43 : Int32) then
                    f_X6_next_j300 r8 M12
                  else
                    if r8 = (45 : Int32) then
                      f_X6_next_j300 r8 M12
                    else
                      if r8 = (42 : Int32) then
                        f_X6_next_j300 r8 M12
                      else
                        if r8 = (60 : Int32) then
                          f_X6_next_j300 r8 M12
                        else
                          if r8 = (61 : Int32) then
                            f_X6_next_j300 r8 M12
                          else
                            some M12
          else
            bm (ms M12 0 24 (2 : Int32)) fun M17 =>
            bm (ml M17 0 (0 : Int64)) fun M18 =>
            iter (fun s => f_X6_next_b160 s.1 s.2) fuel ((0 : Int32), M18)
        else
          bm (ms M10 0 24 (1 : Int32)) fun M29 =>
          iter (fun s => f_X6_next_b100 s) fuel M29
      else
        bm (ms M9 0 24 (0 : Int32)) fun M35 =>
        bm (ms M35 0 25 (M35.1 0 22)) fun M36 =>
        some M36)
set_option maxRecDepth 100000 in
set_option maxHeartbeats 4000000 in
theorem jf_X6_next_b0 {G : wn_G} {ad : Nat → Nat} {X : wn_X} {d : Nat} (O : Ok G RX6 cX6_next 3 d X) (hd0 : 2 ≤ d) (M : Mm) : JW G S2 ad X 0 [(0, .ref (ad 0))] [] M (f_X6_next_b0 M) (Kl (h_X6_next_0 G ad X) (Krv G S2 ad X)) := by
  unfold f_X6_next_b0
  refine j_aload_n (pc := 0) O 0 dX6_next_0 rfl ?_
  refine j_aload_n (pc := 1) O 0 dX6_next_1 rfl ?_
  refine j_getf (pc := 2) (v := .int (M.1 0 23)) O 0 23 dX6_next_2 fl_X6_135 so_S2_0 rfl rfl ?_
  refine j_callVi (pc := 5) (dc := 1) (As := [.int (M.1 0 23)]) (rest := []) O 0 (fun r M1 h => sp_X6_byteAt h) dX6_next_5 mv_X6_byteAt lm_X6_138 so_S2_0 rfl rfl (Nat.le_of_ble_eq_true rfl) (Nat.le_trans (Nat.le_of_ble_eq_true rfl) hd0) (fun r2 M1 => ?_)
  refine j_bipush (pc := 8) (v := 32) O dX6_next_8 (by decide) ?_
  refine j_icmp_eq (pc := 10) (tgt := 26) O dX6_next_10 (by decide) ?_ ?_
  · exact jw_sub [0] rfl (jf_X6_next_j26 O hd0 M1)
  · refine j_aload_n (pc := 13) O 0 dX6_next_13 rfl ?_
    refine j_aload_n (pc := 14) O 0 dX6_next_14 rfl ?_
    refine j_getf (pc := 15) (v := .int (M1.1 0 23)) O 0 23 dX6_next_15 fl_X6_135 so_S2_0 rfl rfl ?_
    refine j_callVi (pc := 18) (dc := 1) (As := [.int (M1.1 0 23)]) (rest := []) O 0 (fun r M1 h => sp_X6_byteAt h) dX6_next_18 mv_X6_byteAt lm_X6_138 so_S2_0 rfl rfl (Nat.le_of_ble_eq_true rfl) (Nat.le_trans (Nat.le_of_ble_eq_true rfl) hd0) (fun r5 M4 => ?_)
    refine j_bipush (pc := 21) (v := 10) O dX6_next_21 (by decide) ?_
    refine j_icmp_ne (pc := 23) (tgt := 39) O dX6_next_23 (by decide) ?_ ?_
    · exact jw_sub [0] rfl (jf_X6_next_j26 O hd0 M4)
    · refine jw_ex ?_
      refine j_aload_n (pc := 39) O 0 dX6_next_39 rfl ?_
      refine j_aload_n (pc := 40) O 0 dX6_next_40 rfl ?_
      refine j_getf (pc := 41) (v := .int (M4.1 0 23)) O 0 23 dX6_next_41 fl_X6_135 so_S2_0 rfl rfl ?_
      refine j_puti (pc := 44) O 0 25 dX6_next_44 fl_X6_141 so_S2_0 ft_X6_25 rfl (fun M6 => ?_)
      refine j_aload_n (pc := 47) O 0 dX6_next_47 rfl ?_
      refine j_aload_n (pc := 48) O 0 dX6_next_48 rfl ?_
      refine j_getf (pc := 49) (v := .int (M6.1 0 23)) O 0 23 dX6_next_49 fl_X6_135 so_S2_0 rfl rfl ?_
      refine j_callVi (pc := 52) (dc := 1) (As := [.int (M6.1 0 23)]) (rest := []) O 0 (fun r M1 h => sp_X6_byteAt h) dX6_next_52 mv_X6_byteAt lm_X6_138 so_S2_0 rfl rfl (Nat.le_of_ble_eq_true rfl) (Nat.le_trans (Nat.le_of_ble_eq_true rfl) hd0) (fun r8 M7 => ?_)
      refine j_istore_n (pc := 55) (L' := [(1, .int r8), (0, .ref (ad 0))]) O dX6_next_55 (by decide) rfl ?_
      refine j_aload_n (pc := 56) O 1 dX6_next_56 rfl ?_
      refine j_iconst (pc := 57) (v := 4) O dX6_next_57 (by decide) ?_
      refine j_puti (pc := 58) O 0 24 dX6_next_58 fl_X6_144 so_S2_0 ft_X6_24 rfl (fun M9 => ?_)
      refine j_iload_n (pc := 61) O 0 dX6_next_61 rfl ?_
      refine j_if_ge (pc := 62) (tgt := 81) O dX6_next_62 (by decide) ?_ ?_
      · refine j_iload_n (pc := 81) O 0 dX6_next_81 rfl ?_
        refine j_i2l (pc := 82) O dX6_next_82 ?_
        refine j_ldc2 (pc := 83) (v := 97) O dX6_next_83 gk_X6_147 ?_
        refine j_ldc2 (pc := 86) (v := 122) O dX6_next_86 gk_X6_149 ?_
        refine j_callSi (pc := 89) (dc := 1) (As := [.long (Int32.toInt64 r8), .long (97 : Int64), .long (122 : Int64)]) (rest := []) O (fun r M1 h => sp_X6_in h) dX6_next_89 mst_X6_in lm_X6_94 rfl rfl (Nat.le_of_ble_eq_true rfl) (Nat.le_trans (Nat.le_of_ble_eq_true rfl) hd0) (fun r11 M10 => ?_)
        refine j_if_eq (pc := 92) (tgt := 134) O dX6_next_92 (by decide) ?_ ?_
        · refine j_iload_n (pc := 134) O 0 dX6_next_134 rfl ?_
          refine j_i2l (pc := 135) O dX6_next_135 ?_
          refine j_ldc2 (pc := 136) (v := 48) O dX6_next_136 gk_X6_151 ?_
          refine j_ldc2 (pc := 139) (v := 57) O dX6_next_139 gk_X6_153 ?_
          refine j_callSi (pc := 142) (dc := 1) (As := [.long (Int32.toInt64 r8), .long (48 : Int64), .long (57 : Int64)]) (rest := []) O (fun r M1 h => sp_X6_in h) dX6_next_142 mst_X6_in lm_X6_94 rfl rfl (Nat.le_of_ble_eq_true rfl) (Nat.le_trans (Nat.le_of_ble_eq_true rfl) hd0) (fun r13 M12 => ?_)
          refine j_if_eq (pc := 145) (tgt := 252) O dX6_next_145 (by decide) ?_ ?_
          · refine j_iload_n (pc := 252) O 0 dX6_next_252 rfl ?_
            refine j_bipush (pc := 253) (v := 40) O dX6_next_253 (by decide) ?_
            refine j_icmp_eq (pc := 255) (tgt := 300) O dX6_next_255 (by decide) ?_ ?_
            · exact jw_sub [1, 0] rfl (jf_X6_next_j300 O hd0 r8 M12)
            · refine j_iload_n (pc := 258) O 0 dX6_next_258 rfl ?_
              refine j_bipush (pc := 259) (v := 41) O dX6_next_259 (by decide) ?_
              refine j_icmp_eq (pc := 261) (tgt := 300) O dX6_next_261 (by decide) ?_ ?_
              · exact jw_sub [1, 0] rfl (jf_X6_next_j300 O hd0 r8 M12)
              · refine j_iload_n (pc := 264) O 0 dX6_next_264 rfl ?_
                refine j_bipush (pc := 265) (v := 59) O dX6_next_265 (by decide) ?_
                refine j_icmp_eq (pc := 267) (tgt := 300) O dX6_next_267 (by decide) ?_ ?_
                · exact jw_sub [1, 0] rfl (jf_X6_next_j300 O hd0 r8 M12)
                · refine j_iload_n (pc := 270) O 0 dX6_next_270 rfl ?_
                  refine j_bipush (pc := 271) (v := 43) O dX6_next_271 (by decide) ?_
                  refine j_icmp_eq (pc := 273) (tgt := 300) O dX6_next_273 (by decide) ?_ ?_
                  · exact jw_sub [1, 0] rfl (jf_X6_next_j300 O hd0 r8 M12)
                  · refine j_iload_n (pc := 276) O 0 dX6_next_276 rfl ?_
                    refine j_bipush (pc := 277) (v := 45) O dX6_next_277 (by decide) ?_
                    refine j_icmp_eq (pc := 279) (tgt := 300) O dX6_next_279 (by decide) ?_ ?_
                    · exact jw_sub [1, 0] rfl (jf_X6_next_j300 O hd0 r8 M12)
                    · refine j_iload_n (pc := 282) O 0 dX6_next_282 rfl ?_
                      refine j_bipush (pc := 283) (v := 42) O dX6_next_283 (by decide) ?_
                      refine j_icmp_eq (pc := 285) (tgt := 300) O dX6_next_285 (by decide) ?_ ?_
                      · exact jw_sub [1, 0] rfl (jf_X6_next_j300 O hd0 r8 M12)
                      · refine j_iload_n (pc := 288) O 0 dX6_next_288 rfl ?_
                        refine j_bipush (pc := 289) (v := 60) O dX6_next_289 (by decide) ?_
                        refine j_icmp_eq (pc := 291) (tgt := 300) O dX6_next_291 (by decide) ?_ ?_
                        · exact jw_sub [1, 0] rfl (jf_X6_next_j300 O hd0 r8 M12)
                        · refine j_iload_n (pc := 294) O 0 dX6_next_294 rfl ?_
                          refine j_bipush (pc := 295) (v := 61) O dX6_next_295 (by decide) ?_
                          refine j_icmp_ne (pc := 297) (tgt := 321) O dX6_next_297 (by decide) ?_ ?_
                          · exact jw_sub [1, 0] rfl (jf_X6_next_j300 O hd0 r8 M12)
                          · exact j_vret (pc := 321) O dX6_next_321
          · refine j_aload_n (pc := 148) O 1 dX6_next_148 rfl ?_
            refine j_iconst (pc := 149) (v := 2) O dX6_next_149 (by decide) ?_
            refine j_puti (pc := 150) O 0 24 dX6_next_150 fl_X6_144 so_S2_0 ft_X6_24 rfl (fun M17 => ?_)
            refine j_aload_n (pc := 153) O 1 dX6_next_153 rfl ?_
            refine j_lconst (pc := 154) (v := 0) O dX6_next_154 (by decide) ?_
            refine j_putl (pc := 155) O 0 26 dX6_next_155 fl_X6_155 so_S2_0 ft_X6_26 rfl (by decide) (fun M18 => ?_)
            refine j_iconst (pc := 158) (v := 0) O dX6_next_158 (by decide) ?_
            refine j_istore_n (pc := 159) (L' := [(2, .int (0 : Int32)), (1, .int r8), (0, .ref (ad 0))]) O dX6_next_159 (by decide) rfl ?_
            exact jw_iter (hd := h_X6_next_160 G ad X) (fun hh => pw_sub [2, 0] rfl hh) (fun s => jf_X6_next_b160 O hd0 s.1 s.2)
        · refine j_aload_n (pc := 95) O 1 dX6_next_95 rfl ?_
          refine j_iconst (pc := 96) (v := 1) O dX6_next_96 (by decide) ?_
          refine j_puti (pc := 97) O 0 24 dX6_next_97 fl_X6_144 so_S2_0 ft_X6_24 rfl (fun M29 => ?_)
          exact jw_iter (hd := h_X6_next_100 G ad X) (fun hh => pw_sub [1] rfl hh) (fun s => jf_X6_next_b100 O hd0 s)
      · refine j_aload_n (pc := 65) O 1 dX6_next_65 rfl ?_
        refine j_iconst (pc := 66) (v := 0) O dX6_next_66 (by decide) ?_
        refine j_puti (pc := 67) O 0 24 dX6_next_67 fl_X6_144 so_S2_0 ft_X6_24 rfl (fun M35 => ?_)
        refine j_aload_n (pc := 70) O 1 dX6_next_70 rfl ?_
        refine j_aload_n (pc := 71) O 1 dX6_next_71 rfl ?_
        refine j_getf (pc := 72) (v := .int (M35.1 0 22)) O 0 22 dX6_next_72 fl_X6_129 so_S2_0 rfl rfl ?_
        refine j_puti (pc := 75) O 0 25 dX6_next_75 fl_X6_141 so_S2_0 ft_X6_25 rfl (fun M36 => ?_)
        refine j_goto (pc := 78) (tgt := 321) O dX6_next_78 (by decide) ?_
        exact j_vret (pc := 321) O dX6_next_321
def f_X6_next (M : Mm) : Option (Mm) :=
  iter (fun s => f_X6_next_b0 s) fuel M
set_option maxRecDepth 100000 in
set_option maxHeartbeats 4000000 in
theorem jf_X6_next {G : wn_G} {ad : Nat → Nat} {X : wn_X} {d : Nat} (O : Ok G RX6 cX6_next 3 d X) (hd0 : 2 ≤ d) (M : Mm) : JW G S2 ad X 0 [(0, .ref (ad 0))] [] M (f_X6_next M) (Krv G S2 ad X) := by
  unfold f_X6_next
  exact jw_iter (hd := h_X6_next_0 G ad X) (fun hh => pw_sub [0] rfl hh) (fun s => jf_X6_next_b0 O hd0 s)
theorem sp_X6_next {G : wn_G} {ad : Nat → Nat} {M M1 : Mm} (h : f_X6_next M = some M1) : Sp G S2 ad mX6_next 2 [.ref (ad 0)] M M1 none :=
  sp_intro (own := RX6) (by decide +kernel) rfl (Nat.le_of_ble_eq_true rfl) (fun X O T => jf_X6_next O (Nat.le_refl _) M M1 h T)
