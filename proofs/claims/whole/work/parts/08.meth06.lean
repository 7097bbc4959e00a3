def f_X5_kindAbove (x0 : Int32) (M : Mm) : Option (Int32 × Mm) :=
  bi x0 fun y1 => swc y1 [
((1 : Int32),
    some ((0 : Int32), M)),
((2 : Int32),
    some ((0 : Int32), M)),
((3 : Int32),
    some ((1 : Int32), M)),
((4 : Int32),
    some ((2 : Int32), M)),
((5 : Int32),
    some ((0 : Int32), M))] (
    some ((-1 : Int32), M))
set_option maxRecDepth 100000 in
set_option maxHeartbeats 4000000 in
theorem jf_X5_kindAbove {G : wn_G} {ad : Nat → Nat} {X : wn_X} {d : Nat} (O : Ok G RX5 cX5_kindAbove 1 d X) (hd0 : 1 ≤ d) (x0 : Int32) (M : Mm) : JW G S1 ad X 0 [(0, .int x0)] [] M (f_X5_kindAbove x0 M) (Kri G S1 ad X) := by
  unfold f_X5_kindAbove
  refine j_iload_n (pc := 0) O 0 dX5_kindAbove_0 rfl ?_
  refine jw_bi fun y1 => ?_
  refine jw_swc (fun hc => ?_) (fun n0 => ?_)
  · subst hc
    refine j_tin (pc := 1) (tgt := 36) O dX5_kindAbove_1 (by decide) (by decide) rfl (by decide) ?_
    refine j_iconst (pc := 36) (v := 0) O dX5_kindAbove_36 (by decide) ?_
    exact j_iret (pc := 37) O dX5_kindAbove_37
  refine jw_swc (fun hc => ?_) (fun n1 => ?_)
  · subst hc
    refine j_tin (pc := 1) (tgt := 36) O dX5_kindAbove_1 (by decide) (by decide) rfl (by decide) ?_
    refine j_iconst (pc := 36) (v := 0) O dX5_kindAbove_36 (by decide) ?_
    exact j_iret (pc := 37) O dX5_kindAbove_37
  refine jw_swc (fun hc => ?_) (fun n2 => ?_)
  · subst hc
    refine j_tin (pc := 1) (tgt := 38) O dX5_kindAbove_1 (by decide) (by decide) rfl (by decide) ?_
    refine j_iconst (pc := 38) (v := 1) O dX5_kindAbove_38 (by decide) ?_
    exact j_iret (pc := 39) O dX5_kindAbove_39
  refine jw_swc (fun hc => ?_) (fun n3 => ?_)
  · subst hc
    refine j_tin (pc := 1) (tgt := 40) O dX5_kindAbove_1 (by decide) (by decide) rfl (by decide) ?_
    refine j_iconst (pc := 40) (v := 2) O dX5_kindAbove_40 (by decide) ?_
    exact j_iret (pc := 41) O dX5_kindAbove_41
  refine jw_swc (fun hc => ?_) (fun n4 => ?_)
  · subst hc
    refine j_tin (pc := 1) (tgt := 36) O dX5_kindAbove_1 (by decide) (by decide) rfl (by decide) ?_
    refine j_iconst (pc := 36) (v := 0) O dX5_kindAbove_36 (by decide) ?_
    exact j_iret (pc := 37) O dX5_kindAbove_37
  refine jw_swd ?_
  have q0 := lv_neT (a := 1) n0 (by decide)
  have q1 := lv_neT (a := 2) n1 (by decide)
  have q2 := lv_neT (a := 3) n2 (by decide)
  have q3 := lv_neT (a := 4) n3 (by decide)
  have q4 := lv_neT (a := 5) n4 (by decide)
  refine j_tout (pc := 1) (tgt := 42) O dX5_kindAbove_1 (by omega) (by decide) ?_
  refine j_iconst (pc := 42) (v := -1) O dX5_kindAbove_42 (by decide) ?_
  exact j_iret (pc := 43) O dX5_kindAbove_43
theorem sp_X5_kindAbove {G : wn_G} {ad : Nat → Nat} {x0 : Int32} {M : Mm} {r : Int32} {M1 : Mm} (h : f_X5_kindAbove x0 M = some (r, M1)) : Sp G S1 ad mX5_kindAbove 1 [.int x0] M M1 (some (.int r)) :=
  sp_intro (own := RX5) (by decide +kernel) rfl (Nat.le_of_ble_eq_true rfl) (fun X O T => jf_X5_kindAbove O (Nat.le_refl _) x0 M (r, M1) h T)
def h_X5_isUnder_4 (G : wn_G) (ad : Nat → Nat) (X : wn_X) (x1 : Int32) : Int32 × Int32 × Mm → Prop := fun s => PW G S1 ad X 4 [(1, .int x1), (2, .int s.1), (3, .int s.2.1)] [] s.2.2
def f_X5_isUnder_b4 (x1 : Int32) (x2 : Int32) (x3 : Int32) (M : Mm) : Option ((Int32 × Int32 × Mm) ⊕ (Int32 × Mm)) :=
  if (6 : Int32) ≤ x3 then
    ex (
    some (0, M))
  else
    if x2 = (-1 : Int32) then
      ex (
      some (0, M))
    else
      if x2 = x1 then
        ex (
        some (1, M))
      else
        bd (f_X5_kindAbove x2 M) fun r2 M1 =>
        bi (x3 + (1 : Int32)) fun y3 =>
        some (.inl (r2, y3, M1))
set_option maxRecDepth 100000 in
set_option maxHeartbeats 4000000 in
theorem jf_X5_isUnder_b4 {G : wn_G} {ad : Nat → Nat} {X : wn_X} {d : Nat} (O : Ok G RX5 cX5_isUnder 4 d X) (hd0 : 2 ≤ d) (x1 : Int32) (x2 : Int32) (x3 : Int32) (M : Mm) : JW G S1 ad X 4 [(1, .int x1), (2, .int x2), (3, .int x3)] [] M (f_X5_isUnder_b4 x1 x2 x3 M) (Kl (h_X5_isUnder_4 G ad X x1) (Krz G S1 ad X)) := by
  unfold f_X5_isUnder_b4
  refine j_iload_n (pc := 4) O 2 dX5_isUnder_4 rfl ?_
  refine j_bipush (pc := 5) (v := 6) O dX5_isUnder_5 (by decide) ?_
  refine j_icmp_ge (pc := 7) (tgt := 33) O dX5_isUnder_7 (by decide) ?_ ?_
  · refine jw_ex ?_
    refine j_iconst (pc := 33) (v := 0) O dX5_isUnder_33 (by decide) ?_
    exact j_z0 (pc := 34) O dX5_isUnder_34
  · refine j_iload_n (pc := 10) O 1 dX5_isUnder_10 rfl ?_
    refine j_iconst (pc := 11) (v := -1) O dX5_isUnder_11 (by decide) ?_
    refine j_icmp_eq (pc := 12) (tgt := 33) O dX5_isUnder_12 (by decide) ?_ ?_
    · refine jw_ex ?_
      refine j_iconst (pc := 33) (v := 0) O dX5_isUnder_33 (by decide) ?_
      exact j_z0 (pc := 34) O dX5_isUnder_34
    · refine j_iload_n (pc := 15) O 1 dX5_isUnder_15 rfl ?_
      refine j_iload_n (pc := 16) O 0 dX5_isUnder_16 rfl ?_
      refine j_icmp_ne (pc := 17) (tgt := 22) O dX5_isUnder_17 (by decide) ?_ ?_
      · refine jw_ex ?_
        refine j_iconst (pc := 20) (v := 1) O dX5_isUnder_20 (by decide) ?_
        exact j_z1 (pc := 21) O dX5_isUnder_21
      · refine j_iload_n (pc := 22) O 1 dX5_isUnder_22 rfl ?_
        refine j_callSi (pc := 23) (dc := 1) (As := [.int x2]) (rest := []) O (fun r M1 h => sp_X5_kindAbove h) dX5_isUnder_23 mst_X5_kindAbove lm_X5_243 rfl rfl (Nat.le_of_ble_eq_true rfl) (Nat.le_trans (Nat.le_of_ble_eq_true rfl) hd0) (fun r2 M1 => ?_)
        refine j_istore_n (pc := 26) (L' := [(2, .int r2), (1, .int x1), (3, .int x3)]) O dX5_isUnder_26 (by decide) rfl ?_
        refine j_iinc (pc := 27) (v := 1) (L2 := fun y => [(3, .int y), (2, .int r2), (1, .int x1)]) O 2 dX5_isUnder_27 rfl (by decide) (by decide) (fun _ => rfl) (fun y3 => ?_)
        refine j_goto (pc := 30) (tgt := 4) O dX5_isUnder_30 (by decide) ?_
        exact jw_next (fun hh => pw_sub [2, 1, 0] rfl hh)
def f_X5_isUnder (x0 : Int32) (x1 : Int32) (M : Mm) : Option (Int32 × Mm) :=
  iter (fun s => f_X5_isUnder_b4 x1 s.1 s.2.1 s.2.2) fuel (x0, (0 : Int32), M)
set_option maxRecDepth 100000 in
set_option maxHeartbeats 4000000 in
theorem jf_X5_isUnder {G : wn_G} {ad : Nat → Nat} {X : wn_X} {d : Nat} (O : Ok G RX5 cX5_isUnder 4 d X) (hd0 : 2 ≤ d) (x0 : Int32) (x1 : Int32) (M : Mm) : JW G S1 ad X 0 [(0, .int x0), (1, .int x1)] [] M (f_X5_isUnder x0 x1 M) (Krz G S1 ad X) := by
  unfold f_X5_isUnder
  refine j_iload_n (pc := 0) O 0 dX5_isUnder_0 rfl ?_
  refine j_istore_n (pc := 1) (L' := [(2, .int x0), (0, .int x0), (1, .int x1)]) O dX5_isUnder_1 (by decide) rfl ?_
  refine j_iconst (pc := 2) (v := 0) O dX5_isUnder_2 (by decide) ?_
  refine j_istore_n (pc := 3) (L' := [(3, .int (0 : Int32)), (2, .int x0), (0, .int x0), (1, .int x1)]) O dX5_isUnder_3 (by decide) rfl ?_
  exact jw_iter (hd := h_X5_isUnder_4 G ad X x1) (fun hh => pw_sub [3, 1, 0] rfl hh) (fun s => jf_X5_isUnder_b4 O hd0 x1 s.1 s.2.1 s.2.2)
theorem sp_X5_isUnder {G : wn_G} {ad : Nat → Nat} {x0 : Int32} {x1 : Int32} {M : Mm} {r : Int32} {M1 : Mm} (h : f_X5_isUnder x0 x1 M = some (r, M1)) : Sp G S1 ad mX5_isUnder 2 [.int x0, .int x1] M M1 (some (.int r)) :=
  sp_intro (own := RX5) (by decide +kernel) rfl (Nat.le_of_ble_eq_true rfl) (fun X O T => jf_X5_isUnder O (Nat.le_refl _) x0 x1 M (r, M1) h T)
def f_X5_taken (x1 : Int32) (x2 : Int32) (M : Mm) : Option (Int32 × Mm) :=
  if x2 < 0 then
    some ((-2 : Int32), M)
  else
    if x2 < (6 : Int32) then
      bd (f_X3_has_1 x1 M) fun r2 M1 =>
      if r2 = 0 then
        some ((-11 : Int32), M1)
      else
        gd (bin x1 5 = true) inferInstance <|
        bd (f_X5_isUnder (M1.1 7 (Int32.toNatClampNeg x1)) x2 M1) fun r4 M3 =>
        if r4 = 0 then
          some ((-13 : Int32), M3)
        else
          gd (bin x1 5 = true) inferInstance <|
          some ((M3.1 8 (Int32.toNatClampNeg x1)), M3)
    else
      some ((-2 : Int32), M)
set_option maxRecDepth 100000 in
set_option maxHeartbeats 4000000 in
theorem jf_X5_taken {G : wn_G} {ad : Nat → Nat} {X : wn_X} {d : Nat} (O : Ok G RX5 cX5_taken 3 d X) (hd0 : 3 ≤ d) (x1 : Int32) (x2 : Int32) (M : Mm) : JW G S1 ad X 0 [(0, .ref (ad 0)), (1, .int x1), (2, .int x2)] [] M (f_X5_taken x1 x2 M) (Kri G S1 ad X) := by
  unfold f_X5_taken
  refine j_iload_n (pc := 0) O 2 dX5_taken_0 rfl ?_
  refine j_if_lt (pc := 1) (tgt := 10) O dX5_taken_1 (by decide) ?_ ?_
  · refine j_bipush (pc := 10) (v := -2) O dX5_taken_10 (by decide) ?_
    exact j_iret (pc := 12) O dX5_taken_12
  · refine j_iload_n (pc := 4) O 2 dX5_taken_4 rfl ?_
    refine j_bipush (pc := 5) (v := 6) O dX5_taken_5 (by decide) ?_
    refine j_icmp_lt (pc := 7) (tgt := 13) O dX5_taken_7 (by decide) ?_ ?_
    · refine j_aload_n (pc := 13) O 0 dX5_taken_13 rfl ?_
      refine j_getf (pc := 14) (v := .ref (ad 1)) O 0 0 dX5_taken_14 fl_X5_10 so_S1_0 rfl rfl ?_
      refine j_iload_n (pc := 17) O 1 dX5_taken_17 rfl ?_
      refine j_callVi (pc := 18) (dc := 1) (As := [.int x1]) (rest := []) O 1 (fun r M1 h => sp_X3_has_1 h) dX5_taken_18 mv_X3_has lm_X5_77 so_S1_1 rfl rfl (Nat.le_of_ble_eq_true rfl) (Nat.le_trans (Nat.le_of_ble_eq_true rfl) hd0) (fun r2 M1 => ?_)
      refine j_if_ne (pc := 21) (tgt := 27) O dX5_taken_21 (by decide) ?_ ?_
      · refine j_bipush (pc := 24) (v := -11) O dX5_taken_24 (by decide) ?_
        exact j_iret (pc := 26) O dX5_taken_26
      · refine j_aload_n (pc := 27) O 0 dX5_taken_27 rfl ?_
        refine j_getf (pc := 28) (v := .ref (ad 1)) O 0 0 dX5_taken_28 fl_X5_10 so_S1_0 rfl rfl ?_
        refine j_getf (pc := 31) (v := .ref (ad 7)) O 1 4 dX5_taken_31 fl_X5_81 so_S1_1 rfl rfl ?_
        refine j_iload_n (pc := 34) O 1 dX5_taken_34 rfl ?_
        refine j_iald (pc := 35) O 7 dX5_taken_35 so_S1_7 ?_
        refine j_iload_n (pc := 36) O 2 dX5_taken_36 rfl ?_
        refine j_callSi (pc := 37) (dc := 2) (As := [.int (M1.1 7 (Int32.toNatClampNeg x1)), .int x2]) (rest := []) O (fun r M1 h => sp_X5_isUnder h) dX5_taken_37 mst_X5_isUnder lm_X5_236 rfl rfl (Nat.le_of_ble_eq_true rfl) (Nat.le_trans (Nat.le_of_ble_eq_true rfl) hd0) (fun r4 M3 => ?_)
        refine j_if_eq (pc := 40) (tgt := 55) O dX5_taken_40 (by decide) ?_ ?_
        · refine j_bipush (pc := 55) (v := -13) O dX5_taken_55 (by decide) ?_
          exact j_iret (pc := 57) O dX5_taken_57
        · refine j_aload_n (pc := 43) O 0 dX5_taken_43 rfl ?_
          refine j_getf (pc := 44) (v := .ref (ad 1)) O 0 0 dX5_taken_44 fl_X5_10 so_S1_0 rfl rfl ?_
          refine j_getf (pc := 47) (v := .ref (ad 8)) O 1 5 dX5_taken_47 fl_X5_91 so_S1_1 rfl rfl ?_
          refine j_iload_n (pc := 50) O 1 dX5_taken_50 rfl ?_
          refine j_iald (pc := 51) O 8 dX5_taken_51 so_S1_8 ?_
          refine j_goto (pc := 52) (tgt := 57) O dX5_taken_52 (by decide) ?_
          exact j_iret (pc := 57) O dX5_taken_57
    · refine j_bipush (pc := 10) (v := -2) O dX5_taken_10 (by decide) ?_
      exact j_iret (pc := 12) O dX5_taken_12
theorem sp_X5_taken {G : wn_G} {ad : Nat → Nat} {x1 : Int32} {x2 : Int32} {M : Mm} {r : Int32} {M1 : Mm} (h : f_X5_taken x1 x2 M = some (r, M1)) : Sp G S1 ad mX5_taken 3 [.ref (ad 0), .int x1, .int x2] M M1 (some (.int r)) :=
  sp_intro (own := RX5) (by decide +kernel) rfl (Nat.le_of_ble_eq_true rfl) (fun X O T => jf_X5_taken O (Nat.le_refl _) x1 x2 M (r, M1) h T)
def f_X6_over (x0 : Int32) (M : Mm) : Option (Int32 × Mm) :=
  if x0 = 0 then
    some ((-1 : Int32), M)
  else
    if x0 = (3 : Int32) then
      some ((1 : Int32), M)
    else
      if x0 = (4 : Int32) then
        some ((2 : Int32), M)
      else
        some ((0 : Int32), M)
set_option maxRecDepth 100000 in
set_option maxHeartbeats 4000000 in
theorem jf_X6_over {G : wn_G} {ad : Nat → Nat} {X : wn_X} {d : Nat} (O : Ok G RX6 cX6_over 1 d X) (hd0 : 1 ≤ d) (x0 : Int32) (M : Mm) : JW G S2 ad X 0 [(0, .int x0)] [] M (f_X6_over x0 M) (Kri G S2 ad X) := by
  unfold f_X6_over
  refine j_iload_n (pc := 0) O 0 dX6_over_0 rfl ?_
  refine j_if_ne (pc := 1) (tgt := 8) O dX6_over_1 (by decide) ?_ ?_
  · refine j_iconst (pc := 4) (v := -1) O dX6_over_4 (by decide) ?_
    refine j_goto (pc := 5) (tgt := 27) O dX6_over_5 (by decide) ?_
    exact j_iret (pc := 27) O dX6_over_27
  · refine j_iload_n (pc := 8) O 0 dX6_over_8 rfl ?_
    refine j_iconst (pc := 9) (v := 3) O dX6_over_9 (by decide) ?_
    refine j_icmp_ne (pc := 10) (tgt := 17) O dX6_over_10 (by decide) ?_ ?_
    · refine j_iconst (pc := 13) (v := 1) O dX6_over_13 (by decide) ?_
      refine j_goto (pc := 14) (tgt := 27) O dX6_over_14 (by decide) ?_
      exact j_iret (pc := 27) O dX6_over_27
    · refine j_iload_n (pc := 17) O 0 dX6_over_17 rfl ?_
      refine j_iconst (pc := 18) (v := 4) O dX6_over_18 (by decide) ?_
      refine j_icmp_ne (pc := 19) (tgt := 26) O dX6_over_19 (by decide) ?_ ?_
      · refine j_iconst (pc := 22) (v := 2) O dX6_over_22 (by decide) ?_
        refine j_goto (pc := 23) (tgt := 27) O dX6_over_23 (by decide) ?_
        exact j_iret (pc := 27) O dX6_over_27
      · refine j_iconst (pc := 26) (v := 0) O dX6_over_26 (by decide) ?_
        exact j_iret (pc := 27) O dX6_over_27
theorem sp_X6_over {G : wn_G} {ad : Nat → Nat} {x0 : Int32} {M : Mm} {r : Int32} {M1 : Mm} (h : f_X6_over x0 M = some (r, M1)) : Sp G S2 ad mX6_over 1 [.int x0] M M1 (some (.int r)) :=
  sp_intro (own := RX6) (by decide +kernel) rfl (Nat.le_of_ble_eq_true rfl) (fun X O T => jf_X6_over O (Nat.le_refl _) x0 M (r, M1) h T)
def h_X6_taken_33 (G : wn_G) (ad : Nat → Nat) (X : wn_X) (x1 : Int32) (x2 : Int32) : Int32 × Mm → Prop := fun s => PW G S2 ad X 33 [(0, .ref (ad 0)), (1, .int x1), (2, .int x2), (3, .int s.1)] [] s.2
def f_X6_taken_j51 (x1 : Int32) (x2 : Int32) (x3 : Int32) (M : Mm) : Option (Int32 × Mm) :=
  if x3 = x2 then
    gd (bin x1 5 = true) inferInstance <|
    some ((M.1 5 (Int32.toNatClampNeg x1)), M)
  else
    some ((-13 : Int32), M)
set_option maxRecDepth 100000 in
set_option maxHeartbeats 4000000 in
theorem jf_X6_taken_j51 {G : wn_G} {ad : Nat → Nat} {X : wn_X} {d : Nat} (O : Ok G RX6 cX6_taken 4 d X) (hd0 : 3 ≤ d) (x1 : Int32) (x2 : Int32) (x3 : Int32) (M : Mm) : JW G S2 ad X 51 [(0, .ref (ad 0)), (1, .int x1), (2, .int x2), (3, .int x3)] [] M (f_X6_taken_j51 x1 x2 x3 M) (Kri G S2 ad X) := by
  unfold f_X6_taken_j51
  refine j_iload_n (pc := 51) O 3 dX6_taken_51 rfl ?_
  refine j_iload_n (pc := 52) O 2 dX6_taken_52 rfl ?_
  refine j_icmp_ne (pc := 53) (tgt := 65) O dX6_taken_53 (by decide) ?_ ?_
  · refine j_aload_n (pc := 56) O 0 dX6_taken_56 rfl ?_
    refine j_getf (pc := 57) (v := .ref (ad 5)) O 0 10 dX6_taken_57 fl_X6_32 so_S2_0 rfl rfl ?_
    refine j_iload_n (pc := 60) O 1 dX6_taken_60 rfl ?_
    refine j_iald (pc := 61) O 5 dX6_taken_61 so_S2_5 ?_
    refine j_goto (pc := 62) (tgt := 67) O dX6_taken_62 (by decide) ?_
    exact j_iret (pc := 67) O dX6_taken_67
  · refine j_bipush (pc := 65) (v := -13) O dX6_taken_65 (by decide) ?_
    exact j_iret (pc := 67) O dX6_taken_67
def f_X6_taken_b33 (x1 : Int32) (x2 : Int32) (x3 : Int32) (M : Mm) : Option ((Int32 × Mm) ⊕ (Int32 × Mm)) :=
  if x3 = (-1 : Int32) then
    ex (
    f_X6_taken_j51 x1 x2 x3 M)
  else
    if x3 = x2 then
      ex (
      f_X6_taken_j51 x1 x2 x3 M)
    else
      bd (f_X6_over x3 M) fun r7 M6 =>
      some (.inl (r7, M6))
set_option maxRecDepth 100000 in
set_option maxHeartbeats 4000000 in
theorem jf_X6_taken_b33 {G : wn_G} {ad : Nat → Nat} {X : wn_X} {d : Nat} (O : Ok G RX6 cX6_taken 4 d X) (hd0 : 3 ≤ d) (x1 : Int32) (x2 : Int32) (x3 : Int32) (M : Mm) : JW G S2 ad X 33 [(0, .ref (ad 0)), (1, .int x1), (2, .int x2), (3, .int x3)] [] M (f_X6_taken_b33 x1 x2 x3 M) (Kl (h_X6_taken_33 G ad X x1 x2) (Kri G S2 ad X)) := by
  unfold f_X6_taken_b33
  refine j_iload_n (pc := 33) O 3 dX6_taken_33 rfl ?_
  refine j_iconst (pc := 34) (v := -1) O dX6_taken_34 (by decide) ?_
  refine j_icmp_eq (pc := 35) (tgt := 51) O dX6_taken_35 (by decide) ?_ ?_
  · refine jw_ex ?_
    exact jw_sub [0, 1, 2, 3] rfl (jf_X6_taken_j51 O hd0 x1 x2 x3 M)
  · refine j_iload_n (pc := 38) O 3 dX6_taken_38 rfl ?_
    refine j_iload_n (pc := 39) O 2 dX6_taken_39 rfl ?_
    refine j_icmp_eq (pc := 40) (tgt := 51) O dX6_taken_40 (by decide) ?_ ?_
    · refine jw_ex ?_
      exact jw_sub [0, 1, 2, 3] rfl (jf_X6_taken_j51 O hd0 x1 x2 x3 M)
    · refine j_iload_n (pc := 43) O 3 dX6_taken_43 rfl ?_
      refine j_callSi (pc := 44) (dc := 1) (As := [.int x3]) (rest := []) O (fun r M1 h => sp_X6_over h) dX6_taken_44 mst_X6_over lm_X6_363 rfl rfl (Nat.le_of_ble_eq_true rfl) (Nat.le_trans (Nat.le_of_ble_eq_true rfl) hd0) (fun r7 M6 => ?_)
      refine j_istore_n (pc := 47) (L' := [(3, .int r7), (0, .ref (ad 0)), (1, .int x1), (2, .int x2)]) O dX6_taken_47 (by decide) rfl ?_
      refine j_goto (pc := 48) (tgt := 33) O dX6_taken_48 (by decide) ?_
      exact jw_next (fun hh => pw_sub [1, 2, 3, 0] rfl hh)
def f_X6_taken (x1 : Int32) (x2 : Int32) (M : Mm) : Option (Int32 × Mm) :=
  bd (f_X6_in (Int32.toInt64 x2) (0 : Int64) (5 : Int64) M) fun r2 M1 =>
  if r2 = 0 then
    some ((-2 : Int32), M1)
  else
    bd (f_X6_isEater x1 M1) fun r4 M3 =>
    if r4 = 0 then
      some ((-11 : Int32), M3)
    else
      gd (bin x1 5 = true) inferInstance <|
      bi (M3.1 4 (Int32.toNatClampNeg x1)) fun y5 =>
      iter (fun s => f_X6_taken_b33 x1 x2 s.1 s.2) fuel (y5, M3)
set_option maxRecDepth 100000 in
set_option maxHeartbeats 4000000 in
theorem jf_X6_taken {G : wn_G} {ad : Nat → Nat} {X : wn_X} {d : Nat} (O : Ok G RX6 cX6_taken 4 d X) (hd0 : 3 ≤ d) (x1 : Int32) (x2 : Int32) (M : Mm) : JW G S2 ad X 0 [(0, .ref (ad 0)), (1, .int x1), (2, .int x2)] [] M (f_X6_taken x1 x2 M) (Kri G S2 ad X) := by
  unfold f_X6_taken
  refine j_iload_n (pc := 0) O 2 dX6_taken_0 rfl ?_
  refine j_i2l (pc := 1) O dX6_taken_1 ?_
  refine j_lconst (pc := 2) (v := 0) O dX6_taken_2 (by decide) ?_
  refine j_ldc2 (pc := 3) (v := 5) O dX6_taken_3 gk_X6_112 ?_
  refine j_callSi (pc := 6) (dc := 1) (As := [.long (Int32.toInt64 x2), .long (0 : Int64), .long (5 : Int64)]) (rest := []) O (fun r M1 h => sp_X6_in h) dX6_taken_6 mst_X6_in lm_X6_94 rfl rfl (Nat.le_of_ble_eq_true rfl) (Nat.le_trans (Nat.le_of_ble_eq_true rfl) hd0) (fun r2 M1 => ?_)
  refine j_if_ne (pc := 9) (tgt := 15) O dX6_taken_9 (by decide) ?_ ?_
  · refine j_bipush (pc := 12) (v := -2) O dX6_taken_12 (by decide) ?_
    exact j_iret (pc := 14) O dX6_taken_14
  · refine j_aload_n (pc := 15) O 0 dX6_taken_15 rfl ?_
    refine j_iload_n (pc := 16) O 1 dX6_taken_16 rfl ?_
    refine j_callVi (pc := 17) (dc := 2) (As := [.int x1]) (rest := []) O 0 (fun r M1 h => sp_X6_isEater h) dX6_taken_17 mv_X6_isEater lm_X6_100 so_S2_0 rfl rfl (Nat.le_of_ble_eq_true rfl) (Nat.le_trans (Nat.le_of_ble_eq_true rfl) hd0) (fun r4 M3 => ?_)
    refine j_if_ne (pc := 20) (tgt := 26) O dX6_taken_20 (by decide) ?_ ?_
    · refine j_bipush (pc := 23) (v := -11) O dX6_taken_23 (by decide) ?_
      exact j_iret (pc := 25) O dX6_taken_25
    · refine j_aload_n (pc := 26) O 0 dX6_taken_26 rfl ?_
      refine j_getf (pc := 27) (v := .ref (ad 4)) O 0 9 dX6_taken_27 fl_X6_29 so_S2_0 rfl rfl ?_
      refine j_iload_n (pc := 30) O 1 dX6_taken_30 rfl ?_
      refine j_iald (pc := 31) O 4 dX6_taken_31 so_S2_4 ?_
      refine jw_bi fun y5 => ?_
      refine j_istore_n (pc := 32) (L' := [(3, .int y5), (0, .ref (ad 0)), (1, .int x1), (2, .int x2)]) O dX6_taken_32 (by decide) rfl ?_
      exact jw_iter (hd := h_X6_taken_33 G ad X x1 x2) (fun hh => pw_sub [1, 2, 3, 0] rfl hh) (fun s => jf_X6_taken_b33 O hd0 x1 x2 s.1 s.2)
theorem sp_X6_taken {G : wn_G} {ad : Nat → Nat} {x1 : Int32} {x2 : Int32} {M : Mm} {r : Int32} {M1 : Mm} (h : f_X6_taken x1 x2 M = some (r, M1)) : Sp G S2 ad mX6_taken 3 [.ref (ad 0), .int x1, .int x2] M M1 (some (.int r)) :=
  sp_intro (own := RX6) (by decide +kernel) rfl (Nat.le_of_ble_eq_true rfl) (fun X O T => jf_X6_taken O (Nat.le_refl _) x1 x2 M (r, M1) h T)
def h_X0_write_7 (G : wn_G) (ad : Nat → Nat) (X : wn_X) (x1 : Nat) : Int32 × Mm → Prop := fun s => PW G S1 ad X 7 [(0, .ref (ad 3)), (1, .ref (gK G x1)), (2, .int s.1)] [] s.2
def f_X0_write_b7 (x1 : Nat) (x2 : Int32) (M : Mm) : Option ((Int32 × Mm) ⊕ (Mm)) :=
  gd (x1 < 13) inferInstance <|
  if (sln x1) ≤ x2 then
    ex (
    some M)
  else
    if (160 : Int32) ≤ x2 then
      ex (
      some M)
    else
      gd (x1 < 13 ∧ bin x2 (sLen.getD x1 0) = true) inferInstance <|
      bd (f_X0_append (sch x1 x2) M) fun r2 M1 =>
      bi (x2 + (1 : Int32)) fun y3 =>
      some (.inl (y3, M1))
set_option maxRecDepth 100000 in
set_option maxHeartbeats 4000000 in
theorem jf_X0_write_b7 {G : wn_G} {ad : Nat → Nat} {X : wn_X} {d : Nat} (O : Ok G RX0 cX0_write 3 d X) (hd0 : 6 ≤ d) (x1 : Nat) (x2 : Int32) (M : Mm) : JW G S1 ad X 7 [(0, .ref (ad 3)), (1, .ref (gK G x1)), (2, .int x2)] [] M (f_X0_write_b7 x1 x2 M) (Kl (h_X0_write_7 G ad X x1) (Krv G S1 ad X)) := by
  unfold f_X0_write_b7
  refine j_iload_n (pc := 7) O 2 dX0_write_7 rfl ?_
  refine j_aload_n (pc := 8) O 1 dX0_write_8 rfl ?_
  refine j_slen (pc := 9) O dX0_write_9 lm_X0_25 (Nat.le_trans (Nat.le_of_ble_eq_true rfl) hd0) (Nat.le_of_ble_eq_true rfl) ?_
  refine j_icmp_ge (pc := 12) (tgt := 38) O dX0_write_12 (by decide) ?_ ?_
  · refine jw_ex ?_
    exact j_vret (pc := 38) O dX0_write_38
  · refine j_iload_n (pc := 15) O 2 dX0_write_15 rfl ?_
    refine j_sipush (pc := 16) (v := 160) O dX0_write_16 (by decide) ?_
    refine j_icmp_ge (pc := 19) (tgt := 38) O dX0_write_19 (by decide) ?_ ?_
    · refine jw_ex ?_
      exact j_vret (pc := 38) O dX0_write_38
    · refine j_aload_n (pc := 22) O 0 dX0_write_22 rfl ?_
      refine j_aload_n (pc := 23) O 1 dX0_write_23 rfl ?_
      refine j_iload_n (pc := 24) O 2 dX0_write_24 rfl ?_
      refine j_schar (pc := 25) O dX0_write_25 lm_X0_31 (Nat.le_trans (Nat.le_of_ble_eq_true rfl) hd0) (Nat.le_of_ble_eq_true rfl) ?_
      refine j_callVi (pc := 28) (dc := 1) (As := [.int (sch x1 x2)]) (rest := []) O 3 (fun r M1 h => sp_X0_append h) dX0_write_28 mv_X0_append lm_X0_35 so_S1_3 rfl rfl (Nat.le_of_ble_eq_true rfl) (Nat.le_trans (Nat.le_of_ble_eq_true rfl) hd0) (fun r2 M1 => ?_)
      refine j_pop (pc := 31) O dX0_write_31 rfl ?_
      refine j_iinc (pc := 32) (v := 1) (L2 := fun y => [(2, .int y), (0, .ref (ad 3)), (1, .ref (gK G x1))]) O 2 dX0_write_32 rfl (by decide) (by decide) (fun _ => rfl) (fun y3 => ?_)
      refine j_goto (pc := 35) (tgt := 7) O dX0_write_35 (by decide) ?_
      exact jw_next (fun hh => pw_sub [1, 2, 0] rfl hh)
def f_X0_write (x1 : Nat) (M : Mm) : Option (Mm) :=
  iter (fun s => f_X0_write_b7 x1 s.1 s.2) fuel ((0 : Int32), M)
set_option maxRecDepth 100000 in
set_option maxHeartbeats 4000000 in
theorem jf_X0_write {G : wn_G} {ad : Nat → Nat} {X : wn_X} {d : Nat} (O : Ok G RX0 cX0_write 3 d X) (hd0 : 6 ≤ d) (x1 : Nat) (M : Mm) : JW G S1 ad X 0 [(0, .ref (ad 3)), (1, .ref (gK G x1))] [] M (f_X0_write x1 M) (Krv G S1 ad X) := by
  unfold f_X0_write
  refine j_aload_n (pc := 0) O 1 dX0_write_0 rfl ?_
  refine j_ifnonnull (pc := 1) (tgt := 5) O dX0_write_1 (by decide) ?_
  refine j_iconst (pc := 5) (v := 0) O dX0_write_5 (by decide) ?_
  refine j_istore_n (pc := 6) (L' := [(2, .int (0 : Int32)), (0, .ref (ad 3)), (1, .ref (gK G x1))]) O dX0_write_6 (by decide) rfl ?_
  exact jw_iter (hd := h_X0_write_7 G ad X x1) (fun hh => pw_sub [1, 2, 0] rfl hh) (fun s => jf_X0_write_b7 O hd0 x1 s.1 s.2)
theorem sp_X0_write {G : wn_G} {ad : Nat → Nat} {x1 : Nat} {M M1 : Mm} (h : f_X0_write x1 M = some M1) : Sp G S1 ad mX0_write 6 [.ref (ad 3), .ref (gK G x1)] M M1 none :=
  sp_intro (own := RX0) (by decide +kernel) rfl (Nat.le_of_ble_eq_true rfl) (fun X O T => jf_X0_write O (Nat.le_refl _) x1 M M1 h T)
def f_X6_spell (x1 : Int32) (x2 : Int32) (x3 : Int32) (x4 : Int32) (x5 : Int32) (x6 : Int32) (x7 : Int32) (x8 : Int32) (x9 : Int32) (M : Mm) : Option (Mm) :=
  gd (bin x1 960 = true) inferInstance <| bm (ms M 1 (Int32.toNatClampNeg x1) x2) fun M1 =>
  gd (bin (x1 + (1 : Int32)) 960 = true) inferInstance <| bm (ms M1 1 (Int32.toNatClampNeg (x1 + (1 : Int32))) x3) fun M2 =>
  gd (bin (x1 + (2 : Int32)) 960 = true) inferInstance <| bm (ms M2 1 (Int32.toNatClampNeg (x1 + (2 : Int32))) x4) fun M3 =>
  gd (bin (x1 + (3 : Int32)) 960 = true) inferInstance <| bm (ms M3 1 (Int32.toNatClampNeg (x1 + (3 : Int32))) x5) fun M4 =>
  gd (bin (x1 + (4 : Int32)) 960 = true) inferInstance <| bm (ms M4 1 (Int32.toNatClampNeg (x1 + (4 : Int32))) x6) fun M5 =>
  gd (bin (x1 + (5 : Int32)) 960 = true) inferInstance <| bm (ms M5 1 (Int32.toNatClampNeg (x1 + (5 : Int32))) x7) fun M6 =>
  gd (bin (x1 + (6 : Int32)) 960 = true) inferInstance <| bm (ms M6 1 (Int32.toNatClampNeg (x1 + (6 : Int32))) x8) fun M7 =>
  gd (bin (x1 + (7 : Int32)) 960 = true) inferInstance <| bm (ms M7 1 (Int32.toNatClampNeg (x1 + (7 : Int32))) x9) fun M8 =>
  some M8
set_option maxRecDepth 100000 in
set_option maxHeartbeats 4000000 in
theorem jf_X6_spell {G : wn_G} {ad : Nat → Nat} {X : wn_X} {d : Nat} (O : Ok G RX6 cX6_spell 10 d X) (hd0 : 1 ≤ d) (x1 : Int32) (x2 : Int32) (x3 : Int32) (x4 : Int32) (x5 : Int32) (x6 : Int32) (x7 : Int32) (x8 : Int32) (x9 : Int32) (M : Mm) : JW G S2 ad X 0 [(0, .ref (ad 0)), (1, .int x1), (2, .int x2), (3, .int x3), (4, .int x4), (5, .int x5), (6, .int x6), (7, .int x7), (8, .int x8), (9, .int x9)] [] M (f_X6_spell x1 x2 x3 x4 x5 x6 x7 x8 x9 M) (Krv G S2 ad X) := by
  unfold f_X6_spell
  refine j_aload_n (pc := 0) O 0 dX6_spell_0 rfl ?_
  refine j_getf (pc := 1) (v := .ref (ad 1)) O 0 1 dX6_spell_1 fl_X6_13 so_S2_0 rfl rfl ?_
  refine j_iload_n (pc := 4) O 1 dX6_spell_4 rfl ?_
  refine j_iload_n (pc := 5) O 2 dX6_spell_5 rfl ?_
  refine j_iast (pc := 6) O 1 dX6_spell_6 so_S2_1 (fun M1 => ?_)
  refine j_aload_n (pc := 7) O 0 dX6_spell_7 rfl ?_
  refine j_getf (pc := 8) (v := .ref (ad 1)) O 0 1 dX6_spell_8 fl_X6_13 so_S2_0 rfl rfl ?_
  refine j_iload_n (pc := 11) O 1 dX6_spell_11 rfl ?_
  refine j_iconst (pc := 12) (v := 1) O dX6_spell_12 (by decide) ?_
  refine j_iadd (pc := 13) O dX6_spell_13 ?_
  refine j_iload_n (pc := 14) O 3 dX6_spell_14 rfl ?_
  refine j_iast (pc := 15) O 1 dX6_spell_15 so_S2_1 (fun M2 => ?_)
  refine j_aload_n (pc := 16) O 0 dX6_spell_16 rfl ?_
  refine j_getf (pc := 17) (v := .ref (ad 1)) O 0 1 dX6_spell_17 fl_X6_13 so_S2_0 rfl rfl ?_
  refine j_iload_n (pc := 20) O 1 dX6_spell_20 rfl ?_
  refine j_iconst (pc := 21) (v := 2) O dX6_spell_21 (by decide) ?_
  refine j_iadd (pc := 22) O dX6_spell_22 ?_
  refine j_iload (pc := 23) O 4 dX6_spell_23 rfl ?_
  refine j_iast (pc := 25) O 1 dX6_spell_25 so_S2_1 (fun M3 => ?_)
  refine j_aload_n (pc := 26) O 0 dX6_spell_26 rfl ?_
  refine j_getf (pc := 27) (v := .ref (ad 1)) O 0 1 dX6_spell_27 fl_X6_13 so_S2_0 rfl rfl ?_
  refine j_iload_n (pc := 30) O 1 dX6_spell_30 rfl ?_
  refine j_iconst (pc := 31) (v := 3) O dX6_spell_31 (by decide) ?_
  refine j_iadd (pc := 32) O dX6_spell_32 ?_
  refine j_iload (pc := 33) O 5 dX6_spell_33 rfl ?_
  refine j_iast (pc := 35) O 1 dX6_spell_35 so_S2_1 (fun M4 => ?_)
  refine j_aload_n (pc := 36) O 0 dX6_spell_36 rfl ?_
  refine j_getf (pc := 37) (v := .ref (ad 1)) O 0 1 dX6_spell_37 fl_X6_13 so_S2_0 rfl rfl ?_
  refine j_iload_n (pc := 40) O 1 dX6_spell_40 rfl ?_
  refine j_iconst (pc := 41) (v := 4) O dX6_spell_41 (by decide) ?_
  refine j_iadd (pc := 42) O dX6_spell_42 ?_
  refine j_iload (pc := 43) O 6 dX6_spell_43 rfl ?_
  refine j_iast (pc := 45) O 1 dX6_spell_45 so_S2_1 (fun M5 => ?_)
  refine j_aload_n (pc := 46) O 0 dX6_spell_46 rfl ?_
  refine j_getf (pc := 47) (v := .ref (ad 1)) O 0 1 dX6_spell_47 fl_X6_13 so_S2_0 rfl rfl ?_
  refine j_iload_n (pc := 50) O 1 dX6_spell_50 rfl ?_
  refine j_iconst (pc := 51) (v := 5) O dX6_spell_51 (by decide) ?_
  refine j_iadd (pc := 52) O dX6_spell_52 ?_
  refine j_iload (pc := 53) O 7 dX6_spell_53 rfl ?_
  refine j_iast (pc := 55) O 1 dX6_spell_55 so_S2_1 (fun M6 => ?_)
  refine j_aload_n (pc := 56) O 0 dX6_spell_56 rfl ?_
  refine j_getf (pc := 57) (v := .ref (ad 1)) O 0 1 dX6_spell_57 fl_X6_13 so_S2_0 rfl rfl ?_
  refine j_iload_n (pc := 60) O 1 dX6_spell_60 rfl ?_
  refine j_bipush (pc := 61) (v := 6) O dX6_spell_61 (by decide) ?_
  refine j_iadd (pc := 63) O dX6_spell_63 ?_
  refine j_iload (pc := 64) O 8 dX6_spell_64 rfl ?_
  refine j_iast (pc := 66) O 1 dX6_spell_66 so_S2_1 (fun M7 => ?_)
  refine j_aload_n (pc := 67) O 0 dX6_spell_67 rfl ?_
  refine j_getf (pc := 68) (v := .ref (ad 1)) O 0 1 dX6_spell_68 fl_X6_13 so_S2_0 rfl rfl ?_
  refine j_iload_n (pc := 71) O 1 dX6_spell_71 rfl ?_
  refine j_bipush (pc := 72) (v := 7) O dX6_spell_72 (by decide) ?_
  refine j_iadd (pc := 74) O dX6_spell_74 ?_
  refine j_iload (pc := 75) O 9 dX6_spell_75 rfl ?_
  refine j_iast (pc := 77) O 1 dX6_spell_77 so_S2_1 (fun M8 => ?_)
  exact j_vret (pc := 78) O dX6_spell_78
theorem sp_X6_spell {G : wn_G} {ad : Nat → Nat} {x1 : Int32} {x2 : Int32} {x3 : Int32} {x4 : Int32} {x5 : Int32} {x6 : Int32} {x7 : Int32} {x8 : Int32} {x9 : Int32} {M M1 : Mm} (h : f_X6_spell x1 x2 x3 x4 x5 x6 x7 x8 x9 M = some M1) : Sp G S2 ad mX6_spell 1 [.ref (ad 0), .int x1, .int x2, .int x3, .int x4, .int x5, .int x6, .int x7, .int x8, .int x9] M M1 none :=
  sp_intro (own := RX6) (by decide +kernel) rfl (Nat.le_of_ble_eq_true rfl) (fun X O T => jf_X6_spell O (Nat.le_refl _) x1 x2 x3 x4 x5 x6 x7 x8 x9 M M1 h T)
def f_X5_init (M : Mm) : Option (Mm) :=
  bv (f_X0_write 0 M) fun M1 =>
  bd (f_X0_reads M1) fun r3 M2 =>
  if r3 = 0 then
    some M2
  else
    bd (f_X4_add M2) fun r5 M4 =>
    some M4
set_option maxRecDepth 100000 in
set_option maxHeartbeats 4000000 in
theorem jf_X5_init {G : wn_G} {ad : Nat → Nat} {X : wn_X} {d : Nat} (O : Ok G RX5 cX5_init 1 d X) (hd0 : 111 ≤ d) {K : Mm → Prop} (hK : ∀ M : Mm, K M → PW G S1 ad X 109 [] [] M) (M : Mm) : JW G S1 ad X 78 [(0, .ref (ad 0))] [] M (f_X5_init M) K := by
  unfold f_X5_init
  refine j_aload_n (pc := 78) O 0 dX5_init_78 rfl ?_
  refine j_getf (pc := 79) (v := .ref (ad 3)) O 0 3 dX5_init_79 fl_X5_22 so_S1_0 rfl rfl ?_
  refine j_ldcs (pc := 82) O 0 dX5_init_82 (List.mem_of_getElem? (i := 0) rfl) ?_
  refine j_callVv (pc := 84) (dc := 6) (As := [.ref (gK G 0)]) (rest := []) O 3 (fun M1 h => sp_X0_write h) dX5_init_84 mv_X0_write lm_X5_51 so_S1_3 rfl rfl (Nat.le_of_ble_eq_true rfl) (Nat.le_trans (Nat.le_of_ble_eq_true rfl) hd0) (fun M1 => ?_)
  refine j_aload_n (pc := 87) O 0 dX5_init_87 rfl ?_
  refine j_getf (pc := 88) (v := .ref (ad 3)) O 0 3 dX5_init_88 fl_X5_22 so_S1_0 rfl rfl ?_
  refine j_callVi (pc := 91) (dc := 110) (As := []) (rest := []) O 3 (fun r M1 h => sp_X0_reads h) dX5_init_91 mv_X0_reads lm_X5_55 so_S1_3 rfl rfl (Nat.le_of_ble_eq_true rfl) (Nat.le_trans (Nat.le_of_ble_eq_true rfl) hd0) (fun r3 M2 => ?_)
  refine j_if_eq (pc := 94) (tgt := 109) O dX5_init_94 (by decide) ?_ ?_
  · exact jw_pw (fun h => pw_sub [] rfl (hK _ h))
  · refine j_aload_n (pc := 97) O 0 dX5_init_97 rfl ?_
    refine j_getf (pc := 98) (v := .ref (ad 4)) O 0 4 dX5_init_98 fl_X5_29 so_S1_0 rfl rfl ?_
    refine j_aload_n (pc := 101) O 0 dX5_init_101 rfl ?_
    refine j_getf (pc := 102) (v := .ref (ad 3)) O 0 3 dX5_init_102 fl_X5_22 so_S1_0 rfl rfl ?_
    refine j_callVi (pc := 105) (dc := 1) (As := [.ref (ad 3)]) (rest := []) O 4 (fun r M1 h => sp_X4_add h) dX5_init_105 mv_X4_add lm_X5_59 so_S1_4 rfl rfl (Nat.le_of_ble_eq_true rfl) (Nat.le_trans (Nat.le_of_ble_eq_true rfl) hd0) (fun r5 M4 => ?_)
    refine j_pop (pc := 108) O dX5_init_108 rfl ?_
    exact jw_pw (fun h => pw_sub [] rfl (hK _ h))
def f_X6_init (M : Mm) : Option (Mm) :=
  bv (f_X6_spell (0 : Int32) (116 : Int32) (97 : Int32) (107 : Int32) (101 : Int32) (115 : Int32) (32 : Int32) (52 : Int32) (32 : Int32) M) fun M1 =>
  bv (f_X6_spell (8 : Int32) (59 : Int32) (32 : Int32) (104 : Int32) (117 : Int32) (110 : Int32) (103 : Int32) (101 : Int32) (114 : Int32) M1) fun M2 =>
  bv (f_X6_spell (16 : Int32) (32 : Int32) (49 : Int32) (32 : Int32) (59 : Int32) (32 : Int32) (119 : Int32) (111 : Int32) (114 : Int32) M2) fun M3 =>
  bv (f_X6_spell (24 : Int32) (116 : Int32) (104 : Int32) (32 : Int32) (49 : Int32) (48 : Int32) (32 : Int32) (45 : Int32) (32 : Int32) M3) fun M4 =>
  bv (f_X6_spell (32 : Int32) (108 : Int32) (97 : Int32) (116 : Int32) (101 : Int32) (32 : Int32) (59 : Int32) (32 : Int32) (32 : Int32) M4) fun M5 =>
  gd (bin (0 : Int32) 6 = true) inferInstance <| bm (ms M5 2 (Int32.toNatClampNeg (0 : Int32)) (40 : Int32)) fun M6 =>
  bm (ms M6 0 3 (1 : Int32)) fun M7 =>
  some M7
set_option maxRecDepth 100000 in
set_option maxHeartbeats 4000000 in
theorem jf_X6_init {G : wn_G} {ad : Nat → Nat} {X : wn_X} {d : Nat} (O : Ok G RX6 cX6_init 1 d X) (hd0 : 2 ≤ d) {K : Mm → Prop} (hK : ∀ M : Mm, K M → PW G S2 ad X 292 [] [] M) (M : Mm) : JW G S2 ad X 170 [(0, .ref (ad 0))] [] M (f_X6_init M) K := by
  unfold f_X6_init
  refine j_aload_n (pc := 170) O 0 dX6_init_170 rfl ?_
  refine j_iconst (pc := 171) (v := 0) O dX6_init_171 (by decide) ?_
  refine j_bipush (pc := 172) (v := 116) O dX6_init_172 (by decide) ?_
  refine j_bipush (pc := 174) (v := 97) O dX6_init_174 (by decide) ?_
  refine j_bipush (pc := 176) (v := 107) O dX6_init_176 (by decide) ?_
  refine j_bipush (pc := 178) (v := 101) O dX6_init_178 (by decide) ?_
  refine j_bipush (pc := 180) (v := 115) O dX6_init_180 (by decide) ?_
  refine j_bipush (pc := 182) (v := 32) O dX6_init_182 (by decide) ?_
  refine j_bipush (pc := 184) (v := 52) O dX6_init_184 (by decide) ?_
  refine j_bipush (pc := 186) (v := 32) O dX6_init_186 (by decide) ?_
  refine j_callVv (pc := 188) (dc := 1) (As := [.int (0 : Int32), .int (116 : Int32), .int (97 : Int32), .int (107 : Int32), .int (101 : Int32), .int (115 : Int32), .int (32 : Int32), .int (52 : Int32), .int (32 : Int32)]) (rest := []) O 0 (fun M1 h => sp_X6_spell h) dX6_init_188 mv_X6_spell lm_X6_84 so_S2_0 rfl rfl (Nat.le_of_ble_eq_true rfl) (Nat.le_trans (Nat.le_of_ble_eq_true rfl) hd0) (fun M1 => ?_)
  refine j_aload_n (pc := 191) O 0 dX6_init_191 rfl ?_
  refine j_bipush (pc := 192) (v := 8) O dX6_init_192 (by decide) ?_
  refine j_bipush (pc := 194) (v := 59) O dX6_init_194 (by decide) ?_
  refine j_bipush (pc := 196) (v := 32) O dX6_init_196 (by decide) ?_
  refine j_bipush (pc := 198) (v := 104) O dX6_init_198 (by decide) ?_
  refine j_bipush (pc := 200) (v := 117) O dX6_init_200 (by decide) ?_
  refine j_bipush (pc := 202) (v := 110) O dX6_init_202 (by decide) ?_
  refine j_bipush (pc := 204) (v := 103) O dX6_init_204 (by decide) ?_
  refine j_bipush (pc := 206) (v := 101) O dX6_init_206 (by decide) ?_
  refine j_bipush (pc := 208) (v := 114) O dX6_init_208 (by decide) ?_
  refine j_callVv (pc := 210) (dc := 1) (As := [.int (8 : Int32), .int (59 : Int32), .int (32 : Int32), .int (104 : Int32), .int (117 : Int32), .int (110 : Int32), .int (103 : Int32), .int (101 : Int32), .int (114 : Int32)]) (rest := []) O 0 (fun M1 h => sp_X6_spell h) dX6_init_210 mv_X6_spell lm_X6_84 so_S2_0 rfl rfl (Nat.le_of_ble_eq_true rfl) (Nat.le_trans (Nat.le_of_ble_eq_true rfl) hd0) (fun M2 => ?_)
  refine j_aload_n (pc := 213) O 0 dX6_init_213 rfl ?_
  refine j_bipush (pc := 214) (v := 16) O dX6_init_214 (by decide) ?_
  refine j_bipush (pc := 216) (v := 32) O dX6_init_216 (by decide) ?_
  refine j_bipush (pc := 218) (v := 49) O dX6_init_218 (by decide) ?_
  refine j_bipush (pc := 220) (v := 32) O dX6_init_220 (by decide) ?_
  refine j_bipush (pc := 222) (v := 59) O dX6_init_222 (by decide) ?_
  refine j_bipush (pc := 224) (v := 32) O dX6_init_224 (by decide) ?_
  refine j_bipush (pc := 226) (v := 119) O dX6_init_226 (by decide) ?_
  refine j_bipush (pc := 228) (v := 111) O dX6_init_228 (by decide) ?_
  refine j_bipush (pc := 230) (v := 114) O dX6_init_230 (by decide) ?_
  refine j_callVv (pc := 232) (dc := 1) (As := [.int (16 : Int32), .int (32 : Int32), .int (49 : Int32), .int (32 : Int32), .int (59 : Int32), .int (32 : Int32), .int (119 : Int32), .int (111 : Int32), .int (114 : Int32)]) (rest := []) O 0 (fun M1 h => sp_X6_spell h) dX6_init_232 mv_X6_spell lm_X6_84 so_S2_0 rfl rfl (Nat.le_of_ble_eq_true rfl) (Nat.le_trans (Nat.le_of_ble_eq_true rfl) hd0) (fun M3 => ?_)
  refine j_aload_n (pc := 235) O 0 dX6_init_235 rfl ?_
  refine j_bipush (pc := 236) (v := 24) O dX6_init_236 (by decide) ?_
  refine j_bipush (pc := 238) (v := 116) O dX6_init_238 (by decide) ?_
  refine j_bipush (pc := 240) (v := 104) O dX6_init_240 (by decide) ?_
  refine j_bipush (pc := 242) (v := 32) O dX6_init_242 (by decide) ?_
  refine j_bipush (pc := 244) (v := 49) O dX6_init_244 (by decide) ?_
  refine j_bipush (pc := 246) (v := 48) O dX6_init_246 (by decide) ?_
  refine j_bipush (pc := 248) (v := 32) O dX6_init_248 (by decide) ?_
  refine j_bipush (pc := 250) (v := 45) O dX6_init_250 (by decide) ?_
  refine j_bipush (pc := 252) (v := 32) O dX6_init_252 (by decide) ?_
  refine j_callVv (pc := 254) (dc := 1) (As := [.int (24 : Int32), .int (116 : Int32), .int (104 : Int32), .int (32 : Int32), .int (49 : Int32), .int (48 : Int32), .int (32 : Int32), .int (45 : Int32), .int (32 : Int32)]) (rest := []) O 0 (fun M1 h => sp_X6_spell h) dX6_init_254 mv_X6_spell lm_X6_84 so_S2_0 rfl rfl (Nat.le_of_ble_eq_true rfl) (Nat.le_trans (Nat.le_of_ble_eq_true rfl) hd0) (fun M4 => ?_)
  refine j_aload_n (pc := 257) O 0 dX6_init_257 rfl ?_
  refine j_bipush (pc := 258) (v := 32) O dX6_init_258 (by decide) ?_
  refine j_bipush (pc := 260) (v := 108) O dX6_init_260 (by decide) ?_
  refine j_bipush (pc := 262) (v := 97) O dX6_init_262 (by decide) ?_
  refine j_bipush (pc := 264) (v := 116) O dX6_init_264 (by decide) ?_
  refine j_bipush (pc := 266) (v := 101) O dX6_init_266 (by decide) ?_
  refine j_bipush (pc := 268) (v := 32) O dX6_init_268 (by decide) ?_
  refine j_bipush (pc := 270) (v := 59) O dX6_init_270 (by decide) ?_
  refine j_bipush (pc := 272) (v := 32) O dX6_init_272 (by decide) ?_
  refine j_bipush (pc := 274) (v := 32) O dX6_init_274 (by decide) ?_
  refine j_callVv (pc := 276) (dc := 1) (As := [.int (32 : Int32), .int (108 : Int32), .int (97 : Int32), .int (116 : Int32), .int (101 : Int32), .int (32 : Int32), .int (59 : Int32), .int (32 : Int32), .int (32 : Int32)]) (rest := []) O 0 (fun M1 h => sp_X6_spell h) dX6_init_276 mv_X6_spell lm_X6_84 so_S2_0 rfl rfl (Nat.le_of_ble_eq_true rfl) (Nat.le_trans (Nat.le_of_ble_eq_true rfl) hd0) (fun M5 => ?_)
  refine j_aload_n (pc := 279) O 0 dX6_init_279 rfl ?_
  refine j_getf (pc := 280) (v := .ref (ad 2)) O 0 2 dX6_init_280 fl_X6_17 so_S2_0 rfl rfl ?_
  refine j_iconst (pc := 283) (v := 0) O dX6_init_283 (by decide) ?_
  refine j_bipush (pc := 284) (v := 40) O dX6_init_284 (by decide) ?_
  refine j_iast (pc := 286) O 2 dX6_init_286 so_S2_2 (fun M6 => ?_)
  refine j_aload_n (pc := 287) O 0 dX6_init_287 rfl ?_
  refine j_iconst (pc := 288) (v := 1) O dX6_init_288 (by decide) ?_
  refine j_puti (pc := 289) O 0 3 dX6_init_289 fl_X6_88 so_S2_0 ft_X6_3 rfl (fun M7 => ?_)
  exact jw_pw (fun h => pw_sub [] rfl (hK _ h))
