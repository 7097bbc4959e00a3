def h_X6_film_41 (G : wn_G) (ad : Nat → Nat) (X : wn_X) (x1 : Int32) : Int32 × Mm → Prop := fun s => PW G S2 ad X 41 [(0, .ref (ad 0)), (1, .int x1), (3, .int s.1)] [] s.2
def f_X6_film_b41 (x1 : Int32) (x3 : Int32) (M : Mm) : Option ((Int32 × Mm) ⊕ (Int32 × Mm)) :=
  if (M.1 0 13) ≤ x3 then
    ex (
    some ((M.1 0 13), M))
  else
    gd (bin x3 5 = true) inferInstance <|
    gd (bin (((40 : Int32) * x1) + x3) 160 = true) inferInstance <| bm (ms M 19 (Int32.toNatClampNeg (((40 : Int32) * x1) + x3)) (M.1 8 (Int32.toNatClampNeg x3))) fun M8 =>
    bi (x3 + (1 : Int32)) fun y9 =>
    some (.inl (y9, M8))
set_option maxRecDepth 100000 in
set_option maxHeartbeats 4000000 in
theorem jf_X6_film_b41 {G : wn_G} {ad : Nat → Nat} {X : wn_X} {d : Nat} (O : Ok G RX6 cX6_film 4 d X) (hd0 : 112 ≤ d) (x1 : Int32) (x3 : Int32) (M : Mm) : JW G S2 ad X 41 [(0, .ref (ad 0)), (1, .int x1), (3, .int x3)] [] M (f_X6_film_b41 x1 x3 M) (Kl (h_X6_film_41 G ad X x1) (Kri G S2 ad X)) := by
  unfold f_X6_film_b41
  refine j_iload_n (pc := 41) O 2 dX6_film_41 rfl ?_
  refine j_aload_n (pc := 42) O 0 dX6_film_42 rfl ?_
  refine j_getf (pc := 43) (v := .int (M.1 0 13)) O 0 13 dX6_film_43 fl_X6_91 so_S2_0 rfl rfl ?_
  refine j_icmp_ge (pc := 46) (tgt := 72) O dX6_film_46 (by decide) ?_ ?_
  · refine jw_ex ?_
    refine j_aload_n (pc := 72) O 0 dX6_film_72 rfl ?_
    refine j_getf (pc := 73) (v := .int (M.1 0 13)) O 0 13 dX6_film_73 fl_X6_91 so_S2_0 rfl rfl ?_
    exact j_iret (pc := 76) O dX6_film_76
  · refine j_aload_n (pc := 49) O 0 dX6_film_49 rfl ?_
    refine j_getf (pc := 50) (v := .ref (ad 19)) O 0 51 dX6_film_50 fl_X6_81 so_S2_0 rfl rfl ?_
    refine j_bipush (pc := 53) (v := 40) O dX6_film_53 (by decide) ?_
    refine j_iload_n (pc := 55) O 1 dX6_film_55 rfl ?_
    refine j_imul (pc := 56) O dX6_film_56 ?_
    refine j_iload_n (pc := 57) O 2 dX6_film_57 rfl ?_
    refine j_iadd (pc := 58) O dX6_film_58 ?_
    refine j_aload_n (pc := 59) O 0 dX6_film_59 rfl ?_
    refine j_getf (pc := 60) (v := .ref (ad 8)) O 0 30 dX6_film_60 fl_X6_44 so_S2_0 rfl rfl ?_
    refine j_iload_n (pc := 63) O 2 dX6_film_63 rfl ?_
    refine j_iald (pc := 64) O 8 dX6_film_64 so_S2_8 ?_
    refine j_iast (pc := 65) O 19 dX6_film_65 so_S2_19 (fun M8 => ?_)
    refine j_iinc (pc := 66) (v := 1) (L2 := fun y => [(3, .int y), (0, .ref (ad 0)), (1, .int x1)]) O 2 dX6_film_66 rfl (by decide) (by decide) (fun _ => rfl) (fun y9 => ?_)
    refine j_goto (pc := 69) (tgt := 41) O dX6_film_69 (by decide) ?_
    exact jw_next (fun hh => pw_sub [1, 2, 0] rfl hh)
def f_X6_film (x1 : Int32) (x2 : Int32) (M : Mm) : Option (Int32 × Mm) :=
  bd (f_X6_isSheet x1 M) fun r2 M1 =>
  if r2 = 0 then
    some ((-2 : Int32), M1)
  else
    bd (f_X6_in (Int32.toInt64 x2) (1 : Int64) (3 : Int64) M1) fun r4 M3 =>
    if r4 = 0 then
      some ((-2 : Int32), M3)
    else
      bv (f_X6_sups x2 (0 : Int32) M3) fun M5 =>
      bd (f_X6_sheet x1 (0 : Int32) (M5.1 0 13) M5) fun r7 M6 =>
      iter (fun s => f_X6_film_b41 x1 s.1 s.2) fuel ((0 : Int32), M6)
set_option maxRecDepth 100000 in
set_option maxHeartbeats 4000000 in
theorem jf_X6_film {G : wn_G} {ad : Nat → Nat} {X : wn_X} {d : Nat} (O : Ok G RX6 cX6_film 4 d X) (hd0 : 112 ≤ d) (x1 : Int32) (x2 : Int32) (M : Mm) : JW G S2 ad X 0 [(0, .ref (ad 0)), (1, .int x1), (2, .int x2)] [] M (f_X6_film x1 x2 M) (Kri G S2 ad X) := by
  unfold f_X6_film
  refine j_iload_n (pc := 0) O 1 dX6_film_0 rfl ?_
  refine j_callSi (pc := 1) (dc := 2) (As := [.int x1]) (rest := []) O (fun r M1 h => sp_X6_isSheet h) dX6_film_1 mst_X6_isSheet lm_X6_303 rfl rfl (Nat.le_of_ble_eq_true rfl) (Nat.le_trans (Nat.le_of_ble_eq_true rfl) hd0) (fun r2 M1 => ?_)
  refine j_if_eq (pc := 4) (tgt := 19) O dX6_film_4 (by decide) ?_ ?_
  · refine j_bipush (pc := 19) (v := -2) O dX6_film_19 (by decide) ?_
    exact j_iret (pc := 21) O dX6_film_21
  · refine j_iload_n (pc := 7) O 2 dX6_film_7 rfl ?_
    refine j_i2l (pc := 8) O dX6_film_8 ?_
    refine j_lconst (pc := 9) (v := 1) O dX6_film_9 (by decide) ?_
    refine j_ldc2 (pc := 10) (v := 3) O dX6_film_10 gk_X6_299 ?_
    refine j_callSi (pc := 13) (dc := 1) (As := [.long (Int32.toInt64 x2), .long (1 : Int64), .long (3 : Int64)]) (rest := []) O (fun r M1 h => sp_X6_in h) dX6_film_13 mst_X6_in lm_X6_94 rfl rfl (Nat.le_of_ble_eq_true rfl) (Nat.le_trans (Nat.le_of_ble_eq_true rfl) hd0) (fun r4 M3 => ?_)
    refine j_if_ne (pc := 16) (tgt := 22) O dX6_film_16 (by decide) ?_ ?_
    · refine j_bipush (pc := 19) (v := -2) O dX6_film_19 (by decide) ?_
      exact j_iret (pc := 21) O dX6_film_21
    · refine j_aload_n (pc := 22) O 0 dX6_film_22 rfl ?_
      refine j_iload_n (pc := 23) O 2 dX6_film_23 rfl ?_
      refine j_iconst (pc := 24) (v := 0) O dX6_film_24 (by decide) ?_
      refine j_callVv (pc := 25) (dc := 111) (As := [.int x2, .int (0 : Int32)]) (rest := []) O 0 (fun M1 h => sp_X6_sups h) dX6_film_25 mv_X6_sups lm_X6_310 so_S2_0 rfl rfl (Nat.le_of_ble_eq_true rfl) (Nat.le_trans (Nat.le_of_ble_eq_true rfl) hd0) (fun M5 => ?_)
      refine j_aload_n (pc := 28) O 0 dX6_film_28 rfl ?_
      refine j_iload_n (pc := 29) O 1 dX6_film_29 rfl ?_
      refine j_iconst (pc := 30) (v := 0) O dX6_film_30 (by decide) ?_
      refine j_aload_n (pc := 31) O 0 dX6_film_31 rfl ?_
      refine j_getf (pc := 32) (v := .int (M5.1 0 13)) O 0 13 dX6_film_32 fl_X6_91 so_S2_0 rfl rfl ?_
      refine j_callVi (pc := 35) (dc := 3) (As := [.int x1, .int (0 : Int32), .int (M5.1 0 13)]) (rest := []) O 0 (fun r M1 h => sp_X6_sheet h) dX6_film_35 mv_X6_sheet lm_X6_340 so_S2_0 rfl rfl (Nat.le_of_ble_eq_true rfl) (Nat.le_trans (Nat.le_of_ble_eq_true rfl) hd0) (fun r7 M6 => ?_)
      refine j_pop (pc := 38) O dX6_film_38 rfl ?_
      refine j_iconst (pc := 39) (v := 0) O dX6_film_39 (by decide) ?_
      refine j_istore_n (pc := 40) (L' := [(3, .int (0 : Int32)), (0, .ref (ad 0)), (1, .int x1), (2, .int x2)]) O dX6_film_40 (by decide) rfl ?_
      exact jw_iter (hd := h_X6_film_41 G ad X x1) (fun hh => pw_sub [1, 2, 0] rfl hh) (fun s => jf_X6_film_b41 O hd0 x1 s.1 s.2)
theorem sp_X6_film {G : wn_G} {ad : Nat → Nat} {x1 : Int32} {x2 : Int32} {M : Mm} {r : Int32} {M1 : Mm} (h : f_X6_film x1 x2 M = some (r, M1)) : Sp G S2 ad mX6_film 112 [.ref (ad 0), .int x1, .int x2] M M1 (some (.int r)) :=
  sp_intro (own := RX6) (by decide +kernel) rfl (Nat.le_of_ble_eq_true rfl) (fun X O T => jf_X6_film O (Nat.le_refl _) x1 x2 M (r, M1) h T)
def h_X2_planDrawn_17 (G : wn_G) (ad : Nat → Nat) (X : wn_X) (x2 : Int32) : Int32 × Int32 × Mm → Prop := fun s => PW G S1 ad X 17 [(0, .ref (ad 6)), (2, .int x2), (3, .int s.1), (4, .int s.2.1)] [] s.2.2
def f_X2_planDrawn_b17 (x2 : Int32) (x3 : Int32) (x4 : Int32) (M : Mm) : Option ((Int32 × Int32 × Mm) ⊕ (Mm)) :=
  if (12 : Int32) ≤ x4 then
    ex (
    some M)
  else
    bi ((x3 * (1103515245 : Int32)) + (12345 : Int32)) fun y2 =>
    gd (¬ x2 = 0) inferInstance <|
    gd (bin x4 12 = true) inferInstance <| bm (ms M 27 (Int32.toNatClampNeg x4) (irm (ius y2 (9 : Int32)) x2)) fun M3 =>
    bi (x4 + (1 : Int32)) fun y4 =>
    some (.inl (y2, y4, M3))
set_option maxRecDepth 100000 in
set_option maxHeartbeats 4000000 in
theorem jf_X2_planDrawn_b17 {G : wn_G} {ad : Nat → Nat} {X : wn_X} {d : Nat} (O : Ok G RX2 cX2_planDrawn 5 d X) (hd0 : 1 ≤ d) (x2 : Int32) (x3 : Int32) (x4 : Int32) (M : Mm) : JW G S1 ad X 17 [(0, .ref (ad 6)), (2, .int x2), (3, .int x3), (4, .int x4)] [] M (f_X2_planDrawn_b17 x2 x3 x4 M) (Kl (h_X2_planDrawn_17 G ad X x2) (Krv G S1 ad X)) := by
  unfold f_X2_planDrawn_b17
  refine j_iload (pc := 17) O 3 dX2_planDrawn_17 rfl ?_
  refine j_bipush (pc := 19) (v := 12) O dX2_planDrawn_19 (by decide) ?_
  refine j_icmp_ge (pc := 21) (tgt := 52) O dX2_planDrawn_21 (by decide) ?_ ?_
  · refine jw_ex ?_
    exact j_vret (pc := 52) O dX2_planDrawn_52
  · refine j_iload_n (pc := 24) O 2 dX2_planDrawn_24 rfl ?_
    refine j_ldc (pc := 25) (v := 1103515245) O dX2_planDrawn_25 gk_X2_110 ?_
    refine j_imul (pc := 27) O dX2_planDrawn_27 ?_
    refine j_sipush (pc := 28) (v := 12345) O dX2_planDrawn_28 (by decide) ?_
    refine j_iadd (pc := 31) O dX2_planDrawn_31 ?_
    refine jw_bi fun y2 => ?_
    refine j_istore_n (pc := 32) (L' := [(3, .int y2), (0, .ref (ad 6)), (2, .int x2), (4, .int x4)]) O dX2_planDrawn_32 (by decide) rfl ?_
    refine j_aload_n (pc := 33) O 1 dX2_planDrawn_33 rfl ?_
    refine j_getf (pc := 34) (v := .ref (ad 27)) O 6 5 dX2_planDrawn_34 fl_X2_18 so_S1_6 rfl rfl ?_
    refine j_iload (pc := 37) O 3 dX2_planDrawn_37 rfl ?_
    refine j_iload_n (pc := 39) O 0 dX2_planDrawn_39 rfl ?_
    refine j_bipush (pc := 40) (v := 9) O dX2_planDrawn_40 (by decide) ?_
    refine j_iushr (pc := 42) O dX2_planDrawn_42 ?_
    refine j_iload_n (pc := 43) O 2 dX2_planDrawn_43 rfl ?_
    refine j_irem (pc := 44) O dX2_planDrawn_44 ?_
    refine j_iast (pc := 45) O 27 dX2_planDrawn_45 so_S1_27 (fun M3 => ?_)
    refine j_iinc (pc := 46) (v := 1) (L2 := fun y => [(4, .int y), (3, .int y2), (0, .ref (ad 6)), (2, .int x2)]) O 3 dX2_planDrawn_46 rfl (by decide) (by decide) (fun _ => rfl) (fun y4 => ?_)
    refine j_goto (pc := 49) (tgt := 17) O dX2_planDrawn_49 (by decide) ?_
    exact jw_next (fun hh => pw_sub [2, 3, 1, 0] rfl hh)
def f_X2_planDrawn (x1 : Int32) (M : Mm) : Option (Mm) :=
  bi (imx (1 : Int32) (M.1 1 3)) fun y1 =>
  iter (fun s => f_X2_planDrawn_b17 y1 s.1 s.2.1 s.2.2) fuel (x1, (0 : Int32), M)
set_option maxRecDepth 100000 in
set_option maxHeartbeats 4000000 in
theorem jf_X2_planDrawn {G : wn_G} {ad : Nat → Nat} {X : wn_X} {d : Nat} (O : Ok G RX2 cX2_planDrawn 5 d X) (hd0 : 1 ≤ d) (x1 : Int32) (M : Mm) : JW G S1 ad X 0 [(0, .ref (ad 6)), (1, .int x1)] [] M (f_X2_planDrawn x1 M) (Krv G S1 ad X) := by
  unfold f_X2_planDrawn
  refine j_iconst (pc := 0) (v := 1) O dX2_planDrawn_0 (by decide) ?_
  refine j_aload_n (pc := 1) O 0 dX2_planDrawn_1 rfl ?_
  refine j_getf (pc := 2) (v := .ref (ad 1)) O 6 0 dX2_planDrawn_2 fl_X2_36 so_S1_6 rfl rfl ?_
  refine j_getf (pc := 5) (v := .int (M.1 1 3)) O 1 3 dX2_planDrawn_5 fl_X2_104 so_S1_1 rfl rfl ?_
  refine j_max (pc := 8) O dX2_planDrawn_8 gl_X2_92 gt_Math_max gi_java_lang_Math gc_Math_max (Nat.le_trans (Nat.le_of_ble_eq_true rfl) hd0) (Nat.le_of_ble_eq_true rfl) ?_
  refine jw_bi fun y1 => ?_
  refine j_istore_n (pc := 11) (L' := [(2, .int y1), (0, .ref (ad 6)), (1, .int x1)]) O dX2_planDrawn_11 (by decide) rfl ?_
  refine j_iload_n (pc := 12) O 2 dX2_planDrawn_12 rfl ?_
  refine j_istore_n (pc := 13) (L' := [(3, .int x1), (2, .int y1), (0, .ref (ad 6)), (1, .int x1)]) O dX2_planDrawn_13 (by decide) rfl ?_
  refine j_iconst (pc := 14) (v := 0) O dX2_planDrawn_14 (by decide) ?_
  refine j_istore (pc := 15) (L' := [(4, .int (0 : Int32)), (3, .int x1), (2, .int y1), (0, .ref (ad 6)), (1, .int x1)]) O dX2_planDrawn_15 (by decide) rfl ?_
  exact jw_iter (hd := h_X2_planDrawn_17 G ad X y1) (fun hh => pw_sub [3, 2, 1, 0] rfl hh) (fun s => jf_X2_planDrawn_b17 O hd0 y1 s.1 s.2.1 s.2.2)
theorem sp_X2_planDrawn {G : wn_G} {ad : Nat → Nat} {x1 : Int32} {M M1 : Mm} (h : f_X2_planDrawn x1 M = some M1) : Sp G S1 ad mX2_planDrawn 1 [.ref (ad 6), .int x1] M M1 none :=
  sp_intro (own := RX2) (by decide +kernel) rfl (Nat.le_of_ble_eq_true rfl) (fun X O T => jf_X2_planDrawn O (Nat.le_refl _) x1 M M1 h T)
def f_X5_drawn (x1 : Int32) (M : Mm) : Option (Int64 × Mm) :=
  if (1 : Int32) ≤ (M.1 1 3) then
    bv (f_X2_lay (M.1 1 1) M) fun M1 =>
    bv (f_X2_planDrawn x1 M1) fun M2 =>
    bv (f_X2_run (0 : Int32) M2) fun M3 =>
    some ((Int32.toInt64 (M3.1 6 12)), M3)
  else
    some ((-4611686018427387904 : Int64), M)
set_option maxRecDepth 100000 in
set_option maxHeartbeats 4000000 in
theorem jf_X5_drawn {G : wn_G} {ad : Nat → Nat} {X : wn_X} {d : Nat} (O : Ok G RX5 cX5_drawn 2 d X) (hd0 : 7 ≤ d) (x1 : Int32) (M : Mm) : JW G S1 ad X 0 [(0, .ref (ad 0)), (1, .int x1)] [] M (f_X5_drawn x1 M) (Krl G S1 ad X) := by
  unfold f_X5_drawn
  refine j_aload_n (pc := 0) O 0 dX5_drawn_0 rfl ?_
  refine j_getf (pc := 1) (v := .ref (ad 1)) O 0 0 dX5_drawn_1 fl_X5_10 so_S1_0 rfl rfl ?_
  refine j_getf (pc := 4) (v := .int (M.1 1 3)) O 1 3 dX5_drawn_4 fl_X5_158 so_S1_1 rfl rfl ?_
  refine j_iconst (pc := 7) (v := 1) O dX5_drawn_7 (by decide) ?_
  refine j_icmp_ge (pc := 8) (tgt := 15) O dX5_drawn_8 (by decide) ?_ ?_
  · refine j_aload_n (pc := 15) O 0 dX5_drawn_15 rfl ?_
    refine j_getf (pc := 16) (v := .ref (ad 6)) O 0 6 dX5_drawn_16 fl_X5_45 so_S1_0 rfl rfl ?_
    refine j_aload_n (pc := 19) O 0 dX5_drawn_19 rfl ?_
    refine j_getf (pc := 20) (v := .ref (ad 1)) O 0 0 dX5_drawn_20 fl_X5_10 so_S1_0 rfl rfl ?_
    refine j_getf (pc := 23) (v := .int (M.1 1 1)) O 1 1 dX5_drawn_23 fl_X5_97 so_S1_1 rfl rfl ?_
    refine j_callVv (pc := 26) (dc := 4) (As := [.int (M.1 1 1)]) (rest := []) O 6 (fun M1 h => sp_X2_lay h) dX5_drawn_26 mv_X2_lay lm_X5_101 so_S1_6 rfl rfl (Nat.le_of_ble_eq_true rfl) (Nat.le_trans (Nat.le_of_ble_eq_true rfl) hd0) (fun M1 => ?_)
    refine j_aload_n (pc := 29) O 0 dX5_drawn_29 rfl ?_
    refine j_getf (pc := 30) (v := .ref (ad 6)) O 0 6 dX5_drawn_30 fl_X5_45 so_S1_0 rfl rfl ?_
    refine j_iload_n (pc := 33) O 1 dX5_drawn_33 rfl ?_
    refine j_callVv (pc := 34) (dc := 1) (As := [.int x1]) (rest := []) O 6 (fun M1 h => sp_X2_planDrawn h) dX5_drawn_34 mv_X2_planDrawn lm_X5_199 so_S1_6 rfl rfl (Nat.le_of_ble_eq_true rfl) (Nat.le_trans (Nat.le_of_ble_eq_true rfl) hd0) (fun M2 => ?_)
    refine j_aload_n (pc := 37) O 0 dX5_drawn_37 rfl ?_
    refine j_getf (pc := 38) (v := .ref (ad 6)) O 0 6 dX5_drawn_38 fl_X5_45 so_S1_0 rfl rfl ?_
    refine j_iconst (pc := 41) (v := 0) O dX5_drawn_41 (by decide) ?_
    refine j_callVv (pc := 42) (dc := 6) (As := [.int (0 : Int32)]) (rest := []) O 6 (fun M1 h => sp_X2_run h) dX5_drawn_42 mv_X2_run lm_X5_149 so_S1_6 rfl rfl (Nat.le_of_ble_eq_true rfl) (Nat.le_trans (Nat.le_of_ble_eq_true rfl) hd0) (fun M3 => ?_)
    refine j_aload_n (pc := 45) O 0 dX5_drawn_45 rfl ?_
    refine j_getf (pc := 46) (v := .ref (ad 6)) O 0 6 dX5_drawn_46 fl_X5_45 so_S1_0 rfl rfl ?_
    refine j_getf (pc := 49) (v := .int (M3.1 6 12)) O 6 12 dX5_drawn_49 fl_X5_168 so_S1_6 rfl rfl ?_
    refine j_i2l (pc := 52) O dX5_drawn_52 ?_
    exact j_lret (pc := 53) O dX5_drawn_53
  · refine j_ldc2 (pc := 11) (v := -4611686018427387904) O dX5_drawn_11 gk_X5_174 ?_
    exact j_lret (pc := 14) O dX5_drawn_14
theorem sp_X5_drawn {G : wn_G} {ad : Nat → Nat} {x1 : Int32} {M : Mm} {r : Int64} {M1 : Mm} (h : f_X5_drawn x1 M = some (r, M1)) : Sp G S1 ad mX5_drawn 7 [.ref (ad 0), .int x1] M M1 (some (.long r)) :=
  sp_intro (own := RX5) (by decide +kernel) rfl (Nat.le_of_ble_eq_true rfl) (fun X O T => jf_X5_drawn O (Nat.le_refl _) x1 M (r, M1) h T)
def h_X6_draws_4 (G : wn_G) (ad : Nat → Nat) (X : wn_X) : Int32 × Int32 × Mm → Prop := fun s => PW G S2 ad X 4 [(0, .ref (ad 0)), (2, .int s.1), (3, .int s.2.1)] [] s.2.2
def f_X6_draws_b4 (x2 : Int32) (x3 : Int32) (M : Mm) : Option ((Int32 × Int32 × Mm) ⊕ (Int32 × Mm)) :=
  if (M.1 0 7) ≤ x3 then
    ex (
    bv (f_X6_sups (4 : Int32) (M.1 0 7) M) fun M1 =>
    some ((M1.1 0 36), M1))
  else
    bi ((x2 * (1103515245 : Int32)) + (12345 : Int32)) fun y2 =>
    gd (¬ (M.1 0 13) = 0) inferInstance <|
    gd (bin x3 12 = true) inferInstance <| bm (ms M 13 (Int32.toNatClampNeg x3) (irm (ius y2 (9 : Int32)) (M.1 0 13))) fun M3 =>
    bi (x3 + (1 : Int32)) fun y4 =>
    some (.inl (y2, y4, M3))
set_option maxRecDepth 100000 in
set_option maxHeartbeats 4000000 in
theorem jf_X6_draws_b4 {G : wn_G} {ad : Nat → Nat} {X : wn_X} {d : Nat} (O : Ok G RX6 cX6_draws 4 d X) (hd0 : 112 ≤ d) (x2 : Int32) (x3 : Int32) (M : Mm) : JW G S2 ad X 4 [(0, .ref (ad 0)), (2, .int x2), (3, .int x3)] [] M (f_X6_draws_b4 x2 x3 M) (Kl (h_X6_draws_4 G ad X) (Kri G S2 ad X)) := by
  unfold f_X6_draws_b4
  refine j_iload_n (pc := 4) O 2 dX6_draws_4 rfl ?_
  refine j_aload_n (pc := 5) O 0 dX6_draws_5 rfl ?_
  refine j_getf (pc := 6) (v := .int (M.1 0 7)) O 0 7 dX6_draws_6 fl_X6_23 so_S2_0 rfl rfl ?_
  refine j_icmp_ge (pc := 9) (tgt := 43) O dX6_draws_9 (by decide) ?_ ?_
  · refine jw_ex ?_
    refine j_aload_n (pc := 43) O 0 dX6_draws_43 rfl ?_
    refine j_iconst (pc := 44) (v := 4) O dX6_draws_44 (by decide) ?_
    refine j_aload_n (pc := 45) O 0 dX6_draws_45 rfl ?_
    refine j_getf (pc := 46) (v := .int (M.1 0 7)) O 0 7 dX6_draws_46 fl_X6_23 so_S2_0 rfl rfl ?_
    refine j_callVv (pc := 49) (dc := 111) (As := [.int (4 : Int32), .int (M.1 0 7)]) (rest := []) O 0 (fun M1 h => sp_X6_sups h) dX6_draws_49 mv_X6_sups lm_X6_310 so_S2_0 rfl rfl (Nat.le_of_ble_eq_true rfl) (Nat.le_trans (Nat.le_of_ble_eq_true rfl) hd0) (fun M1 => ?_)
    refine j_aload_n (pc := 52) O 0 dX6_draws_52 rfl ?_
    refine j_getf (pc := 53) (v := .int (M1.1 0 36)) O 0 36 dX6_draws_53 fl_X6_272 so_S2_0 rfl rfl ?_
    exact j_iret (pc := 56) O dX6_draws_56
  · refine j_iload_n (pc := 12) O 1 dX6_draws_12 rfl ?_
    refine j_ldcw (pc := 13) (v := 1103515245) O dX6_draws_13 gk_X6_343 ?_
    refine j_imul (pc := 16) O dX6_draws_16 ?_
    refine j_sipush (pc := 17) (v := 12345) O dX6_draws_17 (by decide) ?_
    refine j_iadd (pc := 20) O dX6_draws_20 ?_
    refine jw_bi fun y2 => ?_
    refine j_istore_n (pc := 21) (L' := [(2, .int y2), (0, .ref (ad 0)), (3, .int x3)]) O dX6_draws_21 (by decide) rfl ?_
    refine j_aload_n (pc := 22) O 1 dX6_draws_22 rfl ?_
    refine j_getf (pc := 23) (v := .ref (ad 13)) O 0 35 dX6_draws_23 fl_X6_59 so_S2_0 rfl rfl ?_
    refine j_iload_n (pc := 26) O 2 dX6_draws_26 rfl ?_
    refine j_iload_n (pc := 27) O 0 dX6_draws_27 rfl ?_
    refine j_bipush (pc := 28) (v := 9) O dX6_draws_28 (by decide) ?_
    refine j_iushr (pc := 30) O dX6_draws_30 ?_
    refine j_aload_n (pc := 31) O 1 dX6_draws_31 rfl ?_
    refine j_getf (pc := 32) (v := .int (M.1 0 13)) O 0 13 dX6_draws_32 fl_X6_91 so_S2_0 rfl rfl ?_
    refine j_irem (pc := 35) O dX6_draws_35 ?_
    refine j_iast (pc := 36) O 13 dX6_draws_36 so_S2_13 (fun M3 => ?_)
    refine j_iinc (pc := 37) (v := 1) (L2 := fun y => [(3, .int y), (2, .int y2), (0, .ref (ad 0))]) O 2 dX6_draws_37 rfl (by decide) (by decide) (fun _ => rfl) (fun y4 => ?_)
    refine j_goto (pc := 40) (tgt := 4) O dX6_draws_40 (by decide) ?_
    exact jw_next (fun hh => pw_sub [2, 1, 0] rfl hh)
def f_X6_draws (x1 : Int32) (M : Mm) : Option (Int32 × Mm) :=
  iter (fun s => f_X6_draws_b4 s.1 s.2.1 s.2.2) fuel (x1, (0 : Int32), M)
set_option maxRecDepth 100000 in
set_option maxHeartbeats 4000000 in
theorem jf_X6_draws {G : wn_G} {ad : Nat → Nat} {X : wn_X} {d : Nat} (O : Ok G RX6 cX6_draws 4 d X) (hd0 : 112 ≤ d) (x1 : Int32) (M : Mm) : JW G S2 ad X 0 [(0, .ref (ad 0)), (1, .int x1)] [] M (f_X6_draws x1 M) (Kri G S2 ad X) := by
  unfold f_X6_draws
  refine j_iload_n (pc := 0) O 1 dX6_draws_0 rfl ?_
  refine j_istore_n (pc := 1) (L' := [(2, .int x1), (0, .ref (ad 0)), (1, .int x1)]) O dX6_draws_1 (by decide) rfl ?_
  refine j_iconst (pc := 2) (v := 0) O dX6_draws_2 (by decide) ?_
  refine j_istore_n (pc := 3) (L' := [(3, .int (0 : Int32)), (2, .int x1), (0, .ref (ad 0)), (1, .int x1)]) O dX6_draws_3 (by decide) rfl ?_
  exact jw_iter (hd := h_X6_draws_4 G ad X) (fun hh => pw_sub [2, 1, 0] rfl hh) (fun s => jf_X6_draws_b4 O hd0 s.1 s.2.1 s.2.2)
theorem sp_X6_draws {G : wn_G} {ad : Nat → Nat} {x1 : Int32} {M : Mm} {r : Int32} {M1 : Mm} (h : f_X6_draws x1 M = some (r, M1)) : Sp G S2 ad mX6_draws 112 [.ref (ad 0), .int x1] M M1 (some (.int r)) :=
  sp_intro (own := RX6) (by decide +kernel) rfl (Nat.le_of_ble_eq_true rfl) (fun X O T => jf_X6_draws O (Nat.le_refl _) x1 M (r, M1) h T)
def f_X6_drawn (x1 : Int32) (M : Mm) : Option (Int64 × Mm) :=
  if (M.1 0 13) = 0 then
    some ((-4611686018427387904 : Int64), M)
  else
    bd (f_X6_draws x1 M) fun r2 M1 =>
    some ((Int32.toInt64 r2), M1)
set_option maxRecDepth 100000 in
set_option maxHeartbeats 4000000 in
theorem jf_X6_drawn {G : wn_G} {ad : Nat → Nat} {X : wn_X} {d : Nat} (O : Ok G RX6 cX6_drawn 2 d X) (hd0 : 113 ≤ d) (x1 : Int32) (M : Mm) : JW G S2 ad X 0 [(0, .ref (ad 0)), (1, .int x1)] [] M (f_X6_drawn x1 M) (Krl G S2 ad X) := by
  unfold f_X6_drawn
  refine j_aload_n (pc := 0) O 0 dX6_drawn_0 rfl ?_
  refine j_getf (pc := 1) (v := .int (M.1 0 13)) O 0 13 dX6_drawn_1 fl_X6_91 so_S2_0 rfl rfl ?_
  refine j_if_ne (pc := 4) (tgt := 13) O dX6_drawn_4 (by decide) ?_ ?_
  · refine j_ldc2 (pc := 7) (v := -4611686018427387904) O dX6_drawn_7 gk_X6_332 ?_
    refine j_goto (pc := 10) (tgt := 19) O dX6_drawn_10 (by decide) ?_
    exact j_lret (pc := 19) O dX6_drawn_19
  · refine j_aload_n (pc := 13) O 0 dX6_drawn_13 rfl ?_
    refine j_iload_n (pc := 14) O 1 dX6_drawn_14 rfl ?_
    refine j_callVi (pc := 15) (dc := 112) (As := [.int x1]) (rest := []) O 0 (fun r M1 h => sp_X6_draws h) dX6_drawn_15 mv_X6_draws lm_X6_344 so_S2_0 rfl rfl (Nat.le_of_ble_eq_true rfl) (Nat.le_trans (Nat.le_of_ble_eq_true rfl) hd0) (fun r2 M1 => ?_)
    refine j_i2l (pc := 18) O dX6_drawn_18 ?_
    exact j_lret (pc := 19) O dX6_drawn_19
theorem sp_X6_drawn {G : wn_G} {ad : Nat → Nat} {x1 : Int32} {M : Mm} {r : Int64} {M1 : Mm} (h : f_X6_drawn x1 M = some (r, M1)) : Sp G S2 ad mX6_drawn 113 [.ref (ad 0), .int x1] M M1 (some (.long r)) :=
  sp_intro (own := RX6) (by decide +kernel) rfl (Nat.le_of_ble_eq_true rfl) (fun X O T => jf_X6_drawn O (Nat.le_refl _) x1 M (r, M1) h T)
def h_X5_commonDivisor_7 (G : wn_G) (ad : Nat → Nat) (X : wn_X) : Int32 × Int32 × Int32 × Mm → Prop := fun s => PW G S1 ad X 7 [(2, .int s.1), (3, .int s.2.1), (4, .int s.2.2.1)] [] s.2.2.2
def f_X5_commonDivisor_b7 (x2 : Int32) (x3 : Int32) (x4 : Int32) (M : Mm) : Option ((Int32 × Int32 × Int32 × Mm) ⊕ (Int32 × Mm)) :=
  if (64 : Int32) ≤ x4 then
    ex (
    some (x2, M))
  else
    if x3 = 0 then
      ex (
      some (x2, M))
    else
      gd (¬ x3 = 0) inferInstance <|
      bi (irm x2 x3) fun y1 =>
      bi (x4 + (1 : Int32)) fun y2 =>
      some (.inl (x3, y1, y2, M))
set_option maxRecDepth 100000 in
set_option maxHeartbeats 4000000 in
theorem jf_X5_commonDivisor_b7 {G : wn_G} {ad : Nat → Nat} {X : wn_X} {d : Nat} (O : Ok G RX5 cX5_commonDivisor 6 d X) (hd0 : 1 ≤ d) (x2 : Int32) (x3 : Int32) (x4 : Int32) (M : Mm) : JW G S1 ad X 7 [(2, .int x2), (3, .int x3), (4, .int x4)] [] M (f_X5_commonDivisor_b7 x2 x3 x4 M) (Kl (h_X5_commonDivisor_7 G ad X) (Kri G S1 ad X)) := by
  unfold f_X5_commonDivisor_b7
  refine j_iload (pc := 7) O 2 dX5_commonDivisor_7 rfl ?_
  refine j_bipush (pc := 9) (v := 64) O dX5_commonDivisor_9 (by decide) ?_
  refine j_icmp_ge (pc := 11) (tgt := 34) O dX5_commonDivisor_11 (by decide) ?_ ?_
  · refine jw_ex ?_
    refine j_iload_n (pc := 34) O 0 dX5_commonDivisor_34 rfl ?_
    exact j_iret (pc := 35) O dX5_commonDivisor_35
  · refine j_iload_n (pc := 14) O 1 dX5_commonDivisor_14 rfl ?_
    refine j_if_eq (pc := 15) (tgt := 34) O dX5_commonDivisor_15 (by decide) ?_ ?_
    · refine jw_ex ?_
      refine j_iload_n (pc := 34) O 0 dX5_commonDivisor_34 rfl ?_
      exact j_iret (pc := 35) O dX5_commonDivisor_35
    · refine j_iload_n (pc := 18) O 0 dX5_commonDivisor_18 rfl ?_
      refine j_iload_n (pc := 19) O 1 dX5_commonDivisor_19 rfl ?_
      refine j_irem (pc := 20) O dX5_commonDivisor_20 ?_
      refine jw_bi fun y1 => ?_
      refine j_istore (pc := 21) (L' := [(5, .int y1), (2, .int x2), (3, .int x3), (4, .int x4)]) O dX5_commonDivisor_21 (by decide) rfl ?_
      refine j_iload_n (pc := 23) O 2 dX5_commonDivisor_23 rfl ?_
      refine j_istore_n (pc := 24) (L' := [(2, .int x3), (5, .int y1), (3, .int x3), (4, .int x4)]) O dX5_commonDivisor_24 (by decide) rfl ?_
      refine j_iload (pc := 25) O 1 dX5_commonDivisor_25 rfl ?_
      refine j_istore_n (pc := 27) (L' := [(3, .int y1), (2, .int x3), (5, .int y1), (4, .int x4)]) O dX5_commonDivisor_27 (by decide) rfl ?_
      refine j_iinc (pc := 28) (v := 1) (L2 := fun y => [(4, .int y), (3, .int y1), (2, .int x3), (5, .int y1)]) O 3 dX5_commonDivisor_28 rfl (by decide) (by decide) (fun _ => rfl) (fun y2 => ?_)
      refine j_goto (pc := 31) (tgt := 7) O dX5_commonDivisor_31 (by decide) ?_
      exact jw_next (fun hh => pw_sub [2, 1, 0] rfl hh)
def f_X5_commonDivisor (x0 : Int32) (x1 : Int32) (M : Mm) : Option (Int32 × Mm) :=
  iter (fun s => f_X5_commonDivisor_b7 s.1 s.2.1 s.2.2.1 s.2.2.2) fuel (x0, x1, (0 : Int32), M)
set_option maxRecDepth 100000 in
set_option maxHeartbeats 4000000 in
theorem jf_X5_commonDivisor {G : wn_G} {ad : Nat → Nat} {X : wn_X} {d : Nat} (O : Ok G RX5 cX5_commonDivisor 6 d X) (hd0 : 1 ≤ d) (x0 : Int32) (x1 : Int32) (M : Mm) : JW G S1 ad X 0 [(0, .int x0), (1, .int x1)] [] M (f_X5_commonDivisor x0 x1 M) (Kri G S1 ad X) := by
  unfold f_X5_commonDivisor
  refine j_iload_n (pc := 0) O 0 dX5_commonDivisor_0 rfl ?_
  refine j_istore_n (pc := 1) (L' := [(2, .int x0), (0, .int x0), (1, .int x1)]) O dX5_commonDivisor_1 (by decide) rfl ?_
  refine j_iload_n (pc := 2) O 2 dX5_commonDivisor_2 rfl ?_
  refine j_istore_n (pc := 3) (L' := [(3, .int x1), (2, .int x0), (0, .int x0), (1, .int x1)]) O dX5_commonDivisor_3 (by decide) rfl ?_
  refine j_iconst (pc := 4) (v := 0) O dX5_commonDivisor_4 (by decide) ?_
  refine j_istore (pc := 5) (L' := [(4, .int (0 : Int32)), (3, .int x1), (2, .int x0), (0, .int x0), (1, .int x1)]) O dX5_commonDivisor_5 (by decide) rfl ?_
  exact jw_iter (hd := h_X5_commonDivisor_7 G ad X) (fun hh => pw_sub [2, 1, 0] rfl hh) (fun s => jf_X5_commonDivisor_b7 O hd0 s.1 s.2.1 s.2.2.1 s.2.2.2)
theorem sp_X5_commonDivisor {G : wn_G} {ad : Nat → Nat} {x0 : Int32} {x1 : Int32} {M : Mm} {r : Int32} {M1 : Mm} (h : f_X5_commonDivisor x0 x1 M = some (r, M1)) : Sp G S1 ad mX5_commonDivisor 1 [.int x0, .int x1] M M1 (some (.int r)) :=
  sp_intro (own := RX5) (by decide +kernel) rfl (Nat.le_of_ble_eq_true rfl) (fun X O T => jf_X5_commonDivisor O (Nat.le_refl _) x0 x1 M (r, M1) h T)
def h_X5_chance_72 (G : wn_G) (ad : Nat → Nat) (X : wn_X) (x1 : Int32) (x2 : Int32) (x3 : Int32) (x4 : Int32) : Int32 × Int32 × Mm → Prop := fun s => PW G S1 ad X 72 [(0, .ref (ad 0)), (1, .int x1), (2, .int x2), (3, .int x3), (4, .int x4), (5, .int s.1), (6, .int s.2.1)] [] s.2.2
def f_X5_chance_b72 (x1 : Int32) (x2 : Int32) (x3 : Int32) (x4 : Int32) (x5 : Int32) (x6 : Int32) (M : Mm) : Option ((Int32 × Int32 × Mm) ⊕ (Int64 × Mm)) :=
  if x2 ≤ x6 then
    ex (
    bd (f_X5_commonDivisor x5 x2 M) fun r5 M4 =>
    bi (imx (1 : Int32) r5) fun y6 =>
    if x3 = 0 then
      gd (¬ y6 = 0) inferInstance <|
      some ((Int32.toInt64 (x5 / y6)), M4)
    else
      gd (¬ y6 = 0) inferInstance <|
      some ((Int32.toInt64 (x2 / y6)), M4))
  else
    bv (f_X2_planDrawn (x1 + x6) M) fun M7 =>
    bv (f_X2_run (0 : Int32) M7) fun M8 =>
    if x4 < (M8.1 6 12) then
      bi (x6 + (1 : Int32)) fun y9 =>
      some (.inl (x5, y9, M8))
    else
      bi (x5 + (1 : Int32)) fun y10 =>
      bi (x6 + (1 : Int32)) fun y11 =>
      some (.inl (y10, y11, M8))
set_option maxRecDepth 100000 in
set_option maxHeartbeats 4000000 in
theorem jf_X5_chance_b72 {G : wn_G} {ad : Nat → Nat} {X : wn_X} {d : Nat} (O : Ok G RX5 cX5_chance 7 d X) (hd0 : 7 ≤ d) (x1 : Int32) (x2 : Int32) (x3 : Int32) (x4 : Int32) (x5 : Int32) (x6 : Int32) (M : Mm) : JW G S1 ad X 72 [(0, .ref (ad 0)), (1, .int x1), (2, .int x2), (3, .int x3), (4, .int x4), (5, .int x5), (6, .int x6)] [] M (f_X5_chance_b72 x1 x2 x3 x4 x5 x6 M) (Kl (h_X5_chance_72 G ad X x1 x2 x3 x4) (Krl G S1 ad X)) := by
  unfold f_X5_chance_b72
  refine j_iload (pc := 72) O 6 dX5_chance_72 rfl ?_
  refine j_iload_n (pc := 74) O 2 dX5_chance_74 rfl ?_
  refine j_icmp_ge (pc := 75) (tgt := 118) O dX5_chance_75 (by decide) ?_ ?_
  · refine jw_ex ?_
    refine j_iconst (pc := 118) (v := 1) O dX5_chance_118 (by decide) ?_
    refine j_iload (pc := 119) O 5 dX5_chance_119 rfl ?_
    refine j_iload_n (pc := 121) O 2 dX5_chance_121 rfl ?_
    refine j_callSi (pc := 122) (dc := 1) (As := [.int x5, .int x2]) (rest := [.int (1 : Int32)]) O (fun r M1 h => sp_X5_commonDivisor h) dX5_chance_122 mst_X5_commonDivisor lm_X5_202 rfl rfl (Nat.le_of_ble_eq_true rfl) (Nat.le_trans (Nat.le_of_ble_eq_true rfl) hd0) (fun r5 M4 => ?_)
    refine j_max (pc := 125) O dX5_chance_125 gl_X5_205 gt_Math_max gi_java_lang_Math gc_Math_max (Nat.le_trans (Nat.le_of_ble_eq_true rfl) hd0) (Nat.le_of_ble_eq_true rfl) ?_
    refine jw_bi fun y6 => ?_
    refine j_istore (pc := 128) (L' := [(6, .int y6), (0, .ref (ad 0)), (1, .int x1), (2, .int x2), (3, .int x3), (4, .int x4), (5, .int x5)]) O dX5_chance_128 (by decide) rfl ?_
    refine j_iload_n (pc := 130) O 4 dX5_chance_130 rfl ?_
    refine j_if_ne (pc := 131) (tgt := 143) O dX5_chance_131 (by decide) ?_ ?_
    · refine j_iload (pc := 134) O 6 dX5_chance_134 rfl ?_
      refine j_iload (pc := 136) O 0 dX5_chance_136 rfl ?_
      refine j_idiv (pc := 138) O dX5_chance_138 ?_
      refine j_i2l (pc := 139) O dX5_chance_139 ?_
      refine j_goto (pc := 140) (tgt := 148) O dX5_chance_140 (by decide) ?_
      exact j_lret (pc := 148) O dX5_chance_148
    · refine j_iload_n (pc := 143) O 3 dX5_chance_143 rfl ?_
      refine j_iload (pc := 144) O 0 dX5_chance_144 rfl ?_
      refine j_idiv (pc := 146) O dX5_chance_146 ?_
      refine j_i2l (pc := 147) O dX5_chance_147 ?_
      exact j_lret (pc := 148) O dX5_chance_148
  · refine j_aload_n (pc := 78) O 0 dX5_chance_78 rfl ?_
    refine j_getf (pc := 79) (v := .ref (ad 6)) O 0 6 dX5_chance_79 fl_X5_45 so_S1_0 rfl rfl ?_
    refine j_iload_n (pc := 82) O 1 dX5_chance_82 rfl ?_
    refine j_iload (pc := 83) O 6 dX5_chance_83 rfl ?_
    refine j_iadd (pc := 85) O dX5_chance_85 ?_
    refine j_callVv (pc := 86) (dc := 1) (As := [.int (x1 + x6)]) (rest := []) O 6 (fun M1 h => sp_X2_planDrawn h) dX5_chance_86 mv_X2_planDrawn lm_X5_199 so_S1_6 rfl rfl (Nat.le_of_ble_eq_true rfl) (Nat.le_trans (Nat.le_of_ble_eq_true rfl) hd0) (fun M7 => ?_)
    refine j_aload_n (pc := 89) O 0 dX5_chance_89 rfl ?_
    refine j_getf (pc := 90) (v := .ref (ad 6)) O 0 6 dX5_chance_90 fl_X5_45 so_S1_0 rfl rfl ?_
    refine j_iconst (pc := 93) (v := 0) O dX5_chance_93 (by decide) ?_
    refine j_callVv (pc := 94) (dc := 6) (As := [.int (0 : Int32)]) (rest := []) O 6 (fun M1 h => sp_X2_run h) dX5_chance_94 mv_X2_run lm_X5_149 so_S1_6 rfl rfl (Nat.le_of_ble_eq_true rfl) (Nat.le_trans (Nat.le_of_ble_eq_true rfl) hd0) (fun M8 => ?_)
    refine j_aload_n (pc := 97) O 0 dX5_chance_97 rfl ?_
    refine j_getf (pc := 98) (v := .ref (ad 6)) O 0 6 dX5_chance_98 fl_X5_45 so_S1_0 rfl rfl ?_
    refine j_getf (pc := 101) (v := .int (M8.1 6 12)) O 6 12 dX5_chance_101 fl_X5_168 so_S1_6 rfl rfl ?_
    refine j_iload (pc := 104) O 4 dX5_chance_104 rfl ?_
    refine j_icmp_gt (pc := 106) (tgt := 112) O dX5_chance_106 (by decide) ?_ ?_
    · refine j_iinc (pc := 112) (v := 1) (L2 := fun y => [(6, .int y), (0, .ref (ad 0)), (1, .int x1), (2, .int x2), (3, .int x3), (4, .int x4), (5, .int x5)]) O 6 dX5_chance_112 rfl (by decide) (by decide) (fun _ => rfl) (fun y9 => ?_)
      refine j_goto (pc := 115) (tgt := 72) O dX5_chance_115 (by decide) ?_
      exact jw_next (fun hh => pw_sub [1, 2, 3, 4, 5, 6, 0] rfl hh)
    · refine j_iinc (pc := 109) (v := 1) (L2 := fun y => [(5, .int y), (0, .ref (ad 0)), (1, .int x1), (2, .int x2), (3, .int x3), (4, .int x4), (6, .int x6)]) O 5 dX5_chance_109 rfl (by decide) (by decide) (fun _ => rfl) (fun y10 => ?_)
      refine j_iinc (pc := 112) (v := 1) (L2 := fun y => [(6, .int y), (5, .int y10), (0, .ref (ad 0)), (1, .int x1), (2, .int x2), (3, .int x3), (4, .int x4)]) O 6 dX5_chance_112 rfl (by decide) (by decide) (fun _ => rfl) (fun y11 => ?_)
      refine j_goto (pc := 115) (tgt := 72) O dX5_chance_115 (by decide) ?_
      exact jw_next (fun hh => pw_sub [2, 3, 4, 5, 6, 1, 0] rfl hh)
def f_X5_chance_j20 (x1 : Int32) (x2 : Int32) (x3 : Int32) (M : Mm) : Option (Int64 × Mm) :=
  if (1 : Int32) ≤ (M.1 1 3) then
    bv (f_X2_lay (M.1 1 1) M) fun M1 =>
    bv (f_X2_run (1 : Int32) M1) fun M2 =>
    bi (M2.1 6 12) fun y3 =>
    iter (fun s => f_X5_chance_b72 x1 x2 x3 y3 s.1 s.2.1 s.2.2) fuel ((0 : Int32), (0 : Int32), M2)
  else
    some ((-4611686018427387904 : Int64), M)
set_option maxRecDepth 100000 in
set_option maxHeartbeats 4000000 in
theorem jf_X5_chance_j20 {G : wn_G} {ad : Nat → Nat} {X : wn_X} {d : Nat} (O : Ok G RX5 cX5_chance 7 d X) (hd0 : 7 ≤ d) (x1 : Int32) (x2 : Int32) (x3 : Int32) (M : Mm) : JW G S1 ad X 20 [(0, .ref (ad 0)), (1, .int x1), (2, .int x2), (3, .int x3)] [] M (f_X5_chance_j20 x1 x2 x3 M) (Krl G S1 ad X) := by
  unfold f_X5_chance_j20
  refine j_aload_n (pc := 20) O 0 dX5_chance_20 rfl ?_
  refine j_getf (pc := 21) (v := .ref (ad 1)) O 0 0 dX5_chance_21 fl_X5_10 so_S1_0 rfl rfl ?_
  refine j_getf (pc := 24) (v := .int (M.1 1 3)) O 1 3 dX5_chance_24 fl_X5_158 so_S1_1 rfl rfl ?_
  refine j_iconst (pc := 27) (v := 1) O dX5_chance_27 (by decide) ?_
  refine j_icmp_ge (pc := 28) (tgt := 35) O dX5_chance_28 (by decide) ?_ ?_
  · refine j_aload_n (pc := 35) O 0 dX5_chance_35 rfl ?_
    refine j_getf (pc := 36) (v := .ref (ad 6)) O 0 6 dX5_chance_36 fl_X5_45 so_S1_0 rfl rfl ?_
    refine j_aload_n (pc := 39) O 0 dX5_chance_39 rfl ?_
    refine j_getf (pc := 40) (v := .ref (ad 1)) O 0 0 dX5_chance_40 fl_X5_10 so_S1_0 rfl rfl ?_
    refine j_getf (pc := 43) (v := .int (M.1 1 1)) O 1 1 dX5_chance_43 fl_X5_97 so_S1_1 rfl rfl ?_
    refine j_callVv (pc := 46) (dc := 4) (As := [.int (M.1 1 1)]) (rest := []) O 6 (fun M1 h => sp_X2_lay h) dX5_chance_46 mv_X2_lay lm_X5_101 so_S1_6 rfl rfl (Nat.le_of_ble_eq_true rfl) (Nat.le_trans (Nat.le_of_ble_eq_true rfl) hd0) (fun M1 => ?_)
    refine j_aload_n (pc := 49) O 0 dX5_chance_49 rfl ?_
    refine j_getf (pc := 50) (v := .ref (ad 6)) O 0 6 dX5_chance_50 fl_X5_45 so_S1_0 rfl rfl ?_
    refine j_iconst (pc := 53) (v := 1) O dX5_chance_53 (by decide) ?_
    refine j_callVv (pc := 54) (dc := 6) (As := [.int (1 : Int32)]) (rest := []) O 6 (fun M1 h => sp_X2_run h) dX5_chance_54 mv_X2_run lm_X5_149 so_S1_6 rfl rfl (Nat.le_of_ble_eq_true rfl) (Nat.le_trans (Nat.le_of_ble_eq_true rfl) hd0) (fun M2 => ?_)
    refine j_aload_n (pc := 57) O 0 dX5_chance_57 rfl ?_
    refine j_getf (pc := 58) (v := .ref (ad 6)) O 0 6 dX5_chance_58 fl_X5_45 so_S1_0 rfl rfl ?_
    refine j_getf (pc := 61) (v := .int (M2.1 6 12)) O 6 12 dX5_chance_61 fl_X5_168 so_S1_6 rfl rfl ?_
    refine jw_bi fun y3 => ?_
    refine j_istore (pc := 64) (L' := [(4, .int y3), (0, .ref (ad 0)), (1, .int x1), (2, .int x2), (3, .int x3)]) O dX5_chance_64 (by decide) rfl ?_
    refine j_iconst (pc := 66) (v := 0) O dX5_chance_66 (by decide) ?_
    refine j_istore (pc := 67) (L' := [(5, .int (0 : Int32)), (4, .int y3), (0, .ref (ad 0)), (1, .int x1), (2, .int x2), (3, .int x3)]) O dX5_chance_67 (by decide) rfl ?_
    refine j_iconst (pc := 69) (v := 0) O dX5_chance_69 (by decide) ?_
    refine j_istore (pc := 70) (L' := [(6, .int (0 : Int32)), (5, .int (0 : Int32)), (4, .int y3), (0, .ref (ad 0)), (1, .int x1), (2, .int x2), (3, .int x3)]) O dX5_chance_70 (by decide) rfl ?_
    exact jw_iter (hd := h_X5_chance_72 G ad X x1 x2 x3 y3) (fun hh => pw_sub [3, 4, 5, 6, 2, 1, 0] rfl hh) (fun s => jf_X5_chance_b72 O hd0 x1 x2 x3 y3 s.1 s.2.1 s.2.2)
  · refine j_ldc2 (pc := 31) (v := -4611686018427387904) O dX5_chance_31 gk_X5_174 ?_
    exact j_lret (pc := 34) O dX5_chance_34
def f_X5_chance (x1 : Int32) (x2 : Int32) (x3 : Int32) (M : Mm) : Option (Int64 × Mm) :=
  if x2 < (1 : Int32) then
    some ((-4611686018427387904 : Int64), M)
  else
    if (20 : Int32) < x2 then
      some ((-4611686018427387904 : Int64), M)
    else
      if x3 = 0 then
        f_X5_chance_j20 x1 x2 x3 M
      else
        if x3 = (1 : Int32) then
          f_X5_chance_j20 x1 x2 x3 M
        else
          some ((-4611686018427387904 : Int64), M)
set_option maxRecDepth 100000 in
set_option maxHeartbeats 4000000 in
theorem jf_X5_chance {G : wn_G} {ad : Nat → Nat} {X : wn_X} {d : Nat} (O : Ok G RX5 cX5_chance 7 d X) (hd0 : 7 ≤ d) (x1 : Int32) (x2 : Int32) (x3 : Int32) (M : Mm) : JW G S1 ad X 0 [(0, .ref (ad 0)), (1, .int x1), (2, .int x2), (3, .int x3)] [] M (f_X5_chance x1 x2 x3 M) (Krl G S1 ad X) := by
  unfold f_X5_chance
  refine j_iload_n (pc := 0) O 2 dX5_chance_0 rfl ?_
  refine j_iconst (pc := 1) (v := 1) O dX5_chance_1 (by decide) ?_
  refine j_icmp_lt (pc := 2) (tgt := 31) O dX5_chance_2 (by decide) ?_ ?_
  · refine j_ldc2 (pc := 31) (v := -4611686018427387904) O dX5_chance_31 gk_X5_174 ?_
    exact j_lret (pc := 34) O dX5_chance_34
  · refine j_iload_n (pc := 5) O 2 dX5_chance_5 rfl ?_
    refine j_bipush (pc := 6) (v := 20) O dX5_chance_6 (by decide) ?_
    refine j_icmp_gt (pc := 8) (tgt := 31) O dX5_chance_8 (by decide) ?_ ?_
    · refine j_ldc2 (pc := 31) (v := -4611686018427387904) O dX5_chance_31 gk_X5_174 ?_
      exact j_lret (pc := 34) O dX5_chance_34
    · refine j_iload_n (pc := 11) O 3 dX5_chance_11 rfl ?_
      refine j_if_eq (pc := 12) (tgt := 20) O dX5_chance_12 (by decide) ?_ ?_
      · exact jw_sub [0, 1, 2, 3] rfl (jf_X5_chance_j20 O hd0 x1 x2 x3 M)
      · refine j_iload_n (pc := 15) O 3 dX5_chance_15 rfl ?_
        refine j_iconst (pc := 16) (v := 1) O dX5_chance_16 (by decide) ?_
        refine j_icmp_ne (pc := 17) (tgt := 31) O dX5_chance_17 (by decide) ?_ ?_
        · exact jw_sub [0, 1, 2, 3] rfl (jf_X5_chance_j20 O hd0 x1 x2 x3 M)
        · refine j_ldc2 (pc := 31) (v := -4611686018427387904) O dX5_chance_31 gk_X5_174 ?_
          exact j_lret (pc := 34) O dX5_chance_34
theorem sp_X5_chance {G : wn_G} {ad : Nat → Nat} {x1 : Int32} {x2 : Int32} {x3 : Int32} {M : Mm} {r : Int64} {M1 : Mm} (h : f_X5_chance x1 x2 x3 M = some (r, M1)) : Sp G S1 ad mX5_chance 7 [.ref (ad 0), .int x1, .int x2, .int x3] M M1 (some (.long r)) :=
  sp_intro (own := RX5) (by decide +kernel) rfl (Nat.le_of_ble_eq_true rfl) (fun X O T => jf_X5_chance O (Nat.le_refl _) x1 x2 x3 M (r, M1) h T)
def h_X6_chance_51 (G : wn_G) (ad : Nat → Nat) (X : wn_X) (x1 : Int32) (x2 : Int32) (x3 : Int32) (x4 : Int32) : Int64 × Int32 × Mm → Prop := fun s => PW G S2 ad X 51 [(0, .ref (ad 0)), (1, .int x1), (2, .int x2), (3, .int x3), (4, .int x4), (5, .long s.1), (7, .int s.2.1)] [] s.2.2
def h_X6_chance_94 (G : wn_G) (ad : Nat → Nat) (X : wn_X) (x2 : Int32) (x3 : Int32) (x5 : Int64) : Int64 × Int64 × Mm → Prop := fun s => PW G S2 ad X 94 [(2, .int x2), (3, .int x3), (5, .long x5), (7, .long s.1), (9, .long s.2.1)] [] s.2.2
def f_X6_chance_b94 (x2 : Int32) (x3 : Int32) (x5 : Int64) (x7 : Int64) (x9 : Int64) (M : Mm) : Option ((Int64 × Int64 × Mm) ⊕ (Int64 × Mm)) :=
  if (lg_cmp x9 (0 : Int64)) = 0 then
    ex (
    if x3 = 0 then
      gd (¬ x7 = 0) inferInstance <|
      some ((x5 / x7), M)
    else
      gd (¬ x7 = 0) inferInstance <|
      some (((Int32.toInt64 x2) / x7), M))
  else
    gd (¬ x9 = 0) inferInstance <|
    bl (lrm x7 x9) fun y8 =>
    some (.inl (x9, y8, M))
set_option maxRecDepth 100000 in
set_option maxHeartbeats 4000000 in
theorem jf_X6_chance_b94 {G : wn_G} {ad : Nat → Nat} {X : wn_X} {d : Nat} (O : Ok G RX6 cX6_chance 13 d X) (hd0 : 113 ≤ d) (x2 : Int32) (x3 : Int32) (x5 : Int64) (x7 : Int64) (x9 : Int64) (M : Mm) : JW G S2 ad X 94 [(2, .int x2), (3, .int x3), (5, .long x5), (7, .long x7), (9, .long x9)] [] M (f_X6_chance_b94 x2 x3 x5 x7 x9 M) (Kl (h_X6_chance_94 G ad X x2 x3 x5) (Krl G S2 ad X)) := by
  unfold f_X6_chance_b94
  refine j_lload (pc := 94) O 4 dX6_chance_94 rfl ?_
  refine j_lconst (pc := 96) (v := 0) O dX6_chance_96 (by decide) ?_
  refine j_lcmp (pc := 97) O dX6_chance_97 ?_
  refine j_if_eq (pc := 98) (tgt := 119) O dX6_chance_98 (by decide) ?_ ?_
  · refine jw_ex ?_
    refine j_iload_n (pc := 119) O 1 dX6_chance_119 rfl ?_
    refine j_if_ne (pc := 120) (tgt := 131) O dX6_chance_120 (by decide) ?_ ?_
    · refine j_lload (pc := 123) O 2 dX6_chance_123 rfl ?_
      refine j_lload (pc := 125) O 3 dX6_chance_125 rfl ?_
      refine j_ldiv (pc := 127) O dX6_chance_127 ?_
      refine j_goto (pc := 128) (tgt := 136) O dX6_chance_128 (by decide) ?_
      exact j_lret (pc := 136) O dX6_chance_136
    · refine j_iload_n (pc := 131) O 0 dX6_chance_131 rfl ?_
      refine j_i2l (pc := 132) O dX6_chance_132 ?_
      refine j_lload (pc := 133) O 3 dX6_chance_133 rfl ?_
      refine j_ldiv (pc := 135) O dX6_chance_135 ?_
      exact j_lret (pc := 136) O dX6_chance_136
  · refine j_lload (pc := 101) O 3 dX6_chance_101 rfl ?_
    refine j_lload (pc := 103) O 4 dX6_chance_103 rfl ?_
    refine j_lrem (pc := 105) O dX6_chance_105 ?_
    refine jw_bl fun y8 => ?_
    refine j_lstore (pc := 106) (L' := [(11, .long y8), (2, .int x2), (3, .int x3), (5, .long x5), (7, .long x7), (9, .long x9)]) O dX6_chance_106 (by decide) rfl ?_
    refine j_lload (pc := 108) O 5 dX6_chance_108 rfl ?_
    refine j_lstore (pc := 110) (L' := [(7, .long x9), (11, .long y8), (2, .int x2), (3, .int x3), (5, .long x5), (9, .long x9)]) O dX6_chance_110 (by decide) rfl ?_
    refine j_lload (pc := 112) O 1 dX6_chance_112 rfl ?_
    refine j_lstore (pc := 114) (L' := [(9, .long y8), (7, .long x9), (11, .long y8), (2, .int x2), (3, .int x3), (5, .long x5)]) O dX6_chance_114 (by decide) rfl ?_
    refine j_goto (pc := 116) (tgt := 94) O dX6_chance_116 (by decide) ?_
    exact jw_next (fun hh => pw_sub [3, 4, 5, 1, 0] rfl hh)
def f_X6_chance_b51 (x1 : Int32) (x2 : Int32) (x3 : Int32) (x4 : Int32) (x5 : Int64) (x7 : Int32) (M : Mm) : Option ((Int64 × Int32 × Mm) ⊕ (Int64 × Mm)) :=
  if x2 ≤ x7 then
    ex (
    bl (Int32.toInt64 x2) fun y7 =>
    iter (fun s => f_X6_chance_b94 x2 x3 x5 s.1 s.2.1 s.2.2) fuel (x5, y7, M))
  else
    bd (f_X6_draws (x1 + x7) M) fun r10 M9 =>
    if x4 < r10 then
      bl (x5 + (0 : Int64)) fun y11 =>
      bi (x7 + (1 : Int32)) fun y12 =>
      some (.inl (y11, y12, M9))
    else
      bl (x5 + (1 : Int64)) fun y13 =>
      bi (x7 + (1 : Int32)) fun y14 =>
      some (.inl (y13, y14, M9))
set_option maxRecDepth 100000 in
set_option maxHeartbeats 4000000 in
theorem jf_X6_chance_b51 {G : wn_G} {ad : Nat → Nat} {X : wn_X} {d : Nat} (O : Ok G RX6 cX6_chance 13 d X) (hd0 : 113 ≤ d) (x1 : Int32) (x2 : Int32) (x3 : Int32) (x4 : Int32) (x5 : Int64) (x7 : Int32) (M : Mm) : JW G S2 ad X 51 [(0, .ref (ad 0)), (1, .int x1), (2, .int x2), (3, .int x3), (4, .int x4), (5, .long x5), (7, .int x7)] [] M (f_X6_chance_b51 x1 x2 x3 x4 x5 x7 M) (Kl (h_X6_chance_51 G ad X x1 x2 x3 x4) (Krl G S2 ad X)) := by
  unfold f_X6_chance_b51
  refine j_iload (pc := 51) O 6 dX6_chance_51 rfl ?_
  refine j_iload_n (pc := 53) O 2 dX6_chance_53 rfl ?_
  refine j_icmp_ge (pc := 54) (tgt := 86) O dX6_chance_54 (by decide) ?_ ?_
  · refine jw_ex ?_
    refine j_lload (pc := 86) O 5 dX6_chance_86 rfl ?_
    refine j_lstore (pc := 88) (L' := [(7, .long x5), (0, .ref (ad 0)), (1, .int x1), (2, .int x2), (3, .int x3), (4, .int x4), (5, .long x5)]) O dX6_chance_88 (by decide) rfl ?_
    refine j_iload_n (pc := 90) O 3 dX6_chance_90 rfl ?_
    refine j_i2l (pc := 91) O dX6_chance_91 ?_
    refine jw_bl fun y7 => ?_
    refine j_lstore (pc := 92) (L' := [(9, .long y7), (7, .long x5), (0, .ref (ad 0)), (1, .int x1), (2, .int x2), (3, .int x3), (4, .int x4), (5, .long x5)]) O dX6_chance_92 (by decide) rfl ?_
    exact jw_iter (hd := h_X6_chance_94 G ad X x2 x3 x5) (fun hh => pw_sub [4, 5, 7, 1, 0] rfl hh) (fun s => jf_X6_chance_b94 O hd0 x2 x3 x5 s.1 s.2.1 s.2.2)
  · refine j_lload (pc := 57) O 5 dX6_chance_57 rfl ?_
    refine j_aload_n (pc := 59) O 0 dX6_chance_59 rfl ?_
    refine j_iload_n (pc := 60) O 1 dX6_chance_60 rfl ?_
    refine j_iload (pc := 61) O 6 dX6_chance_61 rfl ?_
    refine j_iadd (pc := 63) O dX6_chance_63 ?_
    refine j_callVi (pc := 64) (dc := 112) (As := [.int (x1 + x7)]) (rest := [.long x5]) O 0 (fun r M1 h => sp_X6_draws h) dX6_chance_64 mv_X6_draws lm_X6_344 so_S2_0 rfl rfl (Nat.le_of_ble_eq_true rfl) (Nat.le_trans (Nat.le_of_ble_eq_true rfl) hd0) (fun r10 M9 => ?_)
    refine j_iload (pc := 67) O 4 dX6_chance_67 rfl ?_
    refine j_icmp_gt (pc := 69) (tgt := 76) O dX6_chance_69 (by decide) ?_ ?_
    · refine j_lconst (pc := 76) (v := 0) O dX6_chance_76 (by decide) ?_
      refine j_ladd (pc := 77) O dX6_chance_77 ?_
      refine jw_bl fun y11 => ?_
      refine j_lstore (pc := 78) (L' := [(5, .long y11), (0, .ref (ad 0)), (1, .int x1), (2, .int x2), (3, .int x3), (4, .int x4), (7, .int x7)]) O dX6_chance_78 (by decide) rfl ?_
      refine j_iinc (pc := 80) (v := 1) (L2 := fun y => [(7, .int y), (5, .long y11), (0, .ref (ad 0)), (1, .int x1), (2, .int x2), (3, .int x3), (4, .int x4)]) O 6 dX6_chance_80 rfl (by decide) (by decide) (fun _ => rfl) (fun y12 => ?_)
      refine j_goto (pc := 83) (tgt := 51) O dX6_chance_83 (by decide) ?_
      exact jw_next (fun hh => pw_sub [2, 3, 4, 5, 6, 1, 0] rfl hh)
    · refine j_lconst (pc := 72) (v := 1) O dX6_chance_72 (by decide) ?_
      refine j_goto (pc := 73) (tgt := 77) O dX6_chance_73 (by decide) ?_
      refine j_ladd (pc := 77) O dX6_chance_77 ?_
      refine jw_bl fun y13 => ?_
      refine j_lstore (pc := 78) (L' := [(5, .long y13), (0, .ref (ad 0)), (1, .int x1), (2, .int x2), (3, .int x3), (4, .int x4), (7, .int x7)]) O dX6_chance_78 (by decide) rfl ?_
      refine j_iinc (pc := 80) (v := 1) (L2 := fun y => [(7, .int y), (5, .long y13), (0, .ref (ad 0)), (1, .int x1), (2, .int x2), (3, .int x3), (4, .int x4)]) O 6 dX6_chance_80 rfl (by decide) (by decide) (fun _ => rfl) (fun y14 => ?_)
      refine j_goto (pc := 83) (tgt := 51) O dX6_chance_83 (by decide) ?_
      exact jw_next (fun hh => pw_sub [2, 3, 4, 5, 6, 1, 0] rfl hh)
def f_X6_chance (x1 : Int32) (x2 : Int32) (x3 : Int32) (M : Mm) : Option (Int64 × Mm) :=
  bd (f_X6_in (Int32.toInt64 x2) (1 : Int64) (20 : Int64) M) fun r2 M1 =>
  if r2 = 0 then
    some ((-4611686018427387904 : Int64), M1)
  else
    bd (f_X6_in (Int32.toInt64 x3) (0 : Int64) (1 : Int64) M1) fun r4 M3 =>
    if r4 = 0 then
      some ((-4611686018427387904 : Int64), M3)
    else
      if (M3.1 0 13) = 0 then
        some ((-4611686018427387904 : Int64), M3)
      else
        bv (f_X6_sups (1 : Int32) (0 : Int32) M3) fun M5 =>
        bi (M5.1 0 36) fun y6 =>
        iter (fun s => f_X6_chance_b51 x1 x2 x3 y6 s.1 s.2.1 s.2.2) fuel ((0 : Int64), (0 : Int32), M5)
set_option maxRecDepth 100000 in
set_option maxHeartbeats 4000000 in
theorem jf_X6_chance {G : wn_G} {ad : Nat → Nat} {X : wn_X} {d : Nat} (O : Ok G RX6 cX6_chance 13 d X) (hd0 : 113 ≤ d) (x1 : Int32) (x2 : Int32) (x3 : Int32) (M : Mm) : JW G S2 ad X 0 [(0, .ref (ad 0)), (1, .int x1), (2, .int x2), (3, .int x3)] [] M (f_X6_chance x1 x2 x3 M) (Krl G S2 ad X) := by
  unfold f_X6_chance
  refine j_iload_n (pc := 0) O 2 dX6_chance_0 rfl ?_
  refine j_i2l (pc := 1) O dX6_chance_1 ?_
  refine j_lconst (pc := 2) (v := 1) O dX6_chance_2 (by decide) ?_
  refine j_ldc2 (pc := 3) (v := 20) O dX6_chance_3 gk_X6_110 ?_
  refine j_callSi (pc := 6) (dc := 1) (As := [.long (Int32.toInt64 x2), .long (1 : Int64), .long (20 : Int64)]) (rest := []) O (fun r M1 h => sp_X6_in h) dX6_chance_6 mst_X6_in lm_X6_94 rfl rfl (Nat.le_of_ble_eq_true rfl) (Nat.le_trans (Nat.le_of_ble_eq_true rfl) hd0) (fun r2 M1 => ?_)
  refine j_if_eq (pc := 9) (tgt := 29) O dX6_chance_9 (by decide) ?_ ?_
  · refine j_ldc2 (pc := 29) (v := -4611686018427387904) O dX6_chance_29 gk_X6_332 ?_
    exact j_lret (pc := 32) O dX6_chance_32
  · refine j_iload_n (pc := 12) O 3 dX6_chance_12 rfl ?_
    refine j_i2l (pc := 13) O dX6_chance_13 ?_
    refine j_lconst (pc := 14) (v := 0) O dX6_chance_14 (by decide) ?_
    refine j_lconst (pc := 15) (v := 1) O dX6_chance_15 (by decide) ?_
    refine j_callSi (pc := 16) (dc := 1) (As := [.long (Int32.toInt64 x3), .long (0 : Int64), .long (1 : Int64)]) (rest := []) O (fun r M1 h => sp_X6_in h) dX6_chance_16 mst_X6_in lm_X6_94 rfl rfl (Nat.le_of_ble_eq_true rfl) (Nat.le_trans (Nat.le_of_ble_eq_true rfl) hd0) (fun r4 M3 => ?_)
    refine j_if_eq (pc := 19) (tgt := 29) O dX6_chance_19 (by decide) ?_ ?_
    · refine j_ldc2 (pc := 29) (v := -4611686018427387904) O dX6_chance_29 gk_X6_332 ?_
      exact j_lret (pc := 32) O dX6_chance_32
    · refine j_aload_n (pc := 22) O 0 dX6_chance_22 rfl ?_
      refine j_getf (pc := 23) (v := .int (M3.1 0 13)) O 0 13 dX6_chance_23 fl_X6_91 so_S2_0 rfl rfl ?_
      refine j_if_ne (pc := 26) (tgt := 33) O dX6_chance_26 (by decide) ?_ ?_
      · refine j_ldc2 (pc := 29) (v := -4611686018427387904) O dX6_chance_29 gk_X6_332 ?_
        exact j_lret (pc := 32) O dX6_chance_32
      · refine j_aload_n (pc := 33) O 0 dX6_chance_33 rfl ?_
        refine j_iconst (pc := 34) (v := 1) O dX6_chance_34 (by decide) ?_
        refine j_iconst (pc := 35) (v := 0) O dX6_chance_35 (by decide) ?_
        refine j_callVv (pc := 36) (dc := 111) (As := [.int (1 : Int32), .int (0 : Int32)]) (rest := []) O 0 (fun M1 h => sp_X6_sups h) dX6_chance_36 mv_X6_sups lm_X6_310 so_S2_0 rfl rfl (Nat.le_of_ble_eq_true rfl) (Nat.le_trans (Nat.le_of_ble_eq_true rfl) hd0) (fun M5 => ?_)
        refine j_aload_n (pc := 39) O 0 dX6_chance_39 rfl ?_
        refine j_getf (pc := 40) (v := .int (M5.1 0 36)) O 0 36 dX6_chance_40 fl_X6_272 so_S2_0 rfl rfl ?_
        refine jw_bi fun y6 => ?_
        refine j_istore (pc := 43) (L' := [(4, .int y6), (0, .ref (ad 0)), (1, .int x1), (2, .int x2), (3, .int x3)]) O dX6_chance_43 (by decide) rfl ?_
        refine j_lconst (pc := 45) (v := 0) O dX6_chance_45 (by decide) ?_
        refine j_lstore (pc := 46) (L' := [(5, .long (0 : Int64)), (4, .int y6), (0, .ref (ad 0)), (1, .int x1), (2, .int x2), (3, .int x3)]) O dX6_chance_46 (by decide) rfl ?_
        refine j_iconst (pc := 48) (v := 0) O dX6_chance_48 (by decide) ?_
        refine j_istore (pc := 49) (L' := [(7, .int (0 : Int32)), (5, .long (0 : Int64)), (4, .int y6), (0, .ref (ad 0)), (1, .int x1), (2, .int x2), (3, .int x3)]) O dX6_chance_49 (by decide) rfl ?_
        exact jw_iter (hd := h_X6_chance_51 G ad X x1 x2 x3 y6) (fun hh => pw_sub [3, 4, 5, 6, 2, 1, 0] rfl hh) (fun s => jf_X6_chance_b51 O hd0 x1 x2 x3 y6 s.1 s.2.1 s.2.2)
theorem sp_X6_chance {G : wn_G} {ad : Nat → Nat} {x1 : Int32} {x2 : Int32} {x3 : Int32} {M : Mm} {r : Int64} {M1 : Mm} (h : f_X6_chance x1 x2 x3 M = some (r, M1)) : Sp G S2 ad mX6_chance 113 [.ref (ad 0), .int x1, .int x2, .int x3] M M1 (some (.long r)) :=
  sp_intro (own := RX6) (by decide +kernel) rfl (Nat.le_of_ble_eq_true rfl) (fun X O T => jf_X6_chance O (Nat.le_refl _) x1 x2 x3 M (r, M1) h T)
def h_X3_become_2_1_39 (G : wn_G) (ad : Nat → Nat) (X : wn_X) : Int32 × Mm → Prop := fun s => PW G S1 ad X 39 [(0, .ref (ad 2)), (1, .ref (ad 1)), (2, .int s.1)] [] s.2
def f_X3_become_2_1_b39 (x2 : Int32) (M : Mm) : Option ((Int32 × Mm) ⊕ (Mm)) :=
  if (5 : Int32) ≤ x2 then
    ex (
    some M)
  else
    gd (bin x2 5 = true) inferInstance <|
    gd (bin x2 5 = true) inferInstance <| bm (ms M 11 (Int32.toNatClampNeg x2) (M.1 7 (Int32.toNatClampNeg x2))) fun M5 =>
    gd (bin x2 5 = true) inferInstance <|
    gd (bin x2 5 = true) inferInstance <| bm (ms M5 12 (Int32.toNatClampNeg x2) (M5.1 8 (Int32.toNatClampNeg x2))) fun M6 =>
    gd (bin x2 5 = true) inferInstance <|
    gd (bin x2 5 = true) inferInstance <| bm (ms M6 13 (Int32.toNatClampNeg x2) (M6.1 9 (Int32.toNatClampNeg x2))) fun M7 =>
    gd (bin x2 5 = true) inferInstance <|
    gd (bin x2 5 = true) inferInstance <| bm (ms M7 14 (Int32.toNatClampNeg x2) (M7.1 10 (Int32.toNatClampNeg x2))) fun M8 =>
    bi (x2 + (1 : Int32)) fun y9 =>
    some (.inl (y9, M8))
set_option maxRecDepth 100000 in
set_option maxHeartbeats 4000000 in
theorem jf_X3_become_2_1_b39 {G : wn_G} {ad : Nat → Nat} {X : wn_X} {d : Nat} (O : Ok G RX3 cX3_become 3 d X) (hd0 : 1 ≤ d) (x2 : Int32) (M : Mm) : JW G S1 ad X 39 [(0, .ref (ad 2)), (1, .ref (ad 1)), (2, .int x2)] [] M (f_X3_become_2_1_b39 x2 M) (Kl (h_X3_become_2_1_39 G ad X) (Krv G S1 ad X)) := by
  unfold f_X3_become_2_1_b39
  refine j_iload_n (pc := 39) O 2 dX3_become_39 rfl ?_
  refine j_iconst (pc := 40) (v := 5) O dX3_become_40 (by decide) ?_
  refine j_icmp_ge (pc := 41) (tgt := 98) O dX3_become_41 (by decide) ?_ ?_
  · refine jw_ex ?_
    exact j_vret (pc := 98) O dX3_become_98
  · refine j_aload_n (pc := 44) O 0 dX3_become_44 rfl ?_
    refine j_getf (pc := 45) (v := .ref (ad 11)) O 2 4 dX3_become_45 fl_X3_18 so_S1_2 rfl rfl ?_
    refine j_iload_n (pc := 48) O 2 dX3_become_48 rfl ?_
    refine j_aload_n (pc := 49) O 1 dX3_become_49 rfl ?_
    refine j_getf (pc := 50) (v := .ref (ad 7)) O 1 4 dX3_become_50 fl_X3_18 so_S1_1 rfl rfl ?_
    refine j_iload_n (pc := 53) O 2 dX3_become_53 rfl ?_
    refine j_iald (pc := 54) O 7 dX3_become_54 so_S1_7 ?_
    refine j_iast (pc := 55) O 11 dX3_become_55 so_S1_11 (fun M5 => ?_)
    refine j_aload_n (pc := 56) O 0 dX3_become_56 rfl ?_
    refine j_getf (pc := 57) (v := .ref (ad 12)) O 2 5 dX3_become_57 fl_X3_22 so_S1_2 rfl rfl ?_
    refine j_iload_n (pc := 60) O 2 dX3_become_60 rfl ?_
    refine j_aload_n (pc := 61) O 1 dX3_become_61 rfl ?_
    refine j_getf (pc := 62) (v := .ref (ad 8)) O 1 5 dX3_become_62 fl_X3_22 so_S1_1 rfl rfl ?_
    refine j_iload_n (pc := 65) O 2 dX3_become_65 rfl ?_
    refine j_iald (pc := 66) O 8 dX3_become_66 so_S1_8 ?_
    refine j_iast (pc := 67) O 12 dX3_become_67 so_S1_12 (fun M6 => ?_)
    refine j_aload_n (pc := 68) O 0 dX3_become_68 rfl ?_
    refine j_getf (pc := 69) (v := .ref (ad 13)) O 2 6 dX3_become_69 fl_X3_25 so_S1_2 rfl rfl ?_
    refine j_iload_n (pc := 72) O 2 dX3_become_72 rfl ?_
    refine j_aload_n (pc := 73) O 1 dX3_become_73 rfl ?_
    refine j_getf (pc := 74) (v := .ref (ad 9)) O 1 6 dX3_become_74 fl_X3_25 so_S1_1 rfl rfl ?_
    refine j_iload_n (pc := 77) O 2 dX3_become_77 rfl ?_
    refine j_iald (pc := 78) O 9 dX3_become_78 so_S1_9 ?_
    refine j_iast (pc := 79) O 13 dX3_become_79 so_S1_13 (fun M7 => ?_)
    refine j_aload_n (pc := 80) O 0 dX3_become_80 rfl ?_
    refine j_getf (pc := 81) (v := .ref (ad 14)) O 2 7 dX3_become_81 fl_X3_28 so_S1_2 rfl rfl ?_
    refine j_iload_n (pc := 84) O 2 dX3_become_84 rfl ?_
    refine j_aload_n (pc := 85) O 1 dX3_become_85 rfl ?_
    refine j_getf (pc := 86) (v := .ref (ad 10)) O 1 7 dX3_become_86 fl_X3_28 so_S1_1 rfl rfl ?_
    refine j_iload_n (pc := 89) O 2 dX3_become_89 rfl ?_
    refine j_iald (pc := 90) O 10 dX3_become_90 so_S1_10 ?_
    refine j_iast (pc := 91) O 14 dX3_become_91 so_S1_14 (fun M8 => ?_)
    refine j_iinc (pc := 92) (v := 1) (L2 := fun y => [(2, .int y), (0, .ref (ad 2)), (1, .ref (ad 1))]) O 2 dX3_become_92 rfl (by decide) (by decide) (fun _ => rfl) (fun y9 => ?_)
    refine j_goto (pc := 95) (tgt := 39) O dX3_become_95 (by decide) ?_
    exact jw_next (fun hh => pw_sub [1, 2, 0] rfl hh)
def f_X3_become_2_1 (M : Mm) : Option (Mm) :=
  bm (ms M 2 0 (M.1 1 0)) fun M1 =>
  bm (ms M1 2 1 (M1.1 1 1)) fun M2 =>
  bm (ms M2 2 2 (M2.1 1 2)) fun M3 =>
  bm (ms M3 2 3 (M3.1 1 3)) fun M4 =>
  iter (fun s => f_X3_become_2_1_b39 s.1 s.2) fuel ((0 : Int32), M4)
set_option maxRecDepth 100000 in
set_option maxHeartbeats 4000000 in
theorem jf_X3_become_2_1 {G : wn_G} {ad : Nat → Nat} {X : wn_X} {d : Nat} (O : Ok G RX3 cX3_become 3 d X) (hd0 : 1 ≤ d) (M : Mm) : JW G S1 ad X 0 [(0, .ref (ad 2)), (1, .ref (ad 1))] [] M (f_X3_become_2_1 M) (Krv G S1 ad X) := by
  unfold f_X3_become_2_1
  refine j_aload_n (pc := 0) O 1 dX3_become_0 rfl ?_
  refine j_ifnonnull (pc := 1) (tgt := 5) O dX3_become_1 (by decide) ?_
  refine j_aload_n (pc := 5) O 0 dX3_become_5 rfl ?_
  refine j_aload_n (pc := 6) O 1 dX3_become_6 rfl ?_
  refine j_getf (pc := 7) (v := .int (M.1 1 0)) O 1 0 dX3_become_7 fl_X3_9 so_S1_1 rfl rfl ?_
  refine j_puti (pc := 10) O 2 0 dX3_become_10 fl_X3_9 so_S1_2 ft_X3_0 rfl (fun M1 => ?_)
  refine j_aload_n (pc := 13) O 0 dX3_become_13 rfl ?_
  refine j_aload_n (pc := 14) O 1 dX3_become_14 rfl ?_
  refine j_getf (pc := 15) (v := .int (M1.1 1 1)) O 1 1 dX3_become_15 fl_X3_15 so_S1_1 rfl rfl ?_
  refine j_puti (pc := 18) O 2 1 dX3_become_18 fl_X3_15 so_S1_2 ft_X3_1 rfl (fun M2 => ?_)
  refine j_aload_n (pc := 21) O 0 dX3_become_21 rfl ?_
  refine j_aload_n (pc := 22) O 1 dX3_become_22 rfl ?_
  refine j_getf (pc := 23) (v := .int (M2.1 1 2)) O 1 2 dX3_become_23 fl_X3_38 so_S1_1 rfl rfl ?_
  refine j_puti (pc := 26) O 2 2 dX3_become_26 fl_X3_38 so_S1_2 ft_X3_2 rfl (fun M3 => ?_)
  refine j_aload_n (pc := 29) O 0 dX3_become_29 rfl ?_
  refine j_aload_n (pc := 30) O 1 dX3_become_30 rfl ?_
  refine j_getf (pc := 31) (v := .int (M3.1 1 3)) O 1 3 dX3_become_31 fl_X3_31 so_S1_1 rfl rfl ?_
  refine j_puti (pc := 34) O 2 3 dX3_become_34 fl_X3_31 so_S1_2 ft_X3_3 rfl (fun M4 => ?_)
  refine j_iconst (pc := 37) (v := 0) O dX3_become_37 (by decide) ?_
  refine j_istore_n (pc := 38) (L' := [(2, .int (0 : Int32)), (0, .ref (ad 2)), (1, .ref (ad 1))]) O dX3_become_38 (by decide) rfl ?_
  exact jw_iter (hd := h_X3_become_2_1_39 G ad X) (fun hh => pw_sub [1, 2, 0] rfl hh) (fun s => jf_X3_become_2_1_b39 O hd0 s.1 s.2)
theorem sp_X3_become_2_1 {G : wn_G} {ad : Nat → Nat} {M M1 : Mm} (h : f_X3_become_2_1 M = some M1) : Sp G S1 ad mX3_become 1 [.ref (ad 2), .ref (ad 1)] M M1 none :=
  sp_intro (own := RX3) (by decide +kernel) rfl (Nat.le_of_ble_eq_true rfl) (fun X O T => jf_X3_become_2_1 O (Nat.le_refl _) M M1 h T)
def f_X5_image (M : Mm) : Option (Int32 × Mm) :=
  bv (f_X3_become_2_1 M) fun M1 =>
  bm (ms M1 0 2 (1 : Int32)) fun M2 =>
  some ((M2.1 1 3), M2)
set_option maxRecDepth 100000 in
set_option maxHeartbeats 4000000 in
theorem jf_X5_image {G : wn_G} {ad : Nat → Nat} {X : wn_X} {d : Nat} (O : Ok G RX5 cX5_image 1 d X) (hd0 : 2 ≤ d) (M : Mm) : JW G S1 ad X 0 [(0, .ref (ad 0))] [] M (f_X5_image M) (Kri G S1 ad X) := by
  unfold f_X5_image
  refine j_aload_n (pc := 0) O 0 dX5_image_0 rfl ?_
  refine j_getf (pc := 1) (v := .ref (ad 2)) O 0 1 dX5_image_1 fl_X5_16 so_S1_0 rfl rfl ?_
  refine j_aload_n (pc := 4) O 0 dX5_image_4 rfl ?_
  refine j_getf (pc := 5) (v := .ref (ad 1)) O 0 0 dX5_image_5 fl_X5_10 so_S1_0 rfl rfl ?_
  refine j_callVv (pc := 8) (dc := 1) (As := [.ref (ad 1)]) (rest := []) O 2 (fun M1 h => sp_X3_become_2_1 h) dX5_image_8 mv_X3_become lm_X5_210 so_S1_2 rfl rfl (Nat.le_of_ble_eq_true rfl) (Nat.le_trans (Nat.le_of_ble_eq_true rfl) hd0) (fun M1 => ?_)
  refine j_aload_n (pc := 11) O 0 dX5_image_11 rfl ?_
  refine j_iconst (pc := 12) (v := 1) O dX5_image_12 (by decide) ?_
  refine j_putz (pc := 13) O 0 2 dX5_image_13 fl_X5_214 so_S1_0 ft_X5_2 ⟨by decide, by decide⟩ rfl (fun M2 => ?_)
  refine j_aload_n (pc := 16) O 0 dX5_image_16 rfl ?_
  refine j_getf (pc := 17) (v := .ref (ad 1)) O 0 0 dX5_image_17 fl_X5_10 so_S1_0 rfl rfl ?_
  refine j_getf (pc := 20) (v := .int (M2.1 1 3)) O 1 3 dX5_image_20 fl_X5_158 so_S1_1 rfl rfl ?_
  exact j_iret (pc := 23) O dX5_image_23
theorem sp_X5_image {G : wn_G} {ad : Nat → Nat} {M : Mm} {r : Int32} {M1 : Mm} (h : f_X5_image M = some (r, M1)) : Sp G S1 ad mX5_image 2 [.ref (ad 0)] M M1 (some (.int r)) :=
  sp_intro (own := RX5) (by decide +kernel) rfl (Nat.le_of_ble_eq_true rfl) (fun X O T => jf_X5_image O (Nat.le_refl _) M (r, M1) h T)
def h_X6_image_2 (G : wn_G) (ad : Nat → Nat) (X : wn_X) : Int32 × Mm → Prop := fun s => PW G S2 ad X 2 [(0, .ref (ad 0)), (1, .int s.1)] [] s.2
def f_X6_image_b2 (x1 : Int32) (M : Mm) : Option ((Int32 × Mm) ⊕ (Int32 × Mm)) :=
  if (5 : Int32) ≤ x1 then
    ex (
    bm (ms M 0 44 (M.1 0 13)) fun M1 =>
    bm (ms M1 0 45 (M1.1 0 7)) fun M2 =>
    bm (ms M2 0 46 (M2.1 0 8)) fun M3 =>
    bm (ms M3 0 47 (M3.1 0 4)) fun M4 =>
    some ((M4.1 0 13), M4))
  else
    gd (bin x1 5 = true) inferInstance <|
    gd (bin x1 15 = true) inferInstance <| bm (ms M 15 (Int32.toNatClampNeg x1) (M.1 5 (Int32.toNatClampNeg x1))) fun M5 =>
    gd (bin x1 5 = true) inferInstance <|
    gd (bin ((5 : Int32) + x1) 15 = true) inferInstance <| bm (ms M5 15 (Int32.toNatClampNeg ((5 : Int32) + x1)) (M5.1 6 (Int32.toNatClampNeg x1))) fun M6 =>
    gd (bin x1 5 = true) inferInstance <|
    gd (bin ((10 : Int32) + x1) 15 = true) inferInstance <| bm (ms M6 15 (Int32.toNatClampNeg ((10 : Int32) + x1)) (M6.1 7 (Int32.toNatClampNeg x1))) fun M7 =>
    bi (x1 + (1 : Int32)) fun y8 =>
    some (.inl (y8, M7))
set_option maxRecDepth 100000 in
set_option maxHeartbeats 4000000 in
theorem jf_X6_image_b2 {G : wn_G} {ad : Nat → Nat} {X : wn_X} {d : Nat} (O : Ok G RX6 cX6_image 2 d X) (hd0 : 1 ≤ d) (x1 : Int32) (M : Mm) : JW G S2 ad X 2 [(0, .ref (ad 0)), (1, .int x1)] [] M (f_X6_image_b2 x1 M) (Kl (h_X6_image_2 G ad X) (Kri G S2 ad X)) := by
  unfold f_X6_image_b2
  refine j_iload_n (pc := 2) O 1 dX6_image_2 rfl ?_
  refine j_iconst (pc := 3) (v := 5) O dX6_image_3 (by decide) ?_
  refine j_icmp_ge (pc := 4) (tgt := 54) O dX6_image_4 (by decide) ?_ ?_
  · refine jw_ex ?_
    refine j_aload_n (pc := 54) O 0 dX6_image_54 rfl ?_
    refine j_aload_n (pc := 55) O 0 dX6_image_55 rfl ?_
    refine j_getf (pc := 56) (v := .int (M.1 0 13)) O 0 13 dX6_image_56 fl_X6_91 so_S2_0 rfl rfl ?_
    refine j_puti (pc := 59) O 0 44 dX6_image_59 fl_X6_68 so_S2_0 ft_X6_44 rfl (fun M1 => ?_)
    refine j_aload_n (pc := 62) O 0 dX6_image_62 rfl ?_
    refine j_aload_n (pc := 63) O 0 dX6_image_63 rfl ?_
    refine j_getf (pc := 64) (v := .int (M1.1 0 7)) O 0 7 dX6_image_64 fl_X6_23 so_S2_0 rfl rfl ?_
    refine j_puti (pc := 67) O 0 45 dX6_image_67 fl_X6_347 so_S2_0 ft_X6_45 rfl (fun M2 => ?_)
    refine j_aload_n (pc := 70) O 0 dX6_image_70 rfl ?_
    refine j_aload_n (pc := 71) O 0 dX6_image_71 rfl ?_
    refine j_getf (pc := 72) (v := .int (M2.1 0 8)) O 0 8 dX6_image_72 fl_X6_26 so_S2_0 rfl rfl ?_
    refine j_puti (pc := 75) O 0 46 dX6_image_75 fl_X6_350 so_S2_0 ft_X6_46 rfl (fun M3 => ?_)
    refine j_aload_n (pc := 78) O 0 dX6_image_78 rfl ?_
    refine j_aload_n (pc := 79) O 0 dX6_image_79 rfl ?_
    refine j_getf (pc := 80) (v := .int (M3.1 0 4)) O 0 4 dX6_image_80 fl_X6_244 so_S2_0 rfl rfl ?_
    refine j_puti (pc := 83) O 0 47 dX6_image_83 fl_X6_353 so_S2_0 ft_X6_47 rfl (fun M4 => ?_)
    refine j_aload_n (pc := 86) O 0 dX6_image_86 rfl ?_
    refine j_getf (pc := 87) (v := .int (M4.1 0 13)) O 0 13 dX6_image_87 fl_X6_91 so_S2_0 rfl rfl ?_
    exact j_iret (pc := 90) O dX6_image_90
  · refine j_aload_n (pc := 7) O 0 dX6_image_7 rfl ?_
    refine j_getf (pc := 8) (v := .ref (ad 15)) O 0 43 dX6_image_8 fl_X6_65 so_S2_0 rfl rfl ?_
    refine j_iload_n (pc := 11) O 1 dX6_image_11 rfl ?_
    refine j_aload_n (pc := 12) O 0 dX6_image_12 rfl ?_
    refine j_getf (pc := 13) (v := .ref (ad 5)) O 0 10 dX6_image_13 fl_X6_32 so_S2_0 rfl rfl ?_
    refine j_iload_n (pc := 16) O 1 dX6_image_16 rfl ?_
    refine j_iald (pc := 17) O 5 dX6_image_17 so_S2_5 ?_
    refine j_iast (pc := 18) O 15 dX6_image_18 so_S2_15 (fun M5 => ?_)
    refine j_aload_n (pc := 19) O 0 dX6_image_19 rfl ?_
    refine j_getf (pc := 20) (v := .ref (ad 15)) O 0 43 dX6_image_20 fl_X6_65 so_S2_0 rfl rfl ?_
    refine j_iconst (pc := 23) (v := 5) O dX6_image_23 (by decide) ?_
    refine j_iload_n (pc := 24) O 1 dX6_image_24 rfl ?_
    refine j_iadd (pc := 25) O dX6_image_25 ?_
    refine j_aload_n (pc := 26) O 0 dX6_image_26 rfl ?_
    refine j_getf (pc := 27) (v := .ref (ad 6)) O 0 11 dX6_image_27 fl_X6_35 so_S2_0 rfl rfl ?_
    refine j_iload_n (pc := 30) O 1 dX6_image_30 rfl ?_
    refine j_iald (pc := 31) O 6 dX6_image_31 so_S2_6 ?_
    refine j_iast (pc := 32) O 15 dX6_image_32 so_S2_15 (fun M6 => ?_)
    refine j_aload_n (pc := 33) O 0 dX6_image_33 rfl ?_
    refine j_getf (pc := 34) (v := .ref (ad 15)) O 0 43 dX6_image_34 fl_X6_65 so_S2_0 rfl rfl ?_
    refine j_bipush (pc := 37) (v := 10) O dX6_image_37 (by decide) ?_
    refine j_iload_n (pc := 39) O 1 dX6_image_39 rfl ?_
    refine j_iadd (pc := 40) O dX6_image_40 ?_
    refine j_aload_n (pc := 41) O 0 dX6_image_41 rfl ?_
    refine j_getf (pc := 42) (v := .ref (ad 7)) O 0 12 dX6_image_42 fl_X6_38 so_S2_0 rfl rfl ?_
    refine j_iload_n (pc := 45) O 1 dX6_image_45 rfl ?_
    refine j_iald (pc := 46) O 7 dX6_image_46 so_S2_7 ?_
    refine j_iast (pc := 47) O 15 dX6_image_47 so_S2_15 (fun M7 => ?_)
    refine j_iinc (pc := 48) (v := 1) (L2 := fun y => [(1, .int y), (0, .ref (ad 0))]) O 1 dX6_image_48 rfl (by decide) (by decide) (fun _ => rfl) (fun y8 => ?_)
    refine j_goto (pc := 51) (tgt := 2) O dX6_image_51 (by decide) ?_
    exact jw_next (fun hh => pw_sub [1, 0] rfl hh)
def f_X6_image (M : Mm) : Option (Int32 × Mm) :=
  iter (fun s => f_X6_image_b2 s.1 s.2) fuel ((0 : Int32), M)
set_option maxRecDepth 100000 in
set_option maxHeartbeats 4000000 in
theorem jf_X6_image {G : wn_G} {ad : Nat → Nat} {X : wn_X} {d : Nat} (O : Ok G RX6 cX6_image 2 d X) (hd0 : 1 ≤ d) (M : Mm) : JW G S2 ad X 0 [(0, .ref (ad 0))] [] M (f_X6_image M) (Kri G S2 ad X) := by
  unfold f_X6_image
  refine j_iconst (pc := 0) (v := 0) O dX6_image_0 (by decide) ?_
  refine j_istore_n (pc := 1) (L' := [(1, .int (0 : Int32)), (0, .ref (ad 0))]) O dX6_image_1 (by decide) rfl ?_
  exact jw_iter (hd := h_X6_image_2 G ad X) (fun hh => pw_sub [1, 0] rfl hh) (fun s => jf_X6_image_b2 O hd0 s.1 s.2)
theorem sp_X6_image {G : wn_G} {ad : Nat → Nat} {M : Mm} {r : Int32} {M1 : Mm} (h : f_X6_image M = some (r, M1)) : Sp G S2 ad mX6_image 1 [.ref (ad 0)] M M1 (some (.int r)) :=
  sp_intro (own := RX6) (by decide +kernel) rfl (Nat.le_of_ble_eq_true rfl) (fun X O T => jf_X6_image O (Nat.le_refl _) M (r, M1) h T)
def h_X3_become_1_2_39 (G : wn_G) (ad : Nat → Nat) (X : wn_X) : Int32 × Mm → Prop := fun s => PW G S1 ad X 39 [(0, .ref (ad 1)), (1, .ref (ad 2)), (2, .int s.1)] [] s.2
def f_X3_become_1_2_b39 (x2 : Int32) (M : Mm) : Option ((Int32 × Mm) ⊕ (Mm)) :=
  if (5 : Int32) ≤ x2 then
    ex (
    some M)
  else
    gd (bin x2 5 = true) inferInstance <|
    gd (bin x2 5 = true) inferInstance <| bm (ms M 7 (Int32.toNatClampNeg x2) (M.1 11 (Int32.toNatClampNeg x2))) fun M5 =>
    gd (bin x2 5 = true) inferInstance <|
    gd (bin x2 5 = true) inferInstance <| bm (ms M5 8 (Int32.toNatClampNeg x2) (M5.1 12 (Int32.toNatClampNeg x2))) fun M6 =>
    gd (bin x2 5 = true) inferInstance <|
    gd (bin x2 5 = true) inferInstance <| bm (ms M6 9 (Int32.toNatClampNeg x2) (M6.1 13 (Int32.toNatClampNeg x2))) fun M7 =>
    gd (bin x2 5 = true) inferInstance <|
    gd (bin x2 5 = true) inferInstance <| bm (ms M7 10 (Int32.toNatClampNeg x2) (M7.1 14 (Int32.toNatClampNeg x2))) fun M8 =>
    bi (x2 + (1 : Int32)) fun y9 =>
    some (.inl (y9, M8))
set_option maxRecDepth 100000 in
set_option maxHeartbeats 4000000 in
theorem jf_X3_become_1_2_b39 {G : wn_G} {ad : Nat → Nat} {X : wn_X} {d : Nat} (O : Ok G RX3 cX3_become 3 d X) (hd0 : 1 ≤ d) (x2 : Int32) (M : Mm) : JW G S1 ad X 39 [(0, .ref (ad 1)), (1, .ref (ad 2)), (2, .int x2)] [] M (f_X3_become_1_2_b39 x2 M) (Kl (h_X3_become_1_2_39 G ad X) (Krv G S1 ad X)) := by
  unfold f_X3_become_1_2_b39
  refine j_iload_n (pc := 39) O 2 dX3_become_39 rfl ?_
  refine j_iconst (pc := 40) (v := 5) O dX3_become_40 (by decide) ?_
  refine j_icmp_ge (pc := 41) (tgt := 98) O dX3_become_41 (by decide) ?_ ?_
  · refine jw_ex ?_
    exact j_vret (pc := 98) O dX3_become_98
  · refine j_aload_n (pc := 44) O 0 dX3_become_44 rfl ?_
    refine j_getf (pc := 45) (v := .ref (ad 7)) O 1 4 dX3_become_45 fl_X3_18 so_S1_1 rfl rfl ?_
    refine j_iload_n (pc := 48) O 2 dX3_become_48 rfl ?_
    refine j_aload_n (pc := 49) O 1 dX3_become_49 rfl ?_
    refine j_getf (pc := 50) (v := .ref (ad 11)) O 2 4 dX3_become_50 fl_X3_18 so_S1_2 rfl rfl ?_
    refine j_iload_n (pc := 53) O 2 dX3_become_53 rfl ?_
    refine j_iald (pc := 54) O 11 dX3_become_54 so_S1_11 ?_
    refine j_iast (pc := 55) O 7 dX3_become_55 so_S1_7 (fun M5 => ?_)
    refine j_aload_n (pc := 56) O 0 dX3_become_56 rfl ?_
    refine j_getf (pc := 57) (v := .ref (ad 8)) O 1 5 dX3_become_57 fl_X3_22 so_S1_1 rfl rfl ?_
    refine j_iload_n (pc := 60) O 2 dX3_become_60 rfl ?_
    refine j_aload_n (pc := 61) O 1 dX3_become_61 rfl ?_
    refine j_getf (pc := 62) (v := .ref (ad 12)) O 2 5 dX3_become_62 fl_X3_22 so_S1_2 rfl rfl ?_
    refine j_iload_n (pc := 65) O 2 dX3_become_65 rfl ?_
    refine j_iald (pc := 66) O 12 dX3_become_66 so_S1_12 ?_
    refine j_iast (pc := 67) O 8 dX3_become_67 so_S1_8 (fun M6 => ?_)
    refine j_aload_n (pc := 68) O 0 dX3_become_68 rfl ?_
    refine j_getf (pc := 69) (v := .ref (ad 9)) O 1 6 dX3_become_69 fl_X3_25 so_S1_1 rfl rfl ?_
    refine j_iload_n (pc := 72) O 2 dX3_become_72 rfl ?_
    refine j_aload_n (pc := 73) O 1 dX3_become_73 rfl ?_
    refine j_getf (pc := 74) (v := .ref (ad 13)) O 2 6 dX3_become_74 fl_X3_25 so_S1_2 rfl rfl ?_
    refine j_iload_n (pc := 77) O 2 dX3_become_77 rfl ?_
    refine j_iald (pc := 78) O 13 dX3_become_78 so_S1_13 ?_
    refine j_iast (pc := 79) O 9 dX3_become_79 so_S1_9 (fun M7 => ?_)
    refine j_aload_n (pc := 80) O 0 dX3_become_80 rfl ?_
    refine j_getf (pc := 81) (v := .ref (ad 10)) O 1 7 dX3_become_81 fl_X3_28 so_S1_1 rfl rfl ?_
    refine j_iload_n (pc := 84) O 2 dX3_become_84 rfl ?_
    refine j_aload_n (pc := 85) O 1 dX3_become_85 rfl ?_
    refine j_getf (pc := 86) (v := .ref (ad 14)) O 2 7 dX3_become_86 fl_X3_28 so_S1_2 rfl rfl ?_
    refine j_iload_n (pc := 89) O 2 dX3_become_89 rfl ?_
    refine j_iald (pc := 90) O 14 dX3_become_90 so_S1_14 ?_
    refine j_iast (pc := 91) O 10 dX3_become_91 so_S1_10 (fun M8 => ?_)
    refine j_iinc (pc := 92) (v := 1) (L2 := fun y => [(2, .int y), (0, .ref (ad 1)), (1, .ref (ad 2))]) O 2 dX3_become_92 rfl (by decide) (by decide) (fun _ => rfl) (fun y9 => ?_)
    refine j_goto (pc := 95) (tgt := 39) O dX3_become_95 (by decide) ?_
    exact jw_next (fun hh => pw_sub [1, 2, 0] rfl hh)
def f_X3_become_1_2 (M : Mm) : Option (Mm) :=
  bm (ms M 1 0 (M.1 2 0)) fun M1 =>
  bm (ms M1 1 1 (M1.1 2 1)) fun M2 =>
  bm (ms M2 1 2 (M2.1 2 2)) fun M3 =>
  bm (ms M3 1 3 (M3.1 2 3)) fun M4 =>
  iter (fun s => f_X3_become_1_2_b39 s.1 s.2) fuel ((0 : Int32), M4)
set_option maxRecDepth 100000 in
set_option maxHeartbeats 4000000 in
theorem jf_X3_become_1_2 {G : wn_G} {ad : Nat → Nat} {X : wn_X} {d : Nat} (O : Ok G RX3 cX3_become 3 d X) (hd0 : 1 ≤ d) (M : Mm) : JW G S1 ad X 0 [(0, .ref (ad 1)), (1, .ref (ad 2))] [] M (f_X3_become_1_2 M) (Krv G S1 ad X) := by
  unfold f_X3_become_1_2
  refine j_aload_n (pc := 0) O 1 dX3_become_0 rfl ?_
  refine j_ifnonnull (pc := 1) (tgt := 5) O dX3_become_1 (by decide) ?_
  refine j_aload_n (pc := 5) O 0 dX3_become_5 rfl ?_
  refine j_aload_n (pc := 6) O 1 dX3_become_6 rfl ?_
  refine j_getf (pc := 7) (v := .int (M.1 2 0)) O 2 0 dX3_become_7 fl_X3_9 so_S1_2 rfl rfl ?_
  refine j_puti (pc := 10) O 1 0 dX3_become_10 fl_X3_9 so_S1_1 ft_X3_0 rfl (fun M1 => ?_)
  refine j_aload_n (pc := 13) O 0 dX3_become_13 rfl ?_
  refine j_aload_n (pc := 14) O 1 dX3_become_14 rfl ?_
  refine j_getf (pc := 15) (v := .int (M1.1 2 1)) O 2 1 dX3_become_15 fl_X3_15 so_S1_2 rfl rfl ?_
  refine j_puti (pc := 18) O 1 1 dX3_become_18 fl_X3_15 so_S1_1 ft_X3_1 rfl (fun M2 => ?_)
  refine j_aload_n (pc := 21) O 0 dX3_become_21 rfl ?_
  refine j_aload_n (pc := 22) O 1 dX3_become_22 rfl ?_
  refine j_getf (pc := 23) (v := .int (M2.1 2 2)) O 2 2 dX3_become_23 fl_X3_38 so_S1_2 rfl rfl ?_
  refine j_puti (pc := 26) O 1 2 dX3_become_26 fl_X3_38 so_S1_1 ft_X3_2 rfl (fun M3 => ?_)
  refine j_aload_n (pc := 29) O 0 dX3_become_29 rfl ?_
  refine j_aload_n (pc := 30) O 1 dX3_become_30 rfl ?_
  refine j_getf (pc := 31) (v := .int (M3.1 2 3)) O 2 3 dX3_become_31 fl_X3_31 so_S1_2 rfl rfl ?_
  refine j_puti (pc := 34) O 1 3 dX3_become_34 fl_X3_31 so_S1_1 ft_X3_3 rfl (fun M4 => ?_)
  refine j_iconst (pc := 37) (v := 0) O dX3_become_37 (by decide) ?_
  refine j_istore_n (pc := 38) (L' := [(2, .int (0 : Int32)), (0, .ref (ad 1)), (1, .ref (ad 2))]) O dX3_become_38 (by decide) rfl ?_
  exact jw_iter (hd := h_X3_become_1_2_39 G ad X) (fun hh => pw_sub [1, 2, 0] rfl hh) (fun s => jf_X3_become_1_2_b39 O hd0 s.1 s.2)
theorem sp_X3_become_1_2 {G : wn_G} {ad : Nat → Nat} {M M1 : Mm} (h : f_X3_become_1_2 M = some M1) : Sp G S1 ad mX3_become 1 [.ref (ad 1), .ref (ad 2)] M M1 none :=
  sp_intro (own := RX3) (by decide +kernel) rfl (Nat.le_of_ble_eq_true rfl) (fun X O T => jf_X3_become_1_2 O (Nat.le_refl _) M M1 h T)
def f_X5_back (M : Mm) : Option (Int32 × Mm) :=
  if (M.1 0 2) = 0 then
    some ((-3 : Int32), M)
  else
    bv (f_X3_become_1_2 M) fun M1 =>
    some ((M1.1 1 3), M1)
set_option maxRecDepth 100000 in
set_option maxHeartbeats 4000000 in
theorem jf_X5_back {G : wn_G} {ad : Nat → Nat} {X : wn_X} {d : Nat} (O : Ok G RX5 cX5_back 1 d X) (hd0 : 2 ≤ d) (M : Mm) : JW G S1 ad X 0 [(0, .ref (ad 0))] [] M (f_X5_back M) (Kri G S1 ad X) := by
  unfold f_X5_back
  refine j_aload_n (pc := 0) O 0 dX5_back_0 rfl ?_
  refine j_getf (pc := 1) (v := .int (M.1 0 2)) O 0 2 dX5_back_1 fl_X5_214 so_S1_0 rfl rfl ?_
  refine j_if_ne (pc := 4) (tgt := 10) O dX5_back_4 (by decide) ?_ ?_
  · refine j_bipush (pc := 7) (v := -3) O dX5_back_7 (by decide) ?_
    exact j_iret (pc := 9) O dX5_back_9
  · refine j_aload_n (pc := 10) O 0 dX5_back_10 rfl ?_
    refine j_getf (pc := 11) (v := .ref (ad 1)) O 0 0 dX5_back_11 fl_X5_10 so_S1_0 rfl rfl ?_
    refine j_aload_n (pc := 14) O 0 dX5_back_14 rfl ?_
    refine j_getf (pc := 15) (v := .ref (ad 2)) O 0 1 dX5_back_15 fl_X5_16 so_S1_0 rfl rfl ?_
    refine j_callVv (pc := 18) (dc := 1) (As := [.ref (ad 2)]) (rest := []) O 1 (fun M1 h => sp_X3_become_1_2 h) dX5_back_18 mv_X3_become lm_X5_210 so_S1_1 rfl rfl (Nat.le_of_ble_eq_true rfl) (Nat.le_trans (Nat.le_of_ble_eq_true rfl) hd0) (fun M1 => ?_)
    refine j_aload_n (pc := 21) O 0 dX5_back_21 rfl ?_
    refine j_getf (pc := 22) (v := .ref (ad 1)) O 0 0 dX5_back_22 fl_X5_10 so_S1_0 rfl rfl ?_
    refine j_getf (pc := 25) (v := .int (M1.1 1 3)) O 1 3 dX5_back_25 fl_X5_158 so_S1_1 rfl rfl ?_
    exact j_iret (pc := 28) O dX5_back_28
theorem sp_X5_back {G : wn_G} {ad : Nat → Nat} {M : Mm} {r : Int32} {M1 : Mm} (h : f_X5_back M = some (r, M1)) : Sp G S1 ad mX5_back 2 [.ref (ad 0)] M M1 (some (.int r)) :=
  sp_intro (own := RX5) (by decide +kernel) rfl (Nat.le_of_ble_eq_true rfl) (fun X O T => jf_X5_back O (Nat.le_refl _) M (r, M1) h T)
def h_X6_back_13 (G : wn_G) (ad : Nat → Nat) (X : wn_X) : Int32 × Mm → Prop := fun s => PW G S2 ad X 13 [(0, .ref (ad 0)), (1, .int s.1)] [] s.2
def f_X6_back_b13 (x1 : Int32) (M : Mm) : Option ((Int32 × Mm) ⊕ (Int32 × Mm)) :=
  if (5 : Int32) ≤ x1 then
    ex (
    bm (ms M 0 13 (M.1 0 44)) fun M1 =>
    bm (ms M1 0 7 (M1.1 0 45)) fun M2 =>
    bm (ms M2 0 8 (M2.1 0 46)) fun M3 =>
    bm (ms M3 0 4 (M3.1 0 47)) fun M4 =>
    some ((M4.1 0 13), M4))
  else
    gd (bin x1 15 = true) inferInstance <|
    gd (bin x1 5 = true) inferInstance <| bm (ms M 5 (Int32.toNatClampNeg x1) (M.1 15 (Int32.toNatClampNeg x1))) fun M5 =>
    gd (bin ((5 : Int32) + x1) 15 = true) inferInstance <|
    gd (bin x1 5 = true) inferInstance <| bm (ms M5 6 (Int32.toNatClampNeg x1) (M5.1 15 (Int32.toNatClampNeg ((5 : Int32) + x1)))) fun M6 =>
    gd (bin ((10 : Int32) + x1) 15 = true) inferInstance <|
    gd (bin x1 5 = true) inferInstance <| bm (ms M6 7 (Int32.toNatClampNeg x1) (M6.1 15 (Int32.toNatClampNeg ((10 : Int32) + x1)))) fun M7 =>
    bi (x1 + (1 : Int32)) fun y8 =>
    some (.inl (y8, M7))
set_option maxRecDepth 100000 in
set_option maxHeartbeats 4000000 in
theorem jf_X6_back_b13 {G : wn_G} {ad : Nat → Nat} {X : wn_X} {d : Nat} (O : Ok G RX6 cX6_back 2 d X) (hd0 : 1 ≤ d) (x1 : Int32) (M : Mm) : JW G S2 ad X 13 [(0, .ref (ad 0)), (1, .int x1)] [] M (f_X6_back_b13 x1 M) (Kl (h_X6_back_13 G ad X) (Kri G S2 ad X)) := by
  unfold f_X6_back_b13
  refine j_iload_n (pc := 13) O 1 dX6_back_13 rfl ?_
  refine j_iconst (pc := 14) (v := 5) O dX6_back_14 (by decide) ?_
  refine j_icmp_ge (pc := 15) (tgt := 65) O dX6_back_15 (by decide) ?_ ?_
  · refine jw_ex ?_
    refine j_aload_n (pc := 65) O 0 dX6_back_65 rfl ?_
    refine j_aload_n (pc := 66) O 0 dX6_back_66 rfl ?_
    refine j_getf (pc := 67) (v := .int (M.1 0 44)) O 0 44 dX6_back_67 fl_X6_68 so_S2_0 rfl rfl ?_
    refine j_puti (pc := 70) O 0 13 dX6_back_70 fl_X6_91 so_S2_0 ft_X6_13 rfl (fun M1 => ?_)
    refine j_aload_n (pc := 73) O 0 dX6_back_73 rfl ?_
    refine j_aload_n (pc := 74) O 0 dX6_back_74 rfl ?_
    refine j_getf (pc := 75) (v := .int (M1.1 0 45)) O 0 45 dX6_back_75 fl_X6_347 so_S2_0 rfl rfl ?_
    refine j_puti (pc := 78) O 0 7 dX6_back_78 fl_X6_23 so_S2_0 ft_X6_7 rfl (fun M2 => ?_)
    refine j_aload_n (pc := 81) O 0 dX6_back_81 rfl ?_
    refine j_aload_n (pc := 82) O 0 dX6_back_82 rfl ?_
    refine j_getf (pc := 83) (v := .int (M2.1 0 46)) O 0 46 dX6_back_83 fl_X6_350 so_S2_0 rfl rfl ?_
    refine j_puti (pc := 86) O 0 8 dX6_back_86 fl_X6_26 so_S2_0 ft_X6_8 rfl (fun M3 => ?_)
    refine j_aload_n (pc := 89) O 0 dX6_back_89 rfl ?_
    refine j_aload_n (pc := 90) O 0 dX6_back_90 rfl ?_
    refine j_getf (pc := 91) (v := .int (M3.1 0 47)) O 0 47 dX6_back_91 fl_X6_353 so_S2_0 rfl rfl ?_
    refine j_puti (pc := 94) O 0 4 dX6_back_94 fl_X6_244 so_S2_0 ft_X6_4 rfl (fun M4 => ?_)
    refine j_aload_n (pc := 97) O 0 dX6_back_97 rfl ?_
    refine j_getf (pc := 98) (v := .int (M4.1 0 13)) O 0 13 dX6_back_98 fl_X6_91 so_S2_0 rfl rfl ?_
    exact j_iret (pc := 101) O dX6_back_101
  · refine j_aload_n (pc := 18) O 0 dX6_back_18 rfl ?_
    refine j_getf (pc := 19) (v := .ref (ad 5)) O 0 10 dX6_back_19 fl_X6_32 so_S2_0 rfl rfl ?_
    refine j_iload_n (pc := 22) O 1 dX6_back_22 rfl ?_
    refine j_aload_n (pc := 23) O 0 dX6_back_23 rfl ?_
    refine j_getf (pc := 24) (v := .ref (ad 15)) O 0 43 dX6_back_24 fl_X6_65 so_S2_0 rfl rfl ?_
    refine j_iload_n (pc := 27) O 1 dX6_back_27 rfl ?_
    refine j_iald (pc := 28) O 15 dX6_back_28 so_S2_15 ?_
    refine j_iast (pc := 29) O 5 dX6_back_29 so_S2_5 (fun M5 => ?_)
    refine j_aload_n (pc := 30) O 0 dX6_back_30 rfl ?_
    refine j_getf (pc := 31) (v := .ref (ad 6)) O 0 11 dX6_back_31 fl_X6_35 so_S2_0 rfl rfl ?_
    refine j_iload_n (pc := 34) O 1 dX6_back_34 rfl ?_
    refine j_aload_n (pc := 35) O 0 dX6_back_35 rfl ?_
    refine j_getf (pc := 36) (v := .ref (ad 15)) O 0 43 dX6_back_36 fl_X6_65 so_S2_0 rfl rfl ?_
    refine j_iconst (pc := 39) (v := 5) O dX6_back_39 (by decide) ?_
    refine j_iload_n (pc := 40) O 1 dX6_back_40 rfl ?_
    refine j_iadd (pc := 41) O dX6_back_41 ?_
    refine j_iald (pc := 42) O 15 dX6_back_42 so_S2_15 ?_
    refine j_iast (pc := 43) O 6 dX6_back_43 so_S2_6 (fun M6 => ?_)
    refine j_aload_n (pc := 44) O 0 dX6_back_44 rfl ?_
    refine j_getf (pc := 45) (v := .ref (ad 7)) O 0 12 dX6_back_45 fl_X6_38 so_S2_0 rfl rfl ?_
    refine j_iload_n (pc := 48) O 1 dX6_back_48 rfl ?_
    refine j_aload_n (pc := 49) O 0 dX6_back_49 rfl ?_
    refine j_getf (pc := 50) (v := .ref (ad 15)) O 0 43 dX6_back_50 fl_X6_65 so_S2_0 rfl rfl ?_
    refine j_bipush (pc := 53) (v := 10) O dX6_back_53 (by decide) ?_
    refine j_iload_n (pc := 55) O 1 dX6_back_55 rfl ?_
    refine j_iadd (pc := 56) O dX6_back_56 ?_
    refine j_iald (pc := 57) O 15 dX6_back_57 so_S2_15 ?_
    refine j_iast (pc := 58) O 7 dX6_back_58 so_S2_7 (fun M7 => ?_)
    refine j_iinc (pc := 59) (v := 1) (L2 := fun y => [(1, .int y), (0, .ref (ad 0))]) O 1 dX6_back_59 rfl (by decide) (by decide) (fun _ => rfl) (fun y8 => ?_)
    refine j_goto (pc := 62) (tgt := 13) O dX6_back_62 (by decide) ?_
    exact jw_next (fun hh => pw_sub [1, 0] rfl hh)
def f_X6_back (M : Mm) : Option (Int32 × Mm) :=
  if (M.1 0 44) = (-1 : Int32) then
    some ((-3 : Int32), M)
  else
    iter (fun s => f_X6_back_b13 s.1 s.2) fuel ((0 : Int32), M)
set_option maxRecDepth 100000 in
set_option maxHeartbeats 4000000 in
theorem jf_X6_back {G : wn_G} {ad : Nat → Nat} {X : wn_X} {d : Nat} (O : Ok G RX6 cX6_back 2 d X) (hd0 : 1 ≤ d) (M : Mm) : JW G S2 ad X 0 [(0, .ref (ad 0))] [] M (f_X6_back M) (Kri G S2 ad X) := by
  unfold f_X6_back
  refine j_aload_n (pc := 0) O 0 dX6_back_0 rfl ?_
  refine j_getf (pc := 1) (v := .int (M.1 0 44)) O 0 44 dX6_back_1 fl_X6_68 so_S2_0 rfl rfl ?_
  refine j_iconst (pc := 4) (v := -1) O dX6_back_4 (by decide) ?_
  refine j_icmp_ne (pc := 5) (tgt := 11) O dX6_back_5 (by decide) ?_ ?_
  · refine j_bipush (pc := 8) (v := -3) O dX6_back_8 (by decide) ?_
    exact j_iret (pc := 10) O dX6_back_10
  · refine j_iconst (pc := 11) (v := 0) O dX6_back_11 (by decide) ?_
    refine j_istore_n (pc := 12) (L' := [(1, .int (0 : Int32)), (0, .ref (ad 0))]) O dX6_back_12 (by decide) rfl ?_
    exact jw_iter (hd := h_X6_back_13 G ad X) (fun hh => pw_sub [1, 0] rfl hh) (fun s => jf_X6_back_b13 O hd0 s.1 s.2)
theorem sp_X6_back {G : wn_G} {ad : Nat → Nat} {M : Mm} {r : Int32} {M1 : Mm} (h : f_X6_back M = some (r, M1)) : Sp G S2 ad mX6_back 1 [.ref (ad 0)] M M1 (some (.int r)) :=
  sp_intro (own := RX6) (by decide +kernel) rfl (Nat.le_of_ble_eq_true rfl) (fun X O T => jf_X6_back O (Nat.le_refl _) M (r, M1) h T)
def h_X3_wantOfAll_1_4 (G : wn_G) (ad : Nat → Nat) (X : wn_X) : Int32 × Int32 × Mm → Prop := fun s => PW G S1 ad X 4 [(0, .ref (ad 1)), (1, .int s.1), (2, .int s.2.1)] [] s.2.2
def f_X3_wantOfAll_1_b4 (x1 : Int32) (x2 : Int32) (M : Mm) : Option ((Int32 × Int32 × Mm) ⊕ (Int32 × Mm)) :=
  if (5 : Int32) ≤ x2 then
    ex (
    some (x1, M))
  else
    if (M.1 1 3) ≤ x2 then
      ex (
      some (x1, M))
    else
      gd (bin x2 5 = true) inferInstance <|
      bi (x1 + (M.1 9 (Int32.toNatClampNeg x2))) fun y1 =>
      bi (x2 + (1 : Int32)) fun y2 =>
      some (.inl (y1, y2, M))
set_option maxRecDepth 100000 in
set_option maxHeartbeats 4000000 in
theorem jf_X3_wantOfAll_1_b4 {G : wn_G} {ad : Nat → Nat} {X : wn_X} {d : Nat} (O : Ok G RX3 cX3_wantOfAll 3 d X) (hd0 : 1 ≤ d) (x1 : Int32) (x2 : Int32) (M : Mm) : JW G S1 ad X 4 [(0, .ref (ad 1)), (1, .int x1), (2, .int x2)] [] M (f_X3_wantOfAll_1_b4 x1 x2 M) (Kl (h_X3_wantOfAll_1_4 G ad X) (Kri G S1 ad X)) := by
  unfold f_X3_wantOfAll_1_b4
  refine j_iload_n (pc := 4) O 2 dX3_wantOfAll_4 rfl ?_
  refine j_iconst (pc := 5) (v := 5) O dX3_wantOfAll_5 (by decide) ?_
  refine j_icmp_ge (pc := 6) (tgt := 32) O dX3_wantOfAll_6 (by decide) ?_ ?_
  · refine jw_ex ?_
    refine j_iload_n (pc := 32) O 1 dX3_wantOfAll_32 rfl ?_
    exact j_iret (pc := 33) O dX3_wantOfAll_33
  · refine j_iload_n (pc := 9) O 2 dX3_wantOfAll_9 rfl ?_
    refine j_aload_n (pc := 10) O 0 dX3_wantOfAll_10 rfl ?_
    refine j_getf (pc := 11) (v := .int (M.1 1 3)) O 1 3 dX3_wantOfAll_11 fl_X3_31 so_S1_1 rfl rfl ?_
    refine j_icmp_ge (pc := 14) (tgt := 32) O dX3_wantOfAll_14 (by decide) ?_ ?_
    · refine jw_ex ?_
      refine j_iload_n (pc := 32) O 1 dX3_wantOfAll_32 rfl ?_
      exact j_iret (pc := 33) O dX3_wantOfAll_33
    · refine j_iload_n (pc := 17) O 1 dX3_wantOfAll_17 rfl ?_
      refine j_aload_n (pc := 18) O 0 dX3_wantOfAll_18 rfl ?_
      refine j_getf (pc := 19) (v := .ref (ad 9)) O 1 6 dX3_wantOfAll_19 fl_X3_25 so_S1_1 rfl rfl ?_
      refine j_iload_n (pc := 22) O 2 dX3_wantOfAll_22 rfl ?_
      refine j_iald (pc := 23) O 9 dX3_wantOfAll_23 so_S1_9 ?_
      refine j_iadd (pc := 24) O dX3_wantOfAll_24 ?_
      refine jw_bi fun y1 => ?_
      refine j_istore_n (pc := 25) (L' := [(1, .int y1), (0, .ref (ad 1)), (2, .int x2)]) O dX3_wantOfAll_25 (by decide) rfl ?_
      refine j_iinc (pc := 26) (v := 1) (L2 := fun y => [(2, .int y), (1, .int y1), (0, .ref (ad 1))]) O 2 dX3_wantOfAll_26 rfl (by decide) (by decide) (fun _ => rfl) (fun y2 => ?_)
      refine j_goto (pc := 29) (tgt := 4) O dX3_wantOfAll_29 (by decide) ?_
      exact jw_next (fun hh => pw_sub [2, 1, 0] rfl hh)
def f_X3_wantOfAll_1 (M : Mm) : Option (Int32 × Mm) :=
  iter (fun s => f_X3_wantOfAll_1_b4 s.1 s.2.1 s.2.2) fuel ((0 : Int32), (0 : Int32), M)
set_option maxRecDepth 100000 in
set_option maxHeartbeats 4000000 in
theorem jf_X3_wantOfAll_1 {G : wn_G} {ad : Nat → Nat} {X : wn_X} {d : Nat} (O : Ok G RX3 cX3_wantOfAll 3 d X) (hd0 : 1 ≤ d) (M : Mm) : JW G S1 ad X 0 [(0, .ref (ad 1))] [] M (f_X3_wantOfAll_1 M) (Kri G S1 ad X) := by
  unfold f_X3_wantOfAll_1
  refine j_iconst (pc := 0) (v := 0) O dX3_wantOfAll_0 (by decide) ?_
  refine j_istore_n (pc := 1) (L' := [(1, .int (0 : Int32)), (0, .ref (ad 1))]) O dX3_wantOfAll_1 (by decide) rfl ?_
  refine j_iconst (pc := 2) (v := 0) O dX3_wantOfAll_2 (by decide) ?_
  refine j_istore_n (pc := 3) (L' := [(2, .int (0 : Int32)), (1, .int (0 : Int32)), (0, .ref (ad 1))]) O dX3_wantOfAll_3 (by decide) rfl ?_
  exact jw_iter (hd := h_X3_wantOfAll_1_4 G ad X) (fun hh => pw_sub [2, 1, 0] rfl hh) (fun s => jf_X3_wantOfAll_1_b4 O hd0 s.1 s.2.1 s.2.2)
theorem sp_X3_wantOfAll_1 {G : wn_G} {ad : Nat → Nat} {M : Mm} {r : Int32} {M1 : Mm} (h : f_X3_wantOfAll_1 M = some (r, M1)) : Sp G S1 ad mX3_wantOfAll 1 [.ref (ad 1)] M M1 (some (.int r)) :=
  sp_intro (own := RX3) (by decide +kernel) rfl (Nat.le_of_ble_eq_true rfl) (fun X O T => jf_X3_wantOfAll_1 O (Nat.le_refl _) M (r, M1) h T)
def f_X5_count (x1 : Int32) (M : Mm) : Option (Int32 × Mm) :=
  bi x1 fun y1 => swc y1 [
((0 : Int32),
    some ((M.1 1 3), M)),
((1 : Int32),
    some ((M.1 1 0), M)),
((2 : Int32),
    some ((M.1 1 1), M)),
((3 : Int32),
    some ((M.1 4 0), M)),
((4 : Int32),
    some ((M.1 3 1), M)),
((5 : Int32),
    some ((M.1 1 2), M)),
((6 : Int32),
    bv (f_X2_bake (M.1 1 1) M) fun M2 =>
    bd (f_X2_servedCakes M2) fun r4 M3 =>
    some (r4, M3)),
((7 : Int32),
    bd (f_X3_wantOfAll_1 M) fun r6 M5 =>
    some (r6, M5))] (
    some ((-2 : Int32), M))
set_option maxRecDepth 100000 in
set_option maxHeartbeats 4000000 in
theorem jf_X5_count {G : wn_G} {ad : Nat → Nat} {X : wn_X} {d : Nat} (O : Ok G RX5 cX5_count 2 d X) (hd0 : 4 ≤ d) (x1 : Int32) (M : Mm) : JW G S1 ad X 0 [(0, .ref (ad 0)), (1, .int x1)] [] M (f_X5_count x1 M) (Kri G S1 ad X) := by
  unfold f_X5_count
  refine j_iload_n (pc := 0) O 1 dX5_count_0 rfl ?_
  refine jw_bi fun y1 => ?_
  refine jw_swc (fun hc => ?_) (fun n0 => ?_)
  · subst hc
    refine j_tin (pc := 1) (tgt := 48) O dX5_count_1 (by decide) (by decide) rfl (by decide) ?_
    refine j_aload_n (pc := 48) O 0 dX5_count_48 rfl ?_
    refine j_getf (pc := 49) (v := .ref (ad 1)) O 0 0 dX5_count_49 fl_X5_10 so_S1_0 rfl rfl ?_
    refine j_getf (pc := 52) (v := .int (M.1 1 3)) O 1 3 dX5_count_52 fl_X5_158 so_S1_1 rfl rfl ?_
    exact j_iret (pc := 55) O dX5_count_55
  refine jw_swc (fun hc => ?_) (fun n1 => ?_)
  · subst hc
    refine j_tin (pc := 1) (tgt := 56) O dX5_count_1 (by decide) (by decide) rfl (by decide) ?_
    refine j_aload_n (pc := 56) O 0 dX5_count_56 rfl ?_
    refine j_getf (pc := 57) (v := .ref (ad 1)) O 0 0 dX5_count_57 fl_X5_10 so_S1_0 rfl rfl ?_
    refine j_getf (pc := 60) (v := .int (M.1 1 0)) O 1 0 dX5_count_60 fl_X5_108 so_S1_1 rfl rfl ?_
    exact j_iret (pc := 63) O dX5_count_63
  refine jw_swc (fun hc => ?_) (fun n2 => ?_)
  · subst hc
    refine j_tin (pc := 1) (tgt := 64) O dX5_count_1 (by decide) (by decide) rfl (by decide) ?_
    refine j_aload_n (pc := 64) O 0 dX5_count_64 rfl ?_
    refine j_getf (pc := 65) (v := .ref (ad 1)) O 0 0 dX5_count_65 fl_X5_10 so_S1_0 rfl rfl ?_
    refine j_getf (pc := 68) (v := .int (M.1 1 1)) O 1 1 dX5_count_68 fl_X5_97 so_S1_1 rfl rfl ?_
    exact j_iret (pc := 71) O dX5_count_71
  refine jw_swc (fun hc => ?_) (fun n3 => ?_)
  · subst hc
    refine j_tin (pc := 1) (tgt := 72) O dX5_count_1 (by decide) (by decide) rfl (by decide) ?_
    refine j_aload_n (pc := 72) O 0 dX5_count_72 rfl ?_
    refine j_getf (pc := 73) (v := .ref (ad 4)) O 0 4 dX5_count_73 fl_X5_29 so_S1_0 rfl rfl ?_
    refine j_getf (pc := 76) (v := .int (M.1 4 0)) O 4 0 dX5_count_76 fl_X5_123 so_S1_4 rfl rfl ?_
    exact j_iret (pc := 79) O dX5_count_79
  refine jw_swc (fun hc => ?_) (fun n4 => ?_)
  · subst hc
    refine j_tin (pc := 1) (tgt := 80) O dX5_count_1 (by decide) (by decide) rfl (by decide) ?_
    refine j_aload_n (pc := 80) O 0 dX5_count_80 rfl ?_
    refine j_getf (pc := 81) (v := .ref (ad 3)) O 0 3 dX5_count_81 fl_X5_22 so_S1_0 rfl rfl ?_
    refine j_getf (pc := 84) (v := .int (M.1 3 1)) O 3 1 dX5_count_84 fl_X5_120 so_S1_3 rfl rfl ?_
    exact j_iret (pc := 87) O dX5_count_87
  refine jw_swc (fun hc => ?_) (fun n5 => ?_)
  · subst hc
    refine j_tin (pc := 1) (tgt := 88) O dX5_count_1 (by decide) (by decide) rfl (by decide) ?_
    refine j_aload_n (pc := 88) O 0 dX5_count_88 rfl ?_
    refine j_getf (pc := 89) (v := .ref (ad 1)) O 0 0 dX5_count_89 fl_X5_10 so_S1_0 rfl rfl ?_
    refine j_getf (pc := 92) (v := .int (M.1 1 2)) O 1 2 dX5_count_92 fl_X5_129 so_S1_1 rfl rfl ?_
    exact j_iret (pc := 95) O dX5_count_95
  refine jw_swc (fun hc => ?_) (fun n6 => ?_)
  · subst hc
    refine j_tin (pc := 1) (tgt := 96) O dX5_count_1 (by decide) (by decide) rfl (by decide) ?_
    refine j_aload_n (pc := 96) O 0 dX5_count_96 rfl ?_
    refine j_getf (pc := 97) (v := .ref (ad 6)) O 0 6 dX5_count_97 fl_X5_45 so_S1_0 rfl rfl ?_
    refine j_aload_n (pc := 100) O 0 dX5_count_100 rfl ?_
    refine j_getf (pc := 101) (v := .ref (ad 1)) O 0 0 dX5_count_101 fl_X5_10 so_S1_0 rfl rfl ?_
    refine j_getf (pc := 104) (v := .int (M.1 1 1)) O 1 1 dX5_count_104 fl_X5_97 so_S1_1 rfl rfl ?_
    refine j_callVv (pc := 107) (dc := 3) (As := [.int (M.1 1 1)]) (rest := []) O 6 (fun M1 h => sp_X2_bake h) dX5_count_107 mv_X2_bake lm_X5_111 so_S1_6 rfl rfl (Nat.le_of_ble_eq_true rfl) (Nat.le_trans (Nat.le_of_ble_eq_true rfl) hd0) (fun M2 => ?_)
    refine j_aload_n (pc := 110) O 0 dX5_count_110 rfl ?_
    refine j_getf (pc := 111) (v := .ref (ad 6)) O 0 6 dX5_count_111 fl_X5_45 so_S1_0 rfl rfl ?_
    refine j_callVi (pc := 114) (dc := 1) (As := []) (rest := []) O 6 (fun r M1 h => sp_X2_servedCakes h) dX5_count_114 mv_X2_servedCakes lm_X5_218 so_S1_6 rfl rfl (Nat.le_of_ble_eq_true rfl) (Nat.le_trans (Nat.le_of_ble_eq_true rfl) hd0) (fun r4 M3 => ?_)
    exact j_iret (pc := 117) O dX5_count_117
  refine jw_swc (fun hc => ?_) (fun n7 => ?_)
  · subst hc
    refine j_tin (pc := 1) (tgt := 118) O dX5_count_1 (by decide) (by decide) rfl (by decide) ?_
    refine j_aload_n (pc := 118) O 0 dX5_count_118 rfl ?_
    refine j_getf (pc := 119) (v := .ref (ad 1)) O 0 0 dX5_count_119 fl_X5_10 so_S1_0 rfl rfl ?_
    refine j_callVi (pc := 122) (dc := 1) (As := []) (rest := []) O 1 (fun r M1 h => sp_X3_wantOfAll_1 h) dX5_count_122 mv_X3_wantOfAll lm_X5_222 so_S1_1 rfl rfl (Nat.le_of_ble_eq_true rfl) (Nat.le_trans (Nat.le_of_ble_eq_true rfl) hd0) (fun r6 M5 => ?_)
    exact j_iret (pc := 125) O dX5_count_125
  refine jw_swd ?_
  have q0 := lv_neT (a := 0) n0 (by decide)
  have q1 := lv_neT (a := 1) n1 (by decide)
  have q2 := lv_neT (a := 2) n2 (by decide)
  have q3 := lv_neT (a := 3) n3 (by decide)
  have q4 := lv_neT (a := 4) n4 (by decide)
  have q5 := lv_neT (a := 5) n5 (by decide)
  have q6 := lv_neT (a := 6) n6 (by decide)
  have q7 := lv_neT (a := 7) n7 (by decide)
  refine j_tout (pc := 1) (tgt := 126) O dX5_count_1 (by omega) (by decide) ?_
  refine j_bipush (pc := 126) (v := -2) O dX5_count_126 (by decide) ?_
  exact j_iret (pc := 128) O dX5_count_128
theorem sp_X5_count {G : wn_G} {ad : Nat → Nat} {x1 : Int32} {M : Mm} {r : Int32} {M1 : Mm} (h : f_X5_count x1 M = some (r, M1)) : Sp G S1 ad mX5_count 4 [.ref (ad 0), .int x1] M M1 (some (.int r)) :=
  sp_intro (own := RX5) (by decide +kernel) rfl (Nat.le_of_ble_eq_true rfl) (fun X O T => jf_X5_count O (Nat.le_refl _) x1 M (r, M1) h T)
def h_X6_count_100 (G : wn_G) (ad : Nat → Nat) (X : wn_X) : Int32 × Int32 × Mm → Prop := fun s => PW G S2 ad X 100 [(0, .ref (ad 0)), (2, .int s.1), (3, .int s.2.1)] [] s.2.2
def f_X6_count_b100 (x2 : Int32) (x3 : Int32) (M : Mm) : Option ((Int32 × Int32 × Mm) ⊕ (Int32 × Mm)) :=
  if (M.1 0 13) ≤ x3 then
    ex (
    some (x2, M))
  else
    gd (bin x3 5 = true) inferInstance <|
    bi (x2 + (M.1 6 (Int32.toNatClampNeg x3))) fun y3 =>
    bi (x3 + (1 : Int32)) fun y4 =>
    some (.inl (y3, y4, M))
set_option maxRecDepth 100000 in
set_option maxHeartbeats 4000000 in
theorem jf_X6_count_b100 {G : wn_G} {ad : Nat → Nat} {X : wn_X} {d : Nat} (O : Ok G RX6 cX6_count 4 d X) (hd0 : 111 ≤ d) (x2 : Int32) (x3 : Int32) (M : Mm) : JW G S2 ad X 100 [(0, .ref (ad 0)), (2, .int x2), (3, .int x3)] [] M (f_X6_count_b100 x2 x3 M) (Kl (h_X6_count_100 G ad X) (Kri G S2 ad X)) := by
  unfold f_X6_count_b100
  refine j_iload_n (pc := 100) O 2 dX6_count_100 rfl ?_
  refine j_aload_n (pc := 101) O 0 dX6_count_101 rfl ?_
  refine j_getf (pc := 102) (v := .int (M.1 0 13)) O 0 13 dX6_count_102 fl_X6_91 so_S2_0 rfl rfl ?_
  refine j_icmp_ge (pc := 105) (tgt := 123) O dX6_count_105 (by decide) ?_ ?_
  · refine jw_ex ?_
    refine j_iload_n (pc := 123) O 1 dX6_count_123 rfl ?_
    exact j_iret (pc := 124) O dX6_count_124
  · refine j_iload_n (pc := 108) O 1 dX6_count_108 rfl ?_
    refine j_aload_n (pc := 109) O 0 dX6_count_109 rfl ?_
    refine j_getf (pc := 110) (v := .ref (ad 6)) O 0 11 dX6_count_110 fl_X6_35 so_S2_0 rfl rfl ?_
    refine j_iload_n (pc := 113) O 2 dX6_count_113 rfl ?_
    refine j_iald (pc := 114) O 6 dX6_count_114 so_S2_6 ?_
    refine j_iadd (pc := 115) O dX6_count_115 ?_
    refine jw_bi fun y3 => ?_
    refine j_istore_n (pc := 116) (L' := [(2, .int y3), (0, .ref (ad 0)), (3, .int x3)]) O dX6_count_116 (by decide) rfl ?_
    refine j_iinc (pc := 117) (v := 1) (L2 := fun y => [(3, .int y), (2, .int y3), (0, .ref (ad 0))]) O 2 dX6_count_117 rfl (by decide) (by decide) (fun _ => rfl) (fun y4 => ?_)
    refine j_goto (pc := 120) (tgt := 100) O dX6_count_120 (by decide) ?_
    exact jw_next (fun hh => pw_sub [2, 1, 0] rfl hh)
def f_X6_count (x1 : Int32) (M : Mm) : Option (Int32 × Mm) :=
  bd (f_X6_in (Int32.toInt64 x1) (0 : Int64) (7 : Int64) M) fun r2 M1 =>
  if r2 = 0 then
    some ((-2 : Int32), M1)
  else
    if (6 : Int32) ≤ x1 then
      if x1 = (6 : Int32) then
        bd (f_X6_servedMany M1) fun r6 M5 =>
        some (r6, M5)
      else
        iter (fun s => f_X6_count_b100 s.1 s.2.1 s.2.2) fuel ((0 : Int32), (0 : Int32), M1)
    else
      if x1 = 0 then
        some ((M1.1 0 13), M1)
      else
        if x1 = (1 : Int32) then
          some ((M1.1 0 7), M1)
        else
          if x1 = (2 : Int32) then
            some ((M1.1 0 8), M1)
          else
            if x1 = (3 : Int32) then
              some ((M1.1 0 3), M1)
            else
              if x1 = (4 : Int32) then
                some ((M1.1 0 6), M1)
              else
                some ((M1.1 0 4), M1)
set_option maxRecDepth 100000 in
set_option maxHeartbeats 4000000 in
theorem jf_X6_count {G : wn_G} {ad : Nat → Nat} {X : wn_X} {d : Nat} (O : Ok G RX6 cX6_count 4 d X) (hd0 : 111 ≤ d) (x1 : Int32) (M : Mm) : JW G S2 ad X 0 [(0, .ref (ad 0)), (1, .int x1)] [] M (f_X6_count x1 M) (Kri G S2 ad X) := by
  unfold f_X6_count
  refine j_iload_n (pc := 0) O 1 dX6_count_0 rfl ?_
  refine j_i2l (pc := 1) O dX6_count_1 ?_
  refine j_lconst (pc := 2) (v := 0) O dX6_count_2 (by decide) ?_
  refine j_ldc2 (pc := 3) (v := 7) O dX6_count_3 gk_X6_356 ?_
  refine j_callSi (pc := 6) (dc := 1) (As := [.long (Int32.toInt64 x1), .long (0 : Int64), .long (7 : Int64)]) (rest := []) O (fun r M1 h => sp_X6_in h) dX6_count_6 mst_X6_in lm_X6_94 rfl rfl (Nat.le_of_ble_eq_true rfl) (Nat.le_trans (Nat.le_of_ble_eq_true rfl) hd0) (fun r2 M1 => ?_)
  refine j_if_ne (pc := 9) (tgt := 15) O dX6_count_9 (by decide) ?_ ?_
  · refine j_bipush (pc := 12) (v := -2) O dX6_count_12 (by decide) ?_
    exact j_iret (pc := 14) O dX6_count_14
  · refine j_iload_n (pc := 15) O 1 dX6_count_15 rfl ?_
    refine j_bipush (pc := 16) (v := 6) O dX6_count_16 (by decide) ?_
    refine j_icmp_ge (pc := 18) (tgt := 85) O dX6_count_18 (by decide) ?_ ?_
    · refine j_iload_n (pc := 85) O 1 dX6_count_85 rfl ?_
      refine j_bipush (pc := 86) (v := 6) O dX6_count_86 (by decide) ?_
      refine j_icmp_ne (pc := 88) (tgt := 96) O dX6_count_88 (by decide) ?_ ?_
      · refine j_aload_n (pc := 91) O 0 dX6_count_91 rfl ?_
        refine j_callVi (pc := 92) (dc := 110) (As := []) (rest := []) O 0 (fun r M1 h => sp_X6_servedMany h) dX6_count_92 mv_X6_servedMany lm_X6_325 so_S2_0 rfl rfl (Nat.le_of_ble_eq_true rfl) (Nat.le_trans (Nat.le_of_ble_eq_true rfl) hd0) (fun r6 M5 => ?_)
        exact j_iret (pc := 95) O dX6_count_95
      · refine j_iconst (pc := 96) (v := 0) O dX6_count_96 (by decide) ?_
        refine j_istore_n (pc := 97) (L' := [(2, .int (0 : Int32)), (0, .ref (ad 0)), (1, .int x1)]) O dX6_count_97 (by decide) rfl ?_
        refine j_iconst (pc := 98) (v := 0) O dX6_count_98 (by decide) ?_
        refine j_istore_n (pc := 99) (L' := [(3, .int (0 : Int32)), (2, .int (0 : Int32)), (0, .ref (ad 0)), (1, .int x1)]) O dX6_count_99 (by decide) rfl ?_
        exact jw_iter (hd := h_X6_count_100 G ad X) (fun hh => pw_sub [2, 1, 0] rfl hh) (fun s => jf_X6_count_b100 O hd0 s.1 s.2.1 s.2.2)
    · refine j_iload_n (pc := 21) O 1 dX6_count_21 rfl ?_
      refine j_if_ne (pc := 22) (tgt := 32) O dX6_count_22 (by decide) ?_ ?_
      · refine j_aload_n (pc := 25) O 0 dX6_count_25 rfl ?_
        refine j_getf (pc := 26) (v := .int (M1.1 0 13)) O 0 13 dX6_count_26 fl_X6_91 so_S2_0 rfl rfl ?_
        refine j_goto (pc := 29) (tgt := 84) O dX6_count_29 (by decide) ?_
        exact j_iret (pc := 84) O dX6_count_84
      · refine j_iload_n (pc := 32) O 1 dX6_count_32 rfl ?_
        refine j_iconst (pc := 33) (v := 1) O dX6_count_33 (by decide) ?_
        refine j_icmp_ne (pc := 34) (tgt := 44) O dX6_count_34 (by decide) ?_ ?_
        · refine j_aload_n (pc := 37) O 0 dX6_count_37 rfl ?_
          refine j_getf (pc := 38) (v := .int (M1.1 0 7)) O 0 7 dX6_count_38 fl_X6_23 so_S2_0 rfl rfl ?_
          refine j_goto (pc := 41) (tgt := 84) O dX6_count_41 (by decide) ?_
          exact j_iret (pc := 84) O dX6_count_84
        · refine j_iload_n (pc := 44) O 1 dX6_count_44 rfl ?_
          refine j_iconst (pc := 45) (v := 2) O dX6_count_45 (by decide) ?_
          refine j_icmp_ne (pc := 46) (tgt := 56) O dX6_count_46 (by decide) ?_ ?_
          · refine j_aload_n (pc := 49) O 0 dX6_count_49 rfl ?_
            refine j_getf (pc := 50) (v := .int (M1.1 0 8)) O 0 8 dX6_count_50 fl_X6_26 so_S2_0 rfl rfl ?_
            refine j_goto (pc := 53) (tgt := 84) O dX6_count_53 (by decide) ?_
            exact j_iret (pc := 84) O dX6_count_84
          · refine j_iload_n (pc := 56) O 1 dX6_count_56 rfl ?_
            refine j_iconst (pc := 57) (v := 3) O dX6_count_57 (by decide) ?_
            refine j_icmp_ne (pc := 58) (tgt := 68) O dX6_count_58 (by decide) ?_ ?_
            · refine j_aload_n (pc := 61) O 0 dX6_count_61 rfl ?_
              refine j_getf (pc := 62) (v := .int (M1.1 0 3)) O 0 3 dX6_count_62 fl_X6_88 so_S2_0 rfl rfl ?_
              refine j_goto (pc := 65) (tgt := 84) O dX6_count_65 (by decide) ?_
              exact j_iret (pc := 84) O dX6_count_84
            · refine j_iload_n (pc := 68) O 1 dX6_count_68 rfl ?_
              refine j_iconst (pc := 69) (v := 4) O dX6_count_69 (by decide) ?_
              refine j_icmp_ne (pc := 70) (tgt := 80) O dX6_count_70 (by decide) ?_ ?_
              · refine j_aload_n (pc := 73) O 0 dX6_count_73 rfl ?_
                refine j_getf (pc := 74) (v := .int (M1.1 0 6)) O 0 6 dX6_count_74 fl_X6_126 so_S2_0 rfl rfl ?_
                refine j_goto (pc := 77) (tgt := 84) O dX6_count_77 (by decide) ?_
                exact j_iret (pc := 84) O dX6_count_84
              · refine j_aload_n (pc := 80) O 0 dX6_count_80 rfl ?_
                refine j_getf (pc := 81) (v := .int (M1.1 0 4)) O 0 4 dX6_count_81 fl_X6_244 so_S2_0 rfl rfl ?_
                exact j_iret (pc := 84) O dX6_count_84
theorem sp_X6_count {G : wn_G} {ad : Nat → Nat} {x1 : Int32} {M : Mm} {r : Int32} {M1 : Mm} (h : f_X6_count x1 M = some (r, M1)) : Sp G S2 ad mX6_count 111 [.ref (ad 0), .int x1] M M1 (some (.int r)) :=
  sp_intro (own := RX6) (by decide +kernel) rfl (Nat.le_of_ble_eq_true rfl) (fun X O T => jf_X6_count O (Nat.le_refl _) x1 M (r, M1) h T)
def f_X5_sheet (x1 : Int32) (x2 : Int32) (x3 : Int32) (M : Mm) : Option (Int32 × Mm) :=
  bd (f_X1_has x1 M) fun r2 M1 =>
  if r2 = 0 then
    some ((-2 : Int32), M1)
  else
    if x2 < (-1 : Int32) then
      some ((-2 : Int32), M1)
    else
      if x2 < (3 : Int32) then
        if x2 = (-1 : Int32) then
          bv (f_X1_lay x1 (-1 : Int32) (0 : Int32) M1) fun M4 =>
          some ((1 : Int32), M4)
        else
          if x3 ≤ (40 : Int32) then
            if 0 ≤ x3 then
              bv (f_X1_lay x1 x2 x3 M1) fun M3 =>
              some ((1 : Int32), M3)
            else
              some ((-14 : Int32), M1)
          else
            some ((-2 : Int32), M1)
      else
        some ((-2 : Int32), M1)
set_option maxRecDepth 100000 in
set_option maxHeartbeats 4000000 in
theorem jf_X5_sheet {G : wn_G} {ad : Nat → Nat} {X : wn_X} {d : Nat} (O : Ok G RX5 cX5_sheet 4 d X) (hd0 : 3 ≤ d) (x1 : Int32) (x2 : Int32) (x3 : Int32) (M : Mm) : JW G S1 ad X 0 [(0, .ref (ad 0)), (1, .int x1), (2, .int x2), (3, .int x3)] [] M (f_X5_sheet x1 x2 x3 M) (Kri G S1 ad X) := by
  unfold f_X5_sheet
  refine j_aload_n (pc := 0) O 0 dX5_sheet_0 rfl ?_
  refine j_getf (pc := 1) (v := .ref (ad 5)) O 0 5 dX5_sheet_1 fl_X5_36 so_S1_0 rfl rfl ?_
  refine j_iload_n (pc := 4) O 1 dX5_sheet_4 rfl ?_
  refine j_callVi (pc := 5) (dc := 1) (As := [.int x1]) (rest := []) O 5 (fun r M1 h => sp_X1_has h) dX5_sheet_5 mv_X1_has lm_X5_183 so_S1_5 rfl rfl (Nat.le_of_ble_eq_true rfl) (Nat.le_trans (Nat.le_of_ble_eq_true rfl) hd0) (fun r2 M1 => ?_)
  refine j_if_eq (pc := 8) (tgt := 21) O dX5_sheet_8 (by decide) ?_ ?_
  · refine j_bipush (pc := 21) (v := -2) O dX5_sheet_21 (by decide) ?_
    exact j_iret (pc := 23) O dX5_sheet_23
  · refine j_iload_n (pc := 11) O 2 dX5_sheet_11 rfl ?_
    refine j_iconst (pc := 12) (v := -1) O dX5_sheet_12 (by decide) ?_
    refine j_icmp_lt (pc := 13) (tgt := 21) O dX5_sheet_13 (by decide) ?_ ?_
    · refine j_bipush (pc := 21) (v := -2) O dX5_sheet_21 (by decide) ?_
      exact j_iret (pc := 23) O dX5_sheet_23
    · refine j_iload_n (pc := 16) O 2 dX5_sheet_16 rfl ?_
      refine j_iconst (pc := 17) (v := 3) O dX5_sheet_17 (by decide) ?_
      refine j_icmp_lt (pc := 18) (tgt := 24) O dX5_sheet_18 (by decide) ?_ ?_
      · refine j_iload_n (pc := 24) O 2 dX5_sheet_24 rfl ?_
        refine j_iconst (pc := 25) (v := -1) O dX5_sheet_25 (by decide) ?_
        refine j_icmp_ne (pc := 26) (tgt := 41) O dX5_sheet_26 (by decide) ?_ ?_
        · refine j_aload_n (pc := 29) O 0 dX5_sheet_29 rfl ?_
          refine j_getf (pc := 30) (v := .ref (ad 5)) O 0 5 dX5_sheet_30 fl_X5_36 so_S1_0 rfl rfl ?_
          refine j_iload_n (pc := 33) O 1 dX5_sheet_33 rfl ?_
          refine j_iconst (pc := 34) (v := -1) O dX5_sheet_34 (by decide) ?_
          refine j_iconst (pc := 35) (v := 0) O dX5_sheet_35 (by decide) ?_
          refine j_callVv (pc := 36) (dc := 2) (As := [.int x1, .int (-1 : Int32), .int (0 : Int32)]) (rest := []) O 5 (fun M1 h => sp_X1_lay h) dX5_sheet_36 mv_X1_lay lm_X5_190 so_S1_5 rfl rfl (Nat.le_of_ble_eq_true rfl) (Nat.le_trans (Nat.le_of_ble_eq_true rfl) hd0) (fun M4 => ?_)
          refine j_iconst (pc := 39) (v := 1) O dX5_sheet_39 (by decide) ?_
          exact j_iret (pc := 40) O dX5_sheet_40
        · refine j_iload_n (pc := 41) O 3 dX5_sheet_41 rfl ?_
          refine j_bipush (pc := 42) (v := 40) O dX5_sheet_42 (by decide) ?_
          refine j_icmp_le (pc := 44) (tgt := 50) O dX5_sheet_44 (by decide) ?_ ?_
          · refine j_iload_n (pc := 50) O 3 dX5_sheet_50 rfl ?_
            refine j_if_ge (pc := 51) (tgt := 57) O dX5_sheet_51 (by decide) ?_ ?_
            · refine j_aload_n (pc := 57) O 0 dX5_sheet_57 rfl ?_
              refine j_getf (pc := 58) (v := .ref (ad 5)) O 0 5 dX5_sheet_58 fl_X5_36 so_S1_0 rfl rfl ?_
              refine j_iload_n (pc := 61) O 1 dX5_sheet_61 rfl ?_
              refine j_iload_n (pc := 62) O 2 dX5_sheet_62 rfl ?_
              refine j_iload_n (pc := 63) O 3 dX5_sheet_63 rfl ?_
              refine j_callVv (pc := 64) (dc := 2) (As := [.int x1, .int x2, .int x3]) (rest := []) O 5 (fun M1 h => sp_X1_lay h) dX5_sheet_64 mv_X1_lay lm_X5_190 so_S1_5 rfl rfl (Nat.le_of_ble_eq_true rfl) (Nat.le_trans (Nat.le_of_ble_eq_true rfl) hd0) (fun M3 => ?_)
              refine j_iconst (pc := 67) (v := 1) O dX5_sheet_67 (by decide) ?_
              exact j_iret (pc := 68) O dX5_sheet_68
            · refine j_bipush (pc := 54) (v := -14) O dX5_sheet_54 (by decide) ?_
              exact j_iret (pc := 56) O dX5_sheet_56
          · refine j_bipush (pc := 47) (v := -2) O dX5_sheet_47 (by decide) ?_
            exact j_iret (pc := 49) O dX5_sheet_49
      · refine j_bipush (pc := 21) (v := -2) O dX5_sheet_21 (by decide) ?_
        exact j_iret (pc := 23) O dX5_sheet_23
theorem sp_X5_sheet {G : wn_G} {ad : Nat → Nat} {x1 : Int32} {x2 : Int32} {x3 : Int32} {M : Mm} {r : Int32} {M1 : Mm} (h : f_X5_sheet x1 x2 x3 M = some (r, M1)) : Sp G S1 ad mX5_sheet 3 [.ref (ad 0), .int x1, .int x2, .int x3] M M1 (some (.int r)) :=
  sp_intro (own := RX5) (by decide +kernel) rfl (Nat.le_of_ble_eq_true rfl) (fun X O T => jf_X5_sheet O (Nat.le_refl _) x1 x2 x3 M (r, M1) h T)
def f_X5_cell (x1 : Int32) (x2 : Int32) (x3 : Int32) (M : Mm) : Option (Int32 × Mm) :=
  bd (f_X1_has x1 M) fun r2 M1 =>
  if r2 = 0 then
    some ((-2 : Int32), M1)
  else
    bd (f_X1_isMissing x1 M1) fun r4 M3 =>
    if r4 = 0 then
      if x2 < 0 then
        some ((-12 : Int32), M3)
      else
        bd (f_X1_sizeOf x1 M3) fun r6 M5 =>
        if x2 < r6 then
          bv (f_X1_put x1 x2 x3 M5) fun M7 =>
          some ((1 : Int32), M7)
        else
          some ((-12 : Int32), M5)
    else
      some ((-11 : Int32), M3)
set_option maxRecDepth 100000 in
set_option maxHeartbeats 4000000 in
theorem jf_X5_cell {G : wn_G} {ad : Nat → Nat} {X : wn_X} {d : Nat} (O : Ok G RX5 cX5_cell 4 d X) (hd0 : 5 ≤ d) (x1 : Int32) (x2 : Int32) (x3 : Int32) (M : Mm) : JW G S1 ad X 0 [(0, .ref (ad 0)), (1, .int x1), (2, .int x2), (3, .int x3)] [] M (f_X5_cell x1 x2 x3 M) (Kri G S1 ad X) := by
  unfold f_X5_cell
  refine j_aload_n (pc := 0) O 0 dX5_cell_0 rfl ?_
  refine j_getf (pc := 1) (v := .ref (ad 5)) O 0 5 dX5_cell_1 fl_X5_36 so_S1_0 rfl rfl ?_
  refine j_iload_n (pc := 4) O 1 dX5_cell_4 rfl ?_
  refine j_callVi (pc := 5) (dc := 1) (As := [.int x1]) (rest := []) O 5 (fun r M1 h => sp_X1_has h) dX5_cell_5 mv_X1_has lm_X5_183 so_S1_5 rfl rfl (Nat.le_of_ble_eq_true rfl) (Nat.le_trans (Nat.le_of_ble_eq_true rfl) hd0) (fun r2 M1 => ?_)
  refine j_if_ne (pc := 8) (tgt := 14) O dX5_cell_8 (by decide) ?_ ?_
  · refine j_bipush (pc := 11) (v := -2) O dX5_cell_11 (by decide) ?_
    exact j_iret (pc := 13) O dX5_cell_13
  · refine j_aload_n (pc := 14) O 0 dX5_cell_14 rfl ?_
    refine j_getf (pc := 15) (v := .ref (ad 5)) O 0 5 dX5_cell_15 fl_X5_36 so_S1_0 rfl rfl ?_
    refine j_iload_n (pc := 18) O 1 dX5_cell_18 rfl ?_
    refine j_callVi (pc := 19) (dc := 2) (As := [.int x1]) (rest := []) O 5 (fun r M1 h => sp_X1_isMissing h) dX5_cell_19 mv_X1_isMissing lm_X5_136 so_S1_5 rfl rfl (Nat.le_of_ble_eq_true rfl) (Nat.le_trans (Nat.le_of_ble_eq_true rfl) hd0) (fun r4 M3 => ?_)
    refine j_if_eq (pc := 22) (tgt := 28) O dX5_cell_22 (by decide) ?_ ?_
    · refine j_iload_n (pc := 28) O 2 dX5_cell_28 rfl ?_
      refine j_if_lt (pc := 29) (tgt := 44) O dX5_cell_29 (by decide) ?_ ?_
      · refine j_bipush (pc := 44) (v := -12) O dX5_cell_44 (by decide) ?_
        exact j_iret (pc := 46) O dX5_cell_46
      · refine j_iload_n (pc := 32) O 2 dX5_cell_32 rfl ?_
        refine j_aload_n (pc := 33) O 0 dX5_cell_33 rfl ?_
        refine j_getf (pc := 34) (v := .ref (ad 5)) O 0 5 dX5_cell_34 fl_X5_36 so_S1_0 rfl rfl ?_
        refine j_iload_n (pc := 37) O 1 dX5_cell_37 rfl ?_
        refine j_callVi (pc := 38) (dc := 2) (As := [.int x1]) (rest := [.int x2]) O 5 (fun r M1 h => sp_X1_sizeOf h) dX5_cell_38 mv_X1_sizeOf lm_X5_142 so_S1_5 rfl rfl (Nat.le_of_ble_eq_true rfl) (Nat.le_trans (Nat.le_of_ble_eq_true rfl) hd0) (fun r6 M5 => ?_)
        refine j_icmp_lt (pc := 41) (tgt := 47) O dX5_cell_41 (by decide) ?_ ?_
        · refine j_aload_n (pc := 47) O 0 dX5_cell_47 rfl ?_
          refine j_getf (pc := 48) (v := .ref (ad 5)) O 0 5 dX5_cell_48 fl_X5_36 so_S1_0 rfl rfl ?_
          refine j_iload_n (pc := 51) O 1 dX5_cell_51 rfl ?_
          refine j_iload_n (pc := 52) O 2 dX5_cell_52 rfl ?_
          refine j_iload_n (pc := 53) O 3 dX5_cell_53 rfl ?_
          refine j_callVv (pc := 54) (dc := 4) (As := [.int x1, .int x2, .int x3]) (rest := []) O 5 (fun M1 h => sp_X1_put h) dX5_cell_54 mv_X1_put lm_X5_196 so_S1_5 rfl rfl (Nat.le_of_ble_eq_true rfl) (Nat.le_trans (Nat.le_of_ble_eq_true rfl) hd0) (fun M7 => ?_)
          refine j_iconst (pc := 57) (v := 1) O dX5_cell_57 (by decide) ?_
          exact j_iret (pc := 58) O dX5_cell_58
        · refine j_bipush (pc := 44) (v := -12) O dX5_cell_44 (by decide) ?_
          exact j_iret (pc := 46) O dX5_cell_46
    · refine j_bipush (pc := 25) (v := -11) O dX5_cell_25 (by decide) ?_
      exact j_iret (pc := 27) O dX5_cell_27
theorem sp_X5_cell {G : wn_G} {ad : Nat → Nat} {x1 : Int32} {x2 : Int32} {x3 : Int32} {M : Mm} {r : Int32} {M1 : Mm} (h : f_X5_cell x1 x2 x3 M = some (r, M1)) : Sp G S1 ad mX5_cell 5 [.ref (ad 0), .int x1, .int x2, .int x3] M M1 (some (.int r)) :=
  sp_intro (own := RX5) (by decide +kernel) rfl (Nat.le_of_ble_eq_true rfl) (fun X O T => jf_X5_cell O (Nat.le_refl _) x1 x2 x3 M (r, M1) h T)
def f_X6_cell_j83 (s0 : Int32) (s1 : Int32) (M : Mm) : Option (Int32 × Mm) :=
  gd (bin s1 160 = true) inferInstance <| bm (ms M 19 (Int32.toNatClampNeg s1) s0) fun M5 =>
  some ((1 : Int32), M5)
set_option maxRecDepth 100000 in
set_option maxHeartbeats 4000000 in
theorem jf_X6_cell_j83 {G : wn_G} {ad : Nat → Nat} {X : wn_X} {d : Nat} (O : Ok G RX6 cX6_cell 4 d X) (hd0 : 3 ≤ d) (s0 : Int32) (s1 : Int32) (M : Mm) : JW G S2 ad X 83 [] [.int s0, .int s1, .ref (ad 19)] M (f_X6_cell_j83 s0 s1 M) (Kri G S2 ad X) := by
  unfold f_X6_cell_j83
  refine j_iast (pc := 83) O 19 dX6_cell_83 so_S2_19 (fun M5 => ?_)
  refine j_iconst (pc := 84) (v := 1) O dX6_cell_84 (by decide) ?_
  exact j_iret (pc := 85) O dX6_cell_85
def f_X6_cell (x1 : Int32) (x2 : Int32) (x3 : Int32) (M : Mm) : Option (Int32 × Mm) :=
  bd (f_X6_isSheet x1 M) fun r2 M1 =>
  if r2 = 0 then
    some ((-2 : Int32), M1)
  else
    gd (bin x1 4 = true) inferInstance <|
    if (M1.1 16 (Int32.toNatClampNeg x1)) = 0 then
      some ((-11 : Int32), M1)
    else
      gd (bin x1 4 = true) inferInstance <|
      bd (f_X6_in (Int32.toInt64 x2) (0 : Int64) (Int32.toInt64 ((M1.1 18 (Int32.toNatClampNeg x1)) - (1 : Int32))) M1) fun r4 M3 =>
      if r4 = 0 then
        some ((-12 : Int32), M3)
      else
        gd (bin x1 4 = true) inferInstance <|
        if (M3.1 17 (Int32.toNatClampNeg x1)) = 0 then
          f_X6_cell_j83 (Int8.toInt32 (Int32.toInt8 x3)) (((40 : Int32) * x1) + x2) M3
        else
          gd (bin x1 4 = true) inferInstance <|
          if (M3.1 17 (Int32.toNatClampNeg x1)) = (1 : Int32) then
            f_X6_cell_j83 (Int16.toInt32 (Int32.toInt16 x3)) (((40 : Int32) * x1) + x2) M3
          else
            f_X6_cell_j83 x3 (((40 : Int32) * x1) + x2) M3
set_option maxRecDepth 100000 in
set_option maxHeartbeats 4000000 in
theorem jf_X6_cell {G : wn_G} {ad : Nat → Nat} {X : wn_X} {d : Nat} (O : Ok G RX6 cX6_cell 4 d X) (hd0 : 3 ≤ d) (x1 : Int32) (x2 : Int32) (x3 : Int32) (M : Mm) : JW G S2 ad X 0 [(0, .ref (ad 0)), (1, .int x1), (2, .int x2), (3, .int x3)] [] M (f_X6_cell x1 x2 x3 M) (Kri G S2 ad X) := by
  unfold f_X6_cell
  refine j_iload_n (pc := 0) O 1 dX6_cell_0 rfl ?_
  refine j_callSi (pc := 1) (dc := 2) (As := [.int x1]) (rest := []) O (fun r M1 h => sp_X6_isSheet h) dX6_cell_1 mst_X6_isSheet lm_X6_303 rfl rfl (Nat.le_of_ble_eq_true rfl) (Nat.le_trans (Nat.le_of_ble_eq_true rfl) hd0) (fun r2 M1 => ?_)
  refine j_if_ne (pc := 4) (tgt := 10) O dX6_cell_4 (by decide) ?_ ?_
  · refine j_bipush (pc := 7) (v := -2) O dX6_cell_7 (by decide) ?_
    exact j_iret (pc := 9) O dX6_cell_9
  · refine j_aload_n (pc := 10) O 0 dX6_cell_10 rfl ?_
    refine j_getf (pc := 11) (v := .ref (ad 16)) O 0 48 dX6_cell_11 fl_X6_71 so_S2_0 rfl rfl ?_
    refine j_iload_n (pc := 14) O 1 dX6_cell_14 rfl ?_
    refine j_zald (pc := 15) O 16 dX6_cell_15 so_S2_16 ?_
    refine j_if_ne (pc := 16) (tgt := 22) O dX6_cell_16 (by decide) ?_ ?_
    · refine j_bipush (pc := 19) (v := -11) O dX6_cell_19 (by decide) ?_
      exact j_iret (pc := 21) O dX6_cell_21
    · refine j_iload_n (pc := 22) O 2 dX6_cell_22 rfl ?_
      refine j_i2l (pc := 23) O dX6_cell_23 ?_
      refine j_lconst (pc := 24) (v := 0) O dX6_cell_24 (by decide) ?_
      refine j_aload_n (pc := 25) O 0 dX6_cell_25 rfl ?_
      refine j_getf (pc := 26) (v := .ref (ad 18)) O 0 50 dX6_cell_26 fl_X6_78 so_S2_0 rfl rfl ?_
      refine j_iload_n (pc := 29) O 1 dX6_cell_29 rfl ?_
      refine j_iald (pc := 30) O 18 dX6_cell_30 so_S2_18 ?_
      refine j_iconst (pc := 31) (v := 1) O dX6_cell_31 (by decide) ?_
      refine j_isub (pc := 32) O dX6_cell_32 ?_
      refine j_i2l (pc := 33) O dX6_cell_33 ?_
      refine j_callSi (pc := 34) (dc := 1) (As := [.long (Int32.toInt64 x2), .long (0 : Int64), .long (Int32.toInt64 ((M1.1 18 (Int32.toNatClampNeg x1)) - (1 : Int32)))]) (rest := []) O (fun r M1 h => sp_X6_in h) dX6_cell_34 mst_X6_in lm_X6_94 rfl rfl (Nat.le_of_ble_eq_true rfl) (Nat.le_trans (Nat.le_of_ble_eq_true rfl) hd0) (fun r4 M3 => ?_)
      refine j_if_ne (pc := 37) (tgt := 43) O dX6_cell_37 (by decide) ?_ ?_
      · refine j_bipush (pc := 40) (v := -12) O dX6_cell_40 (by decide) ?_
        exact j_iret (pc := 42) O dX6_cell_42
      · refine j_aload_n (pc := 43) O 0 dX6_cell_43 rfl ?_
        refine j_getf (pc := 44) (v := .ref (ad 19)) O 0 51 dX6_cell_44 fl_X6_81 so_S2_0 rfl rfl ?_
        refine j_bipush (pc := 47) (v := 40) O dX6_cell_47 (by decide) ?_
        refine j_iload_n (pc := 49) O 1 dX6_cell_49 rfl ?_
        refine j_imul (pc := 50) O dX6_cell_50 ?_
        refine j_iload_n (pc := 51) O 2 dX6_cell_51 rfl ?_
        refine j_iadd (pc := 52) O dX6_cell_52 ?_
        refine j_aload_n (pc := 53) O 0 dX6_cell_53 rfl ?_
        refine j_getf (pc := 54) (v := .ref (ad 17)) O 0 49 dX6_cell_54 fl_X6_75 so_S2_0 rfl rfl ?_
        refine j_iload_n (pc := 57) O 1 dX6_cell_57 rfl ?_
        refine j_iald (pc := 58) O 17 dX6_cell_58 so_S2_17 ?_
        refine j_if_ne (pc := 59) (tgt := 67) O dX6_cell_59 (by decide) ?_ ?_
        · refine j_iload_n (pc := 62) O 3 dX6_cell_62 rfl ?_
          refine j_i2b (pc := 63) O dX6_cell_63 ?_
          refine j_goto (pc := 64) (tgt := 83) O dX6_cell_64 (by decide) ?_
          exact jw_sub [] rfl (jf_X6_cell_j83 O hd0 (Int8.toInt32 (Int32.toInt8 x3)) (((40 : Int32) * x1) + x2) M3)
        · refine j_aload_n (pc := 67) O 0 dX6_cell_67 rfl ?_
          refine j_getf (pc := 68) (v := .ref (ad 17)) O 0 49 dX6_cell_68 fl_X6_75 so_S2_0 rfl rfl ?_
          refine j_iload_n (pc := 71) O 1 dX6_cell_71 rfl ?_
          refine j_iald (pc := 72) O 17 dX6_cell_72 so_S2_17 ?_
          refine j_iconst (pc := 73) (v := 1) O dX6_cell_73 (by decide) ?_
          refine j_icmp_ne (pc := 74) (tgt := 82) O dX6_cell_74 (by decide) ?_ ?_
          · refine j_iload_n (pc := 77) O 3 dX6_cell_77 rfl ?_
            refine j_i2s (pc := 78) O dX6_cell_78 ?_
            refine j_goto (pc := 79) (tgt := 83) O dX6_cell_79 (by decide) ?_
            exact jw_sub [] rfl (jf_X6_cell_j83 O hd0 (Int16.toInt32 (Int32.toInt16 x3)) (((40 : Int32) * x1) + x2) M3)
          · refine j_iload_n (pc := 82) O 3 dX6_cell_82 rfl ?_
            exact jw_sub [] rfl (jf_X6_cell_j83 O hd0 x3 (((40 : Int32) * x1) + x2) M3)
theorem sp_X6_cell {G : wn_G} {ad : Nat → Nat} {x1 : Int32} {x2 : Int32} {x3 : Int32} {M : Mm} {r : Int32} {M1 : Mm} (h : f_X6_cell x1 x2 x3 M = some (r, M1)) : Sp G S2 ad mX6_cell 3 [.ref (ad 0), .int x1, .int x2, .int x3] M M1 (some (.int r)) :=
  sp_intro (own := RX6) (by decide +kernel) rfl (Nat.le_of_ble_eq_true rfl) (fun X O T => jf_X6_cell O (Nat.le_refl _) x1 x2 x3 M (r, M1) h T)
def f_X1_sortOf (x1 : Int32) (M : Mm) : Option (Int32 × Mm) :=
  bd (f_X1_has x1 M) fun r2 M1 =>
  if r2 = 0 then
    some ((-1 : Int32), M1)
  else
    gd (bin x1 4 = true) inferInstance <|
    some ((M1.1 22 (Int32.toNatClampNeg x1)), M1)
set_option maxRecDepth 100000 in
set_option maxHeartbeats 4000000 in
theorem jf_X1_sortOf {G : wn_G} {ad : Nat → Nat} {X : wn_X} {d : Nat} (O : Ok G RX1 cX1_sortOf 2 d X) (hd0 : 2 ≤ d) (x1 : Int32) (M : Mm) : JW G S1 ad X 0 [(0, .ref (ad 5)), (1, .int x1)] [] M (f_X1_sortOf x1 M) (Kri G S1 ad X) := by
  unfold f_X1_sortOf
  refine j_aload_n (pc := 0) O 0 dX1_sortOf_0 rfl ?_
  refine j_iload_n (pc := 1) O 1 dX1_sortOf_1 rfl ?_
  refine j_callVi (pc := 2) (dc := 1) (As := [.int x1]) (rest := []) O 5 (fun r M1 h => sp_X1_has h) dX1_sortOf_2 mv_X1_has lm_X1_21 so_S1_5 rfl rfl (Nat.le_of_ble_eq_true rfl) (Nat.le_trans (Nat.le_of_ble_eq_true rfl) hd0) (fun r2 M1 => ?_)
  refine j_if_eq (pc := 5) (tgt := 17) O dX1_sortOf_5 (by decide) ?_ ?_
  · refine j_iconst (pc := 17) (v := -1) O dX1_sortOf_17 (by decide) ?_
    exact j_iret (pc := 18) O dX1_sortOf_18
  · refine j_aload_n (pc := 8) O 0 dX1_sortOf_8 rfl ?_
    refine j_getf (pc := 9) (v := .ref (ad 22)) O 5 0 dX1_sortOf_9 fl_X1_9 so_S1_5 rfl rfl ?_
    refine j_iload_n (pc := 12) O 1 dX1_sortOf_12 rfl ?_
    refine j_iald (pc := 13) O 22 dX1_sortOf_13 so_S1_22 ?_
    refine j_goto (pc := 14) (tgt := 18) O dX1_sortOf_14 (by decide) ?_
    exact j_iret (pc := 18) O dX1_sortOf_18
theorem sp_X1_sortOf {G : wn_G} {ad : Nat → Nat} {x1 : Int32} {M : Mm} {r : Int32} {M1 : Mm} (h : f_X1_sortOf x1 M = some (r, M1)) : Sp G S1 ad mX1_sortOf 2 [.ref (ad 5), .int x1] M M1 (some (.int r)) :=
  sp_intro (own := RX1) (by decide +kernel) rfl (Nat.le_of_ble_eq_true rfl) (fun X O T => jf_X1_sortOf O (Nat.le_refl _) x1 M (r, M1) h T)
def f_X1_move (x1 : Int32) (x2 : Int32) (x3 : Int32) (x4 : Int32) (x5 : Int32) (M : Mm) : Option (Mm) :=
  bd (f_X1_spans x1 x2 x5 M) fun r2 M1 =>
  if r2 = 0 then
    some M1
  else
    bd (f_X1_spans x3 x4 x5 M1) fun r4 M3 =>
    if r4 = 0 then
      some M3
    else
      gd (¬ ((x1 * (40 : Int32)) + x2) < 0 ∧ ¬ ((x3 * (40 : Int32)) + x4) < 0 ∧ ¬ x5 < 0 ∧ Int32.toNatClampNeg ((x1 * (40 : Int32)) + x2) + Int32.toNatClampNeg x5 ≤ 160 ∧ Int32.toNatClampNeg ((x3 * (40 : Int32)) + x4) + Int32.toNatClampNeg x5 ≤ 160) inferInstance <| bm (mc M3 24 (Int32.toNatClampNeg ((x1 * (40 : Int32)) + x2)) 24 (Int32.toNatClampNeg ((x3 * (40 : Int32)) + x4)) (Int32.toNatClampNeg x5)) fun M5 =>
      some M5
set_option maxRecDepth 100000 in
set_option maxHeartbeats 4000000 in
theorem jf_X1_move {G : wn_G} {ad : Nat → Nat} {X : wn_X} {d : Nat} (O : Ok G RX1 cX1_move 6 d X) (hd0 : 4 ≤ d) (x1 : Int32) (x2 : Int32) (x3 : Int32) (x4 : Int32) (x5 : Int32) (M : Mm) : JW G S1 ad X 0 [(0, .ref (ad 5)), (1, .int x1), (2, .int x2), (3, .int x3), (4, .int x4), (5, .int x5)] [] M (f_X1_move x1 x2 x3 x4 x5 M) (Krv G S1 ad X) := by
  unfold f_X1_move
  refine j_aload_n (pc := 0) O 0 dX1_move_0 rfl ?_
  refine j_iload_n (pc := 1) O 1 dX1_move_1 rfl ?_
  refine j_iload_n (pc := 2) O 2 dX1_move_2 rfl ?_
  refine j_iload (pc := 3) O 5 dX1_move_3 rfl ?_
  refine j_callVi (pc := 5) (dc := 3) (As := [.int x1, .int x2, .int x5]) (rest := []) O 5 (fun r M1 h => sp_X1_spans h) dX1_move_5 mv_X1_spans lm_X1_29 so_S1_5 rfl rfl (Nat.le_of_ble_eq_true rfl) (Nat.le_trans (Nat.le_of_ble_eq_true rfl) hd0) (fun r2 M1 => ?_)
  refine j_if_eq (pc := 8) (tgt := 49) O dX1_move_8 (by decide) ?_ ?_
  · exact j_vret (pc := 49) O dX1_move_49
  · refine j_aload_n (pc := 11) O 0 dX1_move_11 rfl ?_
    refine j_iload_n (pc := 12) O 3 dX1_move_12 rfl ?_
    refine j_iload (pc := 13) O 4 dX1_move_13 rfl ?_
    refine j_iload (pc := 15) O 5 dX1_move_15 rfl ?_
    refine j_callVi (pc := 17) (dc := 3) (As := [.int x3, .int x4, .int x5]) (rest := []) O 5 (fun r M1 h => sp_X1_spans h) dX1_move_17 mv_X1_spans lm_X1_29 so_S1_5 rfl rfl (Nat.le_of_ble_eq_true rfl) (Nat.le_trans (Nat.le_of_ble_eq_true rfl) hd0) (fun r4 M3 => ?_)
    refine j_if_eq (pc := 20) (tgt := 49) O dX1_move_20 (by decide) ?_ ?_
    · exact j_vret (pc := 49) O dX1_move_49
    · refine j_aload_n (pc := 23) O 0 dX1_move_23 rfl ?_
      refine j_getf (pc := 24) (v := .ref (ad 24)) O 5 2 dX1_move_24 fl_X1_18 so_S1_5 rfl rfl ?_
      refine j_iload_n (pc := 27) O 1 dX1_move_27 rfl ?_
      refine j_bipush (pc := 28) (v := 40) O dX1_move_28 (by decide) ?_
      refine j_imul (pc := 30) O dX1_move_30 ?_
      refine j_iload_n (pc := 31) O 2 dX1_move_31 rfl ?_
      refine j_iadd (pc := 32) O dX1_move_32 ?_
      refine j_aload_n (pc := 33) O 0 dX1_move_33 rfl ?_
      refine j_getf (pc := 34) (v := .ref (ad 24)) O 5 2 dX1_move_34 fl_X1_18 so_S1_5 rfl rfl ?_
      refine j_iload_n (pc := 37) O 3 dX1_move_37 rfl ?_
      refine j_bipush (pc := 38) (v := 40) O dX1_move_38 (by decide) ?_
      refine j_imul (pc := 40) O dX1_move_40 ?_
      refine j_iload (pc := 41) O 4 dX1_move_41 rfl ?_
      refine j_iadd (pc := 43) O dX1_move_43 ?_
      refine j_iload (pc := 44) O 5 dX1_move_44 rfl ?_
      refine j_copy (pc := 46) O 24 24 dX1_move_46 so_S1_24 so_S1_24 gl_X1_33 gn_copy gt_copy gi_java_lang_System (Nat.le_trans (Nat.le_of_ble_eq_true rfl) hd0) (Nat.le_of_ble_eq_true rfl) (fun M5 => ?_)
      exact j_vret (pc := 49) O dX1_move_49
theorem sp_X1_move {G : wn_G} {ad : Nat → Nat} {x1 : Int32} {x2 : Int32} {x3 : Int32} {x4 : Int32} {x5 : Int32} {M M1 : Mm} (h : f_X1_move x1 x2 x3 x4 x5 M = some M1) : Sp G S1 ad mX1_move 4 [.ref (ad 5), .int x1, .int x2, .int x3, .int x4, .int x5] M M1 none :=
  sp_intro (own := RX1) (by decide +kernel) rfl (Nat.le_of_ble_eq_true rfl) (fun X O T => jf_X1_move O (Nat.le_refl _) x1 x2 x3 x4 x5 M M1 h T)
def f_X5_copy (x1 : Int32) (x2 : Int32) (x3 : Int32) (x4 : Int32) (x5 : Int32) (M : Mm) : Option (Int32 × Mm) :=
  bd (f_X1_has x1 M) fun r2 M1 =>
  if r2 = 0 then
    some ((-2 : Int32), M1)
  else
    bd (f_X1_has x3 M1) fun r4 M3 =>
    if r4 = 0 then
      some ((-2 : Int32), M3)
    else
      bd (f_X1_isMissing x1 M3) fun r6 M5 =>
      if r6 = 0 then
        bd (f_X1_isMissing x3 M5) fun r8 M7 =>
        if r8 = 0 then
          bd (f_X1_sortOf x1 M7) fun r10 M9 =>
          bd (f_X1_sortOf x3 M9) fun r12 M11 =>
          if r10 = r12 then
            if x5 < 0 then
              some ((-12 : Int32), M11)
            else
              bd (f_X1_spans x1 x2 x5 M11) fun r14 M13 =>
              if r14 = 0 then
                some ((-12 : Int32), M13)
              else
                bd (f_X1_spans x3 x4 x5 M13) fun r16 M15 =>
                if r16 = 0 then
                  some ((-12 : Int32), M15)
                else
                  bv (f_X1_move x1 x2 x3 x4 x5 M15) fun M17 =>
                  some (x5, M17)
          else
            some ((-13 : Int32), M11)
        else
          some ((-11 : Int32), M7)
      else
        some ((-11 : Int32), M5)
set_option maxRecDepth 100000 in
set_option maxHeartbeats 4000000 in
theorem jf_X5_copy {G : wn_G} {ad : Nat → Nat} {X : wn_X} {d : Nat} (O : Ok G RX5 cX5_copy 6 d X) (hd0 : 5 ≤ d) (x1 : Int32) (x2 : Int32) (x3 : Int32) (x4 : Int32) (x5 : Int32) (M : Mm) : JW G S1 ad X 0 [(0, .ref (ad 0)), (1, .int x1), (2, .int x2), (3, .int x3), (4, .int x4), (5, .int x5)] [] M (f_X5_copy x1 x2 x3 x4 x5 M) (Kri G S1 ad X) := by
  unfold f_X5_copy
  refine j_aload_n (pc := 0) O 0 dX5_copy_0 rfl ?_
  refine j_getf (pc := 1) (v := .ref (ad 5)) O 0 5 dX5_copy_1 fl_X5_36 so_S1_0 rfl rfl ?_
  refine j_iload_n (pc := 4) O 1 dX5_copy_4 rfl ?_
  refine j_callVi (pc := 5) (dc := 1) (As := [.int x1]) (rest := []) O 5 (fun r M1 h => sp_X1_has h) dX5_copy_5 mv_X1_has lm_X5_183 so_S1_5 rfl rfl (Nat.le_of_ble_eq_true rfl) (Nat.le_trans (Nat.le_of_ble_eq_true rfl) hd0) (fun r2 M1 => ?_)
  refine j_if_eq (pc := 8) (tgt := 22) O dX5_copy_8 (by decide) ?_ ?_
  · refine j_bipush (pc := 22) (v := -2) O dX5_copy_22 (by decide) ?_
    exact j_iret (pc := 24) O dX5_copy_24
  · refine j_aload_n (pc := 11) O 0 dX5_copy_11 rfl ?_
    refine j_getf (pc := 12) (v := .ref (ad 5)) O 0 5 dX5_copy_12 fl_X5_36 so_S1_0 rfl rfl ?_
    refine j_iload_n (pc := 15) O 3 dX5_copy_15 rfl ?_
    refine j_callVi (pc := 16) (dc := 1) (As := [.int x3]) (rest := []) O 5 (fun r M1 h => sp_X1_has h) dX5_copy_16 mv_X1_has lm_X5_183 so_S1_5 rfl rfl (Nat.le_of_ble_eq_true rfl) (Nat.le_trans (Nat.le_of_ble_eq_true rfl) hd0) (fun r4 M3 => ?_)
    refine j_if_ne (pc := 19) (tgt := 25) O dX5_copy_19 (by decide) ?_ ?_
    · refine j_bipush (pc := 22) (v := -2) O dX5_copy_22 (by decide) ?_
      exact j_iret (pc := 24) O dX5_copy_24
    · refine j_aload_n (pc := 25) O 0 dX5_copy_25 rfl ?_
      refine j_getf (pc := 26) (v := .ref (ad 5)) O 0 5 dX5_copy_26 fl_X5_36 so_S1_0 rfl rfl ?_
      refine j_iload_n (pc := 29) O 1 dX5_copy_29 rfl ?_
      refine j_callVi (pc := 30) (dc := 2) (As := [.int x1]) (rest := []) O 5 (fun r M1 h => sp_X1_isMissing h) dX5_copy_30 mv_X1_isMissing lm_X5_136 so_S1_5 rfl rfl (Nat.le_of_ble_eq_true rfl) (Nat.le_trans (Nat.le_of_ble_eq_true rfl) hd0) (fun r6 M5 => ?_)
      refine j_if_ne (pc := 33) (tgt := 47) O dX5_copy_33 (by decide) ?_ ?_
      · refine j_aload_n (pc := 36) O 0 dX5_copy_36 rfl ?_
        refine j_getf (pc := 37) (v := .ref (ad 5)) O 0 5 dX5_copy_37 fl_X5_36 so_S1_0 rfl rfl ?_
        refine j_iload_n (pc := 40) O 3 dX5_copy_40 rfl ?_
        refine j_callVi (pc := 41) (dc := 2) (As := [.int x3]) (rest := []) O 5 (fun r M1 h => sp_X1_isMissing h) dX5_copy_41 mv_X1_isMissing lm_X5_136 so_S1_5 rfl rfl (Nat.le_of_ble_eq_true rfl) (Nat.le_trans (Nat.le_of_ble_eq_true rfl) hd0) (fun r8 M7 => ?_)
        refine j_if_eq (pc := 44) (tgt := 50) O dX5_copy_44 (by decide) ?_ ?_
        · refine j_aload_n (pc := 50) O 0 dX5_copy_50 rfl ?_
          refine j_getf (pc := 51) (v := .ref (ad 5)) O 0 5 dX5_copy_51 fl_X5_36 so_S1_0 rfl rfl ?_
          refine j_iload_n (pc := 54) O 1 dX5_copy_54 rfl ?_
          refine j_callVi (pc := 55) (dc := 2) (As := [.int x1]) (rest := []) O 5 (fun r M1 h => sp_X1_sortOf h) dX5_copy_55 mv_X1_sortOf lm_X5_225 so_S1_5 rfl rfl (Nat.le_of_ble_eq_true rfl) (Nat.le_trans (Nat.le_of_ble_eq_true rfl) hd0) (fun r10 M9 => ?_)
          refine j_aload_n (pc := 58) O 0 dX5_copy_58 rfl ?_
          refine j_getf (pc := 59) (v := .ref (ad 5)) O 0 5 dX5_copy_59 fl_X5_36 so_S1_0 rfl rfl ?_
          refine j_iload_n (pc := 62) O 3 dX5_copy_62 rfl ?_
          refine j_callVi (pc := 63) (dc := 2) (As := [.int x3]) (rest := [.int r10]) O 5 (fun r M1 h => sp_X1_sortOf h) dX5_copy_63 mv_X1_sortOf lm_X5_225 so_S1_5 rfl rfl (Nat.le_of_ble_eq_true rfl) (Nat.le_trans (Nat.le_of_ble_eq_true rfl) hd0) (fun r12 M11 => ?_)
          refine j_icmp_eq (pc := 66) (tgt := 72) O dX5_copy_66 (by decide) ?_ ?_
          · refine j_iload (pc := 72) O 5 dX5_copy_72 rfl ?_
            refine j_if_lt (pc := 74) (tgt := 106) O dX5_copy_74 (by decide) ?_ ?_
            · refine j_bipush (pc := 106) (v := -12) O dX5_copy_106 (by decide) ?_
              exact j_iret (pc := 108) O dX5_copy_108
            · refine j_aload_n (pc := 77) O 0 dX5_copy_77 rfl ?_
              refine j_getf (pc := 78) (v := .ref (ad 5)) O 0 5 dX5_copy_78 fl_X5_36 so_S1_0 rfl rfl ?_
              refine j_iload_n (pc := 81) O 1 dX5_copy_81 rfl ?_
              refine j_iload_n (pc := 82) O 2 dX5_copy_82 rfl ?_
              refine j_iload (pc := 83) O 5 dX5_copy_83 rfl ?_
              refine j_callVi (pc := 85) (dc := 3) (As := [.int x1, .int x2, .int x5]) (rest := []) O 5 (fun r M1 h => sp_X1_spans h) dX5_copy_85 mv_X1_spans lm_X5_228 so_S1_5 rfl rfl (Nat.le_of_ble_eq_true rfl) (Nat.le_trans (Nat.le_of_ble_eq_true rfl) hd0) (fun r14 M13 => ?_)
              refine j_if_eq (pc := 88) (tgt := 106) O dX5_copy_88 (by decide) ?_ ?_
              · refine j_bipush (pc := 106) (v := -12) O dX5_copy_106 (by decide) ?_
                exact j_iret (pc := 108) O dX5_copy_108
              · refine j_aload_n (pc := 91) O 0 dX5_copy_91 rfl ?_
                refine j_getf (pc := 92) (v := .ref (ad 5)) O 0 5 dX5_copy_92 fl_X5_36 so_S1_0 rfl rfl ?_
                refine j_iload_n (pc := 95) O 3 dX5_copy_95 rfl ?_
                refine j_iload (pc := 96) O 4 dX5_copy_96 rfl ?_
                refine j_iload (pc := 98) O 5 dX5_copy_98 rfl ?_
                refine j_callVi (pc := 100) (dc := 3) (As := [.int x3, .int x4, .int x5]) (rest := []) O 5 (fun r M1 h => sp_X1_spans h) dX5_copy_100 mv_X1_spans lm_X5_228 so_S1_5 rfl rfl (Nat.le_of_ble_eq_true rfl) (Nat.le_trans (Nat.le_of_ble_eq_true rfl) hd0) (fun r16 M15 => ?_)
                refine j_if_ne (pc := 103) (tgt := 109) O dX5_copy_103 (by decide) ?_ ?_
                · refine j_bipush (pc := 106) (v := -12) O dX5_copy_106 (by decide) ?_
                  exact j_iret (pc := 108) O dX5_copy_108
                · refine j_aload_n (pc := 109) O 0 dX5_copy_109 rfl ?_
                  refine j_getf (pc := 110) (v := .ref (ad 5)) O 0 5 dX5_copy_110 fl_X5_36 so_S1_0 rfl rfl ?_
                  refine j_iload_n (pc := 113) O 1 dX5_copy_113 rfl ?_
                  refine j_iload_n (pc := 114) O 2 dX5_copy_114 rfl ?_
                  refine j_iload_n (pc := 115) O 3 dX5_copy_115 rfl ?_
                  refine j_iload (pc := 116) O 4 dX5_copy_116 rfl ?_
                  refine j_iload (pc := 118) O 5 dX5_copy_118 rfl ?_
                  refine j_callVv (pc := 120) (dc := 4) (As := [.int x1, .int x2, .int x3, .int x4, .int x5]) (rest := []) O 5 (fun M1 h => sp_X1_move h) dX5_copy_120 mv_X1_move lm_X5_232 so_S1_5 rfl rfl (Nat.le_of_ble_eq_true rfl) (Nat.le_trans (Nat.le_of_ble_eq_true rfl) hd0) (fun M17 => ?_)
                  refine j_iload (pc := 123) O 5 dX5_copy_123 rfl ?_
                  exact j_iret (pc := 125) O dX5_copy_125
          · refine j_bipush (pc := 69) (v := -13) O dX5_copy_69 (by decide) ?_
            exact j_iret (pc := 71) O dX5_copy_71
        · refine j_bipush (pc := 47) (v := -11) O dX5_copy_47 (by decide) ?_
          exact j_iret (pc := 49) O dX5_copy_49
      · refine j_bipush (pc := 47) (v := -11) O dX5_copy_47 (by decide) ?_
        exact j_iret (pc := 49) O dX5_copy_49
theorem sp_X5_copy {G : wn_G} {ad : Nat → Nat} {x1 : Int32} {x2 : Int32} {x3 : Int32} {x4 : Int32} {x5 : Int32} {M : Mm} {r : Int32} {M1 : Mm} (h : f_X5_copy x1 x2 x3 x4 x5 M = some (r, M1)) : Sp G S1 ad mX5_copy 5 [.ref (ad 0), .int x1, .int x2, .int x3, .int x4, .int x5] M M1 (some (.int r)) :=
  sp_intro (own := RX5) (by decide +kernel) rfl (Nat.le_of_ble_eq_true rfl) (fun X O T => jf_X5_copy O (Nat.le_refl _) x1 x2 x3 x4 x5 M (r, M1) h T)
def h_X6_copy_121 (G : wn_G) (ad : Nat → Nat) (X : wn_X) (x1 : Int32) (x2 : Int32) (x3 : Int32) (x4 : Int32) (x5 : Int32) (x6 : Int32) : Int32 × Mm → Prop := fun s => PW G S2 ad X 121 [(0, .ref (ad 0)), (1, .int x1), (2, .int x2), (3, .int x3), (4, .int x4), (5, .int x5), (6, .int x6), (7, .int s.1)] [] s.2
def f_X6_copy_j145 (x1 : Int32) (x2 : Int32) (x3 : Int32) (x4 : Int32) (x5 : Int32) (x6 : Int32) (x7 : Int32) (s0 : Int32) (M : Mm) : Option ((Int32 × Mm) ⊕ (Int32 × Mm)) :=
  gd (bin ((((40 : Int32) * x1) + x2) + s0) 160 = true) inferInstance <|
  gd (bin ((((40 : Int32) * x3) + x4) + s0) 160 = true) inferInstance <| bm (ms M 19 (Int32.toNatClampNeg ((((40 : Int32) * x3) + x4) + s0)) (M.1 19 (Int32.toNatClampNeg ((((40 : Int32) * x1) + x2) + s0)))) fun M5 =>
  bi (x7 + (1 : Int32)) fun y6 =>
  some (.inl (y6, M5))
set_option maxRecDepth 100000 in
set_option maxHeartbeats 4000000 in
theorem jf_X6_copy_j145 {G : wn_G} {ad : Nat → Nat} {X : wn_X} {d : Nat} (O : Ok G RX6 cX6_copy 9 d X) (hd0 : 3 ≤ d) (x1 : Int32) (x2 : Int32) (x3 : Int32) (x4 : Int32) (x5 : Int32) (x6 : Int32) (x7 : Int32) (s0 : Int32) (M : Mm) : JW G S2 ad X 145 [(0, .ref (ad 0)), (1, .int x1), (2, .int x2), (3, .int x3), (4, .int x4), (5, .int x5), (6, .int x6), (7, .int x7)] [.int s0] M (f_X6_copy_j145 x1 x2 x3 x4 x5 x6 x7 s0 M) (Kl (h_X6_copy_121 G ad X x1 x2 x3 x4 x5 x6) (Kri G S2 ad X)) := by
  unfold f_X6_copy_j145
  refine j_istore (pc := 145) (L' := [(8, .int s0), (0, .ref (ad 0)), (1, .int x1), (2, .int x2), (3, .int x3), (4, .int x4), (5, .int x5), (6, .int x6), (7, .int x7)]) O dX6_copy_145 (by decide) rfl ?_
  refine j_aload_n (pc := 147) O 1 dX6_copy_147 rfl ?_
  refine j_getf (pc := 148) (v := .ref (ad 19)) O 0 51 dX6_copy_148 fl_X6_81 so_S2_0 rfl rfl ?_
  refine j_bipush (pc := 151) (v := 40) O dX6_copy_151 (by decide) ?_
  refine j_iload_n (pc := 153) O 4 dX6_copy_153 rfl ?_
  refine j_imul (pc := 154) O dX6_copy_154 ?_
  refine j_iload (pc := 155) O 5 dX6_copy_155 rfl ?_
  refine j_iadd (pc := 157) O dX6_copy_157 ?_
  refine j_iload (pc := 158) O 0 dX6_copy_158 rfl ?_
  refine j_iadd (pc := 160) O dX6_copy_160 ?_
  refine j_aload_n (pc := 161) O 1 dX6_copy_161 rfl ?_
  refine j_getf (pc := 162) (v := .ref (ad 19)) O 0 51 dX6_copy_162 fl_X6_81 so_S2_0 rfl rfl ?_
  refine j_bipush (pc := 165) (v := 40) O dX6_copy_165 (by decide) ?_
  refine j_iload_n (pc := 167) O 2 dX6_copy_167 rfl ?_
  refine j_imul (pc := 168) O dX6_copy_168 ?_
  refine j_iload_n (pc := 169) O 3 dX6_copy_169 rfl ?_
  refine j_iadd (pc := 170) O dX6_copy_170 ?_
  refine j_iload (pc := 171) O 0 dX6_copy_171 rfl ?_
  refine j_iadd (pc := 173) O dX6_copy_173 ?_
  refine j_iald (pc := 174) O 19 dX6_copy_174 so_S2_19 ?_
  refine j_iast (pc := 175) O 19 dX6_copy_175 so_S2_19 (fun M5 => ?_)
  refine j_iinc (pc := 176) (v := 1) (L2 := fun y => [(7, .int y), (8, .int s0), (0, .ref (ad 0)), (1, .int x1), (2, .int x2), (3, .int x3), (4, .int x4), (5, .int x5), (6, .int x6)]) O 8 dX6_copy_176 rfl (by decide) (by decide) (fun _ => rfl) (fun y6 => ?_)
  refine j_goto (pc := 179) (tgt := 121) O dX6_copy_179 (by decide) ?_
  exact jw_next (fun hh => pw_sub [2, 3, 4, 5, 6, 7, 8, 0] rfl hh)
def f_X6_copy_b121 (x1 : Int32) (x2 : Int32) (x3 : Int32) (x4 : Int32) (x5 : Int32) (x6 : Int32) (x7 : Int32) (M : Mm) : Option ((Int32 × Mm) ⊕ (Int32 × Mm)) :=
  if x5 ≤ x7 then
    ex (
    some (x5, M))
  else
    if x6 = 0 then
      f_X6_copy_j145 x1 x2 x3 x4 x5 x6 x7 x7 M
    else
      f_X6_copy_j145 x1 x2 x3 x4 x5 x6 x7 ((x5 - (1 : Int32)) - x7) M
set_option maxRecDepth 100000 in
set_option maxHeartbeats 4000000 in
theorem jf_X6_copy_b121 {G : wn_G} {ad : Nat → Nat} {X : wn_X} {d : Nat} (O : Ok G RX6 cX6_copy 9 d X) (hd0 : 3 ≤ d) (x1 : Int32) (x2 : Int32) (x3 : Int32) (x4 : Int32) (x5 : Int32) (x6 : Int32) (x7 : Int32) (M : Mm) : JW G S2 ad X 121 [(0, .ref (ad 0)), (1, .int x1), (2, .int x2), (3, .int x3), (4, .int x4), (5, .int x5), (6, .int x6), (7, .int x7)] [] M (f_X6_copy_b121 x1 x2 x3 x4 x5 x6 x7 M) (Kl (h_X6_copy_121 G ad X x1 x2 x3 x4 x5 x6) (Kri G S2 ad X)) := by
  unfold f_X6_copy_b121
  refine j_iload (pc := 121) O 7 dX6_copy_121 rfl ?_
  refine j_iload (pc := 123) O 5 dX6_copy_123 rfl ?_
  refine j_icmp_ge (pc := 125) (tgt := 182) O dX6_copy_125 (by decide) ?_ ?_
  · refine jw_ex ?_
    refine j_iload (pc := 182) O 5 dX6_copy_182 rfl ?_
    exact j_iret (pc := 184) O dX6_copy_184
  · refine j_iload (pc := 128) O 6 dX6_copy_128 rfl ?_
    refine j_if_eq (pc := 130) (tgt := 143) O dX6_copy_130 (by decide) ?_ ?_
    · refine j_iload (pc := 143) O 7 dX6_copy_143 rfl ?_
      exact jw_sub [0, 1, 2, 3, 4, 5, 6, 7] rfl (jf_X6_copy_j145 O hd0 x1 x2 x3 x4 x5 x6 x7 x7 M)
    · refine j_iload (pc := 133) O 5 dX6_copy_133 rfl ?_
      refine j_iconst (pc := 135) (v := 1) O dX6_copy_135 (by decide) ?_
      refine j_isub (pc := 136) O dX6_copy_136 ?_
      refine j_iload (pc := 137) O 7 dX6_copy_137 rfl ?_
      refine j_isub (pc := 139) O dX6_copy_139 ?_
      refine j_goto (pc := 140) (tgt := 145) O dX6_copy_140 (by decide) ?_
      exact jw_sub [0, 1, 2, 3, 4, 5, 6, 7] rfl (jf_X6_copy_j145 O hd0 x1 x2 x3 x4 x5 x6 x7 ((x5 - (1 : Int32)) - x7) M)
def f_X6_copy_j116 (x1 : Int32) (x2 : Int32) (x3 : Int32) (x4 : Int32) (x5 : Int32) (s0 : Int32) (M : Mm) : Option (Int32 × Mm) :=
  iter (fun s => f_X6_copy_b121 x1 x2 x3 x4 x5 s0 s.1 s.2) fuel ((0 : Int32), M)
set_option maxRecDepth 100000 in
set_option maxHeartbeats 4000000 in
theorem jf_X6_copy_j116 {G : wn_G} {ad : Nat → Nat} {X : wn_X} {d : Nat} (O : Ok G RX6 cX6_copy 9 d X) (hd0 : 3 ≤ d) (x1 : Int32) (x2 : Int32) (x3 : Int32) (x4 : Int32) (x5 : Int32) (s0 : Int32) (M : Mm) : JW G S2 ad X 116 [(0, .ref (ad 0)), (1, .int x1), (2, .int x2), (3, .int x3), (4, .int x4), (5, .int x5)] [.int s0] M (f_X6_copy_j116 x1 x2 x3 x4 x5 s0 M) (Kri G S2 ad X) := by
  unfold f_X6_copy_j116
  refine j_istore (pc := 116) (L' := [(6, .int s0), (0, .ref (ad 0)), (1, .int x1), (2, .int x2), (3, .int x3), (4, .int x4), (5, .int x5)]) O dX6_copy_116 (by decide) rfl ?_
  refine j_iconst (pc := 118) (v := 0) O dX6_copy_118 (by decide) ?_
  refine j_istore (pc := 119) (L' := [(7, .int (0 : Int32)), (6, .int s0), (0, .ref (ad 0)), (1, .int x1), (2, .int x2), (3, .int x3), (4, .int x4), (5, .int x5)]) O dX6_copy_119 (by decide) rfl ?_
  exact jw_iter (hd := h_X6_copy_121 G ad X x1 x2 x3 x4 x5 s0) (fun hh => pw_sub [2, 3, 4, 5, 6, 7, 1, 0] rfl hh) (fun s => jf_X6_copy_b121 O hd0 x1 x2 x3 x4 x5 s0 s.1 s.2)
def f_X6_copy_j115 (x1 : Int32) (x2 : Int32) (x3 : Int32) (x4 : Int32) (x5 : Int32) (M : Mm) : Option (Int32 × Mm) :=
  f_X6_copy_j116 x1 x2 x3 x4 x5 (0 : Int32) M
set_option maxRecDepth 100000 in
set_option maxHeartbeats 4000000 in
theorem jf_X6_copy_j115 {G : wn_G} {ad : Nat → Nat} {X : wn_X} {d : Nat} (O : Ok G RX6 cX6_copy 9 d X) (hd0 : 3 ≤ d) (x1 : Int32) (x2 : Int32) (x3 : Int32) (x4 : Int32) (x5 : Int32) (M : Mm) : JW G S2 ad X 115 [(0, .ref (ad 0)), (1, .int x1), (2, .int x2), (3, .int x3), (4, .int x4), (5, .int x5)] [] M (f_X6_copy_j115 x1 x2 x3 x4 x5 M) (Kri G S2 ad X) := by
  unfold f_X6_copy_j115
  refine j_iconst (pc := 115) (v := 0) O dX6_copy_115 (by decide) ?_
  exact jw_sub [0, 1, 2, 3, 4, 5] rfl (jf_X6_copy_j116 O hd0 x1 x2 x3 x4 x5 (0 : Int32) M)
def f_X6_copy (x1 : Int32) (x2 : Int32) (x3 : Int32) (x4 : Int32) (x5 : Int32) (M : Mm) : Option (Int32 × Mm) :=
  bd (f_X6_isSheet x1 M) fun r2 M1 =>
  if r2 = 0 then
    some ((-2 : Int32), M1)
  else
    bd (f_X6_isSheet x3 M1) fun r4 M3 =>
    if r4 = 0 then
      some ((-2 : Int32), M3)
    else
      gd (bin x1 4 = true) inferInstance <|
      if (M3.1 16 (Int32.toNatClampNeg x1)) = 0 then
        some ((-11 : Int32), M3)
      else
        gd (bin x3 4 = true) inferInstance <|
        if (M3.1 16 (Int32.toNatClampNeg x3)) = 0 then
          some ((-11 : Int32), M3)
        else
          gd (bin x1 4 = true) inferInstance <|
          gd (bin x3 4 = true) inferInstance <|
          if (M3.1 17 (Int32.toNatClampNeg x1)) = (M3.1 17 (Int32.toNatClampNeg x3)) then
            if x5 < 0 then
              some ((-12 : Int32), M3)
            else
              if x2 < 0 then
                some ((-12 : Int32), M3)
              else
                if x4 < 0 then
                  some ((-12 : Int32), M3)
                else
                  gd (bin x1 4 = true) inferInstance <|
                  if ((M3.1 18 (Int32.toNatClampNeg x1)) - x5) < x2 then
                    some ((-12 : Int32), M3)
                  else
                    gd (bin x3 4 = true) inferInstance <|
                    if x4 ≤ ((M3.1 18 (Int32.toNatClampNeg x3)) - x5) then
                      if x1 = x3 then
                        if x4 ≤ x2 then
                          f_X6_copy_j115 x1 x2 x3 x4 x5 M3
                        else
                          f_X6_copy_j116 x1 x2 x3 x4 x5 (1 : Int32) M3
                      else
                        f_X6_copy_j115 x1 x2 x3 x4 x5 M3
                    else
                      some ((-12 : Int32), M3)
          else
            some ((-13 : Int32), M3)
set_option maxRecDepth 100000 in
set_option maxHeartbeats 4000000 in
theorem jf_X6_copy {G : wn_G} {ad : Nat → Nat} {X : wn_X} {d : Nat} (O : Ok G RX6 cX6_copy 9 d X) (hd0 : 3 ≤ d) (x1 : Int32) (x2 : Int32) (x3 : Int32) (x4 : Int32) (x5 : Int32) (M : Mm) : JW G S2 ad X 0 [(0, .ref (ad 0)), (1, .int x1), (2, .int x2), (3, .int x3), (4, .int x4), (5, .int x5)] [] M (f_X6_copy x1 x2 x3 x4 x5 M) (Kri G S2 ad X) := by
  unfold f_X6_copy
  refine j_iload_n (pc := 0) O 1 dX6_copy_0 rfl ?_
  refine j_callSi (pc := 1) (dc := 2) (As := [.int x1]) (rest := []) O (fun r M1 h => sp_X6_isSheet h) dX6_copy_1 mst_X6_isSheet lm_X6_303 rfl rfl (Nat.le_of_ble_eq_true rfl) (Nat.le_trans (Nat.le_of_ble_eq_true rfl) hd0) (fun r2 M1 => ?_)
  refine j_if_eq (pc := 4) (tgt := 14) O dX6_copy_4 (by decide) ?_ ?_
  · refine j_bipush (pc := 14) (v := -2) O dX6_copy_14 (by decide) ?_
    exact j_iret (pc := 16) O dX6_copy_16
  · refine j_iload_n (pc := 7) O 3 dX6_copy_7 rfl ?_
    refine j_callSi (pc := 8) (dc := 2) (As := [.int x3]) (rest := []) O (fun r M1 h => sp_X6_isSheet h) dX6_copy_8 mst_X6_isSheet lm_X6_303 rfl rfl (Nat.le_of_ble_eq_true rfl) (Nat.le_trans (Nat.le_of_ble_eq_true rfl) hd0) (fun r4 M3 => ?_)
    refine j_if_ne (pc := 11) (tgt := 17) O dX6_copy_11 (by decide) ?_ ?_
    · refine j_bipush (pc := 14) (v := -2) O dX6_copy_14 (by decide) ?_
      exact j_iret (pc := 16) O dX6_copy_16
    · refine j_aload_n (pc := 17) O 0 dX6_copy_17 rfl ?_
      refine j_getf (pc := 18) (v := .ref (ad 16)) O 0 48 dX6_copy_18 fl_X6_71 so_S2_0 rfl rfl ?_
      refine j_iload_n (pc := 21) O 1 dX6_copy_21 rfl ?_
      refine j_zald (pc := 22) O 16 dX6_copy_22 so_S2_16 ?_
      refine j_if_eq (pc := 23) (tgt := 35) O dX6_copy_23 (by decide) ?_ ?_
      · refine j_bipush (pc := 35) (v := -11) O dX6_copy_35 (by decide) ?_
        exact j_iret (pc := 37) O dX6_copy_37
      · refine j_aload_n (pc := 26) O 0 dX6_copy_26 rfl ?_
        refine j_getf (pc := 27) (v := .ref (ad 16)) O 0 48 dX6_copy_27 fl_X6_71 so_S2_0 rfl rfl ?_
        refine j_iload_n (pc := 30) O 3 dX6_copy_30 rfl ?_
        refine j_zald (pc := 31) O 16 dX6_copy_31 so_S2_16 ?_
        refine j_if_ne (pc := 32) (tgt := 38) O dX6_copy_32 (by decide) ?_ ?_
        · refine j_bipush (pc := 35) (v := -11) O dX6_copy_35 (by decide) ?_
          exact j_iret (pc := 37) O dX6_copy_37
        · refine j_aload_n (pc := 38) O 0 dX6_copy_38 rfl ?_
          refine j_getf (pc := 39) (v := .ref (ad 17)) O 0 49 dX6_copy_39 fl_X6_75 so_S2_0 rfl rfl ?_
          refine j_iload_n (pc := 42) O 1 dX6_copy_42 rfl ?_
          refine j_iald (pc := 43) O 17 dX6_copy_43 so_S2_17 ?_
          refine j_aload_n (pc := 44) O 0 dX6_copy_44 rfl ?_
          refine j_getf (pc := 45) (v := .ref (ad 17)) O 0 49 dX6_copy_45 fl_X6_75 so_S2_0 rfl rfl ?_
          refine j_iload_n (pc := 48) O 3 dX6_copy_48 rfl ?_
          refine j_iald (pc := 49) O 17 dX6_copy_49 so_S2_17 ?_
          refine j_icmp_eq (pc := 50) (tgt := 56) O dX6_copy_50 (by decide) ?_ ?_
          · refine j_iload (pc := 56) O 5 dX6_copy_56 rfl ?_
            refine j_if_lt (pc := 58) (tgt := 97) O dX6_copy_58 (by decide) ?_ ?_
            · refine j_bipush (pc := 97) (v := -12) O dX6_copy_97 (by decide) ?_
              exact j_iret (pc := 99) O dX6_copy_99
            · refine j_iload_n (pc := 61) O 2 dX6_copy_61 rfl ?_
              refine j_if_lt (pc := 62) (tgt := 97) O dX6_copy_62 (by decide) ?_ ?_
              · refine j_bipush (pc := 97) (v := -12) O dX6_copy_97 (by decide) ?_
                exact j_iret (pc := 99) O dX6_copy_99
              · refine j_iload (pc := 65) O 4 dX6_copy_65 rfl ?_
                refine j_if_lt (pc := 67) (tgt := 97) O dX6_copy_67 (by decide) ?_ ?_
                · refine j_bipush (pc := 97) (v := -12) O dX6_copy_97 (by decide) ?_
                  exact j_iret (pc := 99) O dX6_copy_99
                · refine j_iload_n (pc := 70) O 2 dX6_copy_70 rfl ?_
                  refine j_aload_n (pc := 71) O 0 dX6_copy_71 rfl ?_
                  refine j_getf (pc := 72) (v := .ref (ad 18)) O 0 50 dX6_copy_72 fl_X6_78 so_S2_0 rfl rfl ?_
                  refine j_iload_n (pc := 75) O 1 dX6_copy_75 rfl ?_
                  refine j_iald (pc := 76) O 18 dX6_copy_76 so_S2_18 ?_
                  refine j_iload (pc := 77) O 5 dX6_copy_77 rfl ?_
                  refine j_isub (pc := 79) O dX6_copy_79 ?_
                  refine j_icmp_gt (pc := 80) (tgt := 97) O dX6_copy_80 (by decide) ?_ ?_
                  · refine j_bipush (pc := 97) (v := -12) O dX6_copy_97 (by decide) ?_
                    exact j_iret (pc := 99) O dX6_copy_99
                  · refine j_iload (pc := 83) O 4 dX6_copy_83 rfl ?_
                    refine j_aload_n (pc := 85) O 0 dX6_copy_85 rfl ?_
                    refine j_getf (pc := 86) (v := .ref (ad 18)) O 0 50 dX6_copy_86 fl_X6_78 so_S2_0 rfl rfl ?_
                    refine j_iload_n (pc := 89) O 3 dX6_copy_89 rfl ?_
                    refine j_iald (pc := 90) O 18 dX6_copy_90 so_S2_18 ?_
                    refine j_iload (pc := 91) O 5 dX6_copy_91 rfl ?_
                    refine j_isub (pc := 93) O dX6_copy_93 ?_
                    refine j_icmp_le (pc := 94) (tgt := 100) O dX6_copy_94 (by decide) ?_ ?_
                    · refine j_iload_n (pc := 100) O 1 dX6_copy_100 rfl ?_
                      refine j_iload_n (pc := 101) O 3 dX6_copy_101 rfl ?_
                      refine j_icmp_ne (pc := 102) (tgt := 115) O dX6_copy_102 (by decide) ?_ ?_
                      · refine j_iload_n (pc := 105) O 2 dX6_copy_105 rfl ?_
                        refine j_iload (pc := 106) O 4 dX6_copy_106 rfl ?_
                        refine j_icmp_ge (pc := 108) (tgt := 115) O dX6_copy_108 (by decide) ?_ ?_
                        · exact jw_sub [0, 1, 2, 3, 4, 5] rfl (jf_X6_copy_j115 O hd0 x1 x2 x3 x4 x5 M3)
                        · refine j_iconst (pc := 111) (v := 1) O dX6_copy_111 (by decide) ?_
                          refine j_goto (pc := 112) (tgt := 116) O dX6_copy_112 (by decide) ?_
                          exact jw_sub [0, 1, 2, 3, 4, 5] rfl (jf_X6_copy_j116 O hd0 x1 x2 x3 x4 x5 (1 : Int32) M3)
                      · exact jw_sub [0, 1, 2, 3, 4, 5] rfl (jf_X6_copy_j115 O hd0 x1 x2 x3 x4 x5 M3)
                    · refine j_bipush (pc := 97) (v := -12) O dX6_copy_97 (by decide) ?_
                      exact j_iret (pc := 99) O dX6_copy_99
          · refine j_bipush (pc := 53) (v := -13) O dX6_copy_53 (by decide) ?_
            exact j_iret (pc := 55) O dX6_copy_55
theorem sp_X6_copy {G : wn_G} {ad : Nat → Nat} {x1 : Int32} {x2 : Int32} {x3 : Int32} {x4 : Int32} {x5 : Int32} {M : Mm} {r : Int32} {M1 : Mm} (h : f_X6_copy x1 x2 x3 x4 x5 M = some (r, M1)) : Sp G S2 ad mX6_copy 3 [.ref (ad 0), .int x1, .int x2, .int x3, .int x4, .int x5] M M1 (some (.int r)) :=
  sp_intro (own := RX6) (by decide +kernel) rfl (Nat.le_of_ble_eq_true rfl) (fun X O T => jf_X6_copy O (Nat.le_refl _) x1 x2 x3 x4 x5 M (r, M1) h T)
def h_X5_eaters_69 (G : wn_G) (ad : Nat → Nat) (X : wn_X) (x1 : Int32) (x3 : Int32) (x4 : Int32) : Int32 × Int32 × Mm → Prop := fun s => PW G S1 ad X 69 [(0, .ref (ad 0)), (1, .int x1), (3, .int x3), (4, .int x4), (5, .int s.1), (6, .int s.2.1)] [] s.2.2
def f_X5_eaters_b69 (x1 : Int32) (x3 : Int32) (x4 : Int32) (x5 : Int32) (x6 : Int32) (M : Mm) : Option ((Int32 × Int32 × Mm) ⊕ (Int32 × Mm)) :=
  if x4 ≤ x6 then
    ex (
    some (x5, M))
  else
    bi (x3 + ((3 : Int32) * x6)) fun y7 =>
    bd (f_X1_spans x1 y7 (3 : Int32) M) fun r9 M8 =>
    if r9 = 0 then
      ex (
      some ((-12 : Int32), M8))
    else
      bd (f_X1_item x1 y7 M8) fun r11 M10 =>
      bd (f_X1_item x1 (y7 + (1 : Int32)) M10) fun r13 M12 =>
      bd (f_X1_item x1 (y7 + (2 : Int32)) M12) fun r15 M14 =>
      bd (f_X3_seat_1 r11 r13 r15 M14) fun r17 M16 =>
      if r17 < 0 then
        bi (x6 + (1 : Int32)) fun y18 =>
        some (.inl (x5, y18, M16))
      else
        bi (x5 + (1 : Int32)) fun y19 =>
        bi (x6 + (1 : Int32)) fun y20 =>
        some (.inl (y19, y20, M16))
set_option maxRecDepth 100000 in
set_option maxHeartbeats 4000000 in
theorem jf_X5_eaters_b69 {G : wn_G} {ad : Nat → Nat} {X : wn_X} {d : Nat} (O : Ok G RX5 cX5_eaters 10 d X) (hd0 : 5 ≤ d) (x1 : Int32) (x3 : Int32) (x4 : Int32) (x5 : Int32) (x6 : Int32) (M : Mm) : JW G S1 ad X 69 [(0, .ref (ad 0)), (1, .int x1), (3, .int x3), (4, .int x4), (5, .int x5), (6, .int x6)] [] M (f_X5_eaters_b69 x1 x3 x4 x5 x6 M) (Kl (h_X5_eaters_69 G ad X x1 x3 x4) (Kri G S1 ad X)) := by
  unfold f_X5_eaters_b69
  refine j_iload (pc := 69) O 5 dX5_eaters_69 rfl ?_
  refine j_iload (pc := 71) O 3 dX5_eaters_71 rfl ?_
  refine j_icmp_ge (pc := 73) (tgt := 162) O dX5_eaters_73 (by decide) ?_ ?_
  · refine jw_ex ?_
    refine j_iload (pc := 162) O 4 dX5_eaters_162 rfl ?_
    exact j_iret (pc := 164) O dX5_eaters_164
  · refine j_iload_n (pc := 76) O 2 dX5_eaters_76 rfl ?_
    refine j_iconst (pc := 77) (v := 3) O dX5_eaters_77 (by decide) ?_
    refine j_iload (pc := 78) O 5 dX5_eaters_78 rfl ?_
    refine j_imul (pc := 80) O dX5_eaters_80 ?_
    refine j_iadd (pc := 81) O dX5_eaters_81 ?_
    refine jw_bi fun y7 => ?_
    refine j_istore (pc := 82) (L' := [(7, .int y7), (0, .ref (ad 0)), (1, .int x1), (3, .int x3), (4, .int x4), (5, .int x5), (6, .int x6)]) O dX5_eaters_82 (by decide) rfl ?_
    refine j_aload_n (pc := 84) O 1 dX5_eaters_84 rfl ?_
    refine j_getf (pc := 85) (v := .ref (ad 5)) O 0 5 dX5_eaters_85 fl_X5_36 so_S1_0 rfl rfl ?_
    refine j_iload_n (pc := 88) O 2 dX5_eaters_88 rfl ?_
    refine j_iload (pc := 89) O 0 dX5_eaters_89 rfl ?_
    refine j_iconst (pc := 91) (v := 3) O dX5_eaters_91 (by decide) ?_
    refine j_callVi (pc := 92) (dc := 3) (As := [.int x1, .int y7, .int (3 : Int32)]) (rest := []) O 5 (fun r M1 h => sp_X1_spans h) dX5_eaters_92 mv_X1_spans lm_X5_228 so_S1_5 rfl rfl (Nat.le_of_ble_eq_true rfl) (Nat.le_trans (Nat.le_of_ble_eq_true rfl) hd0) (fun r9 M8 => ?_)
    refine j_if_ne (pc := 95) (tgt := 101) O dX5_eaters_95 (by decide) ?_ ?_
    · refine jw_ex ?_
      refine j_bipush (pc := 98) (v := -12) O dX5_eaters_98 (by decide) ?_
      exact j_iret (pc := 100) O dX5_eaters_100
    · refine j_aload_n (pc := 101) O 1 dX5_eaters_101 rfl ?_
      refine j_getf (pc := 102) (v := .ref (ad 5)) O 0 5 dX5_eaters_102 fl_X5_36 so_S1_0 rfl rfl ?_
      refine j_iload_n (pc := 105) O 2 dX5_eaters_105 rfl ?_
      refine j_iload (pc := 106) O 0 dX5_eaters_106 rfl ?_
      refine j_callVi (pc := 108) (dc := 4) (As := [.int x1, .int y7]) (rest := []) O 5 (fun r M1 h => sp_X1_item h) dX5_eaters_108 mv_X1_item lm_X5_146 so_S1_5 rfl rfl (Nat.le_of_ble_eq_true rfl) (Nat.le_trans (Nat.le_of_ble_eq_true rfl) hd0) (fun r11 M10 => ?_)
      refine j_istore (pc := 111) (L' := [(8, .int r11), (7, .int y7), (0, .ref (ad 0)), (1, .int x1), (3, .int x3), (4, .int x4), (5, .int x5), (6, .int x6)]) O dX5_eaters_111 (by decide) rfl ?_
      refine j_aload_n (pc := 113) O 2 dX5_eaters_113 rfl ?_
      refine j_getf (pc := 114) (v := .ref (ad 5)) O 0 5 dX5_eaters_114 fl_X5_36 so_S1_0 rfl rfl ?_
      refine j_iload_n (pc := 117) O 3 dX5_eaters_117 rfl ?_
      refine j_iload (pc := 118) O 1 dX5_eaters_118 rfl ?_
      refine j_iconst (pc := 120) (v := 1) O dX5_eaters_120 (by decide) ?_
      refine j_iadd (pc := 121) O dX5_eaters_121 ?_
      refine j_callVi (pc := 122) (dc := 4) (As := [.int x1, .int (y7 + (1 : Int32))]) (rest := []) O 5 (fun r M1 h => sp_X1_item h) dX5_eaters_122 mv_X1_item lm_X5_146 so_S1_5 rfl rfl (Nat.le_of_ble_eq_true rfl) (Nat.le_trans (Nat.le_of_ble_eq_true rfl) hd0) (fun r13 M12 => ?_)
      refine j_istore (pc := 125) (L' := [(9, .int r13), (8, .int r11), (7, .int y7), (0, .ref (ad 0)), (1, .int x1), (3, .int x3), (4, .int x4), (5, .int x5), (6, .int x6)]) O dX5_eaters_125 (by decide) rfl ?_
      refine j_aload_n (pc := 127) O 3 dX5_eaters_127 rfl ?_
      refine j_getf (pc := 128) (v := .ref (ad 1)) O 0 0 dX5_eaters_128 fl_X5_10 so_S1_0 rfl rfl ?_
      refine j_iload (pc := 131) O 1 dX5_eaters_131 rfl ?_
      refine j_iload (pc := 133) O 0 dX5_eaters_133 rfl ?_
      refine j_aload_n (pc := 135) O 3 dX5_eaters_135 rfl ?_
      refine j_getf (pc := 136) (v := .ref (ad 5)) O 0 5 dX5_eaters_136 fl_X5_36 so_S1_0 rfl rfl ?_
      refine j_iload_n (pc := 139) O 4 dX5_eaters_139 rfl ?_
      refine j_iload (pc := 140) O 2 dX5_eaters_140 rfl ?_
      refine j_iconst (pc := 142) (v := 2) O dX5_eaters_142 (by decide) ?_
      refine j_iadd (pc := 143) O dX5_eaters_143 ?_
      refine j_callVi (pc := 144) (dc := 4) (As := [.int x1, .int (y7 + (2 : Int32))]) (rest := [.int r13, .int r11, .ref (ad 1)]) O 5 (fun r M1 h => sp_X1_item h) dX5_eaters_144 mv_X1_item lm_X5_146 so_S1_5 rfl rfl (Nat.le_of_ble_eq_true rfl) (Nat.le_trans (Nat.le_of_ble_eq_true rfl) hd0) (fun r15 M14 => ?_)
      refine j_callVi (pc := 147) (dc := 1) (As := [.int r11, .int r13, .int r15]) (rest := []) O 1 (fun r M1 h => sp_X3_seat_1 h) dX5_eaters_147 mv_X3_seat lm_X5_74 so_S1_1 rfl rfl (Nat.le_of_ble_eq_true rfl) (Nat.le_trans (Nat.le_of_ble_eq_true rfl) hd0) (fun r17 M16 => ?_)
      refine j_if_lt (pc := 150) (tgt := 156) O dX5_eaters_150 (by decide) ?_ ?_
      · refine j_iinc (pc := 156) (v := 1) (L2 := fun y => [(6, .int y), (9, .int r13), (8, .int r11), (7, .int y7), (0, .ref (ad 0)), (1, .int x1), (3, .int x3), (4, .int x4), (5, .int x5)]) O 8 dX5_eaters_156 rfl (by decide) (by decide) (fun _ => rfl) (fun y18 => ?_)
        refine j_goto (pc := 159) (tgt := 69) O dX5_eaters_159 (by decide) ?_
        exact jw_next (fun hh => pw_sub [4, 5, 6, 7, 8, 0] rfl hh)
      · refine j_iinc (pc := 153) (v := 1) (L2 := fun y => [(5, .int y), (9, .int r13), (8, .int r11), (7, .int y7), (0, .ref (ad 0)), (1, .int x1), (3, .int x3), (4, .int x4), (6, .int x6)]) O 7 dX5_eaters_153 rfl (by decide) (by decide) (fun _ => rfl) (fun y19 => ?_)
        refine j_iinc (pc := 156) (v := 1) (L2 := fun y => [(6, .int y), (5, .int y19), (9, .int r13), (8, .int r11), (7, .int y7), (0, .ref (ad 0)), (1, .int x1), (3, .int x3), (4, .int x4)]) O 8 dX5_eaters_156 rfl (by decide) (by decide) (fun _ => rfl) (fun y20 => ?_)
        refine j_goto (pc := 159) (tgt := 69) O dX5_eaters_159 (by decide) ?_
        exact jw_next (fun hh => pw_sub [5, 6, 7, 8, 1, 0] rfl hh)
def f_X5_eaters (x1 : Int32) (x2 : Int32) (x3 : Int32) (x4 : Int32) (M : Mm) : Option (Int32 × Mm) :=
  bd (f_X1_has x1 M) fun r2 M1 =>
  if r2 = 0 then
    some ((-2 : Int32), M1)
  else
    if x2 < 0 then
      some ((-2 : Int32), M1)
    else
      if (3 : Int32) ≤ x2 then
        some ((-2 : Int32), M1)
      else
        if x4 < 0 then
          some ((-2 : Int32), M1)
        else
          if x4 ≤ (5 : Int32) then
            bd (f_X1_isMissing x1 M1) fun r4 M3 =>
            if r4 = 0 then
              bd (f_X1_sortOf x1 M3) fun r6 M5 =>
              if r6 = x2 then
                iter (fun s => f_X5_eaters_b69 x1 x3 x4 s.1 s.2.1 s.2.2) fuel ((0 : Int32), (0 : Int32), M5)
              else
                some ((-13 : Int32), M5)
            else
              some ((-11 : Int32), M3)
          else
            some ((-2 : Int32), M1)
set_option maxRecDepth 100000 in
set_option maxHeartbeats 4000000 in
theorem jf_X5_eaters {G : wn_G} {ad : Nat → Nat} {X : wn_X} {d : Nat} (O : Ok G RX5 cX5_eaters 10 d X) (hd0 : 5 ≤ d) (x1 : Int32) (x2 : Int32) (x3 : Int32) (x4 : Int32) (M : Mm) : JW G S1 ad X 0 [(0, .ref (ad 0)), (1, .int x1), (2, .int x2), (3, .int x3), (4, .int x4)] [] M (f_X5_eaters x1 x2 x3 x4 M) (Kri G S1 ad X) := by
  unfold f_X5_eaters
  refine j_aload_n (pc := 0) O 0 dX5_eaters_0 rfl ?_
  refine j_getf (pc := 1) (v := .ref (ad 5)) O 0 5 dX5_eaters_1 fl_X5_36 so_S1_0 rfl rfl ?_
  refine j_iload_n (pc := 4) O 1 dX5_eaters_4 rfl ?_
  refine j_callVi (pc := 5) (dc := 1) (As := [.int x1]) (rest := []) O 5 (fun r M1 h => sp_X1_has h) dX5_eaters_5 mv_X1_has lm_X5_183 so_S1_5 rfl rfl (Nat.le_of_ble_eq_true rfl) (Nat.le_trans (Nat.le_of_ble_eq_true rfl) hd0) (fun r2 M1 => ?_)
  refine j_if_eq (pc := 8) (tgt := 31) O dX5_eaters_8 (by decide) ?_ ?_
  · refine j_bipush (pc := 31) (v := -2) O dX5_eaters_31 (by decide) ?_
    exact j_iret (pc := 33) O dX5_eaters_33
  · refine j_iload_n (pc := 11) O 2 dX5_eaters_11 rfl ?_
    refine j_if_lt (pc := 12) (tgt := 31) O dX5_eaters_12 (by decide) ?_ ?_
    · refine j_bipush (pc := 31) (v := -2) O dX5_eaters_31 (by decide) ?_
      exact j_iret (pc := 33) O dX5_eaters_33
    · refine j_iload_n (pc := 15) O 2 dX5_eaters_15 rfl ?_
      refine j_iconst (pc := 16) (v := 3) O dX5_eaters_16 (by decide) ?_
      refine j_icmp_ge (pc := 17) (tgt := 31) O dX5_eaters_17 (by decide) ?_ ?_
      · refine j_bipush (pc := 31) (v := -2) O dX5_eaters_31 (by decide) ?_
        exact j_iret (pc := 33) O dX5_eaters_33
      · refine j_iload (pc := 20) O 4 dX5_eaters_20 rfl ?_
        refine j_if_lt (pc := 22) (tgt := 31) O dX5_eaters_22 (by decide) ?_ ?_
        · refine j_bipush (pc := 31) (v := -2) O dX5_eaters_31 (by decide) ?_
          exact j_iret (pc := 33) O dX5_eaters_33
        · refine j_iload (pc := 25) O 4 dX5_eaters_25 rfl ?_
          refine j_iconst (pc := 27) (v := 5) O dX5_eaters_27 (by decide) ?_
          refine j_icmp_le (pc := 28) (tgt := 34) O dX5_eaters_28 (by decide) ?_ ?_
          · refine j_aload_n (pc := 34) O 0 dX5_eaters_34 rfl ?_
            refine j_getf (pc := 35) (v := .ref (ad 5)) O 0 5 dX5_eaters_35 fl_X5_36 so_S1_0 rfl rfl ?_
            refine j_iload_n (pc := 38) O 1 dX5_eaters_38 rfl ?_
            refine j_callVi (pc := 39) (dc := 2) (As := [.int x1]) (rest := []) O 5 (fun r M1 h => sp_X1_isMissing h) dX5_eaters_39 mv_X1_isMissing lm_X5_136 so_S1_5 rfl rfl (Nat.le_of_ble_eq_true rfl) (Nat.le_trans (Nat.le_of_ble_eq_true rfl) hd0) (fun r4 M3 => ?_)
            refine j_if_eq (pc := 42) (tgt := 48) O dX5_eaters_42 (by decide) ?_ ?_
            · refine j_aload_n (pc := 48) O 0 dX5_eaters_48 rfl ?_
              refine j_getf (pc := 49) (v := .ref (ad 5)) O 0 5 dX5_eaters_49 fl_X5_36 so_S1_0 rfl rfl ?_
              refine j_iload_n (pc := 52) O 1 dX5_eaters_52 rfl ?_
              refine j_callVi (pc := 53) (dc := 2) (As := [.int x1]) (rest := []) O 5 (fun r M1 h => sp_X1_sortOf h) dX5_eaters_53 mv_X1_sortOf lm_X5_225 so_S1_5 rfl rfl (Nat.le_of_ble_eq_true rfl) (Nat.le_trans (Nat.le_of_ble_eq_true rfl) hd0) (fun r6 M5 => ?_)
              refine j_iload_n (pc := 56) O 2 dX5_eaters_56 rfl ?_
              refine j_icmp_eq (pc := 57) (tgt := 63) O dX5_eaters_57 (by decide) ?_ ?_
              · refine j_iconst (pc := 63) (v := 0) O dX5_eaters_63 (by decide) ?_
                refine j_istore (pc := 64) (L' := [(5, .int (0 : Int32)), (0, .ref (ad 0)), (1, .int x1), (2, .int x2), (3, .int x3), (4, .int x4)]) O dX5_eaters_64 (by decide) rfl ?_
                refine j_iconst (pc := 66) (v := 0) O dX5_eaters_66 (by decide) ?_
                refine j_istore (pc := 67) (L' := [(6, .int (0 : Int32)), (5, .int (0 : Int32)), (0, .ref (ad 0)), (1, .int x1), (2, .int x2), (3, .int x3), (4, .int x4)]) O dX5_eaters_67 (by decide) rfl ?_
                exact jw_iter (hd := h_X5_eaters_69 G ad X x1 x3 x4) (fun hh => pw_sub [2, 3, 5, 6, 1, 0] rfl hh) (fun s => jf_X5_eaters_b69 O hd0 x1 x3 x4 s.1 s.2.1 s.2.2)
              · refine j_bipush (pc := 60) (v := -13) O dX5_eaters_60 (by decide) ?_
                exact j_iret (pc := 62) O dX5_eaters_62
            · refine j_bipush (pc := 45) (v := -11) O dX5_eaters_45 (by decide) ?_
              exact j_iret (pc := 47) O dX5_eaters_47
          · refine j_bipush (pc := 31) (v := -2) O dX5_eaters_31 (by decide) ?_
            exact j_iret (pc := 33) O dX5_eaters_33
theorem sp_X5_eaters {G : wn_G} {ad : Nat → Nat} {x1 : Int32} {x2 : Int32} {x3 : Int32} {x4 : Int32} {M : Mm} {r : Int32} {M1 : Mm} (h : f_X5_eaters x1 x2 x3 x4 M = some (r, M1)) : Sp G S1 ad mX5_eaters 5 [.ref (ad 0), .int x1, .int x2, .int x3, .int x4] M M1 (some (.int r)) :=
  sp_intro (own := RX5) (by decide +kernel) rfl (Nat.le_of_ble_eq_true rfl) (fun X O T => jf_X5_eaters O (Nat.le_refl _) x1 x2 x3 x4 M (r, M1) h T)
def h_X6_eaters_75 (G : wn_G) (ad : Nat → Nat) (X : wn_X) (x1 : Int32) (x3 : Int32) (x4 : Int32) : Int32 × Int32 × Mm → Prop := fun s => PW G S2 ad X 75 [(0, .ref (ad 0)), (1, .int x1), (3, .int x3), (4, .int x4), (5, .int s.1), (6, .int s.2.1)] [] s.2.2
def f_X6_eaters_b75 (x1 : Int32) (x3 : Int32) (x4 : Int32) (x5 : Int32) (x6 : Int32) (M : Mm) : Option ((Int32 × Int32 × Mm) ⊕ (Int32 × Mm)) :=
  if x4 ≤ x6 then
    ex (
    some (x5, M))
  else
    if x3 < 0 then
      ex (
      some ((-12 : Int32), M))
    else
      gd (bin x1 4 = true) inferInstance <|
      if x3 ≤ (((M.1 18 (Int32.toNatClampNeg x1)) - ((3 : Int32) * x6)) - (3 : Int32)) then
        bi ((((40 : Int32) * x1) + x3) + ((3 : Int32) * x6)) fun y7 =>
        gd (bin y7 160 = true) inferInstance <|
        gd (bin (y7 + (1 : Int32)) 160 = true) inferInstance <|
        gd (bin (y7 + (2 : Int32)) 160 = true) inferInstance <|
        bd (f_X6_eater (M.1 19 (Int32.toNatClampNeg y7)) (M.1 19 (Int32.toNatClampNeg (y7 + (1 : Int32)))) (M.1 19 (Int32.toNatClampNeg (y7 + (2 : Int32)))) M) fun r9 M8 =>
        if r9 < 0 then
          bi (x5 + (0 : Int32)) fun y10 =>
          bi (x6 + (1 : Int32)) fun y11 =>
          some (.inl (y10, y11, M8))
        else
          bi (x5 + (1 : Int32)) fun y12 =>
          bi (x6 + (1 : Int32)) fun y13 =>
          some (.inl (y12, y13, M8))
      else
        ex (
        some ((-12 : Int32), M))
set_option maxRecDepth 100000 in
set_option maxHeartbeats 4000000 in
theorem jf_X6_eaters_b75 {G : wn_G} {ad : Nat → Nat} {X : wn_X} {d : Nat} (O : Ok G RX6 cX6_eaters 8 d X) (hd0 : 3 ≤ d) (x1 : Int32) (x3 : Int32) (x4 : Int32) (x5 : Int32) (x6 : Int32) (M : Mm) : JW G S2 ad X 75 [(0, .ref (ad 0)), (1, .int x1), (3, .int x3), (4, .int x4), (5, .int x5), (6, .int x6)] [] M (f_X6_eaters_b75 x1 x3 x4 x5 x6 M) (Kl (h_X6_eaters_75 G ad X x1 x3 x4) (Kri G S2 ad X)) := by
  unfold f_X6_eaters_b75
  refine j_iload (pc := 75) O 5 dX6_eaters_75 rfl ?_
  refine j_iload (pc := 77) O 3 dX6_eaters_77 rfl ?_
  refine j_icmp_ge (pc := 79) (tgt := 167) O dX6_eaters_79 (by decide) ?_ ?_
  · refine jw_ex ?_
    refine j_iload (pc := 167) O 4 dX6_eaters_167 rfl ?_
    exact j_iret (pc := 169) O dX6_eaters_169
  · refine j_iload_n (pc := 82) O 2 dX6_eaters_82 rfl ?_
    refine j_if_lt (pc := 83) (tgt := 103) O dX6_eaters_83 (by decide) ?_ ?_
    · refine jw_ex ?_
      refine j_bipush (pc := 103) (v := -12) O dX6_eaters_103 (by decide) ?_
      exact j_iret (pc := 105) O dX6_eaters_105
    · refine j_iload_n (pc := 86) O 2 dX6_eaters_86 rfl ?_
      refine j_aload_n (pc := 87) O 0 dX6_eaters_87 rfl ?_
      refine j_getf (pc := 88) (v := .ref (ad 18)) O 0 50 dX6_eaters_88 fl_X6_78 so_S2_0 rfl rfl ?_
      refine j_iload_n (pc := 91) O 1 dX6_eaters_91 rfl ?_
      refine j_iald (pc := 92) O 18 dX6_eaters_92 so_S2_18 ?_
      refine j_iconst (pc := 93) (v := 3) O dX6_eaters_93 (by decide) ?_
      refine j_iload (pc := 94) O 5 dX6_eaters_94 rfl ?_
      refine j_imul (pc := 96) O dX6_eaters_96 ?_
      refine j_isub (pc := 97) O dX6_eaters_97 ?_
      refine j_iconst (pc := 98) (v := 3) O dX6_eaters_98 (by decide) ?_
      refine j_isub (pc := 99) O dX6_eaters_99 ?_
      refine j_icmp_le (pc := 100) (tgt := 106) O dX6_eaters_100 (by decide) ?_ ?_
      · refine j_bipush (pc := 106) (v := 40) O dX6_eaters_106 (by decide) ?_
        refine j_iload_n (pc := 108) O 1 dX6_eaters_108 rfl ?_
        refine j_imul (pc := 109) O dX6_eaters_109 ?_
        refine j_iload_n (pc := 110) O 2 dX6_eaters_110 rfl ?_
        refine j_iadd (pc := 111) O dX6_eaters_111 ?_
        refine j_iconst (pc := 112) (v := 3) O dX6_eaters_112 (by decide) ?_
        refine j_iload (pc := 113) O 5 dX6_eaters_113 rfl ?_
        refine j_imul (pc := 115) O dX6_eaters_115 ?_
        refine j_iadd (pc := 116) O dX6_eaters_116 ?_
        refine jw_bi fun y7 => ?_
        refine j_istore (pc := 117) (L' := [(7, .int y7), (0, .ref (ad 0)), (1, .int x1), (3, .int x3), (4, .int x4), (5, .int x5), (6, .int x6)]) O dX6_eaters_117 (by decide) rfl ?_
        refine j_iload (pc := 119) O 5 dX6_eaters_119 rfl ?_
        refine j_aload_n (pc := 121) O 1 dX6_eaters_121 rfl ?_
        refine j_aload_n (pc := 122) O 1 dX6_eaters_122 rfl ?_
        refine j_getf (pc := 123) (v := .ref (ad 19)) O 0 51 dX6_eaters_123 fl_X6_81 so_S2_0 rfl rfl ?_
        refine j_iload (pc := 126) O 0 dX6_eaters_126 rfl ?_
        refine j_iald (pc := 128) O 19 dX6_eaters_128 so_S2_19 ?_
        refine j_aload_n (pc := 129) O 1 dX6_eaters_129 rfl ?_
        refine j_getf (pc := 130) (v := .ref (ad 19)) O 0 51 dX6_eaters_130 fl_X6_81 so_S2_0 rfl rfl ?_
        refine j_iload (pc := 133) O 0 dX6_eaters_133 rfl ?_
        refine j_iconst (pc := 135) (v := 1) O dX6_eaters_135 (by decide) ?_
        refine j_iadd (pc := 136) O dX6_eaters_136 ?_
        refine j_iald (pc := 137) O 19 dX6_eaters_137 so_S2_19 ?_
        refine j_aload_n (pc := 138) O 1 dX6_eaters_138 rfl ?_
        refine j_getf (pc := 139) (v := .ref (ad 19)) O 0 51 dX6_eaters_139 fl_X6_81 so_S2_0 rfl rfl ?_
        refine j_iload (pc := 142) O 0 dX6_eaters_142 rfl ?_
        refine j_iconst (pc := 144) (v := 2) O dX6_eaters_144 (by decide) ?_
        refine j_iadd (pc := 145) O dX6_eaters_145 ?_
        refine j_iald (pc := 146) O 19 dX6_eaters_146 so_S2_19 ?_
        refine j_callVi (pc := 147) (dc := 2) (As := [.int (M.1 19 (Int32.toNatClampNeg y7)), .int (M.1 19 (Int32.toNatClampNeg (y7 + (1 : Int32)))), .int (M.1 19 (Int32.toNatClampNeg (y7 + (2 : Int32))))]) (rest := [.int x5]) O 0 (fun r M1 h => sp_X6_eater h) dX6_eaters_147 mv_X6_eater lm_X6_360 so_S2_0 rfl rfl (Nat.le_of_ble_eq_true rfl) (Nat.le_trans (Nat.le_of_ble_eq_true rfl) hd0) (fun r9 M8 => ?_)
        refine j_if_lt (pc := 150) (tgt := 157) O dX6_eaters_150 (by decide) ?_ ?_
        · refine j_iconst (pc := 157) (v := 0) O dX6_eaters_157 (by decide) ?_
          refine j_iadd (pc := 158) O dX6_eaters_158 ?_
          refine jw_bi fun y10 => ?_
          refine j_istore (pc := 159) (L' := [(5, .int y10), (7, .int y7), (0, .ref (ad 0)), (1, .int x1), (3, .int x3), (4, .int x4), (6, .int x6)]) O dX6_eaters_159 (by decide) rfl ?_
          refine j_iinc (pc := 161) (v := 1) (L2 := fun y => [(6, .int y), (5, .int y10), (7, .int y7), (0, .ref (ad 0)), (1, .int x1), (3, .int x3), (4, .int x4)]) O 6 dX6_eaters_161 rfl (by decide) (by decide) (fun _ => rfl) (fun y11 => ?_)
          refine j_goto (pc := 164) (tgt := 75) O dX6_eaters_164 (by decide) ?_
          exact jw_next (fun hh => pw_sub [3, 4, 5, 6, 1, 0] rfl hh)
        · refine j_iconst (pc := 153) (v := 1) O dX6_eaters_153 (by decide) ?_
          refine j_goto (pc := 154) (tgt := 158) O dX6_eaters_154 (by decide) ?_
          refine j_iadd (pc := 158) O dX6_eaters_158 ?_
          refine jw_bi fun y12 => ?_
          refine j_istore (pc := 159) (L' := [(5, .int y12), (7, .int y7), (0, .ref (ad 0)), (1, .int x1), (3, .int x3), (4, .int x4), (6, .int x6)]) O dX6_eaters_159 (by decide) rfl ?_
          refine j_iinc (pc := 161) (v := 1) (L2 := fun y => [(6, .int y), (5, .int y12), (7, .int y7), (0, .ref (ad 0)), (1, .int x1), (3, .int x3), (4, .int x4)]) O 6 dX6_eaters_161 rfl (by decide) (by decide) (fun _ => rfl) (fun y13 => ?_)
          refine j_goto (pc := 164) (tgt := 75) O dX6_eaters_164 (by decide) ?_
          exact jw_next (fun hh => pw_sub [3, 4, 5, 6, 1, 0] rfl hh)
      · refine jw_ex ?_
        refine j_bipush (pc := 103) (v := -12) O dX6_eaters_103 (by decide) ?_
        exact j_iret (pc := 105) O dX6_eaters_105
def f_X6_eaters_j57 (x1 : Int32) (x3 : Int32) (x4 : Int32) (M : Mm) : Option (Int32 × Mm) :=
  gd (bin x1 4 = true) inferInstance <|
  if (M.1 16 (Int32.toNatClampNeg x1)) = 0 then
    some ((-11 : Int32), M)
  else
    iter (fun s => f_X6_eaters_b75 x1 x3 x4 s.1 s.2.1 s.2.2) fuel ((0 : Int32), (0 : Int32), M)
set_option maxRecDepth 100000 in
set_option maxHeartbeats 4000000 in
theorem jf_X6_eaters_j57 {G : wn_G} {ad : Nat → Nat} {X : wn_X} {d : Nat} (O : Ok G RX6 cX6_eaters 8 d X) (hd0 : 3 ≤ d) (x1 : Int32) (x3 : Int32) (x4 : Int32) (M : Mm) : JW G S2 ad X 57 [(0, .ref (ad 0)), (1, .int x1), (3, .int x3), (4, .int x4)] [] M (f_X6_eaters_j57 x1 x3 x4 M) (Kri G S2 ad X) := by
  unfold f_X6_eaters_j57
  refine j_aload_n (pc := 57) O 0 dX6_eaters_57 rfl ?_
  refine j_getf (pc := 58) (v := .ref (ad 16)) O 0 48 dX6_eaters_58 fl_X6_71 so_S2_0 rfl rfl ?_
  refine j_iload_n (pc := 61) O 1 dX6_eaters_61 rfl ?_
  refine j_zald (pc := 62) O 16 dX6_eaters_62 so_S2_16 ?_
  refine j_if_ne (pc := 63) (tgt := 69) O dX6_eaters_63 (by decide) ?_ ?_
  · refine j_bipush (pc := 66) (v := -11) O dX6_eaters_66 (by decide) ?_
    exact j_iret (pc := 68) O dX6_eaters_68
  · refine j_iconst (pc := 69) (v := 0) O dX6_eaters_69 (by decide) ?_
    refine j_istore (pc := 70) (L' := [(5, .int (0 : Int32)), (0, .ref (ad 0)), (1, .int x1), (3, .int x3), (4, .int x4)]) O dX6_eaters_70 (by decide) rfl ?_
    refine j_iconst (pc := 72) (v := 0) O dX6_eaters_72 (by decide) ?_
    refine j_istore (pc := 73) (L' := [(6, .int (0 : Int32)), (5, .int (0 : Int32)), (0, .ref (ad 0)), (1, .int x1), (3, .int x3), (4, .int x4)]) O dX6_eaters_73 (by decide) rfl ?_
    exact jw_iter (hd := h_X6_eaters_75 G ad X x1 x3 x4) (fun hh => pw_sub [2, 3, 4, 5, 1, 0] rfl hh) (fun s => jf_X6_eaters_b75 O hd0 x1 x3 x4 s.1 s.2.1 s.2.2)
def f_X6_eaters (x1 : Int32) (x2 : Int32) (x3 : Int32) (x4 : Int32) (M : Mm) : Option (Int32 × Mm) :=
  bd (f_X6_isSheet x1 M) fun r2 M1 =>
  if r2 = 0 then
    some ((-2 : Int32), M1)
  else
    bd (f_X6_in (Int32.toInt64 x2) (0 : Int64) (2 : Int64) M1) fun r4 M3 =>
    if r4 = 0 then
      some ((-2 : Int32), M3)
    else
      bd (f_X6_in (Int32.toInt64 x4) (0 : Int64) (5 : Int64) M3) fun r6 M5 =>
      if r6 = 0 then
        some ((-2 : Int32), M5)
      else
        gd (bin x1 4 = true) inferInstance <|
        if (M5.1 16 (Int32.toNatClampNeg x1)) = 0 then
          f_X6_eaters_j57 x1 x3 x4 M5
        else
          gd (bin x1 4 = true) inferInstance <|
          if (M5.1 17 (Int32.toNatClampNeg x1)) = x2 then
            f_X6_eaters_j57 x1 x3 x4 M5
          else
            some ((-13 : Int32), M5)
set_option maxRecDepth 100000 in
set_option maxHeartbeats 4000000 in
theorem jf_X6_eaters {G : wn_G} {ad : Nat → Nat} {X : wn_X} {d : Nat} (O : Ok G RX6 cX6_eaters 8 d X) (hd0 : 3 ≤ d) (x1 : Int32) (x2 : Int32) (x3 : Int32) (x4 : Int32) (M : Mm) : JW G S2 ad X 0 [(0, .ref (ad 0)), (1, .int x1), (2, .int x2), (3, .int x3), (4, .int x4)] [] M (f_X6_eaters x1 x2 x3 x4 M) (Kri G S2 ad X) := by
  unfold f_X6_eaters
  refine j_iload_n (pc := 0) O 1 dX6_eaters_0 rfl ?_
  refine j_callSi (pc := 1) (dc := 2) (As := [.int x1]) (rest := []) O (fun r M1 h => sp_X6_isSheet h) dX6_eaters_1 mst_X6_isSheet lm_X6_303 rfl rfl (Nat.le_of_ble_eq_true rfl) (Nat.le_trans (Nat.le_of_ble_eq_true rfl) hd0) (fun r2 M1 => ?_)
  refine j_if_eq (pc := 4) (tgt := 32) O dX6_eaters_4 (by decide) ?_ ?_
  · refine j_bipush (pc := 32) (v := -2) O dX6_eaters_32 (by decide) ?_
    exact j_iret (pc := 34) O dX6_eaters_34
  · refine j_iload_n (pc := 7) O 2 dX6_eaters_7 rfl ?_
    refine j_i2l (pc := 8) O dX6_eaters_8 ?_
    refine j_lconst (pc := 9) (v := 0) O dX6_eaters_9 (by decide) ?_
    refine j_ldc2 (pc := 10) (v := 2) O dX6_eaters_10 gk_X6_106 ?_
    refine j_callSi (pc := 13) (dc := 1) (As := [.long (Int32.toInt64 x2), .long (0 : Int64), .long (2 : Int64)]) (rest := []) O (fun r M1 h => sp_X6_in h) dX6_eaters_13 mst_X6_in lm_X6_94 rfl rfl (Nat.le_of_ble_eq_true rfl) (Nat.le_trans (Nat.le_of_ble_eq_true rfl) hd0) (fun r4 M3 => ?_)
    refine j_if_eq (pc := 16) (tgt := 32) O dX6_eaters_16 (by decide) ?_ ?_
    · refine j_bipush (pc := 32) (v := -2) O dX6_eaters_32 (by decide) ?_
      exact j_iret (pc := 34) O dX6_eaters_34
    · refine j_iload (pc := 19) O 4 dX6_eaters_19 rfl ?_
      refine j_i2l (pc := 21) O dX6_eaters_21 ?_
      refine j_lconst (pc := 22) (v := 0) O dX6_eaters_22 (by decide) ?_
      refine j_ldc2 (pc := 23) (v := 5) O dX6_eaters_23 gk_X6_112 ?_
      refine j_callSi (pc := 26) (dc := 1) (As := [.long (Int32.toInt64 x4), .long (0 : Int64), .long (5 : Int64)]) (rest := []) O (fun r M1 h => sp_X6_in h) dX6_eaters_26 mst_X6_in lm_X6_94 rfl rfl (Nat.le_of_ble_eq_true rfl) (Nat.le_trans (Nat.le_of_ble_eq_true rfl) hd0) (fun r6 M5 => ?_)
      refine j_if_ne (pc := 29) (tgt := 35) O dX6_eaters_29 (by decide) ?_ ?_
      · refine j_bipush (pc := 32) (v := -2) O dX6_eaters_32 (by decide) ?_
        exact j_iret (pc := 34) O dX6_eaters_34
      · refine j_aload_n (pc := 35) O 0 dX6_eaters_35 rfl ?_
        refine j_getf (pc := 36) (v := .ref (ad 16)) O 0 48 dX6_eaters_36 fl_X6_71 so_S2_0 rfl rfl ?_
        refine j_iload_n (pc := 39) O 1 dX6_eaters_39 rfl ?_
        refine j_zald (pc := 40) O 16 dX6_eaters_40 so_S2_16 ?_
        refine j_if_eq (pc := 41) (tgt := 57) O dX6_eaters_41 (by decide) ?_ ?_
        · exact jw_sub [0, 1, 3, 4] rfl (jf_X6_eaters_j57 O hd0 x1 x3 x4 M5)
        · refine j_aload_n (pc := 44) O 0 dX6_eaters_44 rfl ?_
          refine j_getf (pc := 45) (v := .ref (ad 17)) O 0 49 dX6_eaters_45 fl_X6_75 so_S2_0 rfl rfl ?_
          refine j_iload_n (pc := 48) O 1 dX6_eaters_48 rfl ?_
          refine j_iald (pc := 49) O 17 dX6_eaters_49 so_S2_17 ?_
          refine j_iload_n (pc := 50) O 2 dX6_eaters_50 rfl ?_
          refine j_icmp_eq (pc := 51) (tgt := 57) O dX6_eaters_51 (by decide) ?_ ?_
          · exact jw_sub [0, 1, 3, 4] rfl (jf_X6_eaters_j57 O hd0 x1 x3 x4 M5)
          · refine j_bipush (pc := 54) (v := -13) O dX6_eaters_54 (by decide) ?_
            exact j_iret (pc := 56) O dX6_eaters_56
theorem sp_X6_eaters {G : wn_G} {ad : Nat → Nat} {x1 : Int32} {x2 : Int32} {x3 : Int32} {x4 : Int32} {M : Mm} {r : Int32} {M1 : Mm} (h : f_X6_eaters x1 x2 x3 x4 M = some (r, M1)) : Sp G S2 ad mX6_eaters 3 [.ref (ad 0), .int x1, .int x2, .int x3, .int x4] M M1 (some (.int r)) :=
  sp_intro (own := RX6) (by decide +kernel) rfl (Nat.le_of_ble_eq_true rfl) (fun X O T => jf_X6_eaters O (Nat.le_refl _) x1 x2 x3 x4 M (r, M1) h T)
