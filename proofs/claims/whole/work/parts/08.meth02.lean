def f_X0_isDigit (x0 : Int32) (M : Mm) : Option (Int32 × Mm) :=
  if x0 < (48 : Int32) then
    some (0, M)
  else
    if (57 : Int32) < x0 then
      some (0, M)
    else
      some (1, M)
set_option maxRecDepth 100000 in
set_option maxHeartbeats 4000000 in
theorem jf_X0_isDigit {G : wn_G} {ad : Nat → Nat} {X : wn_X} {d : Nat} (O : Ok G RX0 cX0_isDigit 1 d X) (hd0 : 1 ≤ d) (x0 : Int32) (M : Mm) : JW G S1 ad X 0 [(0, .int x0)] [] M (f_X0_isDigit x0 M) (Krz G S1 ad X) := by
  unfold f_X0_isDigit
  refine j_iload_n (pc := 0) O 0 dX0_isDigit_0 rfl ?_
  refine j_bipush (pc := 1) (v := 48) O dX0_isDigit_1 (by decide) ?_
  refine j_icmp_lt (pc := 3) (tgt := 16) O dX0_isDigit_3 (by decide) ?_ ?_
  · refine j_iconst (pc := 16) (v := 0) O dX0_isDigit_16 (by decide) ?_
    exact j_z0 (pc := 17) O dX0_isDigit_17
  · refine j_iload_n (pc := 6) O 0 dX0_isDigit_6 rfl ?_
    refine j_bipush (pc := 7) (v := 57) O dX0_isDigit_7 (by decide) ?_
    refine j_icmp_gt (pc := 9) (tgt := 16) O dX0_isDigit_9 (by decide) ?_ ?_
    · refine j_iconst (pc := 16) (v := 0) O dX0_isDigit_16 (by decide) ?_
      exact j_z0 (pc := 17) O dX0_isDigit_17
    · refine j_iconst (pc := 12) (v := 1) O dX0_isDigit_12 (by decide) ?_
      refine j_goto (pc := 13) (tgt := 17) O dX0_isDigit_13 (by decide) ?_
      exact j_z1 (pc := 17) O dX0_isDigit_17
theorem sp_X0_isDigit {G : wn_G} {ad : Nat → Nat} {x0 : Int32} {M : Mm} {r : Int32} {M1 : Mm} (h : f_X0_isDigit x0 M = some (r, M1)) : Sp G S1 ad mX0_isDigit 1 [.int x0] M M1 (some (.int r)) :=
  sp_intro (own := RX0) (by decide +kernel) rfl (Nat.le_of_ble_eq_true rfl) (fun X O T => jf_X0_isDigit O (Nat.le_refl _) x0 M (r, M1) h T)
def f_X0_isSign (x0 : Int32) (M : Mm) : Option (Int32 × Mm) :=
  if x0 = (40 : Int32) then
    some (1, M)
  else
    if x0 = (41 : Int32) then
      some (1, M)
    else
      if x0 = (59 : Int32) then
        some (1, M)
      else
        if x0 = (43 : Int32) then
          some (1, M)
        else
          if x0 = (45 : Int32) then
            some (1, M)
          else
            if x0 = (42 : Int32) then
              some (1, M)
            else
              if x0 = (60 : Int32) then
                some (1, M)
              else
                if x0 = (61 : Int32) then
                  some (1, M)
                else
                  some (0, M)
set_option maxRecDepth 100000 in
set_option maxHeartbeats 4000000 in
theorem jf_X0_isSign {G : wn_G} {ad : Nat → Nat} {X : wn_X} {d : Nat} (O : Ok G RX0 cX0_isSign 1 d X) (hd0 : 1 ≤ d) (x0 : Int32) (M : Mm) : JW G S1 ad X 0 [(0, .int x0)] [] M (f_X0_isSign x0 M) (Krz G S1 ad X) := by
  unfold f_X0_isSign
  refine j_iload_n (pc := 0) O 0 dX0_isSign_0 rfl ?_
  refine j_bipush (pc := 1) (v := 40) O dX0_isSign_1 (by decide) ?_
  refine j_icmp_eq (pc := 3) (tgt := 48) O dX0_isSign_3 (by decide) ?_ ?_
  · refine j_iconst (pc := 48) (v := 1) O dX0_isSign_48 (by decide) ?_
    refine j_goto (pc := 49) (tgt := 53) O dX0_isSign_49 (by decide) ?_
    exact j_z1 (pc := 53) O dX0_isSign_53
  · refine j_iload_n (pc := 6) O 0 dX0_isSign_6 rfl ?_
    refine j_bipush (pc := 7) (v := 41) O dX0_isSign_7 (by decide) ?_
    refine j_icmp_eq (pc := 9) (tgt := 48) O dX0_isSign_9 (by decide) ?_ ?_
    · refine j_iconst (pc := 48) (v := 1) O dX0_isSign_48 (by decide) ?_
      refine j_goto (pc := 49) (tgt := 53) O dX0_isSign_49 (by decide) ?_
      exact j_z1 (pc := 53) O dX0_isSign_53
    · refine j_iload_n (pc := 12) O 0 dX0_isSign_12 rfl ?_
      refine j_bipush (pc := 13) (v := 59) O dX0_isSign_13 (by decide) ?_
      refine j_icmp_eq (pc := 15) (tgt := 48) O dX0_isSign_15 (by decide) ?_ ?_
      · refine j_iconst (pc := 48) (v := 1) O dX0_isSign_48 (by decide) ?_
        refine j_goto (pc := 49) (tgt := 53) O dX0_isSign_49 (by decide) ?_
        exact j_z1 (pc := 53) O dX0_isSign_53
      · refine j_iload_n (pc := 18) O 0 dX0_isSign_18 rfl ?_
        refine j_bipush (pc := 19) (v := 43) O dX0_isSign_19 (by decide) ?_
        refine j_icmp_eq (pc := 21) (tgt := 48) O dX0_isSign_21 (by decide) ?_ ?_
        · refine j_iconst (pc := 48) (v := 1) O dX0_isSign_48 (by decide) ?_
          refine j_goto (pc := 49) (tgt := 53) O dX0_isSign_49 (by decide) ?_
          exact j_z1 (pc := 53) O dX0_isSign_53
        · refine j_iload_n (pc := 24) O 0 dX0_isSign_24 rfl ?_
          refine j_bipush (pc := 25) (v := 45) O dX0_isSign_25 (by decide) ?_
          refine j_icmp_eq (pc := 27) (tgt := 48) O dX0_isSign_27 (by decide) ?_ ?_
          · refine j_iconst (pc := 48) (v := 1) O dX0_isSign_48 (by decide) ?_
            refine j_goto (pc := 49) (tgt := 53) O dX0_isSign_49 (by decide) ?_
            exact j_z1 (pc := 53) O dX0_isSign_53
          · refine j_iload_n (pc := 30) O 0 dX0_isSign_30 rfl ?_
            refine j_bipush (pc := 31) (v := 42) O dX0_isSign_31 (by decide) ?_
            refine j_icmp_eq (pc := 33) (tgt := 48) O dX0_isSign_33 (by decide) ?_ ?_
            · refine j_iconst (pc := 48) (v := 1) O dX0_isSign_48 (by decide) ?_
              refine j_goto (pc := 49) (tgt := 53) O dX0_isSign_49 (by decide) ?_
              exact j_z1 (pc := 53) O dX0_isSign_53
            · refine j_iload_n (pc := 36) O 0 dX0_isSign_36 rfl ?_
              refine j_bipush (pc := 37) (v := 60) O dX0_isSign_37 (by decide) ?_
              refine j_icmp_eq (pc := 39) (tgt := 48) O dX0_isSign_39 (by decide) ?_ ?_
              · refine j_iconst (pc := 48) (v := 1) O dX0_isSign_48 (by decide) ?_
                refine j_goto (pc := 49) (tgt := 53) O dX0_isSign_49 (by decide) ?_
                exact j_z1 (pc := 53) O dX0_isSign_53
              · refine j_iload_n (pc := 42) O 0 dX0_isSign_42 rfl ?_
                refine j_bipush (pc := 43) (v := 61) O dX0_isSign_43 (by decide) ?_
                refine j_icmp_ne (pc := 45) (tgt := 52) O dX0_isSign_45 (by decide) ?_ ?_
                · refine j_iconst (pc := 48) (v := 1) O dX0_isSign_48 (by decide) ?_
                  refine j_goto (pc := 49) (tgt := 53) O dX0_isSign_49 (by decide) ?_
                  exact j_z1 (pc := 53) O dX0_isSign_53
                · refine j_iconst (pc := 52) (v := 0) O dX0_isSign_52 (by decide) ?_
                  exact j_z0 (pc := 53) O dX0_isSign_53
theorem sp_X0_isSign {G : wn_G} {ad : Nat → Nat} {x0 : Int32} {M : Mm} {r : Int32} {M1 : Mm} (h : f_X0_isSign x0 M = some (r, M1)) : Sp G S1 ad mX0_isSign 1 [.int x0] M M1 (some (.int r)) :=
  sp_intro (own := RX0) (by decide +kernel) rfl (Nat.le_of_ble_eq_true rfl) (fun X O T => jf_X0_isSign O (Nat.le_refl _) x0 M (r, M1) h T)
def h_X0_readNumber_6 (G : wn_G) (ad : Nat → Nat) (X : wn_X) : Int32 × Int32 × Int32 × Mm → Prop := fun s => PW G S1 ad X 6 [(0, .ref (ad 3)), (1, .int s.1), (2, .int s.2.1), (3, .int s.2.2.1)] [] s.2.2.2
def f_X0_readNumber_j79 (x1 : Int32) (s0 : Int32) (M : Mm) : Option (Mm) :=
  bm (ms M 3 3 s0) fun M1 =>
  bm (ms M1 3 5 x1) fun M2 =>
  some M2
set_option maxRecDepth 100000 in
set_option maxHeartbeats 4000000 in
theorem jf_X0_readNumber_j79 {G : wn_G} {ad : Nat → Nat} {X : wn_X} {d : Nat} (O : Ok G RX0 cX0_readNumber 4 d X) (hd0 : 2 ≤ d) (x1 : Int32) (s0 : Int32) (M : Mm) : JW G S1 ad X 79 [(0, .ref (ad 3)), (1, .int x1)] [.int s0, .ref (ad 3)] M (f_X0_readNumber_j79 x1 s0 M) (Krv G S1 ad X) := by
  unfold f_X0_readNumber_j79
  refine j_puti (pc := 79) O 3 3 dX0_readNumber_79 fl_X0_58 so_S1_3 ft_X0_3 rfl (fun M1 => ?_)
  refine j_aload_n (pc := 82) O 0 dX0_readNumber_82 rfl ?_
  refine j_iload_n (pc := 83) O 1 dX0_readNumber_83 rfl ?_
  refine j_puti (pc := 84) O 3 5 dX0_readNumber_84 fl_X0_77 so_S1_3 ft_X0_5 rfl (fun M2 => ?_)
  exact j_vret (pc := 87) O dX0_readNumber_87
def f_X0_readNumber_j68 (x1 : Int32) (x2 : Int32) (M : Mm) : Option (Mm) :=
  if x2 ≤ (4 : Int32) then
    f_X0_readNumber_j79 x1 (2 : Int32) M
  else
    f_X0_readNumber_j79 x1 (1 : Int32) M
set_option maxRecDepth 100000 in
set_option maxHeartbeats 4000000 in
theorem jf_X0_readNumber_j68 {G : wn_G} {ad : Nat → Nat} {X : wn_X} {d : Nat} (O : Ok G RX0 cX0_readNumber 4 d X) (hd0 : 2 ≤ d) (x1 : Int32) (x2 : Int32) (M : Mm) : JW G S1 ad X 68 [(0, .ref (ad 3)), (1, .int x1), (2, .int x2)] [] M (f_X0_readNumber_j68 x1 x2 M) (Krv G S1 ad X) := by
  unfold f_X0_readNumber_j68
  refine j_aload_n (pc := 68) O 0 dX0_readNumber_68 rfl ?_
  refine j_iload_n (pc := 69) O 2 dX0_readNumber_69 rfl ?_
  refine j_iconst (pc := 70) (v := 4) O dX0_readNumber_70 (by decide) ?_
  refine j_icmp_le (pc := 71) (tgt := 78) O dX0_readNumber_71 (by decide) ?_ ?_
  · refine j_iconst (pc := 78) (v := 2) O dX0_readNumber_78 (by decide) ?_
    exact jw_sub [0, 1] rfl (jf_X0_readNumber_j79 O hd0 x1 (2 : Int32) M)
  · refine j_iconst (pc := 74) (v := 1) O dX0_readNumber_74 (by decide) ?_
    refine j_goto (pc := 75) (tgt := 79) O dX0_readNumber_75 (by decide) ?_
    exact jw_sub [0, 1] rfl (jf_X0_readNumber_j79 O hd0 x1 (1 : Int32) M)
def f_X0_readNumber_j49 (x1 : Int32) (x2 : Int32) (x3 : Int32) (M : Mm) : Option ((Int32 × Int32 × Int32 × Mm) ⊕ (Mm)) :=
  bi (x2 + (1 : Int32)) fun y7 =>
  bm (ms M 3 2 ((M.1 3 2) + (1 : Int32))) fun M8 =>
  bi (x3 + (1 : Int32)) fun y9 =>
  some (.inl (x1, y7, y9, M8))
set_option maxRecDepth 100000 in
set_option maxHeartbeats 4000000 in
theorem jf_X0_readNumber_j49 {G : wn_G} {ad : Nat → Nat} {X : wn_X} {d : Nat} (O : Ok G RX0 cX0_readNumber 4 d X) (hd0 : 2 ≤ d) (x1 : Int32) (x2 : Int32) (x3 : Int32) (M : Mm) : JW G S1 ad X 49 [(0, .ref (ad 3)), (1, .int x1), (2, .int x2), (3, .int x3)] [] M (f_X0_readNumber_j49 x1 x2 x3 M) (Kl (h_X0_readNumber_6 G ad X) (Krv G S1 ad X)) := by
  unfold f_X0_readNumber_j49
  refine j_iinc (pc := 49) (v := 1) (L2 := fun y => [(2, .int y), (0, .ref (ad 3)), (1, .int x1), (3, .int x3)]) O 2 dX0_readNumber_49 rfl (by decide) (by decide) (fun _ => rfl) (fun y7 => ?_)
  refine j_aload_n (pc := 52) O 1 dX0_readNumber_52 rfl ?_
  refine j_dup (pc := 53) O dX0_readNumber_53 rfl ?_
  refine j_getf (pc := 54) (v := .int (M.1 3 2)) O 3 2 dX0_readNumber_54 fl_X0_39 so_S1_3 rfl rfl ?_
  refine j_iconst (pc := 57) (v := 1) O dX0_readNumber_57 (by decide) ?_
  refine j_iadd (pc := 58) O dX0_readNumber_58 ?_
  refine j_puti (pc := 59) O 3 2 dX0_readNumber_59 fl_X0_39 so_S1_3 ft_X0_2 rfl (fun M8 => ?_)
  refine j_iinc (pc := 62) (v := 1) (L2 := fun y => [(3, .int y), (2, .int y7), (0, .ref (ad 3)), (1, .int x1)]) O 3 dX0_readNumber_62 rfl (by decide) (by decide) (fun _ => rfl) (fun y9 => ?_)
  refine j_goto (pc := 65) (tgt := 6) O dX0_readNumber_65 (by decide) ?_
  exact jw_next (fun hh => pw_sub [2, 3, 1, 0] rfl hh)
def f_X0_readNumber_b6 (x1 : Int32) (x2 : Int32) (x3 : Int32) (M : Mm) : Option ((Int32 × Int32 × Int32 × Mm) ⊕ (Mm)) :=
  if (160 : Int32) ≤ x3 then
    ex (
    f_X0_readNumber_j68 x1 x2 M)
  else
    bd (f_X0_byteAt (M.1 3 2) M) fun r4 M3 =>
    bd (f_X0_isDigit r4 M3) fun r6 M5 =>
    if r6 = 0 then
      ex (
      f_X0_readNumber_j68 x1 x2 M5)
    else
      if (4 : Int32) ≤ x2 then
        f_X0_readNumber_j49 x1 x2 x3 M5
      else
        bd (f_X0_byteAt (M5.1 3 2) M5) fun r11 M10 =>
        bi (((x1 * (10 : Int32)) + r11) - (48 : Int32)) fun y12 =>
        f_X0_readNumber_j49 y12 x2 x3 M10
set_option maxRecDepth 100000 in
set_option maxHeartbeats 4000000 in
theorem jf_X0_readNumber_b6 {G : wn_G} {ad : Nat → Nat} {X : wn_X} {d : Nat} (O : Ok G RX0 cX0_readNumber 4 d X) (hd0 : 2 ≤ d) (x1 : Int32) (x2 : Int32) (x3 : Int32) (M : Mm) : JW G S1 ad X 6 [(0, .ref (ad 3)), (1, .int x1), (2, .int x2), (3, .int x3)] [] M (f_X0_readNumber_b6 x1 x2 x3 M) (Kl (h_X0_readNumber_6 G ad X) (Krv G S1 ad X)) := by
  unfold f_X0_readNumber_b6
  refine j_iload_n (pc := 6) O 3 dX0_readNumber_6 rfl ?_
  refine j_sipush (pc := 7) (v := 160) O dX0_readNumber_7 (by decide) ?_
  refine j_icmp_ge (pc := 10) (tgt := 68) O dX0_readNumber_10 (by decide) ?_ ?_
  · refine jw_ex ?_
    exact jw_sub [0, 1, 2] rfl (jf_X0_readNumber_j68 O hd0 x1 x2 M)
  · refine j_aload_n (pc := 13) O 0 dX0_readNumber_13 rfl ?_
    refine j_aload_n (pc := 14) O 0 dX0_readNumber_14 rfl ?_
    refine j_getf (pc := 15) (v := .int (M.1 3 2)) O 3 2 dX0_readNumber_15 fl_X0_39 so_S1_3 rfl rfl ?_
    refine j_callVi (pc := 18) (dc := 1) (As := [.int (M.1 3 2)]) (rest := []) O 3 (fun r M1 h => sp_X0_byteAt h) dX0_readNumber_18 mv_X0_byteAt lm_X0_80 so_S1_3 rfl rfl (Nat.le_of_ble_eq_true rfl) (Nat.le_trans (Nat.le_of_ble_eq_true rfl) hd0) (fun r4 M3 => ?_)
    refine j_callSi (pc := 21) (dc := 1) (As := [.int r4]) (rest := []) O (fun r M1 h => sp_X0_isDigit h) dX0_readNumber_21 mst_X0_isDigit lm_X0_89 rfl rfl (Nat.le_of_ble_eq_true rfl) (Nat.le_trans (Nat.le_of_ble_eq_true rfl) hd0) (fun r6 M5 => ?_)
    refine j_if_eq (pc := 24) (tgt := 68) O dX0_readNumber_24 (by decide) ?_ ?_
    · refine jw_ex ?_
      exact jw_sub [0, 1, 2] rfl (jf_X0_readNumber_j68 O hd0 x1 x2 M5)
    · refine j_iload_n (pc := 27) O 2 dX0_readNumber_27 rfl ?_
      refine j_iconst (pc := 28) (v := 4) O dX0_readNumber_28 (by decide) ?_
      refine j_icmp_ge (pc := 29) (tgt := 49) O dX0_readNumber_29 (by decide) ?_ ?_
      · exact jw_sub [0, 1, 2, 3] rfl (jf_X0_readNumber_j49 O hd0 x1 x2 x3 M5)
      · refine j_iload_n (pc := 32) O 1 dX0_readNumber_32 rfl ?_
        refine j_bipush (pc := 33) (v := 10) O dX0_readNumber_33 (by decide) ?_
        refine j_imul (pc := 35) O dX0_readNumber_35 ?_
        refine j_aload_n (pc := 36) O 0 dX0_readNumber_36 rfl ?_
        refine j_aload_n (pc := 37) O 0 dX0_readNumber_37 rfl ?_
        refine j_getf (pc := 38) (v := .int (M5.1 3 2)) O 3 2 dX0_readNumber_38 fl_X0_39 so_S1_3 rfl rfl ?_
        refine j_callVi (pc := 41) (dc := 1) (As := [.int (M5.1 3 2)]) (rest := [.int (x1 * (10 : Int32))]) O 3 (fun r M1 h => sp_X0_byteAt h) dX0_readNumber_41 mv_X0_byteAt lm_X0_80 so_S1_3 rfl rfl (Nat.le_of_ble_eq_true rfl) (Nat.le_trans (Nat.le_of_ble_eq_true rfl) hd0) (fun r11 M10 => ?_)
        refine j_iadd (pc := 44) O dX0_readNumber_44 ?_
        refine j_bipush (pc := 45) (v := 48) O dX0_readNumber_45 (by decide) ?_
        refine j_isub (pc := 47) O dX0_readNumber_47 ?_
        refine jw_bi fun y12 => ?_
        refine j_istore_n (pc := 48) (L' := [(1, .int y12), (0, .ref (ad 3)), (2, .int x2), (3, .int x3)]) O dX0_readNumber_48 (by decide) rfl ?_
        exact jw_sub [1, 0, 2, 3] rfl (jf_X0_readNumber_j49 O hd0 y12 x2 x3 M10)
def f_X0_readNumber (M : Mm) : Option (Mm) :=
  iter (fun s => f_X0_readNumber_b6 s.1 s.2.1 s.2.2.1 s.2.2.2) fuel ((0 : Int32), (0 : Int32), (0 : Int32), M)
set_option maxRecDepth 100000 in
set_option maxHeartbeats 4000000 in
theorem jf_X0_readNumber {G : wn_G} {ad : Nat → Nat} {X : wn_X} {d : Nat} (O : Ok G RX0 cX0_readNumber 4 d X) (hd0 : 2 ≤ d) (M : Mm) : JW G S1 ad X 0 [(0, .ref (ad 3))] [] M (f_X0_readNumber M) (Krv G S1 ad X) := by
  unfold f_X0_readNumber
  refine j_iconst (pc := 0) (v := 0) O dX0_readNumber_0 (by decide) ?_
  refine j_istore_n (pc := 1) (L' := [(1, .int (0 : Int32)), (0, .ref (ad 3))]) O dX0_readNumber_1 (by decide) rfl ?_
  refine j_iconst (pc := 2) (v := 0) O dX0_readNumber_2 (by decide) ?_
  refine j_istore_n (pc := 3) (L' := [(2, .int (0 : Int32)), (1, .int (0 : Int32)), (0, .ref (ad 3))]) O dX0_readNumber_3 (by decide) rfl ?_
  refine j_iconst (pc := 4) (v := 0) O dX0_readNumber_4 (by decide) ?_
  refine j_istore_n (pc := 5) (L' := [(3, .int (0 : Int32)), (2, .int (0 : Int32)), (1, .int (0 : Int32)), (0, .ref (ad 3))]) O dX0_readNumber_5 (by decide) rfl ?_
  exact jw_iter (hd := h_X0_readNumber_6 G ad X) (fun hh => pw_sub [3, 2, 1, 0] rfl hh) (fun s => jf_X0_readNumber_b6 O hd0 s.1 s.2.1 s.2.2.1 s.2.2.2)
theorem sp_X0_readNumber {G : wn_G} {ad : Nat → Nat} {M M1 : Mm} (h : f_X0_readNumber M = some M1) : Sp G S1 ad mX0_readNumber 2 [.ref (ad 3)] M M1 none :=
  sp_intro (own := RX0) (by decide +kernel) rfl (Nat.le_of_ble_eq_true rfl) (fun X O T => jf_X0_readNumber O (Nat.le_refl _) M M1 h T)
def f_X0_wordOf (x0 : Int32) (M : Mm) : Option (Nat × Mm) :=
  bi x0 fun y1 => swc y1 [
((0 : Int32),
    some (1, M)),
((1 : Int32),
    some (2, M)),
((2 : Int32),
    some (3, M)),
((3 : Int32),
    some (4, M)),
((4 : Int32),
    some (5, M)),
((5 : Int32),
    some (6, M)),
((6 : Int32),
    some (7, M)),
((7 : Int32),
    some (8, M)),
((8 : Int32),
    some (9, M)),
((9 : Int32),
    some (10, M)),
((10 : Int32),
    some (11, M))] (
    some (12, M))
set_option maxRecDepth 100000 in
set_option maxHeartbeats 4000000 in
theorem jf_X0_wordOf {G : wn_G} {ad : Nat → Nat} {X : wn_X} {d : Nat} (O : Ok G RX0 cX0_wordOf 1 d X) (hd0 : 1 ≤ d) (x0 : Int32) (M : Mm) : JW G S1 ad X 0 [(0, .int x0)] [] M (f_X0_wordOf x0 M) (Krs G S1 ad X) := by
  unfold f_X0_wordOf
  refine j_iload_n (pc := 0) O 0 dX0_wordOf_0 rfl ?_
  refine jw_bi fun y1 => ?_
  refine jw_swc (fun hc => ?_) (fun n0 => ?_)
  · subst hc
    refine j_tin (pc := 1) (tgt := 60) O dX0_wordOf_1 (by decide) (by decide) rfl (by decide) ?_
    refine j_ldcs (pc := 60) O 1 dX0_wordOf_60 (List.mem_of_getElem? (i := 1) rfl) ?_
    exact j_sret (pc := 62) O dX0_wordOf_62
  refine jw_swc (fun hc => ?_) (fun n1 => ?_)
  · subst hc
    refine j_tin (pc := 1) (tgt := 63) O dX0_wordOf_1 (by decide) (by decide) rfl (by decide) ?_
    refine j_ldcs (pc := 63) O 2 dX0_wordOf_63 (List.mem_of_getElem? (i := 2) rfl) ?_
    exact j_sret (pc := 65) O dX0_wordOf_65
  refine jw_swc (fun hc => ?_) (fun n2 => ?_)
  · subst hc
    refine j_tin (pc := 1) (tgt := 66) O dX0_wordOf_1 (by decide) (by decide) rfl (by decide) ?_
    refine j_ldcs (pc := 66) O 3 dX0_wordOf_66 (List.mem_of_getElem? (i := 3) rfl) ?_
    exact j_sret (pc := 68) O dX0_wordOf_68
  refine jw_swc (fun hc => ?_) (fun n3 => ?_)
  · subst hc
    refine j_tin (pc := 1) (tgt := 69) O dX0_wordOf_1 (by decide) (by decide) rfl (by decide) ?_
    refine j_ldcs (pc := 69) O 4 dX0_wordOf_69 (List.mem_of_getElem? (i := 4) rfl) ?_
    exact j_sret (pc := 71) O dX0_wordOf_71
  refine jw_swc (fun hc => ?_) (fun n4 => ?_)
  · subst hc
    refine j_tin (pc := 1) (tgt := 72) O dX0_wordOf_1 (by decide) (by decide) rfl (by decide) ?_
    refine j_ldcs (pc := 72) O 5 dX0_wordOf_72 (List.mem_of_getElem? (i := 5) rfl) ?_
    exact j_sret (pc := 74) O dX0_wordOf_74
  refine jw_swc (fun hc => ?_) (fun n5 => ?_)
  · subst hc
    refine j_tin (pc := 1) (tgt := 75) O dX0_wordOf_1 (by decide) (by decide) rfl (by decide) ?_
    refine j_ldcs (pc := 75) O 6 dX0_wordOf_75 (List.mem_of_getElem? (i := 6) rfl) ?_
    exact j_sret (pc := 77) O dX0_wordOf_77
  refine jw_swc (fun hc => ?_) (fun n6 => ?_)
  · subst hc
    refine j_tin (pc := 1) (tgt := 78) O dX0_wordOf_1 (by decide) (by decide) rfl (by decide) ?_
    refine j_ldcs (pc := 78) O 7 dX0_wordOf_78 (List.mem_of_getElem? (i := 7) rfl) ?_
    exact j_sret (pc := 80) O dX0_wordOf_80
  refine jw_swc (fun hc => ?_) (fun n7 => ?_)
  · subst hc
    refine j_tin (pc := 1) (tgt := 81) O dX0_wordOf_1 (by decide) (by decide) rfl (by decide) ?_
    refine j_ldcs (pc := 81) O 8 dX0_wordOf_81 (List.mem_of_getElem? (i := 8) rfl) ?_
    exact j_sret (pc := 83) O dX0_wordOf_83
  refine jw_swc (fun hc => ?_) (fun n8 => ?_)
  · subst hc
    refine j_tin (pc := 1) (tgt := 84) O dX0_wordOf_1 (by decide) (by decide) rfl (by decide) ?_
    refine j_ldcs (pc := 84) O 9 dX0_wordOf_84 (List.mem_of_getElem? (i := 9) rfl) ?_
    exact j_sret (pc := 86) O dX0_wordOf_86
  refine jw_swc (fun hc => ?_) (fun n9 => ?_)
  · subst hc
    refine j_tin (pc := 1) (tgt := 87) O dX0_wordOf_1 (by decide) (by decide) rfl (by decide) ?_
    refine j_ldcs (pc := 87) O 10 dX0_wordOf_87 (List.mem_of_getElem? (i := 10) rfl) ?_
    exact j_sret (pc := 89) O dX0_wordOf_89
  refine jw_swc (fun hc => ?_) (fun n10 => ?_)
  · subst hc
    refine j_tin (pc := 1) (tgt := 90) O dX0_wordOf_1 (by decide) (by decide) rfl (by decide) ?_
    refine j_ldcs (pc := 90) O 11 dX0_wordOf_90 (List.mem_of_getElem? (i := 11) rfl) ?_
    exact j_sret (pc := 92) O dX0_wordOf_92
  refine jw_swd ?_
  have q0 := lv_neT (a := 0) n0 (by decide)
  have q1 := lv_neT (a := 1) n1 (by decide)
  have q2 := lv_neT (a := 2) n2 (by decide)
  have q3 := lv_neT (a := 3) n3 (by decide)
  have q4 := lv_neT (a := 4) n4 (by decide)
  have q5 := lv_neT (a := 5) n5 (by decide)
  have q6 := lv_neT (a := 6) n6 (by decide)
  have q7 := lv_neT (a := 7) n7 (by decide)
  have q8 := lv_neT (a := 8) n8 (by decide)
  have q9 := lv_neT (a := 9) n9 (by decide)
  have q10 := lv_neT (a := 10) n10 (by decide)
  refine j_tout (pc := 1) (tgt := 93) O dX0_wordOf_1 (by omega) (by decide) ?_
  refine j_ldcs (pc := 93) O 12 dX0_wordOf_93 (List.mem_of_getElem? (i := 12) rfl) ?_
  exact j_sret (pc := 95) O dX0_wordOf_95
theorem sp_X0_wordOf {G : wn_G} {ad : Nat → Nat} {x0 : Int32} {M : Mm} {r : Nat} {M1 : Mm} (h : f_X0_wordOf x0 M = some (r, M1)) : Sp G S1 ad mX0_wordOf 1 [.int x0] M M1 (some (.ref (gK G r))) :=
  sp_intro (own := RX0) (by decide +kernel) rfl (Nat.le_of_ble_eq_true rfl) (fun X O T => jf_X0_wordOf O (Nat.le_refl _) x0 M (r, M1) h T)
def h_X0_isWord_24 (G : wn_G) (ad : Nat → Nat) (X : wn_X) (x1 : Nat) : Int32 × Mm → Prop := fun s => PW G S1 ad X 24 [(0, .ref (ad 3)), (1, .ref (gK G x1)), (2, .int s.1)] [] s.2
def f_X0_isWord_b24 (x1 : Nat) (x2 : Int32) (M : Mm) : Option ((Int32 × Mm) ⊕ (Int32 × Mm)) :=
  gd (x1 < 13) inferInstance <|
  if (sln x1) ≤ x2 then
    ex (
    some (1, M))
  else
    gd (x1 < 13 ∧ bin x2 (sLen.getD x1 0) = true) inferInstance <|
    bd (f_X0_byteAt ((M.1 3 4) + x2) M) fun r2 M1 =>
    if (sch x1 x2) = r2 then
      bi (x2 + (1 : Int32)) fun y3 =>
      some (.inl (y3, M1))
    else
      ex (
      some (0, M1))
set_option maxRecDepth 100000 in
set_option maxHeartbeats 4000000 in
theorem jf_X0_isWord_b24 {G : wn_G} {ad : Nat → Nat} {X : wn_X} {d : Nat} (O : Ok G RX0 cX0_isWord 3 d X) (hd0 : 6 ≤ d) (x1 : Nat) (x2 : Int32) (M : Mm) : JW G S1 ad X 24 [(0, .ref (ad 3)), (1, .ref (gK G x1)), (2, .int x2)] [] M (f_X0_isWord_b24 x1 x2 M) (Kl (h_X0_isWord_24 G ad X x1) (Krz G S1 ad X)) := by
  unfold f_X0_isWord_b24
  refine j_iload_n (pc := 24) O 2 dX0_isWord_24 rfl ?_
  refine j_aload_n (pc := 25) O 1 dX0_isWord_25 rfl ?_
  refine j_slen (pc := 26) O dX0_isWord_26 lm_X0_25 (Nat.le_trans (Nat.le_of_ble_eq_true rfl) hd0) (Nat.le_of_ble_eq_true rfl) ?_
  refine j_icmp_ge (pc := 29) (tgt := 58) O dX0_isWord_29 (by decide) ?_ ?_
  · refine jw_ex ?_
    refine j_iconst (pc := 58) (v := 1) O dX0_isWord_58 (by decide) ?_
    exact j_z1 (pc := 59) O dX0_isWord_59
  · refine j_aload_n (pc := 32) O 1 dX0_isWord_32 rfl ?_
    refine j_iload_n (pc := 33) O 2 dX0_isWord_33 rfl ?_
    refine j_schar (pc := 34) O dX0_isWord_34 lm_X0_31 (Nat.le_trans (Nat.le_of_ble_eq_true rfl) hd0) (Nat.le_of_ble_eq_true rfl) ?_
    refine j_aload_n (pc := 37) O 0 dX0_isWord_37 rfl ?_
    refine j_aload_n (pc := 38) O 0 dX0_isWord_38 rfl ?_
    refine j_getf (pc := 39) (v := .int (M.1 3 4)) O 3 4 dX0_isWord_39 fl_X0_64 so_S1_3 rfl rfl ?_
    refine j_iload_n (pc := 42) O 2 dX0_isWord_42 rfl ?_
    refine j_iadd (pc := 43) O dX0_isWord_43 ?_
    refine j_callVi (pc := 44) (dc := 1) (As := [.int ((M.1 3 4) + x2)]) (rest := [.int (sch x1 x2)]) O 3 (fun r M1 h => sp_X0_byteAt h) dX0_isWord_44 mv_X0_byteAt lm_X0_80 so_S1_3 rfl rfl (Nat.le_of_ble_eq_true rfl) (Nat.le_trans (Nat.le_of_ble_eq_true rfl) hd0) (fun r2 M1 => ?_)
    refine j_icmp_eq (pc := 47) (tgt := 52) O dX0_isWord_47 (by decide) ?_ ?_
    · refine j_iinc (pc := 52) (v := 1) (L2 := fun y => [(2, .int y), (0, .ref (ad 3)), (1, .ref (gK G x1))]) O 2 dX0_isWord_52 rfl (by decide) (by decide) (fun _ => rfl) (fun y3 => ?_)
      refine j_goto (pc := 55) (tgt := 24) O dX0_isWord_55 (by decide) ?_
      exact jw_next (fun hh => pw_sub [1, 2, 0] rfl hh)
    · refine jw_ex ?_
      refine j_iconst (pc := 50) (v := 0) O dX0_isWord_50 (by decide) ?_
      exact j_z0 (pc := 51) O dX0_isWord_51
def f_X0_isWord (x1 : Nat) (M : Mm) : Option (Int32 × Mm) :=
  gd (x1 < 13) inferInstance <|
  if (sln x1) = ((M.1 3 2) - (M.1 3 4)) then
    iter (fun s => f_X0_isWord_b24 x1 s.1 s.2) fuel ((0 : Int32), M)
  else
    some (0, M)
set_option maxRecDepth 100000 in
set_option maxHeartbeats 4000000 in
theorem jf_X0_isWord {G : wn_G} {ad : Nat → Nat} {X : wn_X} {d : Nat} (O : Ok G RX0 cX0_isWord 3 d X) (hd0 : 6 ≤ d) (x1 : Nat) (M : Mm) : JW G S1 ad X 0 [(0, .ref (ad 3)), (1, .ref (gK G x1))] [] M (f_X0_isWord x1 M) (Krz G S1 ad X) := by
  unfold f_X0_isWord
  refine j_aload_n (pc := 0) O 1 dX0_isWord_0 rfl ?_
  refine j_ifnull (pc := 1) O dX0_isWord_1 ?_
  refine j_aload_n (pc := 4) O 1 dX0_isWord_4 rfl ?_
  refine j_slen (pc := 5) O dX0_isWord_5 lm_X0_25 (Nat.le_trans (Nat.le_of_ble_eq_true rfl) hd0) (Nat.le_of_ble_eq_true rfl) ?_
  refine j_aload_n (pc := 8) O 0 dX0_isWord_8 rfl ?_
  refine j_getf (pc := 9) (v := .int (M.1 3 2)) O 3 2 dX0_isWord_9 fl_X0_39 so_S1_3 rfl rfl ?_
  refine j_aload_n (pc := 12) O 0 dX0_isWord_12 rfl ?_
  refine j_getf (pc := 13) (v := .int (M.1 3 4)) O 3 4 dX0_isWord_13 fl_X0_64 so_S1_3 rfl rfl ?_
  refine j_isub (pc := 16) O dX0_isWord_16 ?_
  refine j_icmp_eq (pc := 17) (tgt := 22) O dX0_isWord_17 (by decide) ?_ ?_
  · refine j_iconst (pc := 22) (v := 0) O dX0_isWord_22 (by decide) ?_
    refine j_istore_n (pc := 23) (L' := [(2, .int (0 : Int32)), (0, .ref (ad 3)), (1, .ref (gK G x1))]) O dX0_isWord_23 (by decide) rfl ?_
    exact jw_iter (hd := h_X0_isWord_24 G ad X x1) (fun hh => pw_sub [1, 2, 0] rfl hh) (fun s => jf_X0_isWord_b24 O hd0 x1 s.1 s.2)
  · refine j_iconst (pc := 20) (v := 0) O dX0_isWord_20 (by decide) ?_
    exact j_z0 (pc := 21) O dX0_isWord_21
theorem sp_X0_isWord {G : wn_G} {ad : Nat → Nat} {x1 : Nat} {M : Mm} {r : Int32} {M1 : Mm} (h : f_X0_isWord x1 M = some (r, M1)) : Sp G S1 ad mX0_isWord 6 [.ref (ad 3), .ref (gK G x1)] M M1 (some (.int r)) :=
  sp_intro (own := RX0) (by decide +kernel) rfl (Nat.le_of_ble_eq_true rfl) (fun X O T => jf_X0_isWord O (Nat.le_refl _) x1 M (r, M1) h T)
def h_X0_readWord_2 (G : wn_G) (ad : Nat → Nat) (X : wn_X) : Int32 × Mm → Prop := fun s => PW G S1 ad X 2 [(0, .ref (ad 3)), (1, .int s.1)] [] s.2
def h_X0_readWord_46 (G : wn_G) (ad : Nat → Nat) (X : wn_X) : Int32 × Mm → Prop := fun s => PW G S1 ad X 46 [(0, .ref (ad 3)), (1, .int s.1)] [] s.2
def f_X0_readWord_j81 (x1 : Int32) (s0 : Int32) (M : Mm) : Option ((Int32 × Mm) ⊕ (Mm)) :=
  bm (ms M 3 3 s0) fun M7 =>
  bm (ms M7 3 5 ((10000 : Int32) + x1)) fun M8 =>
  bi (x1 + (1 : Int32)) fun y9 =>
  some (.inl (y9, M8))
set_option maxRecDepth 100000 in
set_option maxHeartbeats 4000000 in
theorem jf_X0_readWord_j81 {G : wn_G} {ad : Nat → Nat} {X : wn_X} {d : Nat} (O : Ok G RX0 cX0_readWord 2 d X) (hd0 : 7 ≤ d) (x1 : Int32) (s0 : Int32) (M : Mm) : JW G S1 ad X 81 [(0, .ref (ad 3)), (1, .int x1)] [.int s0, .ref (ad 3)] M (f_X0_readWord_j81 x1 s0 M) (Kl (h_X0_readWord_46 G ad X) (Krv G S1 ad X)) := by
  unfold f_X0_readWord_j81
  refine j_puti (pc := 81) O 3 3 dX0_readWord_81 fl_X0_58 so_S1_3 ft_X0_3 rfl (fun M7 => ?_)
  refine j_aload_n (pc := 84) O 0 dX0_readWord_84 rfl ?_
  refine j_sipush (pc := 85) (v := 10000) O dX0_readWord_85 (by decide) ?_
  refine j_iload_n (pc := 88) O 1 dX0_readWord_88 rfl ?_
  refine j_iadd (pc := 89) O dX0_readWord_89 ?_
  refine j_puti (pc := 90) O 3 5 dX0_readWord_90 fl_X0_77 so_S1_3 ft_X0_5 rfl (fun M8 => ?_)
  refine j_iinc (pc := 93) (v := 1) (L2 := fun y => [(1, .int y), (0, .ref (ad 3))]) O 1 dX0_readWord_93 rfl (by decide) (by decide) (fun _ => rfl) (fun y9 => ?_)
  refine j_goto (pc := 96) (tgt := 46) O dX0_readWord_96 (by decide) ?_
  exact jw_next (fun hh => pw_sub [1, 0] rfl hh)
def f_X0_readWord_b46 (x1 : Int32) (M : Mm) : Option ((Int32 × Mm) ⊕ (Mm)) :=
  if (12 : Int32) ≤ x1 then
    ex (
    some M)
  else
    bds (f_X0_wordOf x1 M) fun r3 M2 =>
    bd (f_X0_isWord r3 M2) fun r5 M4 =>
    if r5 = 0 then
      bi (x1 + (1 : Int32)) fun y6 =>
      some (.inl (y6, M4))
    else
      if (6 : Int32) ≤ x1 then
        f_X0_readWord_j81 x1 (((100 : Int32) + x1) - (6 : Int32)) M4
      else
        f_X0_readWord_j81 x1 (3 : Int32) M4
set_option maxRecDepth 100000 in
set_option maxHeartbeats 4000000 in
theorem jf_X0_readWord_b46 {G : wn_G} {ad : Nat → Nat} {X : wn_X} {d : Nat} (O : Ok G RX0 cX0_readWord 2 d X) (hd0 : 7 ≤ d) (x1 : Int32) (M : Mm) : JW G S1 ad X 46 [(0, .ref (ad 3)), (1, .int x1)] [] M (f_X0_readWord_b46 x1 M) (Kl (h_X0_readWord_46 G ad X) (Krv G S1 ad X)) := by
  unfold f_X0_readWord_b46
  refine j_iload_n (pc := 46) O 1 dX0_readWord_46 rfl ?_
  refine j_bipush (pc := 47) (v := 12) O dX0_readWord_47 (by decide) ?_
  refine j_icmp_ge (pc := 49) (tgt := 99) O dX0_readWord_49 (by decide) ?_ ?_
  · refine jw_ex ?_
    exact j_vret (pc := 99) O dX0_readWord_99
  · refine j_aload_n (pc := 52) O 0 dX0_readWord_52 rfl ?_
    refine j_iload_n (pc := 53) O 1 dX0_readWord_53 rfl ?_
    refine j_callSs (pc := 54) (dc := 1) (As := [.int x1]) (rest := [.ref (ad 3)]) O (fun r M1 h => sp_X0_wordOf h) dX0_readWord_54 mst_X0_wordOf lm_X0_98 rfl rfl (Nat.le_of_ble_eq_true rfl) (Nat.le_trans (Nat.le_of_ble_eq_true rfl) hd0) (fun r3 M2 => ?_)
    refine j_callVi (pc := 57) (dc := 6) (As := [.ref (gK G r3)]) (rest := []) O 3 (fun r M1 h => sp_X0_isWord h) dX0_readWord_57 mv_X0_isWord lm_X0_102 so_S1_3 rfl rfl (Nat.le_of_ble_eq_true rfl) (Nat.le_trans (Nat.le_of_ble_eq_true rfl) hd0) (fun r5 M4 => ?_)
    refine j_if_eq (pc := 60) (tgt := 93) O dX0_readWord_60 (by decide) ?_ ?_
    · refine j_iinc (pc := 93) (v := 1) (L2 := fun y => [(1, .int y), (0, .ref (ad 3))]) O 1 dX0_readWord_93 rfl (by decide) (by decide) (fun _ => rfl) (fun y6 => ?_)
      refine j_goto (pc := 96) (tgt := 46) O dX0_readWord_96 (by decide) ?_
      exact jw_next (fun hh => pw_sub [1, 0] rfl hh)
    · refine j_aload_n (pc := 63) O 0 dX0_readWord_63 rfl ?_
      refine j_iload_n (pc := 64) O 1 dX0_readWord_64 rfl ?_
      refine j_bipush (pc := 65) (v := 6) O dX0_readWord_65 (by decide) ?_
      refine j_icmp_ge (pc := 67) (tgt := 74) O dX0_readWord_67 (by decide) ?_ ?_
      · refine j_bipush (pc := 74) (v := 100) O dX0_readWord_74 (by decide) ?_
        refine j_iload_n (pc := 76) O 1 dX0_readWord_76 rfl ?_
        refine j_iadd (pc := 77) O dX0_readWord_77 ?_
        refine j_bipush (pc := 78) (v := 6) O dX0_readWord_78 (by decide) ?_
        refine j_isub (pc := 80) O dX0_readWord_80 ?_
        exact jw_sub [0, 1] rfl (jf_X0_readWord_j81 O hd0 x1 (((100 : Int32) + x1) - (6 : Int32)) M4)
      · refine j_iconst (pc := 70) (v := 3) O dX0_readWord_70 (by decide) ?_
        refine j_goto (pc := 71) (tgt := 81) O dX0_readWord_71 (by decide) ?_
        exact jw_sub [0, 1] rfl (jf_X0_readWord_j81 O hd0 x1 (3 : Int32) M4)
def f_X0_readWord_j39 (M : Mm) : Option (Mm) :=
  bm (ms M 3 3 (1 : Int32)) fun M1 =>
  iter (fun s => f_X0_readWord_b46 s.1 s.2) fuel ((0 : Int32), M1)
set_option maxRecDepth 100000 in
set_option maxHeartbeats 4000000 in
theorem jf_X0_readWord_j39 {G : wn_G} {ad : Nat → Nat} {X : wn_X} {d : Nat} (O : Ok G RX0 cX0_readWord 2 d X) (hd0 : 7 ≤ d) (M : Mm) : JW G S1 ad X 39 [(0, .ref (ad 3))] [] M (f_X0_readWord_j39 M) (Krv G S1 ad X) := by
  unfold f_X0_readWord_j39
  refine j_aload_n (pc := 39) O 0 dX0_readWord_39 rfl ?_
  refine j_iconst (pc := 40) (v := 1) O dX0_readWord_40 (by decide) ?_
  refine j_puti (pc := 41) O 3 3 dX0_readWord_41 fl_X0_58 so_S1_3 ft_X0_3 rfl (fun M1 => ?_)
  refine j_iconst (pc := 44) (v := 0) O dX0_readWord_44 (by decide) ?_
  refine j_istore_n (pc := 45) (L' := [(1, .int (0 : Int32)), (0, .ref (ad 3))]) O dX0_readWord_45 (by decide) rfl ?_
  exact jw_iter (hd := h_X0_readWord_46 G ad X) (fun hh => pw_sub [1, 0] rfl hh) (fun s => jf_X0_readWord_b46 O hd0 s.1 s.2)
def f_X0_readWord_b2 (x1 : Int32) (M : Mm) : Option ((Int32 × Mm) ⊕ (Mm)) :=
  if (160 : Int32) ≤ x1 then
    ex (
    f_X0_readWord_j39 M)
  else
    bd (f_X0_byteAt (M.1 3 2) M) fun r11 M10 =>
    bd (f_X0_isLetter r11 M10) fun r13 M12 =>
    if r13 = 0 then
      ex (
      f_X0_readWord_j39 M12)
    else
      bm (ms M12 3 2 ((M12.1 3 2) + (1 : Int32))) fun M14 =>
      bi (x1 + (1 : Int32)) fun y15 =>
      some (.inl (y15, M14))
set_option maxRecDepth 100000 in
set_option maxHeartbeats 4000000 in
theorem jf_X0_readWord_b2 {G : wn_G} {ad : Nat → Nat} {X : wn_X} {d : Nat} (O : Ok G RX0 cX0_readWord 2 d X) (hd0 : 7 ≤ d) (x1 : Int32) (M : Mm) : JW G S1 ad X 2 [(0, .ref (ad 3)), (1, .int x1)] [] M (f_X0_readWord_b2 x1 M) (Kl (h_X0_readWord_2 G ad X) (Krv G S1 ad X)) := by
  unfold f_X0_readWord_b2
  refine j_iload_n (pc := 2) O 1 dX0_readWord_2 rfl ?_
  refine j_sipush (pc := 3) (v := 160) O dX0_readWord_3 (by decide) ?_
  refine j_icmp_ge (pc := 6) (tgt := 39) O dX0_readWord_6 (by decide) ?_ ?_
  · refine jw_ex ?_
    exact jw_sub [0] rfl (jf_X0_readWord_j39 O hd0 M)
  · refine j_aload_n (pc := 9) O 0 dX0_readWord_9 rfl ?_
    refine j_aload_n (pc := 10) O 0 dX0_readWord_10 rfl ?_
    refine j_getf (pc := 11) (v := .int (M.1 3 2)) O 3 2 dX0_readWord_11 fl_X0_39 so_S1_3 rfl rfl ?_
    refine j_callVi (pc := 14) (dc := 1) (As := [.int (M.1 3 2)]) (rest := []) O 3 (fun r M1 h => sp_X0_byteAt h) dX0_readWord_14 mv_X0_byteAt lm_X0_80 so_S1_3 rfl rfl (Nat.le_of_ble_eq_true rfl) (Nat.le_trans (Nat.le_of_ble_eq_true rfl) hd0) (fun r11 M10 => ?_)
    refine j_callSi (pc := 17) (dc := 1) (As := [.int r11]) (rest := []) O (fun r M1 h => sp_X0_isLetter h) dX0_readWord_17 mst_X0_isLetter lm_X0_83 rfl rfl (Nat.le_of_ble_eq_true rfl) (Nat.le_trans (Nat.le_of_ble_eq_true rfl) hd0) (fun r13 M12 => ?_)
    refine j_if_eq (pc := 20) (tgt := 39) O dX0_readWord_20 (by decide) ?_ ?_
    · refine jw_ex ?_
      exact jw_sub [0] rfl (jf_X0_readWord_j39 O hd0 M12)
    · refine j_aload_n (pc := 23) O 0 dX0_readWord_23 rfl ?_
      refine j_dup (pc := 24) O dX0_readWord_24 rfl ?_
      refine j_getf (pc := 25) (v := .int (M12.1 3 2)) O 3 2 dX0_readWord_25 fl_X0_39 so_S1_3 rfl rfl ?_
      refine j_iconst (pc := 28) (v := 1) O dX0_readWord_28 (by decide) ?_
      refine j_iadd (pc := 29) O dX0_readWord_29 ?_
      refine j_puti (pc := 30) O 3 2 dX0_readWord_30 fl_X0_39 so_S1_3 ft_X0_2 rfl (fun M14 => ?_)
      refine j_iinc (pc := 33) (v := 1) (L2 := fun y => [(1, .int y), (0, .ref (ad 3))]) O 1 dX0_readWord_33 rfl (by decide) (by decide) (fun _ => rfl) (fun y15 => ?_)
      refine j_goto (pc := 36) (tgt := 2) O dX0_readWord_36 (by decide) ?_
      exact jw_next (fun hh => pw_sub [1, 0] rfl hh)
def f_X0_readWord (M : Mm) : Option (Mm) :=
  iter (fun s => f_X0_readWord_b2 s.1 s.2) fuel ((0 : Int32), M)
set_option maxRecDepth 100000 in
set_option maxHeartbeats 4000000 in
theorem jf_X0_readWord {G : wn_G} {ad : Nat → Nat} {X : wn_X} {d : Nat} (O : Ok G RX0 cX0_readWord 2 d X) (hd0 : 7 ≤ d) (M : Mm) : JW G S1 ad X 0 [(0, .ref (ad 3))] [] M (f_X0_readWord M) (Krv G S1 ad X) := by
  unfold f_X0_readWord
  refine j_iconst (pc := 0) (v := 0) O dX0_readWord_0 (by decide) ?_
  refine j_istore_n (pc := 1) (L' := [(1, .int (0 : Int32)), (0, .ref (ad 3))]) O dX0_readWord_1 (by decide) rfl ?_
  exact jw_iter (hd := h_X0_readWord_2 G ad X) (fun hh => pw_sub [1, 0] rfl hh) (fun s => jf_X0_readWord_b2 O hd0 s.1 s.2)
theorem sp_X0_readWord {G : wn_G} {ad : Nat → Nat} {M M1 : Mm} (h : f_X0_readWord M = some M1) : Sp G S1 ad mX0_readWord 7 [.ref (ad 3)] M M1 none :=
  sp_intro (own := RX0) (by decide +kernel) rfl (Nat.le_of_ble_eq_true rfl) (fun X O T => jf_X0_readWord O (Nat.le_refl _) M M1 h T)
def h_X0_step_2 (G : wn_G) (ad : Nat → Nat) (X : wn_X) : Int32 × Mm → Prop := fun s => PW G S1 ad X 2 [(0, .ref (ad 3)), (1, .int s.1)] [] s.2
def f_X0_step_j122 (s0 : Int32) (M : Mm) : Option (Mm) :=
  bm (ms M 3 3 s0) fun M10 =>
  bm (ms M10 3 2 ((M10.1 3 2) + (1 : Int32))) fun M11 =>
  some M11
set_option maxRecDepth 100000 in
set_option maxHeartbeats 4000000 in
theorem jf_X0_step_j122 {G : wn_G} {ad : Nat → Nat} {X : wn_X} {d : Nat} (O : Ok G RX0 cX0_step 2 d X) (hd0 : 8 ≤ d) (s0 : Int32) (M : Mm) : JW G S1 ad X 122 [(0, .ref (ad 3))] [.int s0, .ref (ad 3)] M (f_X0_step_j122 s0 M) (Krv G S1 ad X) := by
  unfold f_X0_step_j122
  refine j_puti (pc := 122) O 3 3 dX0_step_122 fl_X0_58 so_S1_3 ft_X0_3 rfl (fun M10 => ?_)
  refine j_aload_n (pc := 125) O 0 dX0_step_125 rfl ?_
  refine j_dup (pc := 126) O dX0_step_126 rfl ?_
  refine j_getf (pc := 127) (v := .int (M10.1 3 2)) O 3 2 dX0_step_127 fl_X0_39 so_S1_3 rfl rfl ?_
  refine j_iconst (pc := 130) (v := 1) O dX0_step_130 (by decide) ?_
  refine j_iadd (pc := 131) O dX0_step_131 ?_
  refine j_puti (pc := 132) O 3 2 dX0_step_132 fl_X0_39 so_S1_3 ft_X0_2 rfl (fun M11 => ?_)
  exact j_vret (pc := 135) O dX0_step_135
def f_X0_step_j51 (M : Mm) : Option (Mm) :=
  bm (ms M 3 4 (M.1 3 2)) fun M1 =>
  bd (f_X0_byteAt (M1.1 3 2) M1) fun r3 M2 =>
  if r3 = (-1 : Int32) then
    bm (ms M2 3 3 (0 : Int32)) fun M14 =>
    some M14
  else
    bd (f_X0_isLetter r3 M2) fun r5 M4 =>
    if r5 = 0 then
      bd (f_X0_isDigit r3 M4) fun r7 M6 =>
      if r7 = 0 then
        bd (f_X0_isSign r3 M6) fun r9 M8 =>
        if r9 = 0 then
          f_X0_step_j122 (1 : Int32) M8
        else
          f_X0_step_j122 r3 M8
      else
        bv (f_X0_readNumber M6) fun M12 =>
        some M12
    else
      bv (f_X0_readWord M4) fun M13 =>
      some M13
set_option maxRecDepth 100000 in
set_option maxHeartbeats 4000000 in
theorem jf_X0_step_j51 {G : wn_G} {ad : Nat → Nat} {X : wn_X} {d : Nat} (O : Ok G RX0 cX0_step 2 d X) (hd0 : 8 ≤ d) (M : Mm) : JW G S1 ad X 51 [(0, .ref (ad 3))] [] M (f_X0_step_j51 M) (Krv G S1 ad X) := by
  unfold f_X0_step_j51
  refine j_aload_n (pc := 51) O 0 dX0_step_51 rfl ?_
  refine j_aload_n (pc := 52) O 0 dX0_step_52 rfl ?_
  refine j_getf (pc := 53) (v := .int (M.1 3 2)) O 3 2 dX0_step_53 fl_X0_39 so_S1_3 rfl rfl ?_
  refine j_puti (pc := 56) O 3 4 dX0_step_56 fl_X0_64 so_S1_3 ft_X0_4 rfl (fun M1 => ?_)
  refine j_aload_n (pc := 59) O 0 dX0_step_59 rfl ?_
  refine j_aload_n (pc := 60) O 0 dX0_step_60 rfl ?_
  refine j_getf (pc := 61) (v := .int (M1.1 3 2)) O 3 2 dX0_step_61 fl_X0_39 so_S1_3 rfl rfl ?_
  refine j_callVi (pc := 64) (dc := 1) (As := [.int (M1.1 3 2)]) (rest := []) O 3 (fun r M1 h => sp_X0_byteAt h) dX0_step_64 mv_X0_byteAt lm_X0_80 so_S1_3 rfl rfl (Nat.le_of_ble_eq_true rfl) (Nat.le_trans (Nat.le_of_ble_eq_true rfl) hd0) (fun r3 M2 => ?_)
  refine j_istore_n (pc := 67) (L' := [(1, .int r3), (0, .ref (ad 3))]) O dX0_step_67 (by decide) rfl ?_
  refine j_iload_n (pc := 68) O 0 dX0_step_68 rfl ?_
  refine j_iconst (pc := 69) (v := -1) O dX0_step_69 (by decide) ?_
  refine j_icmp_ne (pc := 70) (tgt := 81) O dX0_step_70 (by decide) ?_ ?_
  · refine j_aload_n (pc := 73) O 1 dX0_step_73 rfl ?_
    refine j_iconst (pc := 74) (v := 0) O dX0_step_74 (by decide) ?_
    refine j_puti (pc := 75) O 3 3 dX0_step_75 fl_X0_58 so_S1_3 ft_X0_3 rfl (fun M14 => ?_)
    refine j_goto (pc := 78) (tgt := 135) O dX0_step_78 (by decide) ?_
    exact j_vret (pc := 135) O dX0_step_135
  · refine j_iload_n (pc := 81) O 0 dX0_step_81 rfl ?_
    refine j_callSi (pc := 82) (dc := 1) (As := [.int r3]) (rest := []) O (fun r M1 h => sp_X0_isLetter h) dX0_step_82 mst_X0_isLetter lm_X0_83 rfl rfl (Nat.le_of_ble_eq_true rfl) (Nat.le_trans (Nat.le_of_ble_eq_true rfl) hd0) (fun r5 M4 => ?_)
    refine j_if_eq (pc := 85) (tgt := 95) O dX0_step_85 (by decide) ?_ ?_
    · refine j_iload_n (pc := 95) O 0 dX0_step_95 rfl ?_
      refine j_callSi (pc := 96) (dc := 1) (As := [.int r3]) (rest := []) O (fun r M1 h => sp_X0_isDigit h) dX0_step_96 mst_X0_isDigit lm_X0_89 rfl rfl (Nat.le_of_ble_eq_true rfl) (Nat.le_trans (Nat.le_of_ble_eq_true rfl) hd0) (fun r7 M6 => ?_)
      refine j_if_eq (pc := 99) (tgt := 109) O dX0_step_99 (by decide) ?_ ?_
      · refine j_aload_n (pc := 109) O 1 dX0_step_109 rfl ?_
        refine j_iload_n (pc := 110) O 0 dX0_step_110 rfl ?_
        refine j_callSi (pc := 111) (dc := 1) (As := [.int r3]) (rest := [.ref (ad 3)]) O (fun r M1 h => sp_X0_isSign h) dX0_step_111 mst_X0_isSign lm_X0_95 rfl rfl (Nat.le_of_ble_eq_true rfl) (Nat.le_trans (Nat.le_of_ble_eq_true rfl) hd0) (fun r9 M8 => ?_)
        refine j_if_eq (pc := 114) (tgt := 121) O dX0_step_114 (by decide) ?_ ?_
        · refine j_iconst (pc := 121) (v := 1) O dX0_step_121 (by decide) ?_
          exact jw_sub [1] rfl (jf_X0_step_j122 O hd0 (1 : Int32) M8)
        · refine j_iload_n (pc := 117) O 0 dX0_step_117 rfl ?_
          refine j_goto (pc := 118) (tgt := 122) O dX0_step_118 (by decide) ?_
          exact jw_sub [1] rfl (jf_X0_step_j122 O hd0 r3 M8)
      · refine j_aload_n (pc := 102) O 1 dX0_step_102 rfl ?_
        refine j_callVv (pc := 103) (dc := 2) (As := []) (rest := []) O 3 (fun M1 h => sp_X0_readNumber h) dX0_step_103 mv_X0_readNumber lm_X0_92 so_S1_3 rfl rfl (Nat.le_of_ble_eq_true rfl) (Nat.le_trans (Nat.le_of_ble_eq_true rfl) hd0) (fun M12 => ?_)
        refine j_goto (pc := 106) (tgt := 135) O dX0_step_106 (by decide) ?_
        exact j_vret (pc := 135) O dX0_step_135
    · refine j_aload_n (pc := 88) O 1 dX0_step_88 rfl ?_
      refine j_callVv (pc := 89) (dc := 7) (As := []) (rest := []) O 3 (fun M1 h => sp_X0_readWord h) dX0_step_89 mv_X0_readWord lm_X0_86 so_S1_3 rfl rfl (Nat.le_of_ble_eq_true rfl) (Nat.le_trans (Nat.le_of_ble_eq_true rfl) hd0) (fun M13 => ?_)
      refine j_goto (pc := 92) (tgt := 135) O dX0_step_92 (by decide) ?_
      exact j_vret (pc := 135) O dX0_step_135
def f_X0_step_j35 (x1 : Int32) (M : Mm) : Option ((Int32 × Mm) ⊕ (Mm)) :=
  bm (ms M 3 2 ((M.1 3 2) + (1 : Int32))) fun M17 =>
  bi (x1 + (1 : Int32)) fun y18 =>
  some (.inl (y18, M17))
set_option maxRecDepth 100000 in
set_option maxHeartbeats 4000000 in
theorem jf_X0_step_j35 {G : wn_G} {ad : Nat → Nat} {X : wn_X} {d : Nat} (O : Ok G RX0 cX0_step 2 d X) (hd0 : 8 ≤ d) (x1 : Int32) (M : Mm) : JW G S1 ad X 35 [(0, .ref (ad 3)), (1, .int x1)] [] M (f_X0_step_j35 x1 M) (Kl (h_X0_step_2 G ad X) (Krv G S1 ad X)) := by
  unfold f_X0_step_j35
  refine j_aload_n (pc := 35) O 0 dX0_step_35 rfl ?_
  refine j_dup (pc := 36) O dX0_step_36 rfl ?_
  refine j_getf (pc := 37) (v := .int (M.1 3 2)) O 3 2 dX0_step_37 fl_X0_39 so_S1_3 rfl rfl ?_
  refine j_iconst (pc := 40) (v := 1) O dX0_step_40 (by decide) ?_
  refine j_iadd (pc := 41) O dX0_step_41 ?_
  refine j_puti (pc := 42) O 3 2 dX0_step_42 fl_X0_39 so_S1_3 ft_X0_2 rfl (fun M17 => ?_)
  refine j_iinc (pc := 45) (v := 1) (L2 := fun y => [(1, .int y), (0, .ref (ad 3))]) O 1 dX0_step_45 rfl (by decide) (by decide) (fun _ => rfl) (fun y18 => ?_)
  refine j_goto (pc := 48) (tgt := 2) O dX0_step_48 (by decide) ?_
  exact jw_next (fun hh => pw_sub [1, 0] rfl hh)
def f_X0_step_b2 (x1 : Int32) (M : Mm) : Option ((Int32 × Mm) ⊕ (Mm)) :=
  if (160 : Int32) ≤ x1 then
    ex (
    f_X0_step_j51 M)
  else
    bd (f_X0_byteAt (M.1 3 2) M) fun r16 M15 =>
    if r16 = (32 : Int32) then
      f_X0_step_j35 x1 M15
    else
      bd (f_X0_byteAt (M15.1 3 2) M15) fun r20 M19 =>
      if r20 = (10 : Int32) then
        f_X0_step_j35 x1 M19
      else
        ex (
        f_X0_step_j51 M19)
set_option maxRecDepth 100000 in
set_option maxHeartbeats 4000000 in
theorem jf_X0_step_b2 {G : wn_G} {ad : Nat → Nat} {X : wn_X} {d : Nat} (O : Ok G RX0 cX0_step 2 d X) (hd0 : 8 ≤ d) (x1 : Int32) (M : Mm) : JW G S1 ad X 2 [(0, .ref (ad 3)), (1, .int x1)] [] M (f_X0_step_b2 x1 M) (Kl (h_X0_step_2 G ad X) (Krv G S1 ad X)) := by
  unfold f_X0_step_b2
  refine j_iload_n (pc := 2) O 1 dX0_step_2 rfl ?_
  refine j_sipush (pc := 3) (v := 160) O dX0_step_3 (by decide) ?_
  refine j_icmp_ge (pc := 6) (tgt := 51) O dX0_step_6 (by decide) ?_ ?_
  · refine jw_ex ?_
    exact jw_sub [0] rfl (jf_X0_step_j51 O hd0 M)
  · refine j_aload_n (pc := 9) O 0 dX0_step_9 rfl ?_
    refine j_aload_n (pc := 10) O 0 dX0_step_10 rfl ?_
    refine j_getf (pc := 11) (v := .int (M.1 3 2)) O 3 2 dX0_step_11 fl_X0_39 so_S1_3 rfl rfl ?_
    refine j_callVi (pc := 14) (dc := 1) (As := [.int (M.1 3 2)]) (rest := []) O 3 (fun r M1 h => sp_X0_byteAt h) dX0_step_14 mv_X0_byteAt lm_X0_80 so_S1_3 rfl rfl (Nat.le_of_ble_eq_true rfl) (Nat.le_trans (Nat.le_of_ble_eq_true rfl) hd0) (fun r16 M15 => ?_)
    refine j_bipush (pc := 17) (v := 32) O dX0_step_17 (by decide) ?_
    refine j_icmp_eq (pc := 19) (tgt := 35) O dX0_step_19 (by decide) ?_ ?_
    · exact jw_sub [0, 1] rfl (jf_X0_step_j35 O hd0 x1 M15)
    · refine j_aload_n (pc := 22) O 0 dX0_step_22 rfl ?_
      refine j_aload_n (pc := 23) O 0 dX0_step_23 rfl ?_
      refine j_getf (pc := 24) (v := .int (M15.1 3 2)) O 3 2 dX0_step_24 fl_X0_39 so_S1_3 rfl rfl ?_
      refine j_callVi (pc := 27) (dc := 1) (As := [.int (M15.1 3 2)]) (rest := []) O 3 (fun r M1 h => sp_X0_byteAt h) dX0_step_27 mv_X0_byteAt lm_X0_80 so_S1_3 rfl rfl (Nat.le_of_ble_eq_true rfl) (Nat.le_trans (Nat.le_of_ble_eq_true rfl) hd0) (fun r20 M19 => ?_)
      refine j_bipush (pc := 30) (v := 10) O dX0_step_30 (by decide) ?_
      refine j_icmp_ne (pc := 32) (tgt := 51) O dX0_step_32 (by decide) ?_ ?_
      · exact jw_sub [0, 1] rfl (jf_X0_step_j35 O hd0 x1 M19)
      · refine jw_ex ?_
        exact jw_sub [0] rfl (jf_X0_step_j51 O hd0 M19)
def f_X0_step (M : Mm) : Option (Mm) :=
  iter (fun s => f_X0_step_b2 s.1 s.2) fuel ((0 : Int32), M)
set_option maxRecDepth 100000 in
set_option maxHeartbeats 4000000 in
theorem jf_X0_step {G : wn_G} {ad : Nat → Nat} {X : wn_X} {d : Nat} (O : Ok G RX0 cX0_step 2 d X) (hd0 : 8 ≤ d) (M : Mm) : JW G S1 ad X 0 [(0, .ref (ad 3))] [] M (f_X0_step M) (Krv G S1 ad X) := by
  unfold f_X0_step
  refine j_iconst (pc := 0) (v := 0) O dX0_step_0 (by decide) ?_
  refine j_istore_n (pc := 1) (L' := [(1, .int (0 : Int32)), (0, .ref (ad 3))]) O dX0_step_1 (by decide) rfl ?_
  exact jw_iter (hd := h_X0_step_2 G ad X) (fun hh => pw_sub [1, 0] rfl hh) (fun s => jf_X0_step_b2 O hd0 s.1 s.2)
theorem sp_X0_step {G : wn_G} {ad : Nat → Nat} {M M1 : Mm} (h : f_X0_step M = some M1) : Sp G S1 ad mX0_step 8 [.ref (ad 3)] M M1 none :=
  sp_intro (own := RX0) (by decide +kernel) rfl (Nat.le_of_ble_eq_true rfl) (fun X O T => jf_X0_step O (Nat.le_refl _) M M1 h T)
def f_X0_breakOff_j16 (M : Mm) : Option (Mm) :=
  bm (ms M 3 3 (1 : Int32)) fun M1 =>
  some M1
set_option maxRecDepth 100000 in
set_option maxHeartbeats 4000000 in
theorem jf_X0_breakOff_j16 {G : wn_G} {ad : Nat → Nat} {X : wn_X} {d : Nat} (O : Ok G RX0 cX0_breakOff 1 d X) (hd0 : 1 ≤ d) (M : Mm) : JW G S1 ad X 16 [(0, .ref (ad 3))] [] M (f_X0_breakOff_j16 M) (Krv G S1 ad X) := by
  unfold f_X0_breakOff_j16
  refine j_aload_n (pc := 16) O 0 dX0_breakOff_16 rfl ?_
  refine j_iconst (pc := 17) (v := 1) O dX0_breakOff_17 (by decide) ?_
  refine j_puti (pc := 18) O 3 3 dX0_breakOff_18 fl_X0_58 so_S1_3 ft_X0_3 rfl (fun M1 => ?_)
  exact j_vret (pc := 21) O dX0_breakOff_21
def f_X0_breakOff (M : Mm) : Option (Mm) :=
  if (M.1 3 6) = (-1 : Int32) then
    bm (ms M 3 6 (M.1 3 4)) fun M2 =>
    f_X0_breakOff_j16 M2
  else
    f_X0_breakOff_j16 M
set_option maxRecDepth 100000 in
set_option maxHeartbeats 4000000 in
theorem jf_X0_breakOff {G : wn_G} {ad : Nat → Nat} {X : wn_X} {d : Nat} (O : Ok G RX0 cX0_breakOff 1 d X) (hd0 : 1 ≤ d) (M : Mm) : JW G S1 ad X 0 [(0, .ref (ad 3))] [] M (f_X0_breakOff M) (Krv G S1 ad X) := by
  unfold f_X0_breakOff
  refine j_aload_n (pc := 0) O 0 dX0_breakOff_0 rfl ?_
  refine j_getf (pc := 1) (v := .int (M.1 3 6)) O 3 6 dX0_breakOff_1 fl_X0_44 so_S1_3 rfl rfl ?_
  refine j_iconst (pc := 4) (v := -1) O dX0_breakOff_4 (by decide) ?_
  refine j_icmp_ne (pc := 5) (tgt := 16) O dX0_breakOff_5 (by decide) ?_ ?_
  · refine j_aload_n (pc := 8) O 0 dX0_breakOff_8 rfl ?_
    refine j_aload_n (pc := 9) O 0 dX0_breakOff_9 rfl ?_
    refine j_getf (pc := 10) (v := .int (M.1 3 4)) O 3 4 dX0_breakOff_10 fl_X0_64 so_S1_3 rfl rfl ?_
    refine j_puti (pc := 13) O 3 6 dX0_breakOff_13 fl_X0_44 so_S1_3 ft_X0_6 rfl (fun M2 => ?_)
    exact jw_sub [0] rfl (jf_X0_breakOff_j16 O hd0 M2)
  · exact jw_sub [0] rfl (jf_X0_breakOff_j16 O hd0 M)
theorem sp_X0_breakOff {G : wn_G} {ad : Nat → Nat} {M M1 : Mm} (h : f_X0_breakOff M = some M1) : Sp G S1 ad mX0_breakOff 1 [.ref (ad 3)] M M1 none :=
  sp_intro (own := RX0) (by decide +kernel) rfl (Nat.le_of_ble_eq_true rfl) (fun X O T => jf_X0_breakOff O (Nat.le_refl _) M M1 h T)
def f_X0_demand (x1 : Int32) (M : Mm) : Option (Mm) :=
  if (M.1 3 3) = x1 then
    bv (f_X0_step M) fun M2 =>
    some M2
  else
    bv (f_X0_breakOff M) fun M1 =>
    some M1
set_option maxRecDepth 100000 in
set_option maxHeartbeats 4000000 in
theorem jf_X0_demand {G : wn_G} {ad : Nat → Nat} {X : wn_X} {d : Nat} (O : Ok G RX0 cX0_demand 2 d X) (hd0 : 9 ≤ d) (x1 : Int32) (M : Mm) : JW G S1 ad X 0 [(0, .ref (ad 3)), (1, .int x1)] [] M (f_X0_demand x1 M) (Krv G S1 ad X) := by
  unfold f_X0_demand
  refine j_aload_n (pc := 0) O 0 dX0_demand_0 rfl ?_
  refine j_getf (pc := 1) (v := .int (M.1 3 3)) O 3 3 dX0_demand_1 fl_X0_58 so_S1_3 rfl rfl ?_
  refine j_iload_n (pc := 4) O 1 dX0_demand_4 rfl ?_
  refine j_icmp_ne (pc := 5) (tgt := 15) O dX0_demand_5 (by decide) ?_ ?_
  · refine j_aload_n (pc := 8) O 0 dX0_demand_8 rfl ?_
    refine j_callVv (pc := 9) (dc := 8) (As := []) (rest := []) O 3 (fun M1 h => sp_X0_step h) dX0_demand_9 mv_X0_step lm_X0_47 so_S1_3 rfl rfl (Nat.le_of_ble_eq_true rfl) (Nat.le_trans (Nat.le_of_ble_eq_true rfl) hd0) (fun M2 => ?_)
    refine j_goto (pc := 12) (tgt := 19) O dX0_demand_12 (by decide) ?_
    exact j_vret (pc := 19) O dX0_demand_19
  · refine j_aload_n (pc := 15) O 0 dX0_demand_15 rfl ?_
    refine j_callVv (pc := 16) (dc := 1) (As := []) (rest := []) O 3 (fun M1 h => sp_X0_breakOff h) dX0_demand_16 mv_X0_breakOff lm_X0_61 so_S1_3 rfl rfl (Nat.le_of_ble_eq_true rfl) (Nat.le_trans (Nat.le_of_ble_eq_true rfl) hd0) (fun M1 => ?_)
    exact j_vret (pc := 19) O dX0_demand_19
theorem sp_X0_demand {G : wn_G} {ad : Nat → Nat} {x1 : Int32} {M M1 : Mm} (h : f_X0_demand x1 M = some M1) : Sp G S1 ad mX0_demand 9 [.ref (ad 3), .int x1] M M1 none :=
  sp_intro (own := RX0) (by decide +kernel) rfl (Nat.le_of_ble_eq_true rfl) (fun X O T => jf_X0_demand O (Nat.le_refl _) x1 M M1 h T)
def f_X0_levelOf (x0 : Int32) (M : Mm) : Option (Int32 × Mm) :=
  bi x0 fun y1 => swc y1 [
((42 : Int32),
    some ((4 : Int32), M)),
((43 : Int32),
    some ((3 : Int32), M)),
((45 : Int32),
    some ((3 : Int32), M)),
((60 : Int32),
    some ((2 : Int32), M)),
((61 : Int32),
    some ((2 : Int32), M)),
((103 : Int32),
    some ((0 : Int32), M)),
((104 : Int32),
    some ((1 : Int32), M))] (
    some ((-1 : Int32), M))
set_option maxRecDepth 100000 in
set_option maxHeartbeats 4000000 in
theorem jf_X0_levelOf {G : wn_G} {ad : Nat → Nat} {X : wn_X} {d : Nat} (O : Ok G RX0 cX0_levelOf 1 d X) (hd0 : 1 ≤ d) (x0 : Int32) (M : Mm) : JW G S1 ad X 0 [(0, .int x0)] [] M (f_X0_levelOf x0 M) (Kri G S1 ad X) := by
  unfold f_X0_levelOf
  refine j_iload_n (pc := 0) O 0 dX0_levelOf_0 rfl ?_
  refine jw_bi fun y1 => ?_
  refine jw_swc (fun hc => ?_) (fun n0 => ?_)
  · subst hc
    refine j_lsw (pc := 1) (tgt := 76) (off := 75) O dX0_levelOf_1 (by decide) rfl (by decide) ?_
    refine j_iconst (pc := 76) (v := 4) O dX0_levelOf_76 (by decide) ?_
    exact j_iret (pc := 77) O dX0_levelOf_77
  refine jw_swc (fun hc => ?_) (fun n1 => ?_)
  · subst hc
    refine j_lsw (pc := 1) (tgt := 74) (off := 73) O dX0_levelOf_1 (by decide) rfl (by decide) ?_
    refine j_iconst (pc := 74) (v := 3) O dX0_levelOf_74 (by decide) ?_
    exact j_iret (pc := 75) O dX0_levelOf_75
  refine jw_swc (fun hc => ?_) (fun n2 => ?_)
  · subst hc
    refine j_lsw (pc := 1) (tgt := 74) (off := 73) O dX0_levelOf_1 (by decide) rfl (by decide) ?_
    refine j_iconst (pc := 74) (v := 3) O dX0_levelOf_74 (by decide) ?_
    exact j_iret (pc := 75) O dX0_levelOf_75
  refine jw_swc (fun hc => ?_) (fun n3 => ?_)
  · subst hc
    refine j_lsw (pc := 1) (tgt := 72) (off := 71) O dX0_levelOf_1 (by decide) rfl (by decide) ?_
    refine j_iconst (pc := 72) (v := 2) O dX0_levelOf_72 (by decide) ?_
    exact j_iret (pc := 73) O dX0_levelOf_73
  refine jw_swc (fun hc => ?_) (fun n4 => ?_)
  · subst hc
    refine j_lsw (pc := 1) (tgt := 72) (off := 71) O dX0_levelOf_1 (by decide) rfl (by decide) ?_
    refine j_iconst (pc := 72) (v := 2) O dX0_levelOf_72 (by decide) ?_
    exact j_iret (pc := 73) O dX0_levelOf_73
  refine jw_swc (fun hc => ?_) (fun n5 => ?_)
  · subst hc
    refine j_lsw (pc := 1) (tgt := 68) (off := 67) O dX0_levelOf_1 (by decide) rfl (by decide) ?_
    refine j_iconst (pc := 68) (v := 0) O dX0_levelOf_68 (by decide) ?_
    exact j_iret (pc := 69) O dX0_levelOf_69
  refine jw_swc (fun hc => ?_) (fun n6 => ?_)
  · subst hc
    refine j_lsw (pc := 1) (tgt := 70) (off := 69) O dX0_levelOf_1 (by decide) rfl (by decide) ?_
    refine j_iconst (pc := 70) (v := 1) O dX0_levelOf_70 (by decide) ?_
    exact j_iret (pc := 71) O dX0_levelOf_71
  refine jw_swd ?_
  refine j_lsw (pc := 1) (tgt := 78) (off := 77) O dX0_levelOf_1 (by decide) ((lv_osw n0 (by decide)).trans ((lv_osw n1 (by decide)).trans ((lv_osw n2 (by decide)).trans ((lv_osw n3 (by decide)).trans ((lv_osw n4 (by decide)).trans ((lv_osw n5 (by decide)).trans ((lv_osw n6 (by decide)).trans (rfl)))))))) (by decide) ?_
  refine j_iconst (pc := 78) (v := -1) O dX0_levelOf_78 (by decide) ?_
  exact j_iret (pc := 79) O dX0_levelOf_79
theorem sp_X0_levelOf {G : wn_G} {ad : Nat → Nat} {x0 : Int32} {M : Mm} {r : Int32} {M1 : Mm} (h : f_X0_levelOf x0 M = some (r, M1)) : Sp G S1 ad mX0_levelOf 1 [.int x0] M M1 (some (.int r)) :=
  sp_intro (own := RX0) (by decide +kernel) rfl (Nat.le_of_ble_eq_true rfl) (fun X O T => jf_X0_levelOf O (Nat.le_refl _) x0 M (r, M1) h T)
def f_X0_put (x1 : Int32) (M : Mm) : Option (Mm) :=
  if (M.1 3 8) < 0 then
    some M
  else
    if (160 : Int32) ≤ (M.1 3 8) then
      some M
    else
      gd (bin (M.1 3 8) 160 = true) inferInstance <| bm (ms M 16 (Int32.toNatClampNeg (M.1 3 8)) x1) fun M1 =>
      bm (ms M1 3 8 ((M1.1 3 8) + (1 : Int32))) fun M2 =>
      some M2
set_option maxRecDepth 100000 in
set_option maxHeartbeats 4000000 in
theorem jf_X0_put {G : wn_G} {ad : Nat → Nat} {X : wn_X} {d : Nat} (O : Ok G RX0 cX0_put 2 d X) (hd0 : 1 ≤ d) (x1 : Int32) (M : Mm) : JW G S1 ad X 0 [(0, .ref (ad 3)), (1, .int x1)] [] M (f_X0_put x1 M) (Krv G S1 ad X) := by
  unfold f_X0_put
  refine j_aload_n (pc := 0) O 0 dX0_put_0 rfl ?_
  refine j_getf (pc := 1) (v := .int (M.1 3 8)) O 3 8 dX0_put_1 fl_X0_42 so_S1_3 rfl rfl ?_
  refine j_if_lt (pc := 4) (tgt := 37) O dX0_put_4 (by decide) ?_ ?_
  · exact j_vret (pc := 37) O dX0_put_37
  · refine j_aload_n (pc := 7) O 0 dX0_put_7 rfl ?_
    refine j_getf (pc := 8) (v := .int (M.1 3 8)) O 3 8 dX0_put_8 fl_X0_42 so_S1_3 rfl rfl ?_
    refine j_sipush (pc := 11) (v := 160) O dX0_put_11 (by decide) ?_
    refine j_icmp_ge (pc := 14) (tgt := 37) O dX0_put_14 (by decide) ?_ ?_
    · exact j_vret (pc := 37) O dX0_put_37
    · refine j_aload_n (pc := 17) O 0 dX0_put_17 rfl ?_
      refine j_getf (pc := 18) (v := .ref (ad 16)) O 3 7 dX0_put_18 fl_X0_15 so_S1_3 rfl rfl ?_
      refine j_aload_n (pc := 21) O 0 dX0_put_21 rfl ?_
      refine j_getf (pc := 22) (v := .int (M.1 3 8)) O 3 8 dX0_put_22 fl_X0_42 so_S1_3 rfl rfl ?_
      refine j_iload_n (pc := 25) O 1 dX0_put_25 rfl ?_
      refine j_iast (pc := 26) O 16 dX0_put_26 so_S1_16 (fun M1 => ?_)
      refine j_aload_n (pc := 27) O 0 dX0_put_27 rfl ?_
      refine j_dup (pc := 28) O dX0_put_28 rfl ?_
      refine j_getf (pc := 29) (v := .int (M1.1 3 8)) O 3 8 dX0_put_29 fl_X0_42 so_S1_3 rfl rfl ?_
      refine j_iconst (pc := 32) (v := 1) O dX0_put_32 (by decide) ?_
      refine j_iadd (pc := 33) O dX0_put_33 ?_
      refine j_puti (pc := 34) O 3 8 dX0_put_34 fl_X0_42 so_S1_3 ft_X0_8 rfl (fun M2 => ?_)
      exact j_vret (pc := 37) O dX0_put_37
theorem sp_X0_put {G : wn_G} {ad : Nat → Nat} {x1 : Int32} {M M1 : Mm} (h : f_X0_put x1 M = some M1) : Sp G S1 ad mX0_put 1 [.ref (ad 3), .int x1] M M1 none :=
  sp_intro (own := RX0) (by decide +kernel) rfl (Nat.le_of_ble_eq_true rfl) (fun X O T => jf_X0_put O (Nat.le_refl _) x1 M M1 h T)
def h_X0_reckon_79 (G : wn_G) (ad : Nat → Nat) (X : wn_X) (x1 : Int32) (x2 : Int32) (x3 : Int32) : Int32 × Mm → Prop := fun s => PW G S1 ad X 79 [(0, .ref (ad 3)), (1, .int x1), (2, .int x2), (3, .int x3), (4, .int s.1)] [] s.2
def f_X0_reckon_b79 (g_X0_reckon : Int32 → Int32 → Mm → Option (Mm)) (g_X0_one : Int32 → Mm → Option (Mm)) (x1 : Int32) (x2 : Int32) (x3 : Int32) (x4 : Int32) (M : Mm) : Option ((Int32 × Mm) ⊕ (Mm)) :=
  if x3 ≤ x4 then
    ex (
    some M)
  else
    bd (f_X0_levelOf (M.1 3 3) M) fun r3 M2 =>
    if r3 = x1 then
      bi (M2.1 3 3) fun y4 =>
      bv (f_X0_step M2) fun M5 =>
      bv (g_X0_reckon (x1 + (1 : Int32)) x2 M5) fun M6 =>
      bv (f_X0_put ((20000 : Int32) + y4) M6) fun M7 =>
      bi (x4 + (1 : Int32)) fun y8 =>
      some (.inl (y8, M7))
    else
      ex (
      some M2)
set_option maxRecDepth 100000 in
set_option maxHeartbeats 4000000 in
theorem jf_X0_reckon_b79 {G : wn_G} {ad : Nat → Nat} {X : wn_X} {d : Nat} (O : Ok G RX0 cX0_reckon 6 d X) (hd0 : 9 ≤ d) (g_X0_reckon : Int32 → Int32 → Mm → Option (Mm)) (g_X0_one : Int32 → Mm → Option (Mm)) {dg : Nat} (hdg : dg + 1 ≤ d) (hg_X0_reckon : ∀ (x1 : Int32) (x2 : Int32) (M M1 : Mm), g_X0_reckon x1 x2 M = some M1 → Sp G S1 ad mX0_reckon dg [.ref (ad 3), .int x1, .int x2] M M1 none) (hg_X0_one : ∀ (x1 : Int32) (M M1 : Mm), g_X0_one x1 M = some M1 → Sp G S1 ad mX0_one dg [.ref (ad 3), .int x1] M M1 none) (x1 : Int32) (x2 : Int32) (x3 : Int32) (x4 : Int32) (M : Mm) : JW G S1 ad X 79 [(0, .ref (ad 3)), (1, .int x1), (2, .int x2), (3, .int x3), (4, .int x4)] [] M (f_X0_reckon_b79 g_X0_reckon g_X0_one x1 x2 x3 x4 M) (Kl (h_X0_reckon_79 G ad X x1 x2 x3) (Krv G S1 ad X)) := by
  unfold f_X0_reckon_b79
  refine j_iload (pc := 79) O 4 dX0_reckon_79 rfl ?_
  refine j_iload_n (pc := 81) O 3 dX0_reckon_81 rfl ?_
  refine j_icmp_ge (pc := 82) (tgt := 130) O dX0_reckon_82 (by decide) ?_ ?_
  · refine jw_ex ?_
    exact j_vret (pc := 130) O dX0_reckon_130
  · refine j_aload_n (pc := 85) O 0 dX0_reckon_85 rfl ?_
    refine j_getf (pc := 86) (v := .int (M.1 3 3)) O 3 3 dX0_reckon_86 fl_X0_58 so_S1_3 rfl rfl ?_
    refine j_callSi (pc := 89) (dc := 1) (As := [.int (M.1 3 3)]) (rest := []) O (fun r M1 h => sp_X0_levelOf h) dX0_reckon_89 mst_X0_levelOf lm_X0_73 rfl rfl (Nat.le_of_ble_eq_true rfl) (Nat.le_trans (Nat.le_of_ble_eq_true rfl) hd0) (fun r3 M2 => ?_)
    refine j_iload_n (pc := 92) O 1 dX0_reckon_92 rfl ?_
    refine j_icmp_ne (pc := 93) (tgt := 130) O dX0_reckon_93 (by decide) ?_ ?_
    · refine j_aload_n (pc := 96) O 0 dX0_reckon_96 rfl ?_
      refine j_getf (pc := 97) (v := .int (M2.1 3 3)) O 3 3 dX0_reckon_97 fl_X0_58 so_S1_3 rfl rfl ?_
      refine jw_bi fun y4 => ?_
      refine j_istore (pc := 100) (L' := [(5, .int y4), (0, .ref (ad 3)), (1, .int x1), (2, .int x2), (3, .int x3), (4, .int x4)]) O dX0_reckon_100 (by decide) rfl ?_
      refine j_aload_n (pc := 102) O 1 dX0_reckon_102 rfl ?_
      refine j_callVv (pc := 103) (dc := 8) (As := []) (rest := []) O 3 (fun M1 h => sp_X0_step h) dX0_reckon_103 mv_X0_step lm_X0_47 so_S1_3 rfl rfl (Nat.le_of_ble_eq_true rfl) (Nat.le_trans (Nat.le_of_ble_eq_true rfl) hd0) (fun M5 => ?_)
      refine j_aload_n (pc := 106) O 1 dX0_reckon_106 rfl ?_
      refine j_iload_n (pc := 107) O 2 dX0_reckon_107 rfl ?_
      refine j_iconst (pc := 108) (v := 1) O dX0_reckon_108 (by decide) ?_
      refine j_iadd (pc := 109) O dX0_reckon_109 ?_
      refine j_iload_n (pc := 110) O 3 dX0_reckon_110 rfl ?_
      refine j_callVv (pc := 111) (As := [.int (x1 + (1 : Int32)), .int x2]) (rest := []) O 3 (hg_X0_reckon (x1 + (1 : Int32)) x2 M5) dX0_reckon_111 mv_X0_reckon lm_X0_54 so_S1_3 rfl rfl (Nat.le_of_ble_eq_true rfl) hdg (fun M6 => ?_)
      refine j_aload_n (pc := 114) O 1 dX0_reckon_114 rfl ?_
      refine j_sipush (pc := 115) (v := 20000) O dX0_reckon_115 (by decide) ?_
      refine j_iload (pc := 118) O 0 dX0_reckon_118 rfl ?_
      refine j_iadd (pc := 120) O dX0_reckon_120 ?_
      refine j_callVv (pc := 121) (dc := 1) (As := [.int ((20000 : Int32) + y4)]) (rest := []) O 3 (fun M1 h => sp_X0_put h) dX0_reckon_121 mv_X0_put lm_X0_70 so_S1_3 rfl rfl (Nat.le_of_ble_eq_true rfl) (Nat.le_trans (Nat.le_of_ble_eq_true rfl) hd0) (fun M7 => ?_)
      refine j_iinc (pc := 124) (v := 1) (L2 := fun y => [(4, .int y), (5, .int y4), (0, .ref (ad 3)), (1, .int x1), (2, .int x2), (3, .int x3)]) O 5 dX0_reckon_124 rfl (by decide) (by decide) (fun _ => rfl) (fun y8 => ?_)
      refine j_goto (pc := 127) (tgt := 79) O dX0_reckon_127 (by decide) ?_
      exact jw_next (fun hh => pw_sub [2, 3, 4, 5, 0] rfl hh)
    · refine jw_ex ?_
      exact j_vret (pc := 130) O dX0_reckon_130
def f_X0_reckon_j75 (g_X0_reckon : Int32 → Int32 → Mm → Option (Mm)) (g_X0_one : Int32 → Mm → Option (Mm)) (x1 : Int32) (x2 : Int32) (s0 : Int32) (M : Mm) : Option (Mm) :=
  iter (fun s => f_X0_reckon_b79 g_X0_reckon g_X0_one x1 x2 s0 s.1 s.2) fuel ((0 : Int32), M)
set_option maxRecDepth 100000 in
set_option maxHeartbeats 4000000 in
theorem jf_X0_reckon_j75 {G : wn_G} {ad : Nat → Nat} {X : wn_X} {d : Nat} (O : Ok G RX0 cX0_reckon 6 d X) (hd0 : 9 ≤ d) (g_X0_reckon : Int32 → Int32 → Mm → Option (Mm)) (g_X0_one : Int32 → Mm → Option (Mm)) {dg : Nat} (hdg : dg + 1 ≤ d) (hg_X0_reckon : ∀ (x1 : Int32) (x2 : Int32) (M M1 : Mm), g_X0_reckon x1 x2 M = some M1 → Sp G S1 ad mX0_reckon dg [.ref (ad 3), .int x1, .int x2] M M1 none) (hg_X0_one : ∀ (x1 : Int32) (M M1 : Mm), g_X0_one x1 M = some M1 → Sp G S1 ad mX0_one dg [.ref (ad 3), .int x1] M M1 none) (x1 : Int32) (x2 : Int32) (s0 : Int32) (M : Mm) : JW G S1 ad X 75 [(0, .ref (ad 3)), (1, .int x1), (2, .int x2)] [.int s0] M (f_X0_reckon_j75 g_X0_reckon g_X0_one x1 x2 s0 M) (Krv G S1 ad X) := by
  unfold f_X0_reckon_j75
  refine j_istore_n (pc := 75) (L' := [(3, .int s0), (0, .ref (ad 3)), (1, .int x1), (2, .int x2)]) O dX0_reckon_75 (by decide) rfl ?_
  refine j_iconst (pc := 76) (v := 0) O dX0_reckon_76 (by decide) ?_
  refine j_istore (pc := 77) (L' := [(4, .int (0 : Int32)), (3, .int s0), (0, .ref (ad 3)), (1, .int x1), (2, .int x2)]) O dX0_reckon_77 (by decide) rfl ?_
  exact jw_iter (hd := h_X0_reckon_79 G ad X x1 x2 s0) (fun hh => pw_sub [2, 3, 4, 1, 0] rfl hh) (fun s => jf_X0_reckon_b79 O hd0 g_X0_reckon g_X0_one hdg hg_X0_reckon hg_X0_one x1 x2 s0 s.1 s.2)
def f_X0_reckon_j55 (g_X0_reckon : Int32 → Int32 → Mm → Option (Mm)) (g_X0_one : Int32 → Mm → Option (Mm)) (x1 : Int32) (x2 : Int32) (M : Mm) : Option (Mm) :=
  bv (g_X0_reckon (x1 + (1 : Int32)) x2 M) fun M1 =>
  if x1 = (2 : Int32) then
    f_X0_reckon_j75 g_X0_reckon g_X0_one x1 x2 (1 : Int32) M1
  else
    f_X0_reckon_j75 g_X0_reckon g_X0_one x1 x2 (160 : Int32) M1
set_option maxRecDepth 100000 in
set_option maxHeartbeats 4000000 in
theorem jf_X0_reckon_j55 {G : wn_G} {ad : Nat → Nat} {X : wn_X} {d : Nat} (O : Ok G RX0 cX0_reckon 6 d X) (hd0 : 9 ≤ d) (g_X0_reckon : Int32 → Int32 → Mm → Option (Mm)) (g_X0_one : Int32 → Mm → Option (Mm)) {dg : Nat} (hdg : dg + 1 ≤ d) (hg_X0_reckon : ∀ (x1 : Int32) (x2 : Int32) (M M1 : Mm), g_X0_reckon x1 x2 M = some M1 → Sp G S1 ad mX0_reckon dg [.ref (ad 3), .int x1, .int x2] M M1 none) (hg_X0_one : ∀ (x1 : Int32) (M M1 : Mm), g_X0_one x1 M = some M1 → Sp G S1 ad mX0_one dg [.ref (ad 3), .int x1] M M1 none) (x1 : Int32) (x2 : Int32) (M : Mm) : JW G S1 ad X 55 [(0, .ref (ad 3)), (1, .int x1), (2, .int x2)] [] M (f_X0_reckon_j55 g_X0_reckon g_X0_one x1 x2 M) (Krv G S1 ad X) := by
  unfold f_X0_reckon_j55
  refine j_aload_n (pc := 55) O 0 dX0_reckon_55 rfl ?_
  refine j_iload_n (pc := 56) O 1 dX0_reckon_56 rfl ?_
  refine j_iconst (pc := 57) (v := 1) O dX0_reckon_57 (by decide) ?_
  refine j_iadd (pc := 58) O dX0_reckon_58 ?_
  refine j_iload_n (pc := 59) O 2 dX0_reckon_59 rfl ?_
  refine j_callVv (pc := 60) (As := [.int (x1 + (1 : Int32)), .int x2]) (rest := []) O 3 (hg_X0_reckon (x1 + (1 : Int32)) x2 M) dX0_reckon_60 mv_X0_reckon lm_X0_54 so_S1_3 rfl rfl (Nat.le_of_ble_eq_true rfl) hdg (fun M1 => ?_)
  refine j_iload_n (pc := 63) O 1 dX0_reckon_63 rfl ?_
  refine j_iconst (pc := 64) (v := 2) O dX0_reckon_64 (by decide) ?_
  refine j_icmp_ne (pc := 65) (tgt := 72) O dX0_reckon_65 (by decide) ?_ ?_
  · refine j_iconst (pc := 68) (v := 1) O dX0_reckon_68 (by decide) ?_
    refine j_goto (pc := 69) (tgt := 75) O dX0_reckon_69 (by decide) ?_
    exact jw_sub [0, 1, 2] rfl (jf_X0_reckon_j75 O hd0 g_X0_reckon g_X0_one hdg hg_X0_reckon hg_X0_one x1 x2 (1 : Int32) M1)
  · refine j_sipush (pc := 72) (v := 160) O dX0_reckon_72 (by decide) ?_
    exact jw_sub [0, 1, 2] rfl (jf_X0_reckon_j75 O hd0 g_X0_reckon g_X0_one hdg hg_X0_reckon hg_X0_one x1 x2 (160 : Int32) M1)
def f_X0_reckon (g_X0_reckon : Int32 → Int32 → Mm → Option (Mm)) (g_X0_one : Int32 → Mm → Option (Mm)) (x1 : Int32) (x2 : Int32) (M : Mm) : Option (Mm) :=
  if x1 < (5 : Int32) then
    if x1 = (2 : Int32) then
      if (M.1 3 3) = (105 : Int32) then
        if x2 < (5 : Int32) then
          bv (f_X0_step M) fun M9 =>
          bv (g_X0_reckon (2 : Int32) (x2 + (1 : Int32)) M9) fun M10 =>
          bv (f_X0_put (20105 : Int32) M10) fun M11 =>
          some M11
        else
          bv (f_X0_breakOff M) fun M12 =>
          some M12
      else
        f_X0_reckon_j55 g_X0_reckon g_X0_one x1 x2 M
    else
      f_X0_reckon_j55 g_X0_reckon g_X0_one x1 x2 M
  else
    bv (g_X0_one x2 M) fun M13 =>
    some M13
set_option maxRecDepth 100000 in
set_option maxHeartbeats 4000000 in
theorem jf_X0_reckon {G : wn_G} {ad : Nat → Nat} {X : wn_X} {d : Nat} (O : Ok G RX0 cX0_reckon 6 d X) (hd0 : 9 ≤ d) (g_X0_reckon : Int32 → Int32 → Mm → Option (Mm)) (g_X0_one : Int32 → Mm → Option (Mm)) {dg : Nat} (hdg : dg + 1 ≤ d) (hg_X0_reckon : ∀ (x1 : Int32) (x2 : Int32) (M M1 : Mm), g_X0_reckon x1 x2 M = some M1 → Sp G S1 ad mX0_reckon dg [.ref (ad 3), .int x1, .int x2] M M1 none) (hg_X0_one : ∀ (x1 : Int32) (M M1 : Mm), g_X0_one x1 M = some M1 → Sp G S1 ad mX0_one dg [.ref (ad 3), .int x1] M M1 none) (x1 : Int32) (x2 : Int32) (M : Mm) : JW G S1 ad X 0 [(0, .ref (ad 3)), (1, .int x1), (2, .int x2)] [] M (f_X0_reckon g_X0_reckon g_X0_one x1 x2 M) (Krv G S1 ad X) := by
  unfold f_X0_reckon
  refine j_iload_n (pc := 0) O 1 dX0_reckon_0 rfl ?_
  refine j_iconst (pc := 1) (v := 5) O dX0_reckon_1 (by decide) ?_
  refine j_icmp_lt (pc := 2) (tgt := 11) O dX0_reckon_2 (by decide) ?_ ?_
  · refine j_iload_n (pc := 11) O 1 dX0_reckon_11 rfl ?_
    refine j_iconst (pc := 12) (v := 2) O dX0_reckon_12 (by decide) ?_
    refine j_icmp_ne (pc := 13) (tgt := 55) O dX0_reckon_13 (by decide) ?_ ?_
    · refine j_aload_n (pc := 16) O 0 dX0_reckon_16 rfl ?_
      refine j_getf (pc := 17) (v := .int (M.1 3 3)) O 3 3 dX0_reckon_17 fl_X0_58 so_S1_3 rfl rfl ?_
      refine j_bipush (pc := 20) (v := 105) O dX0_reckon_20 (by decide) ?_
      refine j_icmp_ne (pc := 22) (tgt := 55) O dX0_reckon_22 (by decide) ?_ ?_
      · refine j_iload_n (pc := 25) O 2 dX0_reckon_25 rfl ?_
        refine j_iconst (pc := 26) (v := 5) O dX0_reckon_26 (by decide) ?_
        refine j_icmp_lt (pc := 27) (tgt := 35) O dX0_reckon_27 (by decide) ?_ ?_
        · refine j_aload_n (pc := 35) O 0 dX0_reckon_35 rfl ?_
          refine j_callVv (pc := 36) (dc := 8) (As := []) (rest := []) O 3 (fun M1 h => sp_X0_step h) dX0_reckon_36 mv_X0_step lm_X0_47 so_S1_3 rfl rfl (Nat.le_of_ble_eq_true rfl) (Nat.le_trans (Nat.le_of_ble_eq_true rfl) hd0) (fun M9 => ?_)
          refine j_aload_n (pc := 39) O 0 dX0_reckon_39 rfl ?_
          refine j_iconst (pc := 40) (v := 2) O dX0_reckon_40 (by decide) ?_
          refine j_iload_n (pc := 41) O 2 dX0_reckon_41 rfl ?_
          refine j_iconst (pc := 42) (v := 1) O dX0_reckon_42 (by decide) ?_
          refine j_iadd (pc := 43) O dX0_reckon_43 ?_
          refine j_callVv (pc := 44) (As := [.int (2 : Int32), .int (x2 + (1 : Int32))]) (rest := []) O 3 (hg_X0_reckon (2 : Int32) (x2 + (1 : Int32)) M9) dX0_reckon_44 mv_X0_reckon lm_X0_54 so_S1_3 rfl rfl (Nat.le_of_ble_eq_true rfl) hdg (fun M10 => ?_)
          refine j_aload_n (pc := 47) O 0 dX0_reckon_47 rfl ?_
          refine j_sipush (pc := 48) (v := 20105) O dX0_reckon_48 (by decide) ?_
          refine j_callVv (pc := 51) (dc := 1) (As := [.int (20105 : Int32)]) (rest := []) O 3 (fun M1 h => sp_X0_put h) dX0_reckon_51 mv_X0_put lm_X0_70 so_S1_3 rfl rfl (Nat.le_of_ble_eq_true rfl) (Nat.le_trans (Nat.le_of_ble_eq_true rfl) hd0) (fun M11 => ?_)
          exact j_vret (pc := 54) O dX0_reckon_54
        · refine j_aload_n (pc := 30) O 0 dX0_reckon_30 rfl ?_
          refine j_callVv (pc := 31) (dc := 1) (As := []) (rest := []) O 3 (fun M1 h => sp_X0_breakOff h) dX0_reckon_31 mv_X0_breakOff lm_X0_61 so_S1_3 rfl rfl (Nat.le_of_ble_eq_true rfl) (Nat.le_trans (Nat.le_of_ble_eq_true rfl) hd0) (fun M12 => ?_)
          exact j_vret (pc := 34) O dX0_reckon_34
      · exact jw_sub [0, 1, 2] rfl (jf_X0_reckon_j55 O hd0 g_X0_reckon g_X0_one hdg hg_X0_reckon hg_X0_one x1 x2 M)
    · exact jw_sub [0, 1, 2] rfl (jf_X0_reckon_j55 O hd0 g_X0_reckon g_X0_one hdg hg_X0_reckon hg_X0_one x1 x2 M)
  · refine j_aload_n (pc := 5) O 0 dX0_reckon_5 rfl ?_
    refine j_iload_n (pc := 6) O 2 dX0_reckon_6 rfl ?_
    refine j_callVv (pc := 7) (As := [.int x2]) (rest := []) O 3 (hg_X0_one x2 M) dX0_reckon_7 mv_X0_one lm_X0_67 so_S1_3 rfl rfl (Nat.le_of_ble_eq_true rfl) hdg (fun M13 => ?_)
    exact j_vret (pc := 10) O dX0_reckon_10
def f_X0_one_j15 (g_X0_reckon : Int32 → Int32 → Mm → Option (Mm)) (g_X0_one : Int32 → Mm → Option (Mm)) (M : Mm) : Option (Mm) :=
  bv (f_X0_put (M.1 3 5) M) fun M2 =>
  bv (f_X0_step M2) fun M3 =>
  some M3
set_option maxRecDepth 100000 in
set_option maxHeartbeats 4000000 in
theorem jf_X0_one_j15 {G : wn_G} {ad : Nat → Nat} {X : wn_X} {d : Nat} (O : Ok G RX0 cX0_one 3 d X) (hd0 : 9 ≤ d) (g_X0_reckon : Int32 → Int32 → Mm → Option (Mm)) (g_X0_one : Int32 → Mm → Option (Mm)) {dg : Nat} (hdg : dg + 1 ≤ d) (hg_X0_reckon : ∀ (x1 : Int32) (x2 : Int32) (M M1 : Mm), g_X0_reckon x1 x2 M = some M1 → Sp G S1 ad mX0_reckon dg [.ref (ad 3), .int x1, .int x2] M M1 none) (hg_X0_one : ∀ (x1 : Int32) (M M1 : Mm), g_X0_one x1 M = some M1 → Sp G S1 ad mX0_one dg [.ref (ad 3), .int x1] M M1 none) (M : Mm) : JW G S1 ad X 15 [(0, .ref (ad 3))] [] M (f_X0_one_j15 g_X0_reckon g_X0_one M) (Krv G S1 ad X) := by
  unfold f_X0_one_j15
  refine j_aload_n (pc := 15) O 0 dX0_one_15 rfl ?_
  refine j_aload_n (pc := 16) O 0 dX0_one_16 rfl ?_
  refine j_getf (pc := 17) (v := .int (M.1 3 5)) O 3 5 dX0_one_17 fl_X0_77 so_S1_3 rfl rfl ?_
  refine j_callVv (pc := 20) (dc := 1) (As := [.int (M.1 3 5)]) (rest := []) O 3 (fun M1 h => sp_X0_put h) dX0_one_20 mv_X0_put lm_X0_70 so_S1_3 rfl rfl (Nat.le_of_ble_eq_true rfl) (Nat.le_trans (Nat.le_of_ble_eq_true rfl) hd0) (fun M2 => ?_)
  refine j_aload_n (pc := 23) O 0 dX0_one_23 rfl ?_
  refine j_callVv (pc := 24) (dc := 8) (As := []) (rest := []) O 3 (fun M1 h => sp_X0_step h) dX0_one_24 mv_X0_step lm_X0_47 so_S1_3 rfl rfl (Nat.le_of_ble_eq_true rfl) (Nat.le_trans (Nat.le_of_ble_eq_true rfl) hd0) (fun M3 => ?_)
  exact j_vret (pc := 27) O dX0_one_27
def f_X0_one_j45 (g_X0_reckon : Int32 → Int32 → Mm → Option (Mm)) (g_X0_one : Int32 → Mm → Option (Mm)) (M : Mm) : Option (Mm) :=
  bv (f_X0_breakOff M) fun M10 =>
  some M10
set_option maxRecDepth 100000 in
set_option maxHeartbeats 4000000 in
theorem jf_X0_one_j45 {G : wn_G} {ad : Nat → Nat} {X : wn_X} {d : Nat} (O : Ok G RX0 cX0_one 3 d X) (hd0 : 9 ≤ d) (g_X0_reckon : Int32 → Int32 → Mm → Option (Mm)) (g_X0_one : Int32 → Mm → Option (Mm)) {dg : Nat} (hdg : dg + 1 ≤ d) (hg_X0_reckon : ∀ (x1 : Int32) (x2 : Int32) (M M1 : Mm), g_X0_reckon x1 x2 M = some M1 → Sp G S1 ad mX0_reckon dg [.ref (ad 3), .int x1, .int x2] M M1 none) (hg_X0_one : ∀ (x1 : Int32) (M M1 : Mm), g_X0_one x1 M = some M1 → Sp G S1 ad mX0_one dg [.ref (ad 3), .int x1] M M1 none) (M : Mm) : JW G S1 ad X 45 [(0, .ref (ad 3))] [] M (f_X0_one_j45 g_X0_reckon g_X0_one M) (Krv G S1 ad X) := by
  unfold f_X0_one_j45
  refine j_aload_n (pc := 45) O 0 dX0_one_45 rfl ?_
  refine j_callVv (pc := 46) (dc := 1) (As := []) (rest := []) O 3 (fun M1 h => sp_X0_breakOff h) dX0_one_46 mv_X0_breakOff lm_X0_61 so_S1_3 rfl rfl (Nat.le_of_ble_eq_true rfl) (Nat.le_trans (Nat.le_of_ble_eq_true rfl) hd0) (fun M10 => ?_)
  exact j_vret (pc := 49) O dX0_one_49
def f_X0_one_j40 (g_X0_reckon : Int32 → Int32 → Mm → Option (Mm)) (g_X0_one : Int32 → Mm → Option (Mm)) (x1 : Int32) (x2 : Int32) (M : Mm) : Option (Mm) :=
  if x1 < (5 : Int32) then
    bv (f_X0_step M) fun M4 =>
    if x2 = (45 : Int32) then
      bv (g_X0_one (x1 + (1 : Int32)) M4) fun M8 =>
      bv (f_X0_put (20000 : Int32) M8) fun M9 =>
      some M9
    else
      bv (g_X0_reckon (0 : Int32) (x1 + (1 : Int32)) M4) fun M5 =>
      if (M5.1 3 3) = (41 : Int32) then
        bv (f_X0_step M5) fun M7 =>
        some M7
      else
        bv (f_X0_breakOff M5) fun M6 =>
        some M6
  else
    f_X0_one_j45 g_X0_reckon g_X0_one M
set_option maxRecDepth 100000 in
set_option maxHeartbeats 4000000 in
theorem jf_X0_one_j40 {G : wn_G} {ad : Nat → Nat} {X : wn_X} {d : Nat} (O : Ok G RX0 cX0_one 3 d X) (hd0 : 9 ≤ d) (g_X0_reckon : Int32 → Int32 → Mm → Option (Mm)) (g_X0_one : Int32 → Mm → Option (Mm)) {dg : Nat} (hdg : dg + 1 ≤ d) (hg_X0_reckon : ∀ (x1 : Int32) (x2 : Int32) (M M1 : Mm), g_X0_reckon x1 x2 M = some M1 → Sp G S1 ad mX0_reckon dg [.ref (ad 3), .int x1, .int x2] M M1 none) (hg_X0_one : ∀ (x1 : Int32) (M M1 : Mm), g_X0_one x1 M = some M1 → Sp G S1 ad mX0_one dg [.ref (ad 3), .int x1] M M1 none) (x1 : Int32) (x2 : Int32) (M : Mm) : JW G S1 ad X 40 [(0, .ref (ad 3)), (1, .int x1), (2, .int x2)] [] M (f_X0_one_j40 g_X0_reckon g_X0_one x1 x2 M) (Krv G S1 ad X) := by
  unfold f_X0_one_j40
  refine j_iload_n (pc := 40) O 1 dX0_one_40 rfl ?_
  refine j_iconst (pc := 41) (v := 5) O dX0_one_41 (by decide) ?_
  refine j_icmp_lt (pc := 42) (tgt := 50) O dX0_one_42 (by decide) ?_ ?_
  · refine j_aload_n (pc := 50) O 0 dX0_one_50 rfl ?_
    refine j_callVv (pc := 51) (dc := 8) (As := []) (rest := []) O 3 (fun M1 h => sp_X0_step h) dX0_one_51 mv_X0_step lm_X0_47 so_S1_3 rfl rfl (Nat.le_of_ble_eq_true rfl) (Nat.le_trans (Nat.le_of_ble_eq_true rfl) hd0) (fun M4 => ?_)
    refine j_iload_n (pc := 54) O 2 dX0_one_54 rfl ?_
    refine j_bipush (pc := 55) (v := 45) O dX0_one_55 (by decide) ?_
    refine j_icmp_ne (pc := 57) (tgt := 75) O dX0_one_57 (by decide) ?_ ?_
    · refine j_aload_n (pc := 60) O 0 dX0_one_60 rfl ?_
      refine j_iload_n (pc := 61) O 1 dX0_one_61 rfl ?_
      refine j_iconst (pc := 62) (v := 1) O dX0_one_62 (by decide) ?_
      refine j_iadd (pc := 63) O dX0_one_63 ?_
      refine j_callVv (pc := 64) (As := [.int (x1 + (1 : Int32))]) (rest := []) O 3 (hg_X0_one (x1 + (1 : Int32)) M4) dX0_one_64 mv_X0_one lm_X0_67 so_S1_3 rfl rfl (Nat.le_of_ble_eq_true rfl) hdg (fun M8 => ?_)
      refine j_aload_n (pc := 67) O 0 dX0_one_67 rfl ?_
      refine j_sipush (pc := 68) (v := 20000) O dX0_one_68 (by decide) ?_
      refine j_callVv (pc := 71) (dc := 1) (As := [.int (20000 : Int32)]) (rest := []) O 3 (fun M1 h => sp_X0_put h) dX0_one_71 mv_X0_put lm_X0_70 so_S1_3 rfl rfl (Nat.le_of_ble_eq_true rfl) (Nat.le_trans (Nat.le_of_ble_eq_true rfl) hd0) (fun M9 => ?_)
      exact j_vret (pc := 74) O dX0_one_74
    · refine j_aload_n (pc := 75) O 0 dX0_one_75 rfl ?_
      refine j_iconst (pc := 76) (v := 0) O dX0_one_76 (by decide) ?_
      refine j_iload_n (pc := 77) O 1 dX0_one_77 rfl ?_
      refine j_iconst (pc := 78) (v := 1) O dX0_one_78 (by decide) ?_
      refine j_iadd (pc := 79) O dX0_one_79 ?_
      refine j_callVv (pc := 80) (As := [.int (0 : Int32), .int (x1 + (1 : Int32))]) (rest := []) O 3 (hg_X0_reckon (0 : Int32) (x1 + (1 : Int32)) M4) dX0_one_80 mv_X0_reckon lm_X0_54 so_S1_3 rfl rfl (Nat.le_of_ble_eq_true rfl) hdg (fun M5 => ?_)
      refine j_aload_n (pc := 83) O 0 dX0_one_83 rfl ?_
      refine j_getf (pc := 84) (v := .int (M5.1 3 3)) O 3 3 dX0_one_84 fl_X0_58 so_S1_3 rfl rfl ?_
      refine j_bipush (pc := 87) (v := 41) O dX0_one_87 (by decide) ?_
      refine j_icmp_ne (pc := 89) (tgt := 99) O dX0_one_89 (by decide) ?_ ?_
      · refine j_aload_n (pc := 92) O 0 dX0_one_92 rfl ?_
        refine j_callVv (pc := 93) (dc := 8) (As := []) (rest := []) O 3 (fun M1 h => sp_X0_step h) dX0_one_93 mv_X0_step lm_X0_47 so_S1_3 rfl rfl (Nat.le_of_ble_eq_true rfl) (Nat.le_trans (Nat.le_of_ble_eq_true rfl) hd0) (fun M7 => ?_)
        refine j_goto (pc := 96) (tgt := 103) O dX0_one_96 (by decide) ?_
        exact j_vret (pc := 103) O dX0_one_103
      · refine j_aload_n (pc := 99) O 0 dX0_one_99 rfl ?_
        refine j_callVv (pc := 100) (dc := 1) (As := []) (rest := []) O 3 (fun M1 h => sp_X0_breakOff h) dX0_one_100 mv_X0_breakOff lm_X0_61 so_S1_3 rfl rfl (Nat.le_of_ble_eq_true rfl) (Nat.le_trans (Nat.le_of_ble_eq_true rfl) hd0) (fun M6 => ?_)
        exact j_vret (pc := 103) O dX0_one_103
  · exact jw_sub [0] rfl (jf_X0_one_j45 O hd0 g_X0_reckon g_X0_one hdg hg_X0_reckon hg_X0_one M)
def f_X0_one (g_X0_reckon : Int32 → Int32 → Mm → Option (Mm)) (g_X0_one : Int32 → Mm → Option (Mm)) (x1 : Int32) (M : Mm) : Option (Mm) :=
  bi (M.1 3 3) fun y1 =>
  if y1 = (2 : Int32) then
    f_X0_one_j15 g_X0_reckon g_X0_one M
  else
    if y1 = (3 : Int32) then
      f_X0_one_j15 g_X0_reckon g_X0_one M
    else
      if y1 = (45 : Int32) then
        f_X0_one_j40 g_X0_reckon g_X0_one x1 y1 M
      else
        if y1 = (40 : Int32) then
          f_X0_one_j40 g_X0_reckon g_X0_one x1 y1 M
        else
          f_X0_one_j45 g_X0_reckon g_X0_one M
set_option maxRecDepth 100000 in
set_option maxHeartbeats 4000000 in
theorem jf_X0_one {G : wn_G} {ad : Nat → Nat} {X : wn_X} {d : Nat} (O : Ok G RX0 cX0_one 3 d X) (hd0 : 9 ≤ d) (g_X0_reckon : Int32 → Int32 → Mm → Option (Mm)) (g_X0_one : Int32 → Mm → Option (Mm)) {dg : Nat} (hdg : dg + 1 ≤ d) (hg_X0_reckon : ∀ (x1 : Int32) (x2 : Int32) (M M1 : Mm), g_X0_reckon x1 x2 M = some M1 → Sp G S1 ad mX0_reckon dg [.ref (ad 3), .int x1, .int x2] M M1 none) (hg_X0_one : ∀ (x1 : Int32) (M M1 : Mm), g_X0_one x1 M = some M1 → Sp G S1 ad mX0_one dg [.ref (ad 3), .int x1] M M1 none) (x1 : Int32) (M : Mm) : JW G S1 ad X 0 [(0, .ref (ad 3)), (1, .int x1)] [] M (f_X0_one g_X0_reckon g_X0_one x1 M) (Krv G S1 ad X) := by
  unfold f_X0_one
  refine j_aload_n (pc := 0) O 0 dX0_one_0 rfl ?_
  refine j_getf (pc := 1) (v := .int (M.1 3 3)) O 3 3 dX0_one_1 fl_X0_58 so_S1_3 rfl rfl ?_
  refine jw_bi fun y1 => ?_
  refine j_istore_n (pc := 4) (L' := [(2, .int y1), (0, .ref (ad 3)), (1, .int x1)]) O dX0_one_4 (by decide) rfl ?_
  refine j_iload_n (pc := 5) O 0 dX0_one_5 rfl ?_
  refine j_iconst (pc := 6) (v := 2) O dX0_one_6 (by decide) ?_
  refine j_icmp_eq (pc := 7) (tgt := 15) O dX0_one_7 (by decide) ?_ ?_
  · exact jw_sub [1] rfl (jf_X0_one_j15 O hd0 g_X0_reckon g_X0_one hdg hg_X0_reckon hg_X0_one M)
  · refine j_iload_n (pc := 10) O 0 dX0_one_10 rfl ?_
    refine j_iconst (pc := 11) (v := 3) O dX0_one_11 (by decide) ?_
    refine j_icmp_ne (pc := 12) (tgt := 28) O dX0_one_12 (by decide) ?_ ?_
    · exact jw_sub [1] rfl (jf_X0_one_j15 O hd0 g_X0_reckon g_X0_one hdg hg_X0_reckon hg_X0_one M)
    · refine j_iload_n (pc := 28) O 0 dX0_one_28 rfl ?_
      refine j_bipush (pc := 29) (v := 45) O dX0_one_29 (by decide) ?_
      refine j_icmp_eq (pc := 31) (tgt := 40) O dX0_one_31 (by decide) ?_ ?_
      · exact jw_sub [1, 2, 0] rfl (jf_X0_one_j40 O hd0 g_X0_reckon g_X0_one hdg hg_X0_reckon hg_X0_one x1 y1 M)
      · refine j_iload_n (pc := 34) O 0 dX0_one_34 rfl ?_
        refine j_bipush (pc := 35) (v := 40) O dX0_one_35 (by decide) ?_
        refine j_icmp_ne (pc := 37) (tgt := 45) O dX0_one_37 (by decide) ?_ ?_
        · exact jw_sub [1, 2, 0] rfl (jf_X0_one_j40 O hd0 g_X0_reckon g_X0_one hdg hg_X0_reckon hg_X0_one x1 y1 M)
        · exact jw_sub [1] rfl (jf_X0_one_j45 O hd0 g_X0_reckon g_X0_one hdg hg_X0_reckon hg_X0_one M)
def R_X0_reckon : Nat → (Int32 → Int32 → Mm → Option (Mm)) × (Int32 → Mm → Option (Mm))
  | 0 => (fun _ _ _ => none, fun _ _ => none)
  | n + 1 => (f_X0_reckon (R_X0_reckon n).1 (R_X0_reckon n).2, f_X0_one (R_X0_reckon n).1 (R_X0_reckon n).2)
set_option maxRecDepth 100000 in
theorem sR_X0_reckon {G : wn_G} {ad : Nat → Nat} : ∀ n : Nat, (∀ (x1 : Int32) (x2 : Int32) (M M1 : Mm), (R_X0_reckon n).1 x1 x2 M = some M1 → Sp G S1 ad mX0_reckon (9 + n) [.ref (ad 3), .int x1, .int x2] M M1 none) ∧ (∀ (x1 : Int32) (M M1 : Mm), (R_X0_reckon n).2 x1 M = some M1 → Sp G S1 ad mX0_one (9 + n) [.ref (ad 3), .int x1] M M1 none)
  | 0 => ⟨fun _ _ _ _ h => (by cases h), fun _ _ _ h => (by cases h)⟩
  | n + 1 => by
    have ih := sR_X0_reckon (G := G) (ad := ad) n
    exact ⟨fun x1 x2 M M1 h => sp_intro (own := RX0) (by decide +kernel) rfl (Nat.le_of_ble_eq_true rfl) (fun X O T => jf_X0_reckon O (by omega) (R_X0_reckon n).1 (R_X0_reckon n).2 (Nat.le_refl _) ih.1 ih.2 x1 x2 M M1 h T),
      fun x1 M M1 h => sp_intro (own := RX0) (by decide +kernel) rfl (Nat.le_of_ble_eq_true rfl) (fun X O T => jf_X0_one O (by omega) (R_X0_reckon n).1 (R_X0_reckon n).2 (Nat.le_refl _) ih.1 ih.2 x1 M M1 h T)⟩
def r_X0_reckon : Int32 → Int32 → Mm → Option (Mm) := (R_X0_reckon recs).1
theorem sp_X0_reckon {G : wn_G} {ad : Nat → Nat} {x1 : Int32} {x2 : Int32} {M M1 : Mm} (h : r_X0_reckon x1 x2 M = some M1) : Sp G S1 ad mX0_reckon 109 [.ref (ad 3), .int x1, .int x2] M M1 none := (sR_X0_reckon recs).1 x1 x2 M M1 h
def r_X0_one : Int32 → Mm → Option (Mm) := (R_X0_reckon recs).2
theorem sp_X0_one {G : wn_G} {ad : Nat → Nat} {x1 : Int32} {M M1 : Mm} (h : r_X0_one x1 M = some M1) : Sp G S1 ad mX0_one 109 [.ref (ad 3), .int x1] M M1 none := (sR_X0_reckon recs).2 x1 M M1 h
def h_X0_reads_21 (G : wn_G) (ad : Nat → Nat) (X : wn_X) : Int32 × Mm → Prop := fun s => PW G S1 ad X 21 [(0, .ref (ad 3)), (1, .int s.1)] [] s.2
def f_X0_reads_b21 (x1 : Int32) (M : Mm) : Option ((Int32 × Mm) ⊕ (Int32 × Mm)) :=
  if (3 : Int32) ≤ x1 then
    ex (
    bv (f_X0_demand (0 : Int32) M) fun M5 =>
    bm (ms M5 3 1 (0 : Int32)) fun M6 =>
    if (M6.1 3 6) = (-1 : Int32) then
      some (1, M6)
    else
      some (0, M6))
  else
    bv (f_X0_demand ((100 : Int32) + x1) M) fun M7 =>
    bv (r_X0_reckon (0 : Int32) (0 : Int32) M7) fun M8 =>
    bv (f_X0_demand (59 : Int32) M8) fun M9 =>
    gd (bin x1 3 = true) inferInstance <| bm (ms M9 17 (Int32.toNatClampNeg x1) (M9.1 3 8)) fun M10 =>
    bi (x1 + (1 : Int32)) fun y11 =>
    some (.inl (y11, M10))
set_option maxRecDepth 100000 in
set_option maxHeartbeats 4000000 in
theorem jf_X0_reads_b21 {G : wn_G} {ad : Nat → Nat} {X : wn_X} {d : Nat} (O : Ok G RX0 cX0_reads 2 d X) (hd0 : 110 ≤ d) (x1 : Int32) (M : Mm) : JW G S1 ad X 21 [(0, .ref (ad 3)), (1, .int x1)] [] M (f_X0_reads_b21 x1 M) (Kl (h_X0_reads_21 G ad X) (Krz G S1 ad X)) := by
  unfold f_X0_reads_b21
  refine j_iload_n (pc := 21) O 1 dX0_reads_21 rfl ?_
  refine j_iconst (pc := 22) (v := 3) O dX0_reads_22 (by decide) ?_
  refine j_icmp_ge (pc := 23) (tgt := 62) O dX0_reads_23 (by decide) ?_ ?_
  · refine jw_ex ?_
    refine j_aload_n (pc := 62) O 0 dX0_reads_62 rfl ?_
    refine j_iconst (pc := 63) (v := 0) O dX0_reads_63 (by decide) ?_
    refine j_callVv (pc := 64) (dc := 9) (As := [.int (0 : Int32)]) (rest := []) O 3 (fun M1 h => sp_X0_demand h) dX0_reads_64 mv_X0_demand lm_X0_50 so_S1_3 rfl rfl (Nat.le_of_ble_eq_true rfl) (Nat.le_trans (Nat.le_of_ble_eq_true rfl) hd0) (fun M5 => ?_)
    refine j_aload_n (pc := 67) O 0 dX0_reads_67 rfl ?_
    refine j_iconst (pc := 68) (v := 0) O dX0_reads_68 (by decide) ?_
    refine j_puti (pc := 69) O 3 1 dX0_reads_69 fl_X0_21 so_S1_3 ft_X0_1 rfl (fun M6 => ?_)
    refine j_aload_n (pc := 72) O 0 dX0_reads_72 rfl ?_
    refine j_getf (pc := 73) (v := .int (M6.1 3 6)) O 3 6 dX0_reads_73 fl_X0_44 so_S1_3 rfl rfl ?_
    refine j_iconst (pc := 76) (v := -1) O dX0_reads_76 (by decide) ?_
    refine j_icmp_ne (pc := 77) (tgt := 84) O dX0_reads_77 (by decide) ?_ ?_
    · refine j_iconst (pc := 80) (v := 1) O dX0_reads_80 (by decide) ?_
      refine j_goto (pc := 81) (tgt := 85) O dX0_reads_81 (by decide) ?_
      exact j_z1 (pc := 85) O dX0_reads_85
    · refine j_iconst (pc := 84) (v := 0) O dX0_reads_84 (by decide) ?_
      exact j_z0 (pc := 85) O dX0_reads_85
  · refine j_aload_n (pc := 26) O 0 dX0_reads_26 rfl ?_
    refine j_bipush (pc := 27) (v := 100) O dX0_reads_27 (by decide) ?_
    refine j_iload_n (pc := 29) O 1 dX0_reads_29 rfl ?_
    refine j_iadd (pc := 30) O dX0_reads_30 ?_
    refine j_callVv (pc := 31) (dc := 9) (As := [.int ((100 : Int32) + x1)]) (rest := []) O 3 (fun M1 h => sp_X0_demand h) dX0_reads_31 mv_X0_demand lm_X0_50 so_S1_3 rfl rfl (Nat.le_of_ble_eq_true rfl) (Nat.le_trans (Nat.le_of_ble_eq_true rfl) hd0) (fun M7 => ?_)
    refine j_aload_n (pc := 34) O 0 dX0_reads_34 rfl ?_
    refine j_iconst (pc := 35) (v := 0) O dX0_reads_35 (by decide) ?_
    refine j_iconst (pc := 36) (v := 0) O dX0_reads_36 (by decide) ?_
    refine j_callVv (pc := 37) (dc := 109) (As := [.int (0 : Int32), .int (0 : Int32)]) (rest := []) O 3 (fun M1 h => sp_X0_reckon h) dX0_reads_37 mv_X0_reckon lm_X0_54 so_S1_3 rfl rfl (Nat.le_of_ble_eq_true rfl) (Nat.le_trans (Nat.le_of_ble_eq_true rfl) hd0) (fun M8 => ?_)
    refine j_aload_n (pc := 40) O 0 dX0_reads_40 rfl ?_
    refine j_bipush (pc := 41) (v := 59) O dX0_reads_41 (by decide) ?_
    refine j_callVv (pc := 43) (dc := 9) (As := [.int (59 : Int32)]) (rest := []) O 3 (fun M1 h => sp_X0_demand h) dX0_reads_43 mv_X0_demand lm_X0_50 so_S1_3 rfl rfl (Nat.le_of_ble_eq_true rfl) (Nat.le_trans (Nat.le_of_ble_eq_true rfl) hd0) (fun M9 => ?_)
    refine j_aload_n (pc := 46) O 0 dX0_reads_46 rfl ?_
    refine j_getf (pc := 47) (v := .ref (ad 17)) O 3 9 dX0_reads_47 fl_X0_18 so_S1_3 rfl rfl ?_
    refine j_iload_n (pc := 50) O 1 dX0_reads_50 rfl ?_
    refine j_aload_n (pc := 51) O 0 dX0_reads_51 rfl ?_
    refine j_getf (pc := 52) (v := .int (M9.1 3 8)) O 3 8 dX0_reads_52 fl_X0_42 so_S1_3 rfl rfl ?_
    refine j_iast (pc := 55) O 17 dX0_reads_55 so_S1_17 (fun M10 => ?_)
    refine j_iinc (pc := 56) (v := 1) (L2 := fun y => [(1, .int y), (0, .ref (ad 3))]) O 1 dX0_reads_56 rfl (by decide) (by decide) (fun _ => rfl) (fun y11 => ?_)
    refine j_goto (pc := 59) (tgt := 21) O dX0_reads_59 (by decide) ?_
    exact jw_next (fun hh => pw_sub [1, 0] rfl hh)
def f_X0_reads (M : Mm) : Option (Int32 × Mm) :=
  bm (ms M 3 2 (0 : Int32)) fun M1 =>
  bm (ms M1 3 8 (0 : Int32)) fun M2 =>
  bm (ms M2 3 6 (-1 : Int32)) fun M3 =>
  bv (f_X0_step M3) fun M4 =>
  iter (fun s => f_X0_reads_b21 s.1 s.2) fuel ((0 : Int32), M4)
set_option maxRecDepth 100000 in
set_option maxHeartbeats 4000000 in
theorem jf_X0_reads {G : wn_G} {ad : Nat → Nat} {X : wn_X} {d : Nat} (O : Ok G RX0 cX0_reads 2 d X) (hd0 : 110 ≤ d) (M : Mm) : JW G S1 ad X 0 [(0, .ref (ad 3))] [] M (f_X0_reads M) (Krz G S1 ad X) := by
  unfold f_X0_reads
  refine j_aload_n (pc := 0) O 0 dX0_reads_0 rfl ?_
  refine j_iconst (pc := 1) (v := 0) O dX0_reads_1 (by decide) ?_
  refine j_puti (pc := 2) O 3 2 dX0_reads_2 fl_X0_39 so_S1_3 ft_X0_2 rfl (fun M1 => ?_)
  refine j_aload_n (pc := 5) O 0 dX0_reads_5 rfl ?_
  refine j_iconst (pc := 6) (v := 0) O dX0_reads_6 (by decide) ?_
  refine j_puti (pc := 7) O 3 8 dX0_reads_7 fl_X0_42 so_S1_3 ft_X0_8 rfl (fun M2 => ?_)
  refine j_aload_n (pc := 10) O 0 dX0_reads_10 rfl ?_
  refine j_iconst (pc := 11) (v := -1) O dX0_reads_11 (by decide) ?_
  refine j_puti (pc := 12) O 3 6 dX0_reads_12 fl_X0_44 so_S1_3 ft_X0_6 rfl (fun M3 => ?_)
  refine j_aload_n (pc := 15) O 0 dX0_reads_15 rfl ?_
  refine j_callVv (pc := 16) (dc := 8) (As := []) (rest := []) O 3 (fun M1 h => sp_X0_step h) dX0_reads_16 mv_X0_step lm_X0_47 so_S1_3 rfl rfl (Nat.le_of_ble_eq_true rfl) (Nat.le_trans (Nat.le_of_ble_eq_true rfl) hd0) (fun M4 => ?_)
  refine j_iconst (pc := 19) (v := 0) O dX0_reads_19 (by decide) ?_
  refine j_istore_n (pc := 20) (L' := [(1, .int (0 : Int32)), (0, .ref (ad 3))]) O dX0_reads_20 (by decide) rfl ?_
  exact jw_iter (hd := h_X0_reads_21 G ad X) (fun hh => pw_sub [1, 0] rfl hh) (fun s => jf_X0_reads_b21 O hd0 s.1 s.2)
theorem sp_X0_reads {G : wn_G} {ad : Nat → Nat} {M : Mm} {r : Int32} {M1 : Mm} (h : f_X0_reads M = some (r, M1)) : Sp G S1 ad mX0_reads 110 [.ref (ad 3)] M M1 (some (.int r)) :=
  sp_intro (own := RX0) (by decide +kernel) rfl (Nat.le_of_ble_eq_true rfl) (fun X O T => jf_X0_reads O (Nat.le_refl _) M (r, M1) h T)
def h_X4_add_25 (G : wn_G) (ad : Nat → Nat) (X : wn_X) : Int32 × Mm → Prop := fun s => PW G S1 ad X 25 [(0, .ref (ad 4)), (1, .ref (ad 3)), (2, .int s.1)] [] s.2
def h_X4_add_61 (G : wn_G) (ad : Nat → Nat) (X : wn_X) : Int32 × Mm → Prop := fun s => PW G S1 ad X 61 [(0, .ref (ad 4)), (1, .ref (ad 3)), (2, .int s.1)] [] s.2
def f_X4_add_b61 (x2 : Int32) (M : Mm) : Option ((Int32 × Mm) ⊕ (Int32 × Mm)) :=
  if (3 : Int32) ≤ x2 then
    ex (
    bm (ms M 4 0 ((M.1 4 0) + (1 : Int32))) fun M1 =>
    some (((M1.1 4 0) - (1 : Int32)), M1))
  else
    gd (bin x2 3 = true) inferInstance <|
    gd (bin (((M.1 4 0) * (3 : Int32)) + x2) 18 = true) inferInstance <| bm (ms M 19 (Int32.toNatClampNeg (((M.1 4 0) * (3 : Int32)) + x2)) (M.1 17 (Int32.toNatClampNeg x2))) fun M2 =>
    bi (x2 + (1 : Int32)) fun y3 =>
    some (.inl (y3, M2))
set_option maxRecDepth 100000 in
set_option maxHeartbeats 4000000 in
theorem jf_X4_add_b61 {G : wn_G} {ad : Nat → Nat} {X : wn_X} {d : Nat} (O : Ok G RX4 cX4_add 3 d X) (hd0 : 1 ≤ d) (x2 : Int32) (M : Mm) : JW G S1 ad X 61 [(0, .ref (ad 4)), (1, .ref (ad 3)), (2, .int x2)] [] M (f_X4_add_b61 x2 M) (Kl (h_X4_add_61 G ad X) (Kri G S1 ad X)) := by
  unfold f_X4_add_b61
  refine j_iload_n (pc := 61) O 2 dX4_add_61 rfl ?_
  refine j_iconst (pc := 62) (v := 3) O dX4_add_62 (by decide) ?_
  refine j_icmp_ge (pc := 63) (tgt := 91) O dX4_add_63 (by decide) ?_ ?_
  · refine jw_ex ?_
    refine j_aload_n (pc := 91) O 0 dX4_add_91 rfl ?_
    refine j_dup (pc := 92) O dX4_add_92 rfl ?_
    refine j_getf (pc := 93) (v := .int (M.1 4 0)) O 4 0 dX4_add_93 fl_X4_24 so_S1_4 rfl rfl ?_
    refine j_iconst (pc := 96) (v := 1) O dX4_add_96 (by decide) ?_
    refine j_iadd (pc := 97) O dX4_add_97 ?_
    refine j_puti (pc := 98) O 4 0 dX4_add_98 fl_X4_24 so_S1_4 ft_X4_0 rfl (fun M1 => ?_)
    refine j_aload_n (pc := 101) O 0 dX4_add_101 rfl ?_
    refine j_getf (pc := 102) (v := .int (M1.1 4 0)) O 4 0 dX4_add_102 fl_X4_24 so_S1_4 rfl rfl ?_
    refine j_iconst (pc := 105) (v := 1) O dX4_add_105 (by decide) ?_
    refine j_isub (pc := 106) O dX4_add_106 ?_
    exact j_iret (pc := 107) O dX4_add_107
  · refine j_aload_n (pc := 66) O 0 dX4_add_66 rfl ?_
    refine j_getf (pc := 67) (v := .ref (ad 19)) O 4 2 dX4_add_67 fl_X4_15 so_S1_4 rfl rfl ?_
    refine j_aload_n (pc := 70) O 0 dX4_add_70 rfl ?_
    refine j_getf (pc := 71) (v := .int (M.1 4 0)) O 4 0 dX4_add_71 fl_X4_24 so_S1_4 rfl rfl ?_
    refine j_iconst (pc := 74) (v := 3) O dX4_add_74 (by decide) ?_
    refine j_imul (pc := 75) O dX4_add_75 ?_
    refine j_iload_n (pc := 76) O 2 dX4_add_76 rfl ?_
    refine j_iadd (pc := 77) O dX4_add_77 ?_
    refine j_aload_n (pc := 78) O 1 dX4_add_78 rfl ?_
    refine j_getf (pc := 79) (v := .ref (ad 17)) O 3 9 dX4_add_79 fl_X4_33 so_S1_3 rfl rfl ?_
    refine j_iload_n (pc := 82) O 2 dX4_add_82 rfl ?_
    refine j_iald (pc := 83) O 17 dX4_add_83 so_S1_17 ?_
    refine j_iast (pc := 84) O 19 dX4_add_84 so_S1_19 (fun M2 => ?_)
    refine j_iinc (pc := 85) (v := 1) (L2 := fun y => [(2, .int y), (0, .ref (ad 4)), (1, .ref (ad 3))]) O 2 dX4_add_85 rfl (by decide) (by decide) (fun _ => rfl) (fun y3 => ?_)
    refine j_goto (pc := 88) (tgt := 61) O dX4_add_88 (by decide) ?_
    exact jw_next (fun hh => pw_sub [1, 2, 0] rfl hh)
def f_X4_add_b25 (x2 : Int32) (M : Mm) : Option ((Int32 × Mm) ⊕ (Int32 × Mm)) :=
  if (160 : Int32) ≤ x2 then
    ex (
    iter (fun s => f_X4_add_b61 s.1 s.2) fuel ((0 : Int32), M))
  else
    gd (bin x2 160 = true) inferInstance <|
    gd (bin (((M.1 4 0) * (160 : Int32)) + x2) 960 = true) inferInstance <| bm (ms M 18 (Int32.toNatClampNeg (((M.1 4 0) * (160 : Int32)) + x2)) (M.1 16 (Int32.toNatClampNeg x2))) fun M4 =>
    bi (x2 + (1 : Int32)) fun y5 =>
    some (.inl (y5, M4))
set_option maxRecDepth 100000 in
set_option maxHeartbeats 4000000 in
theorem jf_X4_add_b25 {G : wn_G} {ad : Nat → Nat} {X : wn_X} {d : Nat} (O : Ok G RX4 cX4_add 3 d X) (hd0 : 1 ≤ d) (x2 : Int32) (M : Mm) : JW G S1 ad X 25 [(0, .ref (ad 4)), (1, .ref (ad 3)), (2, .int x2)] [] M (f_X4_add_b25 x2 M) (Kl (h_X4_add_25 G ad X) (Kri G S1 ad X)) := by
  unfold f_X4_add_b25
  refine j_iload_n (pc := 25) O 2 dX4_add_25 rfl ?_
  refine j_sipush (pc := 26) (v := 160) O dX4_add_26 (by decide) ?_
  refine j_icmp_ge (pc := 29) (tgt := 59) O dX4_add_29 (by decide) ?_ ?_
  · refine jw_ex ?_
    refine j_iconst (pc := 59) (v := 0) O dX4_add_59 (by decide) ?_
    refine j_istore_n (pc := 60) (L' := [(2, .int (0 : Int32)), (0, .ref (ad 4)), (1, .ref (ad 3))]) O dX4_add_60 (by decide) rfl ?_
    exact jw_iter (hd := h_X4_add_61 G ad X) (fun hh => pw_sub [1, 2, 0] rfl hh) (fun s => jf_X4_add_b61 O hd0 s.1 s.2)
  · refine j_aload_n (pc := 32) O 0 dX4_add_32 rfl ?_
    refine j_getf (pc := 33) (v := .ref (ad 18)) O 4 1 dX4_add_33 fl_X4_9 so_S1_4 rfl rfl ?_
    refine j_aload_n (pc := 36) O 0 dX4_add_36 rfl ?_
    refine j_getf (pc := 37) (v := .int (M.1 4 0)) O 4 0 dX4_add_37 fl_X4_24 so_S1_4 rfl rfl ?_
    refine j_sipush (pc := 40) (v := 160) O dX4_add_40 (by decide) ?_
    refine j_imul (pc := 43) O dX4_add_43 ?_
    refine j_iload_n (pc := 44) O 2 dX4_add_44 rfl ?_
    refine j_iadd (pc := 45) O dX4_add_45 ?_
    refine j_aload_n (pc := 46) O 1 dX4_add_46 rfl ?_
    refine j_getf (pc := 47) (v := .ref (ad 16)) O 3 7 dX4_add_47 fl_X4_28 so_S1_3 rfl rfl ?_
    refine j_iload_n (pc := 50) O 2 dX4_add_50 rfl ?_
    refine j_iald (pc := 51) O 16 dX4_add_51 so_S1_16 ?_
    refine j_iast (pc := 52) O 18 dX4_add_52 so_S1_18 (fun M4 => ?_)
    refine j_iinc (pc := 53) (v := 1) (L2 := fun y => [(2, .int y), (0, .ref (ad 4)), (1, .ref (ad 3))]) O 2 dX4_add_53 rfl (by decide) (by decide) (fun _ => rfl) (fun y5 => ?_)
    refine j_goto (pc := 56) (tgt := 25) O dX4_add_56 (by decide) ?_
    exact jw_next (fun hh => pw_sub [1, 2, 0] rfl hh)
def f_X4_add (M : Mm) : Option (Int32 × Mm) :=
  if (M.1 4 0) < 0 then
    some ((-4 : Int32), M)
  else
    if (M.1 4 0) < (6 : Int32) then
      iter (fun s => f_X4_add_b25 s.1 s.2) fuel ((0 : Int32), M)
    else
      some ((-4 : Int32), M)
set_option maxRecDepth 100000 in
set_option maxHeartbeats 4000000 in
theorem jf_X4_add {G : wn_G} {ad : Nat → Nat} {X : wn_X} {d : Nat} (O : Ok G RX4 cX4_add 3 d X) (hd0 : 1 ≤ d) (M : Mm) : JW G S1 ad X 0 [(0, .ref (ad 4)), (1, .ref (ad 3))] [] M (f_X4_add M) (Kri G S1 ad X) := by
  unfold f_X4_add
  refine j_aload_n (pc := 0) O 1 dX4_add_0 rfl ?_
  refine j_ifnull (pc := 1) O dX4_add_1 ?_
  refine j_aload_n (pc := 4) O 0 dX4_add_4 rfl ?_
  refine j_getf (pc := 5) (v := .int (M.1 4 0)) O 4 0 dX4_add_5 fl_X4_24 so_S1_4 rfl rfl ?_
  refine j_if_lt (pc := 8) (tgt := 20) O dX4_add_8 (by decide) ?_ ?_
  · refine j_bipush (pc := 20) (v := -4) O dX4_add_20 (by decide) ?_
    exact j_iret (pc := 22) O dX4_add_22
  · refine j_aload_n (pc := 11) O 0 dX4_add_11 rfl ?_
    refine j_getf (pc := 12) (v := .int (M.1 4 0)) O 4 0 dX4_add_12 fl_X4_24 so_S1_4 rfl rfl ?_
    refine j_bipush (pc := 15) (v := 6) O dX4_add_15 (by decide) ?_
    refine j_icmp_lt (pc := 17) (tgt := 23) O dX4_add_17 (by decide) ?_ ?_
    · refine j_iconst (pc := 23) (v := 0) O dX4_add_23 (by decide) ?_
      refine j_istore_n (pc := 24) (L' := [(2, .int (0 : Int32)), (0, .ref (ad 4)), (1, .ref (ad 3))]) O dX4_add_24 (by decide) rfl ?_
      exact jw_iter (hd := h_X4_add_25 G ad X) (fun hh => pw_sub [1, 2, 0] rfl hh) (fun s => jf_X4_add_b25 O hd0 s.1 s.2)
    · refine j_bipush (pc := 20) (v := -4) O dX4_add_20 (by decide) ?_
      exact j_iret (pc := 22) O dX4_add_22
theorem sp_X4_add {G : wn_G} {ad : Nat → Nat} {M : Mm} {r : Int32} {M1 : Mm} (h : f_X4_add M = some (r, M1)) : Sp G S1 ad mX4_add 1 [.ref (ad 4), .ref (ad 3)] M M1 (some (.int r)) :=
  sp_intro (own := RX4) (by decide +kernel) rfl (Nat.le_of_ble_eq_true rfl) (fun X O T => jf_X4_add O (Nat.le_refl _) M (r, M1) h T)
def f_X5_text (M : Mm) : Option (Int32 × Mm) :=
  if (M.1 4 0) < (6 : Int32) then
    bd (f_X0_reads M) fun r2 M1 =>
    if r2 = 0 then
      some (((-100 : Int32) - (M1.1 3 6)), M1)
    else
      bd (f_X4_add M1) fun r4 M3 =>
      some (r4, M3)
  else
    some ((-4 : Int32), M)
set_option maxRecDepth 100000 in
set_option maxHeartbeats 4000000 in
theorem jf_X5_text {G : wn_G} {ad : Nat → Nat} {X : wn_X} {d : Nat} (O : Ok G RX5 cX5_text 1 d X) (hd0 : 111 ≤ d) (M : Mm) : JW G S1 ad X 0 [(0, .ref (ad 0))] [] M (f_X5_text M) (Kri G S1 ad X) := by
  unfold f_X5_text
  refine j_aload_n (pc := 0) O 0 dX5_text_0 rfl ?_
  refine j_getf (pc := 1) (v := .ref (ad 4)) O 0 4 dX5_text_1 fl_X5_29 so_S1_0 rfl rfl ?_
  refine j_getf (pc := 4) (v := .int (M.1 4 0)) O 4 0 dX5_text_4 fl_X5_123 so_S1_4 rfl rfl ?_
  refine j_bipush (pc := 7) (v := 6) O dX5_text_7 (by decide) ?_
  refine j_icmp_lt (pc := 9) (tgt := 15) O dX5_text_9 (by decide) ?_ ?_
  · refine j_aload_n (pc := 15) O 0 dX5_text_15 rfl ?_
    refine j_getf (pc := 16) (v := .ref (ad 3)) O 0 3 dX5_text_16 fl_X5_22 so_S1_0 rfl rfl ?_
    refine j_callVi (pc := 19) (dc := 110) (As := []) (rest := []) O 3 (fun r M1 h => sp_X0_reads h) dX5_text_19 mv_X0_reads lm_X5_55 so_S1_3 rfl rfl (Nat.le_of_ble_eq_true rfl) (Nat.le_trans (Nat.le_of_ble_eq_true rfl) hd0) (fun r2 M1 => ?_)
    refine j_if_ne (pc := 22) (tgt := 36) O dX5_text_22 (by decide) ?_ ?_
    · refine j_bipush (pc := 25) (v := -100) O dX5_text_25 (by decide) ?_
      refine j_aload_n (pc := 27) O 0 dX5_text_27 rfl ?_
      refine j_getf (pc := 28) (v := .ref (ad 3)) O 0 3 dX5_text_28 fl_X5_22 so_S1_0 rfl rfl ?_
      refine j_getf (pc := 31) (v := .int (M1.1 3 6)) O 3 6 dX5_text_31 fl_X5_126 so_S1_3 rfl rfl ?_
      refine j_isub (pc := 34) O dX5_text_34 ?_
      exact j_iret (pc := 35) O dX5_text_35
    · refine j_aload_n (pc := 36) O 0 dX5_text_36 rfl ?_
      refine j_getf (pc := 37) (v := .ref (ad 4)) O 0 4 dX5_text_37 fl_X5_29 so_S1_0 rfl rfl ?_
      refine j_aload_n (pc := 40) O 0 dX5_text_40 rfl ?_
      refine j_getf (pc := 41) (v := .ref (ad 3)) O 0 3 dX5_text_41 fl_X5_22 so_S1_0 rfl rfl ?_
      refine j_callVi (pc := 44) (dc := 1) (As := [.ref (ad 3)]) (rest := []) O 4 (fun r M1 h => sp_X4_add h) dX5_text_44 mv_X4_add lm_X5_59 so_S1_4 rfl rfl (Nat.le_of_ble_eq_true rfl) (Nat.le_trans (Nat.le_of_ble_eq_true rfl) hd0) (fun r4 M3 => ?_)
      exact j_iret (pc := 47) O dX5_text_47
  · refine j_bipush (pc := 12) (v := -4) O dX5_text_12 (by decide) ?_
    exact j_iret (pc := 14) O dX5_text_14
theorem sp_X5_text {G : wn_G} {ad : Nat → Nat} {M : Mm} {r : Int32} {M1 : Mm} (h : f_X5_text M = some (r, M1)) : Sp G S1 ad mX5_text 111 [.ref (ad 0)] M M1 (some (.int r)) :=
  sp_intro (own := RX5) (by decide +kernel) rfl (Nat.le_of_ble_eq_true rfl) (fun X O T => jf_X5_text O (Nat.le_refl _) M (r, M1) h T)
def h_X6_text_14 (G : wn_G) (ad : Nat → Nat) (X : wn_X) : Int32 × Mm → Prop := fun s => PW G S2 ad X 14 [(0, .ref (ad 0)), (1, .int s.1)] [] s.2
def f_X6_text_b14 (x1 : Int32) (M : Mm) : Option ((Int32 × Mm) ⊕ (Int32 × Mm)) :=
  if (M.1 0 6) ≤ x1 then
    ex (
    gd (bin (M.1 0 3) 6 = true) inferInstance <| bm (ms M 2 (Int32.toNatClampNeg (M.1 0 3)) (M.1 0 6)) fun M1 =>
    bm (ms M1 0 6 (0 : Int32)) fun M2 =>
    bd (f_X6_read (M2.1 0 3) (0 : Int32) M2) fun r4 M3 =>
    if (M3.1 0 28) = 0 then
      bm (ms M3 0 3 ((M3.1 0 3) + (1 : Int32))) fun M5 =>
      some (((M5.1 0 3) - (1 : Int32)), M5)
    else
      some (((-100 : Int32) - (M3.1 0 29)), M3))
  else
    gd (bin x1 160 = true) inferInstance <|
    gd (bin (((160 : Int32) * (M.1 0 3)) + x1) 960 = true) inferInstance <| bm (ms M 1 (Int32.toNatClampNeg (((160 : Int32) * (M.1 0 3)) + x1)) (M.1 3 (Int32.toNatClampNeg x1))) fun M6 =>
    bi (x1 + (1 : Int32)) fun y7 =>
    some (.inl (y7, M6))
set_option maxRecDepth 100000 in
set_option maxHeartbeats 4000000 in
theorem jf_X6_text_b14 {G : wn_G} {ad : Nat → Nat} {X : wn_X} {d : Nat} (O : Ok G RX6 cX6_text 2 d X) (hd0 : 108 ≤ d) (x1 : Int32) (M : Mm) : JW G S2 ad X 14 [(0, .ref (ad 0)), (1, .int x1)] [] M (f_X6_text_b14 x1 M) (Kl (h_X6_text_14 G ad X) (Kri G S2 ad X)) := by
  unfold f_X6_text_b14
  refine j_iload_n (pc := 14) O 1 dX6_text_14 rfl ?_
  refine j_aload_n (pc := 15) O 0 dX6_text_15 rfl ?_
  refine j_getf (pc := 16) (v := .int (M.1 0 6)) O 0 6 dX6_text_16 fl_X6_126 so_S2_0 rfl rfl ?_
  refine j_icmp_ge (pc := 19) (tgt := 49) O dX6_text_19 (by decide) ?_ ?_
  · refine jw_ex ?_
    refine j_aload_n (pc := 49) O 0 dX6_text_49 rfl ?_
    refine j_getf (pc := 50) (v := .ref (ad 2)) O 0 2 dX6_text_50 fl_X6_17 so_S2_0 rfl rfl ?_
    refine j_aload_n (pc := 53) O 0 dX6_text_53 rfl ?_
    refine j_getf (pc := 54) (v := .int (M.1 0 3)) O 0 3 dX6_text_54 fl_X6_88 so_S2_0 rfl rfl ?_
    refine j_aload_n (pc := 57) O 0 dX6_text_57 rfl ?_
    refine j_getf (pc := 58) (v := .int (M.1 0 6)) O 0 6 dX6_text_58 fl_X6_126 so_S2_0 rfl rfl ?_
    refine j_iast (pc := 61) O 2 dX6_text_61 so_S2_2 (fun M1 => ?_)
    refine j_aload_n (pc := 62) O 0 dX6_text_62 rfl ?_
    refine j_iconst (pc := 63) (v := 0) O dX6_text_63 (by decide) ?_
    refine j_puti (pc := 64) O 0 6 dX6_text_64 fl_X6_126 so_S2_0 ft_X6_6 rfl (fun M2 => ?_)
    refine j_aload_n (pc := 67) O 0 dX6_text_67 rfl ?_
    refine j_aload_n (pc := 68) O 0 dX6_text_68 rfl ?_
    refine j_getf (pc := 69) (v := .int (M2.1 0 3)) O 0 3 dX6_text_69 fl_X6_88 so_S2_0 rfl rfl ?_
    refine j_iconst (pc := 72) (v := 0) O dX6_text_72 (by decide) ?_
    refine j_callVi (pc := 73) (dc := 107) (As := [.int (M2.1 0 3), .int (0 : Int32)]) (rest := []) O 0 (fun r M1 h => sp_X6_read h) dX6_text_73 mv_X6_read lm_X6_240 so_S2_0 rfl rfl (Nat.le_of_ble_eq_true rfl) (Nat.le_trans (Nat.le_of_ble_eq_true rfl) hd0) (fun r4 M3 => ?_)
    refine j_istore_n (pc := 76) (L' := [(1, .int r4), (0, .ref (ad 0))]) O dX6_text_76 (by decide) rfl ?_
    refine j_aload_n (pc := 77) O 1 dX6_text_77 rfl ?_
    refine j_getf (pc := 78) (v := .int (M3.1 0 28)) O 0 28 dX6_text_78 fl_X6_161 so_S2_0 rfl rfl ?_
    refine j_if_eq (pc := 81) (tgt := 92) O dX6_text_81 (by decide) ?_ ?_
    · refine j_aload_n (pc := 92) O 1 dX6_text_92 rfl ?_
      refine j_dup (pc := 93) O dX6_text_93 rfl ?_
      refine j_getf (pc := 94) (v := .int (M3.1 0 3)) O 0 3 dX6_text_94 fl_X6_88 so_S2_0 rfl rfl ?_
      refine j_iconst (pc := 97) (v := 1) O dX6_text_97 (by decide) ?_
      refine j_iadd (pc := 98) O dX6_text_98 ?_
      refine j_puti (pc := 99) O 0 3 dX6_text_99 fl_X6_88 so_S2_0 ft_X6_3 rfl (fun M5 => ?_)
      refine j_aload_n (pc := 102) O 1 dX6_text_102 rfl ?_
      refine j_getf (pc := 103) (v := .int (M5.1 0 3)) O 0 3 dX6_text_103 fl_X6_88 so_S2_0 rfl rfl ?_
      refine j_iconst (pc := 106) (v := 1) O dX6_text_106 (by decide) ?_
      refine j_isub (pc := 107) O dX6_text_107 ?_
      exact j_iret (pc := 108) O dX6_text_108
    · refine j_bipush (pc := 84) (v := -100) O dX6_text_84 (by decide) ?_
      refine j_aload_n (pc := 86) O 1 dX6_text_86 rfl ?_
      refine j_getf (pc := 87) (v := .int (M3.1 0 29)) O 0 29 dX6_text_87 fl_X6_165 so_S2_0 rfl rfl ?_
      refine j_isub (pc := 90) O dX6_text_90 ?_
      exact j_iret (pc := 91) O dX6_text_91
  · refine j_aload_n (pc := 22) O 0 dX6_text_22 rfl ?_
    refine j_getf (pc := 23) (v := .ref (ad 1)) O 0 1 dX6_text_23 fl_X6_13 so_S2_0 rfl rfl ?_
    refine j_sipush (pc := 26) (v := 160) O dX6_text_26 (by decide) ?_
    refine j_aload_n (pc := 29) O 0 dX6_text_29 rfl ?_
    refine j_getf (pc := 30) (v := .int (M.1 0 3)) O 0 3 dX6_text_30 fl_X6_88 so_S2_0 rfl rfl ?_
    refine j_imul (pc := 33) O dX6_text_33 ?_
    refine j_iload_n (pc := 34) O 1 dX6_text_34 rfl ?_
    refine j_iadd (pc := 35) O dX6_text_35 ?_
    refine j_aload_n (pc := 36) O 0 dX6_text_36 rfl ?_
    refine j_getf (pc := 37) (v := .ref (ad 3)) O 0 5 dX6_text_37 fl_X6_20 so_S2_0 rfl rfl ?_
    refine j_iload_n (pc := 40) O 1 dX6_text_40 rfl ?_
    refine j_iald (pc := 41) O 3 dX6_text_41 so_S2_3 ?_
    refine j_iast (pc := 42) O 1 dX6_text_42 so_S2_1 (fun M6 => ?_)
    refine j_iinc (pc := 43) (v := 1) (L2 := fun y => [(1, .int y), (0, .ref (ad 0))]) O 1 dX6_text_43 rfl (by decide) (by decide) (fun _ => rfl) (fun y7 => ?_)
    refine j_goto (pc := 46) (tgt := 14) O dX6_text_46 (by decide) ?_
    exact jw_next (fun hh => pw_sub [1, 0] rfl hh)
def f_X6_text (M : Mm) : Option (Int32 × Mm) :=
  if (M.1 0 3) = (6 : Int32) then
    some ((-4 : Int32), M)
  else
    iter (fun s => f_X6_text_b14 s.1 s.2) fuel ((0 : Int32), M)
set_option maxRecDepth 100000 in
set_option maxHeartbeats 4000000 in
theorem jf_X6_text {G : wn_G} {ad : Nat → Nat} {X : wn_X} {d : Nat} (O : Ok G RX6 cX6_text 2 d X) (hd0 : 108 ≤ d) (M : Mm) : JW G S2 ad X 0 [(0, .ref (ad 0))] [] M (f_X6_text M) (Kri G S2 ad X) := by
  unfold f_X6_text
  refine j_aload_n (pc := 0) O 0 dX6_text_0 rfl ?_
  refine j_getf (pc := 1) (v := .int (M.1 0 3)) O 0 3 dX6_text_1 fl_X6_88 so_S2_0 rfl rfl ?_
  refine j_bipush (pc := 4) (v := 6) O dX6_text_4 (by decide) ?_
  refine j_icmp_ne (pc := 6) (tgt := 12) O dX6_text_6 (by decide) ?_ ?_
  · refine j_bipush (pc := 9) (v := -4) O dX6_text_9 (by decide) ?_
    exact j_iret (pc := 11) O dX6_text_11
  · refine j_iconst (pc := 12) (v := 0) O dX6_text_12 (by decide) ?_
    refine j_istore_n (pc := 13) (L' := [(1, .int (0 : Int32)), (0, .ref (ad 0))]) O dX6_text_13 (by decide) rfl ?_
    exact jw_iter (hd := h_X6_text_14 G ad X) (fun hh => pw_sub [1, 0] rfl hh) (fun s => jf_X6_text_b14 O hd0 s.1 s.2)
theorem sp_X6_text {G : wn_G} {ad : Nat → Nat} {M : Mm} {r : Int32} {M1 : Mm} (h : f_X6_text M = some (r, M1)) : Sp G S2 ad mX6_text 108 [.ref (ad 0)] M M1 (some (.int r)) :=
  sp_intro (own := RX6) (by decide +kernel) rfl (Nat.le_of_ble_eq_true rfl) (fun X O T => jf_X6_text O (Nat.le_refl _) M (r, M1) h T)
def f_X5_force (x1 : Int32) (M : Mm) : Option (Int32 × Mm) :=
  if x1 < 0 then
    some ((-2 : Int32), M)
  else
    if x1 < (M.1 4 0) then
      bi (M.1 1 2) fun y1 =>
      bm (ms M 1 2 x1) fun M2 =>
      some (y1, M2)
    else
      some ((-2 : Int32), M)
set_option maxRecDepth 100000 in
set_option maxHeartbeats 4000000 in
theorem jf_X5_force {G : wn_G} {ad : Nat → Nat} {X : wn_X} {d : Nat} (O : Ok G RX5 cX5_force 3 d X) (hd0 : 1 ≤ d) (x1 : Int32) (M : Mm) : JW G S1 ad X 0 [(0, .ref (ad 0)), (1, .int x1)] [] M (f_X5_force x1 M) (Kri G S1 ad X) := by
  unfold f_X5_force
  refine j_iload_n (pc := 0) O 1 dX5_force_0 rfl ?_
  refine j_if_lt (pc := 1) (tgt := 15) O dX5_force_1 (by decide) ?_ ?_
  · refine j_bipush (pc := 15) (v := -2) O dX5_force_15 (by decide) ?_
    exact j_iret (pc := 17) O dX5_force_17
  · refine j_iload_n (pc := 4) O 1 dX5_force_4 rfl ?_
    refine j_aload_n (pc := 5) O 0 dX5_force_5 rfl ?_
    refine j_getf (pc := 6) (v := .ref (ad 4)) O 0 4 dX5_force_6 fl_X5_29 so_S1_0 rfl rfl ?_
    refine j_getf (pc := 9) (v := .int (M.1 4 0)) O 4 0 dX5_force_9 fl_X5_123 so_S1_4 rfl rfl ?_
    refine j_icmp_lt (pc := 12) (tgt := 18) O dX5_force_12 (by decide) ?_ ?_
    · refine j_aload_n (pc := 18) O 0 dX5_force_18 rfl ?_
      refine j_getf (pc := 19) (v := .ref (ad 1)) O 0 0 dX5_force_19 fl_X5_10 so_S1_0 rfl rfl ?_
      refine j_getf (pc := 22) (v := .int (M.1 1 2)) O 1 2 dX5_force_22 fl_X5_129 so_S1_1 rfl rfl ?_
      refine jw_bi fun y1 => ?_
      refine j_istore_n (pc := 25) (L' := [(2, .int y1), (0, .ref (ad 0)), (1, .int x1)]) O dX5_force_25 (by decide) rfl ?_
      refine j_aload_n (pc := 26) O 1 dX5_force_26 rfl ?_
      refine j_getf (pc := 27) (v := .ref (ad 1)) O 0 0 dX5_force_27 fl_X5_10 so_S1_0 rfl rfl ?_
      refine j_iload_n (pc := 30) O 2 dX5_force_30 rfl ?_
      refine j_puti (pc := 31) O 1 2 dX5_force_31 fl_X5_129 so_S1_1 ft_X3_2 rfl (fun M2 => ?_)
      refine j_iload_n (pc := 34) O 0 dX5_force_34 rfl ?_
      exact j_iret (pc := 35) O dX5_force_35
    · refine j_bipush (pc := 15) (v := -2) O dX5_force_15 (by decide) ?_
      exact j_iret (pc := 17) O dX5_force_17
theorem sp_X5_force {G : wn_G} {ad : Nat → Nat} {x1 : Int32} {M : Mm} {r : Int32} {M1 : Mm} (h : f_X5_force x1 M = some (r, M1)) : Sp G S1 ad mX5_force 1 [.ref (ad 0), .int x1] M M1 (some (.int r)) :=
  sp_intro (own := RX5) (by decide +kernel) rfl (Nat.le_of_ble_eq_true rfl) (fun X O T => jf_X5_force O (Nat.le_refl _) x1 M (r, M1) h T)
def f_X6_force (x1 : Int32) (M : Mm) : Option (Int32 × Mm) :=
  bd (f_X6_in (Int32.toInt64 x1) (0 : Int64) (Int32.toInt64 ((M.1 0 3) - (1 : Int32))) M) fun r2 M1 =>
  if r2 = 0 then
    some ((-2 : Int32), M1)
  else
    bi (M1.1 0 4) fun y3 =>
    bm (ms M1 0 4 x1) fun M4 =>
    some (y3, M4)
set_option maxRecDepth 100000 in
set_option maxHeartbeats 4000000 in
theorem jf_X6_force {G : wn_G} {ad : Nat → Nat} {X : wn_X} {d : Nat} (O : Ok G RX6 cX6_force 3 d X) (hd0 : 2 ≤ d) (x1 : Int32) (M : Mm) : JW G S2 ad X 0 [(0, .ref (ad 0)), (1, .int x1)] [] M (f_X6_force x1 M) (Kri G S2 ad X) := by
  unfold f_X6_force
  refine j_iload_n (pc := 0) O 1 dX6_force_0 rfl ?_
  refine j_i2l (pc := 1) O dX6_force_1 ?_
  refine j_lconst (pc := 2) (v := 0) O dX6_force_2 (by decide) ?_
  refine j_aload_n (pc := 3) O 0 dX6_force_3 rfl ?_
  refine j_getf (pc := 4) (v := .int (M.1 0 3)) O 0 3 dX6_force_4 fl_X6_88 so_S2_0 rfl rfl ?_
  refine j_iconst (pc := 7) (v := 1) O dX6_force_7 (by decide) ?_
  refine j_isub (pc := 8) O dX6_force_8 ?_
  refine j_i2l (pc := 9) O dX6_force_9 ?_
  refine j_callSi (pc := 10) (dc := 1) (As := [.long (Int32.toInt64 x1), .long (0 : Int64), .long (Int32.toInt64 ((M.1 0 3) - (1 : Int32)))]) (rest := []) O (fun r M1 h => sp_X6_in h) dX6_force_10 mst_X6_in lm_X6_94 rfl rfl (Nat.le_of_ble_eq_true rfl) (Nat.le_trans (Nat.le_of_ble_eq_true rfl) hd0) (fun r2 M1 => ?_)
  refine j_if_ne (pc := 13) (tgt := 19) O dX6_force_13 (by decide) ?_ ?_
  · refine j_bipush (pc := 16) (v := -2) O dX6_force_16 (by decide) ?_
    exact j_iret (pc := 18) O dX6_force_18
  · refine j_aload_n (pc := 19) O 0 dX6_force_19 rfl ?_
    refine j_getf (pc := 20) (v := .int (M1.1 0 4)) O 0 4 dX6_force_20 fl_X6_244 so_S2_0 rfl rfl ?_
    refine jw_bi fun y3 => ?_
    refine j_istore_n (pc := 23) (L' := [(2, .int y3), (0, .ref (ad 0)), (1, .int x1)]) O dX6_force_23 (by decide) rfl ?_
    refine j_aload_n (pc := 24) O 1 dX6_force_24 rfl ?_
    refine j_iload_n (pc := 25) O 2 dX6_force_25 rfl ?_
    refine j_puti (pc := 26) O 0 4 dX6_force_26 fl_X6_244 so_S2_0 ft_X6_4 rfl (fun M4 => ?_)
    refine j_iload_n (pc := 29) O 0 dX6_force_29 rfl ?_
    exact j_iret (pc := 30) O dX6_force_30
theorem sp_X6_force {G : wn_G} {ad : Nat → Nat} {x1 : Int32} {M : Mm} {r : Int32} {M1 : Mm} (h : f_X6_force x1 M = some (r, M1)) : Sp G S2 ad mX6_force 2 [.ref (ad 0), .int x1] M M1 (some (.int r)) :=
  sp_intro (own := RX6) (by decide +kernel) rfl (Nat.le_of_ble_eq_true rfl) (fun X O T => jf_X6_force O (Nat.le_refl _) x1 M (r, M1) h T)
def f_X2_isAnswer (x1 : Int32) (M : Mm) : Option (Int32 × Mm) :=
  if (10 : Int32) ≤ x1 then
    if (40 : Int32) ≤ x1 then
      some (0, M)
    else
      gd (¬ (10 : Int32) = 0) inferInstance <|
      bd (f_X3_has_1 (irm x1 (10 : Int32)) M) fun r2 M1 =>
      if r2 = 0 then
        some (0, M1)
      else
        some (1, M1)
  else
    if x1 < 0 then
      some (0, M)
    else
      if (3 : Int32) < x1 then
        some (0, M)
      else
        some (1, M)
set_option maxRecDepth 100000 in
set_option maxHeartbeats 4000000 in
theorem jf_X2_isAnswer {G : wn_G} {ad : Nat → Nat} {X : wn_X} {d : Nat} (O : Ok G RX2 cX2_isAnswer 2 d X) (hd0 : 2 ≤ d) (x1 : Int32) (M : Mm) : JW G S1 ad X 0 [(0, .ref (ad 6)), (1, .int x1)] [] M (f_X2_isAnswer x1 M) (Krz G S1 ad X) := by
  unfold f_X2_isAnswer
  refine j_iload_n (pc := 0) O 1 dX2_isAnswer_0 rfl ?_
  refine j_bipush (pc := 1) (v := 10) O dX2_isAnswer_1 (by decide) ?_
  refine j_icmp_ge (pc := 3) (tgt := 21) O dX2_isAnswer_3 (by decide) ?_ ?_
  · refine j_iload_n (pc := 21) O 1 dX2_isAnswer_21 rfl ?_
    refine j_bipush (pc := 22) (v := 40) O dX2_isAnswer_22 (by decide) ?_
    refine j_icmp_ge (pc := 24) (tgt := 45) O dX2_isAnswer_24 (by decide) ?_ ?_
    · refine j_iconst (pc := 45) (v := 0) O dX2_isAnswer_45 (by decide) ?_
      exact j_z0 (pc := 46) O dX2_isAnswer_46
    · refine j_aload_n (pc := 27) O 0 dX2_isAnswer_27 rfl ?_
      refine j_getf (pc := 28) (v := .ref (ad 1)) O 6 0 dX2_isAnswer_28 fl_X2_36 so_S1_6 rfl rfl ?_
      refine j_iload_n (pc := 31) O 1 dX2_isAnswer_31 rfl ?_
      refine j_bipush (pc := 32) (v := 10) O dX2_isAnswer_32 (by decide) ?_
      refine j_irem (pc := 34) O dX2_isAnswer_34 ?_
      refine j_callVi (pc := 35) (dc := 1) (As := [.int (irm x1 (10 : Int32))]) (rest := []) O 1 (fun r M1 h => sp_X3_has_1 h) dX2_isAnswer_35 mv_X3_has lm_X2_155 so_S1_1 rfl rfl (Nat.le_of_ble_eq_true rfl) (Nat.le_trans (Nat.le_of_ble_eq_true rfl) hd0) (fun r2 M1 => ?_)
      refine j_if_eq (pc := 38) (tgt := 45) O dX2_isAnswer_38 (by decide) ?_ ?_
      · refine j_iconst (pc := 45) (v := 0) O dX2_isAnswer_45 (by decide) ?_
        exact j_z0 (pc := 46) O dX2_isAnswer_46
      · refine j_iconst (pc := 41) (v := 1) O dX2_isAnswer_41 (by decide) ?_
        refine j_goto (pc := 42) (tgt := 46) O dX2_isAnswer_42 (by decide) ?_
        exact j_z1 (pc := 46) O dX2_isAnswer_46
  · refine j_iload_n (pc := 6) O 1 dX2_isAnswer_6 rfl ?_
    refine j_if_lt (pc := 7) (tgt := 19) O dX2_isAnswer_7 (by decide) ?_ ?_
    · refine j_iconst (pc := 19) (v := 0) O dX2_isAnswer_19 (by decide) ?_
      exact j_z0 (pc := 20) O dX2_isAnswer_20
    · refine j_iload_n (pc := 10) O 1 dX2_isAnswer_10 rfl ?_
      refine j_iconst (pc := 11) (v := 3) O dX2_isAnswer_11 (by decide) ?_
      refine j_icmp_gt (pc := 12) (tgt := 19) O dX2_isAnswer_12 (by decide) ?_ ?_
      · refine j_iconst (pc := 19) (v := 0) O dX2_isAnswer_19 (by decide) ?_
        exact j_z0 (pc := 20) O dX2_isAnswer_20
      · refine j_iconst (pc := 15) (v := 1) O dX2_isAnswer_15 (by decide) ?_
        refine j_goto (pc := 16) (tgt := 20) O dX2_isAnswer_16 (by decide) ?_
        exact j_z1 (pc := 20) O dX2_isAnswer_20
theorem sp_X2_isAnswer {G : wn_G} {ad : Nat → Nat} {x1 : Int32} {M : Mm} {r : Int32} {M1 : Mm} (h : f_X2_isAnswer x1 M = some (r, M1)) : Sp G S1 ad mX2_isAnswer 2 [.ref (ad 6), .int x1] M M1 (some (.int r)) :=
  sp_intro (own := RX2) (by decide +kernel) rfl (Nat.le_of_ble_eq_true rfl) (fun X O T => jf_X2_isAnswer O (Nat.le_refl _) x1 M (r, M1) h T)
def f_X2_sits (x1 : Int32) (M : Mm) : Option (Int32 × Mm) :=
  bd (f_X3_has_1 x1 M) fun r2 M1 =>
  if r2 = 0 then
    some (0, M1)
  else
    if x1 = (M1.1 6 7) then
      some (0, M1)
    else
      some (1, M1)
set_option maxRecDepth 100000 in
set_option maxHeartbeats 4000000 in
theorem jf_X2_sits {G : wn_G} {ad : Nat → Nat} {X : wn_X} {d : Nat} (O : Ok G RX2 cX2_sits 2 d X) (hd0 : 2 ≤ d) (x1 : Int32) (M : Mm) : JW G S1 ad X 0 [(0, .ref (ad 6)), (1, .int x1)] [] M (f_X2_sits x1 M) (Krz G S1 ad X) := by
  unfold f_X2_sits
  refine j_aload_n (pc := 0) O 0 dX2_sits_0 rfl ?_
  refine j_getf (pc := 1) (v := .ref (ad 1)) O 6 0 dX2_sits_1 fl_X2_36 so_S1_6 rfl rfl ?_
  refine j_iload_n (pc := 4) O 1 dX2_sits_4 rfl ?_
  refine j_callVi (pc := 5) (dc := 1) (As := [.int x1]) (rest := []) O 1 (fun r M1 h => sp_X3_has_1 h) dX2_sits_5 mv_X3_has lm_X2_155 so_S1_1 rfl rfl (Nat.le_of_ble_eq_true rfl) (Nat.le_trans (Nat.le_of_ble_eq_true rfl) hd0) (fun r2 M1 => ?_)
  refine j_if_eq (pc := 8) (tgt := 23) O dX2_sits_8 (by decide) ?_ ?_
  · refine j_iconst (pc := 23) (v := 0) O dX2_sits_23 (by decide) ?_
    exact j_z0 (pc := 24) O dX2_sits_24
  · refine j_iload_n (pc := 11) O 1 dX2_sits_11 rfl ?_
    refine j_aload_n (pc := 12) O 0 dX2_sits_12 rfl ?_
    refine j_getf (pc := 13) (v := .int (M1.1 6 7)) O 6 7 dX2_sits_13 fl_X2_71 so_S1_6 rfl rfl ?_
    refine j_icmp_eq (pc := 16) (tgt := 23) O dX2_sits_16 (by decide) ?_ ?_
    · refine j_iconst (pc := 23) (v := 0) O dX2_sits_23 (by decide) ?_
      exact j_z0 (pc := 24) O dX2_sits_24
    · refine j_iconst (pc := 19) (v := 1) O dX2_sits_19 (by decide) ?_
      refine j_goto (pc := 20) (tgt := 24) O dX2_sits_20 (by decide) ?_
      exact j_z1 (pc := 24) O dX2_sits_24
theorem sp_X2_sits {G : wn_G} {ad : Nat → Nat} {x1 : Int32} {M : Mm} {r : Int32} {M1 : Mm} (h : f_X2_sits x1 M = some (r, M1)) : Sp G S1 ad mX2_sits 2 [.ref (ad 6), .int x1] M M1 (some (.int r)) :=
  sp_intro (own := RX2) (by decide +kernel) rfl (Nat.le_of_ble_eq_true rfl) (fun X O T => jf_X2_sits O (Nat.le_refl _) x1 M (r, M1) h T)
def h_X2_pass_2 (G : wn_G) (ad : Nat → Nat) (X : wn_X) (x1 : Int32) : Int32 × Mm → Prop := fun s => PW G S1 ad X 2 [(0, .ref (ad 6)), (1, .int x1), (2, .int s.1)] [] s.2
def f_X2_pass_b2 (x1 : Int32) (x2 : Int32) (M : Mm) : Option ((Int32 × Mm) ⊕ (Mm)) :=
  if (5 : Int32) ≤ x2 then
    ex (
    some M)
  else
    bd (f_X2_sits x2 M) fun r2 M1 =>
    if r2 = 0 then
      bi (x2 + (1 : Int32)) fun y3 =>
      some (.inl (y3, M1))
    else
      gd (bin x2 5 = true) inferInstance <|
      gd (bin x2 5 = true) inferInstance <|
      if (M1.1 9 (Int32.toNatClampNeg x2)) ≤ (M1.1 29 (Int32.toNatClampNeg x2)) then
        bi (x2 + (1 : Int32)) fun y4 =>
        some (.inl (y4, M1))
      else
        gd (bin x2 5 = true) inferInstance <|
        if x1 < (M1.1 31 (Int32.toNatClampNeg x2)) then
          bi (x2 + (1 : Int32)) fun y5 =>
          some (.inl (y5, M1))
        else
          gd (bin x2 5 = true) inferInstance <|
          gd (bin x2 5 = true) inferInstance <| bm (ms M1 30 (Int32.toNatClampNeg x2) ((M1.1 30 (Int32.toNatClampNeg x2)) + (1 : Int32))) fun M6 =>
          bd (f_X2_hungers x2 x1 M6) fun r8 M7 =>
          bm (ms M7 6 12 ((M6.1 6 12) + r8)) fun M9 =>
          bi (x2 + (1 : Int32)) fun y10 =>
          some (.inl (y10, M9))
set_option maxRecDepth 100000 in
set_option maxHeartbeats 4000000 in
theorem jf_X2_pass_b2 {G : wn_G} {ad : Nat → Nat} {X : wn_X} {d : Nat} (O : Ok G RX2 cX2_pass 3 d X) (hd0 : 4 ≤ d) (x1 : Int32) (x2 : Int32) (M : Mm) : JW G S1 ad X 2 [(0, .ref (ad 6)), (1, .int x1), (2, .int x2)] [] M (f_X2_pass_b2 x1 x2 M) (Kl (h_X2_pass_2 G ad X x1) (Krv G S1 ad X)) := by
  unfold f_X2_pass_b2
  refine j_iload_n (pc := 2) O 2 dX2_pass_2 rfl ?_
  refine j_iconst (pc := 3) (v := 5) O dX2_pass_3 (by decide) ?_
  refine j_icmp_ge (pc := 4) (tgt := 74) O dX2_pass_4 (by decide) ?_ ?_
  · refine jw_ex ?_
    exact j_vret (pc := 74) O dX2_pass_74
  · refine j_aload_n (pc := 7) O 0 dX2_pass_7 rfl ?_
    refine j_iload_n (pc := 8) O 2 dX2_pass_8 rfl ?_
    refine j_callVi (pc := 9) (dc := 2) (As := [.int x2]) (rest := []) O 6 (fun r M1 h => sp_X2_sits h) dX2_pass_9 mv_X2_sits lm_X2_145 so_S1_6 rfl rfl (Nat.le_of_ble_eq_true rfl) (Nat.le_trans (Nat.le_of_ble_eq_true rfl) hd0) (fun r2 M1 => ?_)
    refine j_if_eq (pc := 12) (tgt := 68) O dX2_pass_12 (by decide) ?_ ?_
    · refine j_iinc (pc := 68) (v := 1) (L2 := fun y => [(2, .int y), (0, .ref (ad 6)), (1, .int x1)]) O 2 dX2_pass_68 rfl (by decide) (by decide) (fun _ => rfl) (fun y3 => ?_)
      refine j_goto (pc := 71) (tgt := 2) O dX2_pass_71 (by decide) ?_
      exact jw_next (fun hh => pw_sub [1, 2, 0] rfl hh)
    · refine j_aload_n (pc := 15) O 0 dX2_pass_15 rfl ?_
      refine j_getf (pc := 16) (v := .ref (ad 29)) O 6 8 dX2_pass_16 fl_X2_24 so_S1_6 rfl rfl ?_
      refine j_iload_n (pc := 19) O 2 dX2_pass_19 rfl ?_
      refine j_iald (pc := 20) O 29 dX2_pass_20 so_S1_29 ?_
      refine j_aload_n (pc := 21) O 0 dX2_pass_21 rfl ?_
      refine j_getf (pc := 22) (v := .ref (ad 1)) O 6 0 dX2_pass_22 fl_X2_36 so_S1_6 rfl rfl ?_
      refine j_getf (pc := 25) (v := .ref (ad 9)) O 1 6 dX2_pass_25 fl_X2_149 so_S1_1 rfl rfl ?_
      refine j_iload_n (pc := 28) O 2 dX2_pass_28 rfl ?_
      refine j_iald (pc := 29) O 9 dX2_pass_29 so_S1_9 ?_
      refine j_icmp_ge (pc := 30) (tgt := 68) O dX2_pass_30 (by decide) ?_ ?_
      · refine j_iinc (pc := 68) (v := 1) (L2 := fun y => [(2, .int y), (0, .ref (ad 6)), (1, .int x1)]) O 2 dX2_pass_68 rfl (by decide) (by decide) (fun _ => rfl) (fun y4 => ?_)
        refine j_goto (pc := 71) (tgt := 2) O dX2_pass_71 (by decide) ?_
        exact jw_next (fun hh => pw_sub [1, 2, 0] rfl hh)
      · refine j_aload_n (pc := 33) O 0 dX2_pass_33 rfl ?_
        refine j_getf (pc := 34) (v := .ref (ad 31)) O 6 10 dX2_pass_34 fl_X2_30 so_S1_6 rfl rfl ?_
        refine j_iload_n (pc := 37) O 2 dX2_pass_37 rfl ?_
        refine j_iald (pc := 38) O 31 dX2_pass_38 so_S1_31 ?_
        refine j_iload_n (pc := 39) O 1 dX2_pass_39 rfl ?_
        refine j_icmp_gt (pc := 40) (tgt := 68) O dX2_pass_40 (by decide) ?_ ?_
        · refine j_iinc (pc := 68) (v := 1) (L2 := fun y => [(2, .int y), (0, .ref (ad 6)), (1, .int x1)]) O 2 dX2_pass_68 rfl (by decide) (by decide) (fun _ => rfl) (fun y5 => ?_)
          refine j_goto (pc := 71) (tgt := 2) O dX2_pass_71 (by decide) ?_
          exact jw_next (fun hh => pw_sub [1, 2, 0] rfl hh)
        · refine j_aload_n (pc := 43) O 0 dX2_pass_43 rfl ?_
          refine j_getf (pc := 44) (v := .ref (ad 30)) O 6 9 dX2_pass_44 fl_X2_27 so_S1_6 rfl rfl ?_
          refine j_iload_n (pc := 47) O 2 dX2_pass_47 rfl ?_
          refine j_dup2 (pc := 48) O dX2_pass_48 rfl rfl ?_
          refine j_iald (pc := 49) O 30 dX2_pass_49 so_S1_30 ?_
          refine j_iconst (pc := 50) (v := 1) O dX2_pass_50 (by decide) ?_
          refine j_iadd (pc := 51) O dX2_pass_51 ?_
          refine j_iast (pc := 52) O 30 dX2_pass_52 so_S1_30 (fun M6 => ?_)
          refine j_aload_n (pc := 53) O 0 dX2_pass_53 rfl ?_
          refine j_dup (pc := 54) O dX2_pass_54 rfl ?_
          refine j_getf (pc := 55) (v := .int (M6.1 6 12)) O 6 12 dX2_pass_55 fl_X2_111 so_S1_6 rfl rfl ?_
          refine j_aload_n (pc := 58) O 0 dX2_pass_58 rfl ?_
          refine j_iload_n (pc := 59) O 2 dX2_pass_59 rfl ?_
          refine j_iload_n (pc := 60) O 1 dX2_pass_60 rfl ?_
          refine j_callVi (pc := 61) (dc := 3) (As := [.int x2, .int x1]) (rest := [.int (M6.1 6 12), .ref (ad 6)]) O 6 (fun r M1 h => sp_X2_hungers h) dX2_pass_61 mv_X2_hungers lm_X2_152 so_S1_6 rfl rfl (Nat.le_of_ble_eq_true rfl) (Nat.le_trans (Nat.le_of_ble_eq_true rfl) hd0) (fun r8 M7 => ?_)
          refine j_iadd (pc := 64) O dX2_pass_64 ?_
          refine j_puti (pc := 65) O 6 12 dX2_pass_65 fl_X2_111 so_S1_6 ft_X2_12 rfl (fun M9 => ?_)
          refine j_iinc (pc := 68) (v := 1) (L2 := fun y => [(2, .int y), (0, .ref (ad 6)), (1, .int x1)]) O 2 dX2_pass_68 rfl (by decide) (by decide) (fun _ => rfl) (fun y10 => ?_)
          refine j_goto (pc := 71) (tgt := 2) O dX2_pass_71 (by decide) ?_
          exact jw_next (fun hh => pw_sub [1, 2, 0] rfl hh)
def f_X2_pass (x1 : Int32) (M : Mm) : Option (Mm) :=
  iter (fun s => f_X2_pass_b2 x1 s.1 s.2) fuel ((0 : Int32), M)
set_option maxRecDepth 100000 in
set_option maxHeartbeats 4000000 in
theorem jf_X2_pass {G : wn_G} {ad : Nat → Nat} {X : wn_X} {d : Nat} (O : Ok G RX2 cX2_pass 3 d X) (hd0 : 4 ≤ d) (x1 : Int32) (M : Mm) : JW G S1 ad X 0 [(0, .ref (ad 6)), (1, .int x1)] [] M (f_X2_pass x1 M) (Krv G S1 ad X) := by
  unfold f_X2_pass
  refine j_iconst (pc := 0) (v := 0) O dX2_pass_0 (by decide) ?_
  refine j_istore_n (pc := 1) (L' := [(2, .int (0 : Int32)), (0, .ref (ad 6)), (1, .int x1)]) O dX2_pass_1 (by decide) rfl ?_
  exact jw_iter (hd := h_X2_pass_2 G ad X x1) (fun hh => pw_sub [1, 2, 0] rfl hh) (fun s => jf_X2_pass_b2 O hd0 x1 s.1 s.2)
theorem sp_X2_pass {G : wn_G} {ad : Nat → Nat} {x1 : Int32} {M M1 : Mm} (h : f_X2_pass x1 M = some M1) : Sp G S1 ad mX2_pass 4 [.ref (ad 6), .int x1] M M1 none :=
  sp_intro (own := RX2) (by decide +kernel) rfl (Nat.le_of_ble_eq_true rfl) (fun X O T => jf_X2_pass O (Nat.le_refl _) x1 M M1 h T)
def h_X2_firstOfLeast_6 (G : wn_G) (ad : Nat → Nat) (X : wn_X) : Int32 × Int32 × Int32 × Mm → Prop := fun s => PW G S1 ad X 6 [(0, .ref (ad 6)), (1, .int s.1), (2, .int s.2.1), (3, .int s.2.2.1)] [] s.2.2.2
def f_X2_firstOfLeast_j34 (x3 : Int32) (M : Mm) : Option ((Int32 × Int32 × Int32 × Mm) ⊕ (Int32 × Mm)) :=
  gd (bin x3 5 = true) inferInstance <|
  bi (M.1 29 (Int32.toNatClampNeg x3)) fun y4 =>
  bi (x3 + (1 : Int32)) fun y5 =>
  some (.inl (x3, y4, y5, M))
set_option maxRecDepth 100000 in
set_option maxHeartbeats 4000000 in
theorem jf_X2_firstOfLeast_j34 {G : wn_G} {ad : Nat → Nat} {X : wn_X} {d : Nat} (O : Ok G RX2 cX2_firstOfLeast 4 d X) (hd0 : 3 ≤ d) (x3 : Int32) (M : Mm) : JW G S1 ad X 34 [(0, .ref (ad 6)), (3, .int x3)] [] M (f_X2_firstOfLeast_j34 x3 M) (Kl (h_X2_firstOfLeast_6 G ad X) (Kri G S1 ad X)) := by
  unfold f_X2_firstOfLeast_j34
  refine j_iload_n (pc := 34) O 1 dX2_firstOfLeast_34 rfl ?_
  refine j_istore_n (pc := 35) (L' := [(1, .int x3), (0, .ref (ad 6)), (3, .int x3)]) O dX2_firstOfLeast_35 (by decide) rfl ?_
  refine j_aload_n (pc := 36) O 1 dX2_firstOfLeast_36 rfl ?_
  refine j_getf (pc := 37) (v := .ref (ad 29)) O 6 8 dX2_firstOfLeast_37 fl_X2_24 so_S1_6 rfl rfl ?_
  refine j_iload_n (pc := 40) O 2 dX2_firstOfLeast_40 rfl ?_
  refine j_iald (pc := 41) O 29 dX2_firstOfLeast_41 so_S1_29 ?_
  refine jw_bi fun y4 => ?_
  refine j_istore_n (pc := 42) (L' := [(2, .int y4), (1, .int x3), (0, .ref (ad 6)), (3, .int x3)]) O dX2_firstOfLeast_42 (by decide) rfl ?_
  refine j_iinc (pc := 43) (v := 1) (L2 := fun y => [(3, .int y), (2, .int y4), (1, .int x3), (0, .ref (ad 6))]) O 3 dX2_firstOfLeast_43 rfl (by decide) (by decide) (fun _ => rfl) (fun y5 => ?_)
  refine j_goto (pc := 46) (tgt := 6) O dX2_firstOfLeast_46 (by decide) ?_
  exact jw_next (fun hh => pw_sub [3, 2, 1, 0] rfl hh)
def f_X2_firstOfLeast_b6 (x1 : Int32) (x2 : Int32) (x3 : Int32) (M : Mm) : Option ((Int32 × Int32 × Int32 × Mm) ⊕ (Int32 × Mm)) :=
  if (5 : Int32) ≤ x3 then
    ex (
    some (x1, M))
  else
    bd (f_X2_sits x3 M) fun r2 M1 =>
    if r2 = 0 then
      bi (x3 + (1 : Int32)) fun y3 =>
      some (.inl (x1, x2, y3, M1))
    else
      if x1 = (-1 : Int32) then
        f_X2_firstOfLeast_j34 x3 M1
      else
        gd (bin x3 5 = true) inferInstance <|
        if x2 ≤ (M1.1 29 (Int32.toNatClampNeg x3)) then
          bi (x3 + (1 : Int32)) fun y6 =>
          some (.inl (x1, x2, y6, M1))
        else
          f_X2_firstOfLeast_j34 x3 M1
set_option maxRecDepth 100000 in
set_option maxHeartbeats 4000000 in
theorem jf_X2_firstOfLeast_b6 {G : wn_G} {ad : Nat → Nat} {X : wn_X} {d : Nat} (O : Ok G RX2 cX2_firstOfLeast 4 d X) (hd0 : 3 ≤ d) (x1 : Int32) (x2 : Int32) (x3 : Int32) (M : Mm) : JW G S1 ad X 6 [(0, .ref (ad 6)), (1, .int x1), (2, .int x2), (3, .int x3)] [] M (f_X2_firstOfLeast_b6 x1 x2 x3 M) (Kl (h_X2_firstOfLeast_6 G ad X) (Kri G S1 ad X)) := by
  unfold f_X2_firstOfLeast_b6
  refine j_iload_n (pc := 6) O 3 dX2_firstOfLeast_6 rfl ?_
  refine j_iconst (pc := 7) (v := 5) O dX2_firstOfLeast_7 (by decide) ?_
  refine j_icmp_ge (pc := 8) (tgt := 49) O dX2_firstOfLeast_8 (by decide) ?_ ?_
  · refine jw_ex ?_
    refine j_iload_n (pc := 49) O 1 dX2_firstOfLeast_49 rfl ?_
    exact j_iret (pc := 50) O dX2_firstOfLeast_50
  · refine j_aload_n (pc := 11) O 0 dX2_firstOfLeast_11 rfl ?_
    refine j_iload_n (pc := 12) O 3 dX2_firstOfLeast_12 rfl ?_
    refine j_callVi (pc := 13) (dc := 2) (As := [.int x3]) (rest := []) O 6 (fun r M1 h => sp_X2_sits h) dX2_firstOfLeast_13 mv_X2_sits lm_X2_145 so_S1_6 rfl rfl (Nat.le_of_ble_eq_true rfl) (Nat.le_trans (Nat.le_of_ble_eq_true rfl) hd0) (fun r2 M1 => ?_)
    refine j_if_eq (pc := 16) (tgt := 43) O dX2_firstOfLeast_16 (by decide) ?_ ?_
    · refine j_iinc (pc := 43) (v := 1) (L2 := fun y => [(3, .int y), (0, .ref (ad 6)), (1, .int x1), (2, .int x2)]) O 3 dX2_firstOfLeast_43 rfl (by decide) (by decide) (fun _ => rfl) (fun y3 => ?_)
      refine j_goto (pc := 46) (tgt := 6) O dX2_firstOfLeast_46 (by decide) ?_
      exact jw_next (fun hh => pw_sub [1, 2, 3, 0] rfl hh)
    · refine j_iload_n (pc := 19) O 1 dX2_firstOfLeast_19 rfl ?_
      refine j_iconst (pc := 20) (v := -1) O dX2_firstOfLeast_20 (by decide) ?_
      refine j_icmp_eq (pc := 21) (tgt := 34) O dX2_firstOfLeast_21 (by decide) ?_ ?_
      · exact jw_sub [0, 3] rfl (jf_X2_firstOfLeast_j34 O hd0 x3 M1)
      · refine j_aload_n (pc := 24) O 0 dX2_firstOfLeast_24 rfl ?_
        refine j_getf (pc := 25) (v := .ref (ad 29)) O 6 8 dX2_firstOfLeast_25 fl_X2_24 so_S1_6 rfl rfl ?_
        refine j_iload_n (pc := 28) O 3 dX2_firstOfLeast_28 rfl ?_
        refine j_iald (pc := 29) O 29 dX2_firstOfLeast_29 so_S1_29 ?_
        refine j_iload_n (pc := 30) O 2 dX2_firstOfLeast_30 rfl ?_
        refine j_icmp_ge (pc := 31) (tgt := 43) O dX2_firstOfLeast_31 (by decide) ?_ ?_
        · refine j_iinc (pc := 43) (v := 1) (L2 := fun y => [(3, .int y), (0, .ref (ad 6)), (1, .int x1), (2, .int x2)]) O 3 dX2_firstOfLeast_43 rfl (by decide) (by decide) (fun _ => rfl) (fun y6 => ?_)
          refine j_goto (pc := 46) (tgt := 6) O dX2_firstOfLeast_46 (by decide) ?_
          exact jw_next (fun hh => pw_sub [1, 2, 3, 0] rfl hh)
        · exact jw_sub [0, 3] rfl (jf_X2_firstOfLeast_j34 O hd0 x3 M1)
def f_X2_firstOfLeast (M : Mm) : Option (Int32 × Mm) :=
  iter (fun s => f_X2_firstOfLeast_b6 s.1 s.2.1 s.2.2.1 s.2.2.2) fuel ((-1 : Int32), (0 : Int32), (0 : Int32), M)
set_option maxRecDepth 100000 in
set_option maxHeartbeats 4000000 in
theorem jf_X2_firstOfLeast {G : wn_G} {ad : Nat → Nat} {X : wn_X} {d : Nat} (O : Ok G RX2 cX2_firstOfLeast 4 d X) (hd0 : 3 ≤ d) (M : Mm) : JW G S1 ad X 0 [(0, .ref (ad 6))] [] M (f_X2_firstOfLeast M) (Kri G S1 ad X) := by
  unfold f_X2_firstOfLeast
  refine j_iconst (pc := 0) (v := -1) O dX2_firstOfLeast_0 (by decide) ?_
  refine j_istore_n (pc := 1) (L' := [(1, .int (-1 : Int32)), (0, .ref (ad 6))]) O dX2_firstOfLeast_1 (by decide) rfl ?_
  refine j_iconst (pc := 2) (v := 0) O dX2_firstOfLeast_2 (by decide) ?_
  refine j_istore_n (pc := 3) (L' := [(2, .int (0 : Int32)), (1, .int (-1 : Int32)), (0, .ref (ad 6))]) O dX2_firstOfLeast_3 (by decide) rfl ?_
  refine j_iconst (pc := 4) (v := 0) O dX2_firstOfLeast_4 (by decide) ?_
  refine j_istore_n (pc := 5) (L' := [(3, .int (0 : Int32)), (2, .int (0 : Int32)), (1, .int (-1 : Int32)), (0, .ref (ad 6))]) O dX2_firstOfLeast_5 (by decide) rfl ?_
  exact jw_iter (hd := h_X2_firstOfLeast_6 G ad X) (fun hh => pw_sub [3, 2, 1, 0] rfl hh) (fun s => jf_X2_firstOfLeast_b6 O hd0 s.1 s.2.1 s.2.2.1 s.2.2.2)
theorem sp_X2_firstOfLeast {G : wn_G} {ad : Nat → Nat} {M : Mm} {r : Int32} {M1 : Mm} (h : f_X2_firstOfLeast M = some (r, M1)) : Sp G S1 ad mX2_firstOfLeast 3 [.ref (ad 6)] M M1 (some (.int r)) :=
  sp_intro (own := RX2) (by decide +kernel) rfl (Nat.le_of_ble_eq_true rfl) (fun X O T => jf_X2_firstOfLeast O (Nat.le_refl _) M (r, M1) h T)
def f_X2_give_j158 (s0 : Int32) (M : Mm) : Option (Mm) :=
  bm (ms M 6 11 s0) fun M17 =>
  some M17
set_option maxRecDepth 100000 in
set_option maxHeartbeats 4000000 in
theorem jf_X2_give_j158 {G : wn_G} {ad : Nat → Nat} {X : wn_X} {d : Nat} (O : Ok G RX2 cX2_give 6 d X) (hd0 : 4 ≤ d) (s0 : Int32) (M : Mm) : JW G S1 ad X 158 [] [.int s0, .ref (ad 6)] M (f_X2_give_j158 s0 M) (Krv G S1 ad X) := by
  unfold f_X2_give_j158
  refine j_puti (pc := 158) O 6 11 dX2_give_158 fl_X2_83 so_S1_6 ft_X2_11 rfl (fun M17 => ?_)
  exact j_vret (pc := 161) O dX2_give_161
def f_X2_give (x1 : Int32) (x2 : Int32) (x3 : Int32) (M : Mm) : Option (Mm) :=
  bd (f_X2_sits x3 M) fun r2 M1 =>
  if r2 = 0 then
    bm (ms M1 6 15 ((M1.1 6 15) + (1 : Int32))) fun M18 =>
    some M18
  else
    gd (bin x3 5 = true) inferInstance <|
    bi (imx x2 (M1.1 31 (Int32.toNatClampNeg x3))) fun y3 =>
    gd (bin x3 5 = true) inferInstance <|
    gd (bin x3 5 = true) inferInstance <|
    gd (bin x1 12 = true) inferInstance <|
    bv (f_X4_name x1 y3 (M1.1 29 (Int32.toNatClampNeg x3)) (M1.1 9 (Int32.toNatClampNeg x3)) x3 (y3 - (M1.1 25 (Int32.toNatClampNeg x1))) M1) fun M4 =>
    bd (f_X4_valueOf (M4.1 1 2) (2 : Int32) M4) fun r6 M5 =>
    bd (f_X2_within (0 : Int32) r6 (99 : Int32) M5) fun r8 M7 =>
    bm (ms M7 6 12 ((M4.1 6 12) - r8)) fun M9 =>
    gd (bin x3 5 = true) inferInstance <|
    gd (bin x3 5 = true) inferInstance <| bm (ms M9 29 (Int32.toNatClampNeg x3) ((M9.1 29 (Int32.toNatClampNeg x3)) + (1 : Int32))) fun M10 =>
    bm (ms M10 6 14 ((M10.1 6 14) + (1 : Int32))) fun M11 =>
    gd (bin x3 5 = true) inferInstance <|
    gd (bin x3 5 = true) inferInstance <| bm (ms M11 31 (Int32.toNatClampNeg x3) (y3 + (M11.1 28 (Int32.toNatClampNeg x3)))) fun M12 =>
    bd (f_X2_firstOfLeast M12) fun r14 M13 =>
    bd (f_X2_sits r14 M13) fun r16 M15 =>
    if r16 = 0 then
      f_X2_give_j158 (0 : Int32) M15
    else
      gd (bin r14 5 = true) inferInstance <|
      f_X2_give_j158 (M15.1 29 (Int32.toNatClampNeg r14)) M15
set_option maxRecDepth 100000 in
set_option maxHeartbeats 4000000 in
theorem jf_X2_give {G : wn_G} {ad : Nat → Nat} {X : wn_X} {d : Nat} (O : Ok G RX2 cX2_give 6 d X) (hd0 : 4 ≤ d) (x1 : Int32) (x2 : Int32) (x3 : Int32) (M : Mm) : JW G S1 ad X 0 [(0, .ref (ad 6)), (1, .int x1), (2, .int x2), (3, .int x3)] [] M (f_X2_give x1 x2 x3 M) (Krv G S1 ad X) := by
  unfold f_X2_give
  refine j_aload_n (pc := 0) O 0 dX2_give_0 rfl ?_
  refine j_iload_n (pc := 1) O 3 dX2_give_1 rfl ?_
  refine j_callVi (pc := 2) (dc := 2) (As := [.int x3]) (rest := []) O 6 (fun r M1 h => sp_X2_sits h) dX2_give_2 mv_X2_sits lm_X2_145 so_S1_6 rfl rfl (Nat.le_of_ble_eq_true rfl) (Nat.le_trans (Nat.le_of_ble_eq_true rfl) hd0) (fun r2 M1 => ?_)
  refine j_if_ne (pc := 5) (tgt := 19) O dX2_give_5 (by decide) ?_ ?_
  · refine j_aload_n (pc := 8) O 0 dX2_give_8 rfl ?_
    refine j_dup (pc := 9) O dX2_give_9 rfl ?_
    refine j_getf (pc := 10) (v := .int (M1.1 6 15)) O 6 15 dX2_give_10 fl_X2_120 so_S1_6 rfl rfl ?_
    refine j_iconst (pc := 13) (v := 1) O dX2_give_13 (by decide) ?_
    refine j_iadd (pc := 14) O dX2_give_14 ?_
    refine j_puti (pc := 15) O 6 15 dX2_give_15 fl_X2_120 so_S1_6 ft_X2_15 rfl (fun M18 => ?_)
    exact j_vret (pc := 18) O dX2_give_18
  · refine j_iload_n (pc := 19) O 2 dX2_give_19 rfl ?_
    refine j_aload_n (pc := 20) O 0 dX2_give_20 rfl ?_
    refine j_getf (pc := 21) (v := .ref (ad 31)) O 6 10 dX2_give_21 fl_X2_30 so_S1_6 rfl rfl ?_
    refine j_iload_n (pc := 24) O 3 dX2_give_24 rfl ?_
    refine j_iald (pc := 25) O 31 dX2_give_25 so_S1_31 ?_
    refine j_max (pc := 26) O dX2_give_26 gl_X2_92 gt_Math_max gi_java_lang_Math gc_Math_max (Nat.le_trans (Nat.le_of_ble_eq_true rfl) hd0) (Nat.le_of_ble_eq_true rfl) ?_
    refine jw_bi fun y3 => ?_
    refine j_istore (pc := 29) (L' := [(4, .int y3), (0, .ref (ad 6)), (1, .int x1), (2, .int x2), (3, .int x3)]) O dX2_give_29 (by decide) rfl ?_
    refine j_aload_n (pc := 31) O 1 dX2_give_31 rfl ?_
    refine j_getf (pc := 32) (v := .ref (ad 4)) O 6 1 dX2_give_32 fl_X2_40 so_S1_6 rfl rfl ?_
    refine j_iload_n (pc := 35) O 2 dX2_give_35 rfl ?_
    refine j_iload (pc := 36) O 0 dX2_give_36 rfl ?_
    refine j_aload_n (pc := 38) O 1 dX2_give_38 rfl ?_
    refine j_getf (pc := 39) (v := .ref (ad 29)) O 6 8 dX2_give_39 fl_X2_24 so_S1_6 rfl rfl ?_
    refine j_iload_n (pc := 42) O 4 dX2_give_42 rfl ?_
    refine j_iald (pc := 43) O 29 dX2_give_43 so_S1_29 ?_
    refine j_aload_n (pc := 44) O 1 dX2_give_44 rfl ?_
    refine j_getf (pc := 45) (v := .ref (ad 1)) O 6 0 dX2_give_45 fl_X2_36 so_S1_6 rfl rfl ?_
    refine j_getf (pc := 48) (v := .ref (ad 9)) O 1 6 dX2_give_48 fl_X2_149 so_S1_1 rfl rfl ?_
    refine j_iload_n (pc := 51) O 4 dX2_give_51 rfl ?_
    refine j_iald (pc := 52) O 9 dX2_give_52 so_S1_9 ?_
    refine j_iload_n (pc := 53) O 4 dX2_give_53 rfl ?_
    refine j_iload (pc := 54) O 0 dX2_give_54 rfl ?_
    refine j_aload_n (pc := 56) O 1 dX2_give_56 rfl ?_
    refine j_getf (pc := 57) (v := .ref (ad 25)) O 6 2 dX2_give_57 fl_X2_9 so_S1_6 rfl rfl ?_
    refine j_iload_n (pc := 60) O 2 dX2_give_60 rfl ?_
    refine j_iald (pc := 61) O 25 dX2_give_61 so_S1_25 ?_
    refine j_isub (pc := 62) O dX2_give_62 ?_
    refine j_callVv (pc := 63) (dc := 1) (As := [.int x1, .int y3, .int (M1.1 29 (Int32.toNatClampNeg x3)), .int (M1.1 9 (Int32.toNatClampNeg x3)), .int x3, .int (y3 - (M1.1 25 (Int32.toNatClampNeg x1)))]) (rest := []) O 4 (fun M1 h => sp_X4_name h) dX2_give_63 mv_X4_name lm_X2_44 so_S1_4 rfl rfl (Nat.le_of_ble_eq_true rfl) (Nat.le_trans (Nat.le_of_ble_eq_true rfl) hd0) (fun M4 => ?_)
    refine j_aload_n (pc := 66) O 1 dX2_give_66 rfl ?_
    refine j_dup (pc := 67) O dX2_give_67 rfl ?_
    refine j_getf (pc := 68) (v := .int (M4.1 6 12)) O 6 12 dX2_give_68 fl_X2_111 so_S1_6 rfl rfl ?_
    refine j_iconst (pc := 71) (v := 0) O dX2_give_71 (by decide) ?_
    refine j_aload_n (pc := 72) O 1 dX2_give_72 rfl ?_
    refine j_getf (pc := 73) (v := .ref (ad 4)) O 6 1 dX2_give_73 fl_X2_40 so_S1_6 rfl rfl ?_
    refine j_aload_n (pc := 76) O 1 dX2_give_76 rfl ?_
    refine j_getf (pc := 77) (v := .ref (ad 1)) O 6 0 dX2_give_77 fl_X2_36 so_S1_6 rfl rfl ?_
    refine j_getf (pc := 80) (v := .int (M4.1 1 2)) O 1 2 dX2_give_80 fl_X2_50 so_S1_1 rfl rfl ?_
    refine j_iconst (pc := 83) (v := 2) O dX2_give_83 (by decide) ?_
    refine j_callVi (pc := 84) (dc := 2) (As := [.int (M4.1 1 2), .int (2 : Int32)]) (rest := [.int (0 : Int32), .int (M4.1 6 12), .ref (ad 6)]) O 4 (fun r M1 h => sp_X4_valueOf h) dX2_give_84 mv_X4_valueOf lm_X2_56 so_S1_4 rfl rfl (Nat.le_of_ble_eq_true rfl) (Nat.le_trans (Nat.le_of_ble_eq_true rfl) hd0) (fun r6 M5 => ?_)
    refine j_bipush (pc := 87) (v := 99) O dX2_give_87 (by decide) ?_
    refine j_callSi (pc := 89) (dc := 1) (As := [.int (0 : Int32), .int r6, .int (99 : Int32)]) (rest := [.int (M4.1 6 12), .ref (ad 6)]) O (fun r M1 h => sp_X2_within h) dX2_give_89 mst_X2_within lm_X2_60 rfl rfl (Nat.le_of_ble_eq_true rfl) (Nat.le_trans (Nat.le_of_ble_eq_true rfl) hd0) (fun r8 M7 => ?_)
    refine j_isub (pc := 92) O dX2_give_92 ?_
    refine j_puti (pc := 93) O 6 12 dX2_give_93 fl_X2_111 so_S1_6 ft_X2_12 rfl (fun M9 => ?_)
    refine j_aload_n (pc := 96) O 1 dX2_give_96 rfl ?_
    refine j_getf (pc := 97) (v := .ref (ad 29)) O 6 8 dX2_give_97 fl_X2_24 so_S1_6 rfl rfl ?_
    refine j_iload_n (pc := 100) O 4 dX2_give_100 rfl ?_
    refine j_dup2 (pc := 101) O dX2_give_101 rfl rfl ?_
    refine j_iald (pc := 102) O 29 dX2_give_102 so_S1_29 ?_
    refine j_iconst (pc := 103) (v := 1) O dX2_give_103 (by decide) ?_
    refine j_iadd (pc := 104) O dX2_give_104 ?_
    refine j_iast (pc := 105) O 29 dX2_give_105 so_S1_29 (fun M10 => ?_)
    refine j_aload_n (pc := 106) O 1 dX2_give_106 rfl ?_
    refine j_dup (pc := 107) O dX2_give_107 rfl ?_
    refine j_getf (pc := 108) (v := .int (M10.1 6 14)) O 6 14 dX2_give_108 fl_X2_117 so_S1_6 rfl rfl ?_
    refine j_iconst (pc := 111) (v := 1) O dX2_give_111 (by decide) ?_
    refine j_iadd (pc := 112) O dX2_give_112 ?_
    refine j_puti (pc := 113) O 6 14 dX2_give_113 fl_X2_117 so_S1_6 ft_X2_14 rfl (fun M11 => ?_)
    refine j_aload_n (pc := 116) O 1 dX2_give_116 rfl ?_
    refine j_getf (pc := 117) (v := .ref (ad 31)) O 6 10 dX2_give_117 fl_X2_30 so_S1_6 rfl rfl ?_
    refine j_iload_n (pc := 120) O 4 dX2_give_120 rfl ?_
    refine j_iload (pc := 121) O 0 dX2_give_121 rfl ?_
    refine j_aload_n (pc := 123) O 1 dX2_give_123 rfl ?_
    refine j_getf (pc := 124) (v := .ref (ad 28)) O 6 6 dX2_give_124 fl_X2_21 so_S1_6 rfl rfl ?_
    refine j_iload_n (pc := 127) O 4 dX2_give_127 rfl ?_
    refine j_iald (pc := 128) O 28 dX2_give_128 so_S1_28 ?_
    refine j_iadd (pc := 129) O dX2_give_129 ?_
    refine j_iast (pc := 130) O 31 dX2_give_130 so_S1_31 (fun M12 => ?_)
    refine j_aload_n (pc := 131) O 1 dX2_give_131 rfl ?_
    refine j_callVi (pc := 132) (dc := 3) (As := []) (rest := []) O 6 (fun r M1 h => sp_X2_firstOfLeast h) dX2_give_132 mv_X2_firstOfLeast lm_X2_138 so_S1_6 rfl rfl (Nat.le_of_ble_eq_true rfl) (Nat.le_trans (Nat.le_of_ble_eq_true rfl) hd0) (fun r14 M13 => ?_)
    refine j_istore (pc := 135) (L' := [(5, .int r14), (4, .int y3), (0, .ref (ad 6)), (1, .int x1), (2, .int x2), (3, .int x3)]) O dX2_give_135 (by decide) rfl ?_
    refine j_aload_n (pc := 137) O 2 dX2_give_137 rfl ?_
    refine j_aload_n (pc := 138) O 2 dX2_give_138 rfl ?_
    refine j_iload (pc := 139) O 0 dX2_give_139 rfl ?_
    refine j_callVi (pc := 141) (dc := 2) (As := [.int r14]) (rest := [.ref (ad 6)]) O 6 (fun r M1 h => sp_X2_sits h) dX2_give_141 mv_X2_sits lm_X2_145 so_S1_6 rfl rfl (Nat.le_of_ble_eq_true rfl) (Nat.le_trans (Nat.le_of_ble_eq_true rfl) hd0) (fun r16 M15 => ?_)
    refine j_if_eq (pc := 144) (tgt := 157) O dX2_give_144 (by decide) ?_ ?_
    · refine j_iconst (pc := 157) (v := 0) O dX2_give_157 (by decide) ?_
      exact jw_sub [] rfl (jf_X2_give_j158 O hd0 (0 : Int32) M15)
    · refine j_aload_n (pc := 147) O 2 dX2_give_147 rfl ?_
      refine j_getf (pc := 148) (v := .ref (ad 29)) O 6 8 dX2_give_148 fl_X2_24 so_S1_6 rfl rfl ?_
      refine j_iload (pc := 151) O 0 dX2_give_151 rfl ?_
      refine j_iald (pc := 153) O 29 dX2_give_153 so_S1_29 ?_
      refine j_goto (pc := 154) (tgt := 158) O dX2_give_154 (by decide) ?_
      exact jw_sub [] rfl (jf_X2_give_j158 O hd0 (M15.1 29 (Int32.toNatClampNeg r14)) M15)
theorem sp_X2_give {G : wn_G} {ad : Nat → Nat} {x1 : Int32} {x2 : Int32} {x3 : Int32} {M M1 : Mm} (h : f_X2_give x1 x2 x3 M = some M1) : Sp G S1 ad mX2_give 4 [.ref (ad 6), .int x1, .int x2, .int x3] M M1 none :=
  sp_intro (own := RX2) (by decide +kernel) rfl (Nat.le_of_ble_eq_true rfl) (fun X O T => jf_X2_give O (Nat.le_refl _) x1 x2 x3 M M1 h T)
def h_X2_hungriest_7 (G : wn_G) (ad : Nat → Nat) (X : wn_X) (x1 : Int32) : Int32 × Int32 × Int32 × Mm → Prop := fun s => PW G S1 ad X 7 [(0, .ref (ad 6)), (1, .int x1), (2, .int s.1), (3, .int s.2.1), (4, .int s.2.2.1)] [] s.2.2.2
def f_X2_hungriest_b7 (x1 : Int32) (x2 : Int32) (x3 : Int32) (x4 : Int32) (M : Mm) : Option ((Int32 × Int32 × Int32 × Mm) ⊕ (Int32 × Mm)) :=
  if (5 : Int32) ≤ x4 then
    ex (
    some (x2, M))
  else
    bd (f_X2_sits x4 M) fun r2 M1 =>
    if r2 = 0 then
      bi (x4 + (1 : Int32)) fun y3 =>
      some (.inl (x2, x3, y3, M1))
    else
      gd (bin x4 5 = true) inferInstance <|
      gd (bin x4 5 = true) inferInstance <|
      if (M1.1 9 (Int32.toNatClampNeg x4)) ≤ (M1.1 29 (Int32.toNatClampNeg x4)) then
        bi (x4 + (1 : Int32)) fun y4 =>
        some (.inl (x2, x3, y4, M1))
      else
        bd (f_X2_hungers x4 x1 M1) fun r6 M5 =>
        if x2 = (-1 : Int32) then
          bi (x4 + (1 : Int32)) fun y7 =>
          some (.inl (x4, r6, y7, M5))
        else
          if r6 ≤ x3 then
            bi (x4 + (1 : Int32)) fun y8 =>
            some (.inl (x2, x3, y8, M5))
          else
            bi (x4 + (1 : Int32)) fun y9 =>
            some (.inl (x4, r6, y9, M5))
set_option maxRecDepth 100000 in
set_option maxHeartbeats 4000000 in
theorem jf_X2_hungriest_b7 {G : wn_G} {ad : Nat → Nat} {X : wn_X} {d : Nat} (O : Ok G RX2 cX2_hungriest 6 d X) (hd0 : 4 ≤ d) (x1 : Int32) (x2 : Int32) (x3 : Int32) (x4 : Int32) (M : Mm) : JW G S1 ad X 7 [(0, .ref (ad 6)), (1, .int x1), (2, .int x2), (3, .int x3), (4, .int x4)] [] M (f_X2_hungriest_b7 x1 x2 x3 x4 M) (Kl (h_X2_hungriest_7 G ad X x1) (Kri G S1 ad X)) := by
  unfold f_X2_hungriest_b7
  refine j_iload (pc := 7) O 4 dX2_hungriest_7 rfl ?_
  refine j_iconst (pc := 9) (v := 5) O dX2_hungriest_9 (by decide) ?_
  refine j_icmp_ge (pc := 10) (tgt := 74) O dX2_hungriest_10 (by decide) ?_ ?_
  · refine jw_ex ?_
    refine j_iload_n (pc := 74) O 2 dX2_hungriest_74 rfl ?_
    exact j_iret (pc := 75) O dX2_hungriest_75
  · refine j_aload_n (pc := 13) O 0 dX2_hungriest_13 rfl ?_
    refine j_iload (pc := 14) O 4 dX2_hungriest_14 rfl ?_
    refine j_callVi (pc := 16) (dc := 2) (As := [.int x4]) (rest := []) O 6 (fun r M1 h => sp_X2_sits h) dX2_hungriest_16 mv_X2_sits lm_X2_145 so_S1_6 rfl rfl (Nat.le_of_ble_eq_true rfl) (Nat.le_trans (Nat.le_of_ble_eq_true rfl) hd0) (fun r2 M1 => ?_)
    refine j_if_eq (pc := 19) (tgt := 68) O dX2_hungriest_19 (by decide) ?_ ?_
    · refine j_iinc (pc := 68) (v := 1) (L2 := fun y => [(4, .int y), (0, .ref (ad 6)), (1, .int x1), (2, .int x2), (3, .int x3)]) O 4 dX2_hungriest_68 rfl (by decide) (by decide) (fun _ => rfl) (fun y3 => ?_)
      refine j_goto (pc := 71) (tgt := 7) O dX2_hungriest_71 (by decide) ?_
      exact jw_next (fun hh => pw_sub [1, 2, 3, 4, 0] rfl hh)
    · refine j_aload_n (pc := 22) O 0 dX2_hungriest_22 rfl ?_
      refine j_getf (pc := 23) (v := .ref (ad 29)) O 6 8 dX2_hungriest_23 fl_X2_24 so_S1_6 rfl rfl ?_
      refine j_iload (pc := 26) O 4 dX2_hungriest_26 rfl ?_
      refine j_iald (pc := 28) O 29 dX2_hungriest_28 so_S1_29 ?_
      refine j_aload_n (pc := 29) O 0 dX2_hungriest_29 rfl ?_
      refine j_getf (pc := 30) (v := .ref (ad 1)) O 6 0 dX2_hungriest_30 fl_X2_36 so_S1_6 rfl rfl ?_
      refine j_getf (pc := 33) (v := .ref (ad 9)) O 1 6 dX2_hungriest_33 fl_X2_149 so_S1_1 rfl rfl ?_
      refine j_iload (pc := 36) O 4 dX2_hungriest_36 rfl ?_
      refine j_iald (pc := 38) O 9 dX2_hungriest_38 so_S1_9 ?_
      refine j_icmp_ge (pc := 39) (tgt := 68) O dX2_hungriest_39 (by decide) ?_ ?_
      · refine j_iinc (pc := 68) (v := 1) (L2 := fun y => [(4, .int y), (0, .ref (ad 6)), (1, .int x1), (2, .int x2), (3, .int x3)]) O 4 dX2_hungriest_68 rfl (by decide) (by decide) (fun _ => rfl) (fun y4 => ?_)
        refine j_goto (pc := 71) (tgt := 7) O dX2_hungriest_71 (by decide) ?_
        exact jw_next (fun hh => pw_sub [1, 2, 3, 4, 0] rfl hh)
      · refine j_aload_n (pc := 42) O 0 dX2_hungriest_42 rfl ?_
        refine j_iload (pc := 43) O 4 dX2_hungriest_43 rfl ?_
        refine j_iload_n (pc := 45) O 1 dX2_hungriest_45 rfl ?_
        refine j_callVi (pc := 46) (dc := 3) (As := [.int x4, .int x1]) (rest := []) O 6 (fun r M1 h => sp_X2_hungers h) dX2_hungriest_46 mv_X2_hungers lm_X2_152 so_S1_6 rfl rfl (Nat.le_of_ble_eq_true rfl) (Nat.le_trans (Nat.le_of_ble_eq_true rfl) hd0) (fun r6 M5 => ?_)
        refine j_istore (pc := 49) (L' := [(5, .int r6), (0, .ref (ad 6)), (1, .int x1), (2, .int x2), (3, .int x3), (4, .int x4)]) O dX2_hungriest_49 (by decide) rfl ?_
        refine j_iload_n (pc := 51) O 3 dX2_hungriest_51 rfl ?_
        refine j_iconst (pc := 52) (v := -1) O dX2_hungriest_52 (by decide) ?_
        refine j_icmp_eq (pc := 53) (tgt := 62) O dX2_hungriest_53 (by decide) ?_ ?_
        · refine j_iload (pc := 62) O 5 dX2_hungriest_62 rfl ?_
          refine j_istore_n (pc := 64) (L' := [(2, .int x4), (5, .int r6), (0, .ref (ad 6)), (1, .int x1), (3, .int x3), (4, .int x4)]) O dX2_hungriest_64 (by decide) rfl ?_
          refine j_iload (pc := 65) O 1 dX2_hungriest_65 rfl ?_
          refine j_istore_n (pc := 67) (L' := [(3, .int r6), (2, .int x4), (5, .int r6), (0, .ref (ad 6)), (1, .int x1), (4, .int x4)]) O dX2_hungriest_67 (by decide) rfl ?_
          refine j_iinc (pc := 68) (v := 1) (L2 := fun y => [(4, .int y), (3, .int r6), (2, .int x4), (5, .int r6), (0, .ref (ad 6)), (1, .int x1)]) O 5 dX2_hungriest_68 rfl (by decide) (by decide) (fun _ => rfl) (fun y7 => ?_)
          refine j_goto (pc := 71) (tgt := 7) O dX2_hungriest_71 (by decide) ?_
          exact jw_next (fun hh => pw_sub [4, 5, 2, 1, 0] rfl hh)
        · refine j_iload (pc := 56) O 0 dX2_hungriest_56 rfl ?_
          refine j_iload_n (pc := 58) O 4 dX2_hungriest_58 rfl ?_
          refine j_icmp_le (pc := 59) (tgt := 68) O dX2_hungriest_59 (by decide) ?_ ?_
          · refine j_iinc (pc := 68) (v := 1) (L2 := fun y => [(4, .int y), (5, .int r6), (0, .ref (ad 6)), (1, .int x1), (2, .int x2), (3, .int x3)]) O 5 dX2_hungriest_68 rfl (by decide) (by decide) (fun _ => rfl) (fun y8 => ?_)
            refine j_goto (pc := 71) (tgt := 7) O dX2_hungriest_71 (by decide) ?_
            exact jw_next (fun hh => pw_sub [2, 3, 4, 5, 0] rfl hh)
          · refine j_iload (pc := 62) O 5 dX2_hungriest_62 rfl ?_
            refine j_istore_n (pc := 64) (L' := [(2, .int x4), (5, .int r6), (0, .ref (ad 6)), (1, .int x1), (3, .int x3), (4, .int x4)]) O dX2_hungriest_64 (by decide) rfl ?_
            refine j_iload (pc := 65) O 1 dX2_hungriest_65 rfl ?_
            refine j_istore_n (pc := 67) (L' := [(3, .int r6), (2, .int x4), (5, .int r6), (0, .ref (ad 6)), (1, .int x1), (4, .int x4)]) O dX2_hungriest_67 (by decide) rfl ?_
            refine j_iinc (pc := 68) (v := 1) (L2 := fun y => [(4, .int y), (3, .int r6), (2, .int x4), (5, .int r6), (0, .ref (ad 6)), (1, .int x1)]) O 5 dX2_hungriest_68 rfl (by decide) (by decide) (fun _ => rfl) (fun y9 => ?_)
            refine j_goto (pc := 71) (tgt := 7) O dX2_hungriest_71 (by decide) ?_
            exact jw_next (fun hh => pw_sub [4, 5, 2, 1, 0] rfl hh)
def f_X2_hungriest (x1 : Int32) (M : Mm) : Option (Int32 × Mm) :=
  iter (fun s => f_X2_hungriest_b7 x1 s.1 s.2.1 s.2.2.1 s.2.2.2) fuel ((-1 : Int32), (0 : Int32), (0 : Int32), M)
set_option maxRecDepth 100000 in
set_option maxHeartbeats 4000000 in
theorem jf_X2_hungriest {G : wn_G} {ad : Nat → Nat} {X : wn_X} {d : Nat} (O : Ok G RX2 cX2_hungriest 6 d X) (hd0 : 4 ≤ d) (x1 : Int32) (M : Mm) : JW G S1 ad X 0 [(0, .ref (ad 6)), (1, .int x1)] [] M (f_X2_hungriest x1 M) (Kri G S1 ad X) := by
  unfold f_X2_hungriest
  refine j_iconst (pc := 0) (v := -1) O dX2_hungriest_0 (by decide) ?_
  refine j_istore_n (pc := 1) (L' := [(2, .int (-1 : Int32)), (0, .ref (ad 6)), (1, .int x1)]) O dX2_hungriest_1 (by decide) rfl ?_
  refine j_iconst (pc := 2) (v := 0) O dX2_hungriest_2 (by decide) ?_
  refine j_istore_n (pc := 3) (L' := [(3, .int (0 : Int32)), (2, .int (-1 : Int32)), (0, .ref (ad 6)), (1, .int x1)]) O dX2_hungriest_3 (by decide) rfl ?_
  refine j_iconst (pc := 4) (v := 0) O dX2_hungriest_4 (by decide) ?_
  refine j_istore (pc := 5) (L' := [(4, .int (0 : Int32)), (3, .int (0 : Int32)), (2, .int (-1 : Int32)), (0, .ref (ad 6)), (1, .int x1)]) O dX2_hungriest_5 (by decide) rfl ?_
  exact jw_iter (hd := h_X2_hungriest_7 G ad X x1) (fun hh => pw_sub [3, 4, 2, 1, 0] rfl hh) (fun s => jf_X2_hungriest_b7 O hd0 x1 s.1 s.2.1 s.2.2.1 s.2.2.2)
theorem sp_X2_hungriest {G : wn_G} {ad : Nat → Nat} {x1 : Int32} {M : Mm} {r : Int32} {M1 : Mm} (h : f_X2_hungriest x1 M = some (r, M1)) : Sp G S1 ad mX2_hungriest 4 [.ref (ad 6), .int x1] M M1 (some (.int r)) :=
  sp_intro (own := RX2) (by decide +kernel) rfl (Nat.le_of_ble_eq_true rfl) (fun X O T => jf_X2_hungriest O (Nat.le_refl _) x1 M (r, M1) h T)
def h_X2_serve_2 (G : wn_G) (ad : Nat → Nat) (X : wn_X) (x1 : Int32) (x2 : Int32) : Int32 × Mm → Prop := fun s => PW G S1 ad X 2 [(0, .ref (ad 6)), (1, .int x1), (2, .int x2), (3, .int s.1)] [] s.2
def f_X2_serve_j91 (x1 : Int32) (x2 : Int32) (x3 : Int32) (x4 : Int32) (M : Mm) : Option ((Int32 × Mm) ⊕ (Mm)) :=
  bv (f_X2_give x3 x2 x4 M) fun M4 =>
  bi (x3 + (1 : Int32)) fun y5 =>
  some (.inl (y5, M4))
set_option maxRecDepth 100000 in
set_option maxHeartbeats 4000000 in
theorem jf_X2_serve_j91 {G : wn_G} {ad : Nat → Nat} {X : wn_X} {d : Nat} (O : Ok G RX2 cX2_serve 5 d X) (hd0 : 5 ≤ d) (x1 : Int32) (x2 : Int32) (x3 : Int32) (x4 : Int32) (M : Mm) : JW G S1 ad X 91 [(0, .ref (ad 6)), (1, .int x1), (2, .int x2), (3, .int x3), (4, .int x4)] [] M (f_X2_serve_j91 x1 x2 x3 x4 M) (Kl (h_X2_serve_2 G ad X x1 x2) (Krv G S1 ad X)) := by
  unfold f_X2_serve_j91
  refine j_aload_n (pc := 91) O 0 dX2_serve_91 rfl ?_
  refine j_iload_n (pc := 92) O 3 dX2_serve_92 rfl ?_
  refine j_iload_n (pc := 93) O 2 dX2_serve_93 rfl ?_
  refine j_iload (pc := 94) O 4 dX2_serve_94 rfl ?_
  refine j_callVv (pc := 96) (dc := 4) (As := [.int x3, .int x2, .int x4]) (rest := []) O 6 (fun M1 h => sp_X2_give h) dX2_serve_96 mv_X2_give lm_X2_141 so_S1_6 rfl rfl (Nat.le_of_ble_eq_true rfl) (Nat.le_trans (Nat.le_of_ble_eq_true rfl) hd0) (fun M4 => ?_)
  refine j_iinc (pc := 99) (v := 1) (L2 := fun y => [(3, .int y), (0, .ref (ad 6)), (1, .int x1), (2, .int x2), (4, .int x4)]) O 3 dX2_serve_99 rfl (by decide) (by decide) (fun _ => rfl) (fun y5 => ?_)
  refine j_goto (pc := 102) (tgt := 2) O dX2_serve_102 (by decide) ?_
  exact jw_next (fun hh => pw_sub [1, 2, 3, 0] rfl hh)
def f_X2_serve_b2 (x1 : Int32) (x2 : Int32) (x3 : Int32) (M : Mm) : Option ((Int32 × Mm) ⊕ (Mm)) :=
  if (12 : Int32) ≤ x3 then
    ex (
    some M)
  else
    if (M.1 1 0) ≤ x3 then
      ex (
      some M)
    else
      gd (bin x3 12 = true) inferInstance <|
      if (M.1 26 (Int32.toNatClampNeg x3)) = x2 then
        if x1 = 0 then
          gd (bin x3 12 = true) inferInstance <|
          bi (M.1 27 (Int32.toNatClampNeg x3)) fun y9 =>
          f_X2_serve_j91 x1 x2 x3 y9 M
        else
          if x1 = (1 : Int32) then
            gd (¬ (imx (1 : Int32) (M.1 1 3)) = 0) inferInstance <|
            bi (irm x3 (imx (1 : Int32) (M.1 1 3))) fun y8 =>
            f_X2_serve_j91 x1 x2 x3 y8 M
          else
            if x1 = (2 : Int32) then
              bd (f_X2_hungriest x2 M) fun r7 M6 =>
              f_X2_serve_j91 x1 x2 x3 r7 M6
            else
              bd (f_X2_firstOfLeast M) fun r3 M2 =>
              f_X2_serve_j91 x1 x2 x3 r3 M2
      else
        bi (x3 + (1 : Int32)) fun y1 =>
        some (.inl (y1, M))
set_option maxRecDepth 100000 in
set_option maxHeartbeats 4000000 in
theorem jf_X2_serve_b2 {G : wn_G} {ad : Nat → Nat} {X : wn_X} {d : Nat} (O : Ok G RX2 cX2_serve 5 d X) (hd0 : 5 ≤ d) (x1 : Int32) (x2 : Int32) (x3 : Int32) (M : Mm) : JW G S1 ad X 2 [(0, .ref (ad 6)), (1, .int x1), (2, .int x2), (3, .int x3)] [] M (f_X2_serve_b2 x1 x2 x3 M) (Kl (h_X2_serve_2 G ad X x1 x2) (Krv G S1 ad X)) := by
  unfold f_X2_serve_b2
  refine j_iload_n (pc := 2) O 3 dX2_serve_2 rfl ?_
  refine j_bipush (pc := 3) (v := 12) O dX2_serve_3 (by decide) ?_
  refine j_icmp_ge (pc := 5) (tgt := 105) O dX2_serve_5 (by decide) ?_ ?_
  · refine jw_ex ?_
    exact j_vret (pc := 105) O dX2_serve_105
  · refine j_iload_n (pc := 8) O 3 dX2_serve_8 rfl ?_
    refine j_aload_n (pc := 9) O 0 dX2_serve_9 rfl ?_
    refine j_getf (pc := 10) (v := .ref (ad 1)) O 6 0 dX2_serve_10 fl_X2_36 so_S1_6 rfl rfl ?_
    refine j_getf (pc := 13) (v := .int (M.1 1 0)) O 1 0 dX2_serve_13 fl_X2_101 so_S1_1 rfl rfl ?_
    refine j_icmp_ge (pc := 16) (tgt := 105) O dX2_serve_16 (by decide) ?_ ?_
    · refine jw_ex ?_
      exact j_vret (pc := 105) O dX2_serve_105
    · refine j_aload_n (pc := 19) O 0 dX2_serve_19 rfl ?_
      refine j_getf (pc := 20) (v := .ref (ad 26)) O 6 3 dX2_serve_20 fl_X2_15 so_S1_6 rfl rfl ?_
      refine j_iload_n (pc := 23) O 3 dX2_serve_23 rfl ?_
      refine j_iald (pc := 24) O 26 dX2_serve_24 so_S1_26 ?_
      refine j_iload_n (pc := 25) O 2 dX2_serve_25 rfl ?_
      refine j_icmp_ne (pc := 26) (tgt := 99) O dX2_serve_26 (by decide) ?_ ?_
      · refine j_iconst (pc := 29) (v := -1) O dX2_serve_29 (by decide) ?_
        refine j_istore (pc := 30) (L' := [(4, .int (-1 : Int32)), (0, .ref (ad 6)), (1, .int x1), (2, .int x2), (3, .int x3)]) O dX2_serve_30 (by decide) rfl ?_
        refine j_iload_n (pc := 32) O 2 dX2_serve_32 rfl ?_
        refine j_if_ne (pc := 33) (tgt := 47) O dX2_serve_33 (by decide) ?_ ?_
        · refine j_aload_n (pc := 36) O 1 dX2_serve_36 rfl ?_
          refine j_getf (pc := 37) (v := .ref (ad 27)) O 6 5 dX2_serve_37 fl_X2_18 so_S1_6 rfl rfl ?_
          refine j_iload_n (pc := 40) O 4 dX2_serve_40 rfl ?_
          refine j_iald (pc := 41) O 27 dX2_serve_41 so_S1_27 ?_
          refine jw_bi fun y9 => ?_
          refine j_istore (pc := 42) (L' := [(4, .int y9), (0, .ref (ad 6)), (1, .int x1), (2, .int x2), (3, .int x3)]) O dX2_serve_42 (by decide) rfl ?_
          refine j_goto (pc := 44) (tgt := 91) O dX2_serve_44 (by decide) ?_
          exact jw_sub [1, 2, 3, 4, 0] rfl (jf_X2_serve_j91 O hd0 x1 x2 x3 y9 M)
        · refine j_iload_n (pc := 47) O 2 dX2_serve_47 rfl ?_
          refine j_iconst (pc := 48) (v := 1) O dX2_serve_48 (by decide) ?_
          refine j_icmp_ne (pc := 49) (tgt := 70) O dX2_serve_49 (by decide) ?_ ?_
          · refine j_iload_n (pc := 52) O 4 dX2_serve_52 rfl ?_
            refine j_iconst (pc := 53) (v := 1) O dX2_serve_53 (by decide) ?_
            refine j_aload_n (pc := 54) O 1 dX2_serve_54 rfl ?_
            refine j_getf (pc := 55) (v := .ref (ad 1)) O 6 0 dX2_serve_55 fl_X2_36 so_S1_6 rfl rfl ?_
            refine j_getf (pc := 58) (v := .int (M.1 1 3)) O 1 3 dX2_serve_58 fl_X2_104 so_S1_1 rfl rfl ?_
            refine j_max (pc := 61) O dX2_serve_61 gl_X2_92 gt_Math_max gi_java_lang_Math gc_Math_max (Nat.le_trans (Nat.le_of_ble_eq_true rfl) hd0) (Nat.le_of_ble_eq_true rfl) ?_
            refine j_irem (pc := 64) O dX2_serve_64 ?_
            refine jw_bi fun y8 => ?_
            refine j_istore (pc := 65) (L' := [(4, .int y8), (0, .ref (ad 6)), (1, .int x1), (2, .int x2), (3, .int x3)]) O dX2_serve_65 (by decide) rfl ?_
            refine j_goto (pc := 67) (tgt := 91) O dX2_serve_67 (by decide) ?_
            exact jw_sub [1, 2, 3, 4, 0] rfl (jf_X2_serve_j91 O hd0 x1 x2 x3 y8 M)
          · refine j_iload_n (pc := 70) O 2 dX2_serve_70 rfl ?_
            refine j_iconst (pc := 71) (v := 2) O dX2_serve_71 (by decide) ?_
            refine j_icmp_ne (pc := 72) (tgt := 85) O dX2_serve_72 (by decide) ?_ ?_
            · refine j_aload_n (pc := 75) O 1 dX2_serve_75 rfl ?_
              refine j_iload_n (pc := 76) O 3 dX2_serve_76 rfl ?_
              refine j_callVi (pc := 77) (dc := 4) (As := [.int x2]) (rest := []) O 6 (fun r M1 h => sp_X2_hungriest h) dX2_serve_77 mv_X2_hungriest lm_X2_134 so_S1_6 rfl rfl (Nat.le_of_ble_eq_true rfl) (Nat.le_trans (Nat.le_of_ble_eq_true rfl) hd0) (fun r7 M6 => ?_)
              refine j_istore (pc := 80) (L' := [(4, .int r7), (0, .ref (ad 6)), (1, .int x1), (2, .int x2), (3, .int x3)]) O dX2_serve_80 (by decide) rfl ?_
              refine j_goto (pc := 82) (tgt := 91) O dX2_serve_82 (by decide) ?_
              exact jw_sub [1, 2, 3, 4, 0] rfl (jf_X2_serve_j91 O hd0 x1 x2 x3 r7 M6)
            · refine j_aload_n (pc := 85) O 1 dX2_serve_85 rfl ?_
              refine j_callVi (pc := 86) (dc := 3) (As := []) (rest := []) O 6 (fun r M1 h => sp_X2_firstOfLeast h) dX2_serve_86 mv_X2_firstOfLeast lm_X2_138 so_S1_6 rfl rfl (Nat.le_of_ble_eq_true rfl) (Nat.le_trans (Nat.le_of_ble_eq_true rfl) hd0) (fun r3 M2 => ?_)
              refine j_istore (pc := 89) (L' := [(4, .int r3), (0, .ref (ad 6)), (1, .int x1), (2, .int x2), (3, .int x3)]) O dX2_serve_89 (by decide) rfl ?_
              exact jw_sub [1, 2, 3, 4, 0] rfl (jf_X2_serve_j91 O hd0 x1 x2 x3 r3 M2)
      · refine j_iinc (pc := 99) (v := 1) (L2 := fun y => [(3, .int y), (0, .ref (ad 6)), (1, .int x1), (2, .int x2)]) O 3 dX2_serve_99 rfl (by decide) (by decide) (fun _ => rfl) (fun y1 => ?_)
        refine j_goto (pc := 102) (tgt := 2) O dX2_serve_102 (by decide) ?_
        exact jw_next (fun hh => pw_sub [1, 2, 3, 0] rfl hh)
def f_X2_serve (x1 : Int32) (x2 : Int32) (M : Mm) : Option (Mm) :=
  iter (fun s => f_X2_serve_b2 x1 x2 s.1 s.2) fuel ((0 : Int32), M)
set_option maxRecDepth 100000 in
set_option maxHeartbeats 4000000 in
theorem jf_X2_serve {G : wn_G} {ad : Nat → Nat} {X : wn_X} {d : Nat} (O : Ok G RX2 cX2_serve 5 d X) (hd0 : 5 ≤ d) (x1 : Int32) (x2 : Int32) (M : Mm) : JW G S1 ad X 0 [(0, .ref (ad 6)), (1, .int x1), (2, .int x2)] [] M (f_X2_serve x1 x2 M) (Krv G S1 ad X) := by
  unfold f_X2_serve
  refine j_iconst (pc := 0) (v := 0) O dX2_serve_0 (by decide) ?_
  refine j_istore_n (pc := 1) (L' := [(3, .int (0 : Int32)), (0, .ref (ad 6)), (1, .int x1), (2, .int x2)]) O dX2_serve_1 (by decide) rfl ?_
  exact jw_iter (hd := h_X2_serve_2 G ad X x1 x2) (fun hh => pw_sub [1, 2, 3, 0] rfl hh) (fun s => jf_X2_serve_b2 O hd0 x1 x2 s.1 s.2)
theorem sp_X2_serve {G : wn_G} {ad : Nat → Nat} {x1 : Int32} {x2 : Int32} {M M1 : Mm} (h : f_X2_serve x1 x2 M = some M1) : Sp G S1 ad mX2_serve 5 [.ref (ad 6), .int x1, .int x2] M M1 none :=
  sp_intro (own := RX2) (by decide +kernel) rfl (Nat.le_of_ble_eq_true rfl) (fun X O T => jf_X2_serve O (Nat.le_refl _) x1 x2 M M1 h T)
def h_X2_mostHad_4 (G : wn_G) (ad : Nat → Nat) (X : wn_X) : Int32 × Int32 × Mm → Prop := fun s => PW G S1 ad X 4 [(0, .ref (ad 6)), (1, .int s.1), (2, .int s.2.1)] [] s.2.2
def f_X2_mostHad_b4 (x1 : Int32) (x2 : Int32) (M : Mm) : Option ((Int32 × Int32 × Mm) ⊕ (Int32 × Mm)) :=
  if (5 : Int32) ≤ x2 then
    ex (
    some (x1, M))
  else
    bd (f_X2_sits x2 M) fun r2 M1 =>
    if r2 = 0 then
      bi (x2 + (1 : Int32)) fun y3 =>
      some (.inl (x1, y3, M1))
    else
      gd (bin x2 5 = true) inferInstance <|
      bi (imx x1 (M1.1 29 (Int32.toNatClampNeg x2))) fun y4 =>
      bi (x2 + (1 : Int32)) fun y5 =>
      some (.inl (y4, y5, M1))
set_option maxRecDepth 100000 in
set_option maxHeartbeats 4000000 in
theorem jf_X2_mostHad_b4 {G : wn_G} {ad : Nat → Nat} {X : wn_X} {d : Nat} (O : Ok G RX2 cX2_mostHad 3 d X) (hd0 : 3 ≤ d) (x1 : Int32) (x2 : Int32) (M : Mm) : JW G S1 ad X 4 [(0, .ref (ad 6)), (1, .int x1), (2, .int x2)] [] M (f_X2_mostHad_b4 x1 x2 M) (Kl (h_X2_mostHad_4 G ad X) (Kri G S1 ad X)) := by
  unfold f_X2_mostHad_b4
  refine j_iload_n (pc := 4) O 2 dX2_mostHad_4 rfl ?_
  refine j_iconst (pc := 5) (v := 5) O dX2_mostHad_5 (by decide) ?_
  refine j_icmp_ge (pc := 6) (tgt := 34) O dX2_mostHad_6 (by decide) ?_ ?_
  · refine jw_ex ?_
    refine j_iload_n (pc := 34) O 1 dX2_mostHad_34 rfl ?_
    exact j_iret (pc := 35) O dX2_mostHad_35
  · refine j_aload_n (pc := 9) O 0 dX2_mostHad_9 rfl ?_
    refine j_iload_n (pc := 10) O 2 dX2_mostHad_10 rfl ?_
    refine j_callVi (pc := 11) (dc := 2) (As := [.int x2]) (rest := []) O 6 (fun r M1 h => sp_X2_sits h) dX2_mostHad_11 mv_X2_sits lm_X2_145 so_S1_6 rfl rfl (Nat.le_of_ble_eq_true rfl) (Nat.le_trans (Nat.le_of_ble_eq_true rfl) hd0) (fun r2 M1 => ?_)
    refine j_if_eq (pc := 14) (tgt := 28) O dX2_mostHad_14 (by decide) ?_ ?_
    · refine j_iinc (pc := 28) (v := 1) (L2 := fun y => [(2, .int y), (0, .ref (ad 6)), (1, .int x1)]) O 2 dX2_mostHad_28 rfl (by decide) (by decide) (fun _ => rfl) (fun y3 => ?_)
      refine j_goto (pc := 31) (tgt := 4) O dX2_mostHad_31 (by decide) ?_
      exact jw_next (fun hh => pw_sub [1, 2, 0] rfl hh)
    · refine j_iload_n (pc := 17) O 1 dX2_mostHad_17 rfl ?_
      refine j_aload_n (pc := 18) O 0 dX2_mostHad_18 rfl ?_
      refine j_getf (pc := 19) (v := .ref (ad 29)) O 6 8 dX2_mostHad_19 fl_X2_24 so_S1_6 rfl rfl ?_
      refine j_iload_n (pc := 22) O 2 dX2_mostHad_22 rfl ?_
      refine j_iald (pc := 23) O 29 dX2_mostHad_23 so_S1_29 ?_
      refine j_max (pc := 24) O dX2_mostHad_24 gl_X2_92 gt_Math_max gi_java_lang_Math gc_Math_max (Nat.le_trans (Nat.le_of_ble_eq_true rfl) hd0) (Nat.le_of_ble_eq_true rfl) ?_
      refine jw_bi fun y4 => ?_
      refine j_istore_n (pc := 27) (L' := [(1, .int y4), (0, .ref (ad 6)), (2, .int x2)]) O dX2_mostHad_27 (by decide) rfl ?_
      refine j_iinc (pc := 28) (v := 1) (L2 := fun y => [(2, .int y), (1, .int y4), (0, .ref (ad 6))]) O 2 dX2_mostHad_28 rfl (by decide) (by decide) (fun _ => rfl) (fun y5 => ?_)
      refine j_goto (pc := 31) (tgt := 4) O dX2_mostHad_31 (by decide) ?_
      exact jw_next (fun hh => pw_sub [2, 1, 0] rfl hh)
def f_X2_mostHad (M : Mm) : Option (Int32 × Mm) :=
  iter (fun s => f_X2_mostHad_b4 s.1 s.2.1 s.2.2) fuel ((0 : Int32), (0 : Int32), M)
set_option maxRecDepth 100000 in
set_option maxHeartbeats 4000000 in
theorem jf_X2_mostHad {G : wn_G} {ad : Nat → Nat} {X : wn_X} {d : Nat} (O : Ok G RX2 cX2_mostHad 3 d X) (hd0 : 3 ≤ d) (M : Mm) : JW G S1 ad X 0 [(0, .ref (ad 6))] [] M (f_X2_mostHad M) (Kri G S1 ad X) := by
  unfold f_X2_mostHad
  refine j_iconst (pc := 0) (v := 0) O dX2_mostHad_0 (by decide) ?_
  refine j_istore_n (pc := 1) (L' := [(1, .int (0 : Int32)), (0, .ref (ad 6))]) O dX2_mostHad_1 (by decide) rfl ?_
  refine j_iconst (pc := 2) (v := 0) O dX2_mostHad_2 (by decide) ?_
  refine j_istore_n (pc := 3) (L' := [(2, .int (0 : Int32)), (1, .int (0 : Int32)), (0, .ref (ad 6))]) O dX2_mostHad_3 (by decide) rfl ?_
  exact jw_iter (hd := h_X2_mostHad_4 G ad X) (fun hh => pw_sub [2, 1, 0] rfl hh) (fun s => jf_X2_mostHad_b4 O hd0 s.1 s.2.1 s.2.2)
theorem sp_X2_mostHad {G : wn_G} {ad : Nat → Nat} {M : Mm} {r : Int32} {M1 : Mm} (h : f_X2_mostHad M = some (r, M1)) : Sp G S1 ad mX2_mostHad 3 [.ref (ad 6)] M M1 (some (.int r)) :=
  sp_intro (own := RX2) (by decide +kernel) rfl (Nat.le_of_ble_eq_true rfl) (fun X O T => jf_X2_mostHad O (Nat.le_refl _) M (r, M1) h T)
def h_X2_run_2 (G : wn_G) (ad : Nat → Nat) (X : wn_X) (x1 : Int32) : Int32 × Mm → Prop := fun s => PW G S1 ad X 2 [(0, .ref (ad 6)), (1, .int x1), (2, .int s.1)] [] s.2
def h_X2_run_61 (G : wn_G) (ad : Nat → Nat) (X : wn_X) (x1 : Int32) : Int32 × Mm → Prop := fun s => PW G S1 ad X 61 [(0, .ref (ad 6)), (1, .int x1), (2, .int s.1)] [] s.2
def f_X2_run_j106 (x1 : Int32) (x2 : Int32) (M : Mm) : Option ((Int32 × Mm) ⊕ (Mm)) :=
  bv (f_X2_pass x2 M) fun M6 =>
  bi (x2 + (1 : Int32)) fun y7 =>
  some (.inl (y7, M6))
set_option maxRecDepth 100000 in
set_option maxHeartbeats 4000000 in
theorem jf_X2_run_j106 {G : wn_G} {ad : Nat → Nat} {X : wn_X} {d : Nat} (O : Ok G RX2 cX2_run 3 d X) (hd0 : 6 ≤ d) (x1 : Int32) (x2 : Int32) (M : Mm) : JW G S1 ad X 106 [(0, .ref (ad 6)), (1, .int x1), (2, .int x2)] [] M (f_X2_run_j106 x1 x2 M) (Kl (h_X2_run_61 G ad X x1) (Krv G S1 ad X)) := by
  unfold f_X2_run_j106
  refine j_aload_n (pc := 106) O 0 dX2_run_106 rfl ?_
  refine j_iload_n (pc := 107) O 2 dX2_run_107 rfl ?_
  refine j_callVv (pc := 108) (dc := 4) (As := [.int x2]) (rest := []) O 6 (fun M1 h => sp_X2_pass h) dX2_run_108 mv_X2_pass lm_X2_131 so_S1_6 rfl rfl (Nat.le_of_ble_eq_true rfl) (Nat.le_trans (Nat.le_of_ble_eq_true rfl) hd0) (fun M6 => ?_)
  refine j_iinc (pc := 111) (v := 1) (L2 := fun y => [(2, .int y), (0, .ref (ad 6)), (1, .int x1)]) O 2 dX2_run_111 rfl (by decide) (by decide) (fun _ => rfl) (fun y7 => ?_)
  refine j_goto (pc := 114) (tgt := 61) O dX2_run_114 (by decide) ?_
  exact jw_next (fun hh => pw_sub [1, 2, 0] rfl hh)
def f_X2_run_b61 (x1 : Int32) (x2 : Int32) (M : Mm) : Option ((Int32 × Mm) ⊕ (Mm)) :=
  if (60 : Int32) ≤ x2 then
    ex (
    some M)
  else
    if (lg_cmp ((lsr (M.2 6) x2) &&& (1 : Int64)) (0 : Int64)) = 0 then
      f_X2_run_j106 x1 x2 M
    else
      bv (f_X2_serve x1 x2 M) fun M8 =>
      bd (f_X2_mostHad M8) fun r10 M9 =>
      bm (ms M9 6 13 (imx (M8.1 6 13) (r10 - (M9.1 6 11)))) fun M11 =>
      f_X2_run_j106 x1 x2 M11
set_option maxRecDepth 100000 in
set_option maxHeartbeats 4000000 in
theorem jf_X2_run_b61 {G : wn_G} {ad : Nat → Nat} {X : wn_X} {d : Nat} (O : Ok G RX2 cX2_run 3 d X) (hd0 : 6 ≤ d) (x1 : Int32) (x2 : Int32) (M : Mm) : JW G S1 ad X 61 [(0, .ref (ad 6)), (1, .int x1), (2, .int x2)] [] M (f_X2_run_b61 x1 x2 M) (Kl (h_X2_run_61 G ad X x1) (Krv G S1 ad X)) := by
  unfold f_X2_run_b61
  refine j_iload_n (pc := 61) O 2 dX2_run_61 rfl ?_
  refine j_bipush (pc := 62) (v := 60) O dX2_run_62 (by decide) ?_
  refine j_icmp_ge (pc := 64) (tgt := 117) O dX2_run_64 (by decide) ?_ ?_
  · refine jw_ex ?_
    exact j_vret (pc := 117) O dX2_run_117
  · refine j_aload_n (pc := 67) O 0 dX2_run_67 rfl ?_
    refine j_getf (pc := 68) (v := .long (M.2 6)) O 6 4 dX2_run_68 fl_X2_97 so_S1_6 rfl rfl ?_
    refine j_iload_n (pc := 71) O 2 dX2_run_71 rfl ?_
    refine j_lshr (pc := 72) O dX2_run_72 ?_
    refine j_lconst (pc := 73) (v := 1) O dX2_run_73 (by decide) ?_
    refine j_land (pc := 74) O dX2_run_74 ?_
    refine j_lconst (pc := 75) (v := 0) O dX2_run_75 (by decide) ?_
    refine j_lcmp (pc := 76) O dX2_run_76 ?_
    refine j_if_eq (pc := 77) (tgt := 106) O dX2_run_77 (by decide) ?_ ?_
    · exact jw_sub [0, 1, 2] rfl (jf_X2_run_j106 O hd0 x1 x2 M)
    · refine j_aload_n (pc := 80) O 0 dX2_run_80 rfl ?_
      refine j_iload_n (pc := 81) O 1 dX2_run_81 rfl ?_
      refine j_iload_n (pc := 82) O 2 dX2_run_82 rfl ?_
      refine j_callVv (pc := 83) (dc := 5) (As := [.int x1, .int x2]) (rest := []) O 6 (fun M1 h => sp_X2_serve h) dX2_run_83 mv_X2_serve lm_X2_123 so_S1_6 rfl rfl (Nat.le_of_ble_eq_true rfl) (Nat.le_trans (Nat.le_of_ble_eq_true rfl) hd0) (fun M8 => ?_)
      refine j_aload_n (pc := 86) O 0 dX2_run_86 rfl ?_
      refine j_aload_n (pc := 87) O 0 dX2_run_87 rfl ?_
      refine j_getf (pc := 88) (v := .int (M8.1 6 13)) O 6 13 dX2_run_88 fl_X2_114 so_S1_6 rfl rfl ?_
      refine j_aload_n (pc := 91) O 0 dX2_run_91 rfl ?_
      refine j_callVi (pc := 92) (dc := 3) (As := []) (rest := [.int (M8.1 6 13), .ref (ad 6)]) O 6 (fun r M1 h => sp_X2_mostHad h) dX2_run_92 mv_X2_mostHad lm_X2_127 so_S1_6 rfl rfl (Nat.le_of_ble_eq_true rfl) (Nat.le_trans (Nat.le_of_ble_eq_true rfl) hd0) (fun r10 M9 => ?_)
      refine j_aload_n (pc := 95) O 0 dX2_run_95 rfl ?_
      refine j_getf (pc := 96) (v := .int (M9.1 6 11)) O 6 11 dX2_run_96 fl_X2_83 so_S1_6 rfl rfl ?_
      refine j_isub (pc := 99) O dX2_run_99 ?_
      refine j_max (pc := 100) O dX2_run_100 gl_X2_92 gt_Math_max gi_java_lang_Math gc_Math_max (Nat.le_trans (Nat.le_of_ble_eq_true rfl) hd0) (Nat.le_of_ble_eq_true rfl) ?_
      refine j_puti (pc := 103) O 6 13 dX2_run_103 fl_X2_114 so_S1_6 ft_X2_13 rfl (fun M11 => ?_)
      exact jw_sub [0, 1, 2] rfl (jf_X2_run_j106 O hd0 x1 x2 M11)
def f_X2_run_b2 (x1 : Int32) (x2 : Int32) (M : Mm) : Option ((Int32 × Mm) ⊕ (Mm)) :=
  if (5 : Int32) ≤ x2 then
    ex (
    bm (ms M 6 11 (0 : Int32)) fun M1 =>
    bm (ms M1 6 12 (0 : Int32)) fun M2 =>
    bm (ms M2 6 13 (0 : Int32)) fun M3 =>
    bm (ms M3 6 14 (0 : Int32)) fun M4 =>
    bm (ms M4 6 15 (0 : Int32)) fun M5 =>
    iter (fun s => f_X2_run_b61 x1 s.1 s.2) fuel ((0 : Int32), M5))
  else
    gd (bin x2 5 = true) inferInstance <| bm (ms M 29 (Int32.toNatClampNeg x2) (0 : Int32)) fun M12 =>
    gd (bin x2 5 = true) inferInstance <| bm (ms M12 30 (Int32.toNatClampNeg x2) (0 : Int32)) fun M13 =>
    gd (bin x2 5 = true) inferInstance <| bm (ms M13 31 (Int32.toNatClampNeg x2) (-1 : Int32)) fun M14 =>
    bi (x2 + (1 : Int32)) fun y15 =>
    some (.inl (y15, M14))
set_option maxRecDepth 100000 in
set_option maxHeartbeats 4000000 in
theorem jf_X2_run_b2 {G : wn_G} {ad : Nat → Nat} {X : wn_X} {d : Nat} (O : Ok G RX2 cX2_run 3 d X) (hd0 : 6 ≤ d) (x1 : Int32) (x2 : Int32) (M : Mm) : JW G S1 ad X 2 [(0, .ref (ad 6)), (1, .int x1), (2, .int x2)] [] M (f_X2_run_b2 x1 x2 M) (Kl (h_X2_run_2 G ad X x1) (Krv G S1 ad X)) := by
  unfold f_X2_run_b2
  refine j_iload_n (pc := 2) O 2 dX2_run_2 rfl ?_
  refine j_iconst (pc := 3) (v := 5) O dX2_run_3 (by decide) ?_
  refine j_icmp_ge (pc := 4) (tgt := 34) O dX2_run_4 (by decide) ?_ ?_
  · refine jw_ex ?_
    refine j_aload_n (pc := 34) O 0 dX2_run_34 rfl ?_
    refine j_iconst (pc := 35) (v := 0) O dX2_run_35 (by decide) ?_
    refine j_puti (pc := 36) O 6 11 dX2_run_36 fl_X2_83 so_S1_6 ft_X2_11 rfl (fun M1 => ?_)
    refine j_aload_n (pc := 39) O 0 dX2_run_39 rfl ?_
    refine j_iconst (pc := 40) (v := 0) O dX2_run_40 (by decide) ?_
    refine j_puti (pc := 41) O 6 12 dX2_run_41 fl_X2_111 so_S1_6 ft_X2_12 rfl (fun M2 => ?_)
    refine j_aload_n (pc := 44) O 0 dX2_run_44 rfl ?_
    refine j_iconst (pc := 45) (v := 0) O dX2_run_45 (by decide) ?_
    refine j_puti (pc := 46) O 6 13 dX2_run_46 fl_X2_114 so_S1_6 ft_X2_13 rfl (fun M3 => ?_)
    refine j_aload_n (pc := 49) O 0 dX2_run_49 rfl ?_
    refine j_iconst (pc := 50) (v := 0) O dX2_run_50 (by decide) ?_
    refine j_puti (pc := 51) O 6 14 dX2_run_51 fl_X2_117 so_S1_6 ft_X2_14 rfl (fun M4 => ?_)
    refine j_aload_n (pc := 54) O 0 dX2_run_54 rfl ?_
    refine j_iconst (pc := 55) (v := 0) O dX2_run_55 (by decide) ?_
    refine j_puti (pc := 56) O 6 15 dX2_run_56 fl_X2_120 so_S1_6 ft_X2_15 rfl (fun M5 => ?_)
    refine j_iconst (pc := 59) (v := 0) O dX2_run_59 (by decide) ?_
    refine j_istore_n (pc := 60) (L' := [(2, .int (0 : Int32)), (0, .ref (ad 6)), (1, .int x1)]) O dX2_run_60 (by decide) rfl ?_
    exact jw_iter (hd := h_X2_run_61 G ad X x1) (fun hh => pw_sub [1, 2, 0] rfl hh) (fun s => jf_X2_run_b61 O hd0 x1 s.1 s.2)
  · refine j_aload_n (pc := 7) O 0 dX2_run_7 rfl ?_
    refine j_getf (pc := 8) (v := .ref (ad 29)) O 6 8 dX2_run_8 fl_X2_24 so_S1_6 rfl rfl ?_
    refine j_iload_n (pc := 11) O 2 dX2_run_11 rfl ?_
    refine j_iconst (pc := 12) (v := 0) O dX2_run_12 (by decide) ?_
    refine j_iast (pc := 13) O 29 dX2_run_13 so_S1_29 (fun M12 => ?_)
    refine j_aload_n (pc := 14) O 0 dX2_run_14 rfl ?_
    refine j_getf (pc := 15) (v := .ref (ad 30)) O 6 9 dX2_run_15 fl_X2_27 so_S1_6 rfl rfl ?_
    refine j_iload_n (pc := 18) O 2 dX2_run_18 rfl ?_
    refine j_iconst (pc := 19) (v := 0) O dX2_run_19 (by decide) ?_
    refine j_iast (pc := 20) O 30 dX2_run_20 so_S1_30 (fun M13 => ?_)
    refine j_aload_n (pc := 21) O 0 dX2_run_21 rfl ?_
    refine j_getf (pc := 22) (v := .ref (ad 31)) O 6 10 dX2_run_22 fl_X2_30 so_S1_6 rfl rfl ?_
    refine j_iload_n (pc := 25) O 2 dX2_run_25 rfl ?_
    refine j_iconst (pc := 26) (v := -1) O dX2_run_26 (by decide) ?_
    refine j_iast (pc := 27) O 31 dX2_run_27 so_S1_31 (fun M14 => ?_)
    refine j_iinc (pc := 28) (v := 1) (L2 := fun y => [(2, .int y), (0, .ref (ad 6)), (1, .int x1)]) O 2 dX2_run_28 rfl (by decide) (by decide) (fun _ => rfl) (fun y15 => ?_)
    refine j_goto (pc := 31) (tgt := 2) O dX2_run_31 (by decide) ?_
    exact jw_next (fun hh => pw_sub [1, 2, 0] rfl hh)
def f_X2_run (x1 : Int32) (M : Mm) : Option (Mm) :=
  iter (fun s => f_X2_run_b2 x1 s.1 s.2) fuel ((0 : Int32), M)
set_option maxRecDepth 100000 in
set_option maxHeartbeats 4000000 in
theorem jf_X2_run {G : wn_G} {ad : Nat → Nat} {X : wn_X} {d : Nat} (O : Ok G RX2 cX2_run 3 d X) (hd0 : 6 ≤ d) (x1 : Int32) (M : Mm) : JW G S1 ad X 0 [(0, .ref (ad 6)), (1, .int x1)] [] M (f_X2_run x1 M) (Krv G S1 ad X) := by
  unfold f_X2_run
  refine j_iconst (pc := 0) (v := 0) O dX2_run_0 (by decide) ?_
  refine j_istore_n (pc := 1) (L' := [(2, .int (0 : Int32)), (0, .ref (ad 6)), (1, .int x1)]) O dX2_run_1 (by decide) rfl ?_
  exact jw_iter (hd := h_X2_run_2 G ad X x1) (fun hh => pw_sub [1, 2, 0] rfl hh) (fun s => jf_X2_run_b2 O hd0 x1 s.1 s.2)
theorem sp_X2_run {G : wn_G} {ad : Nat → Nat} {x1 : Int32} {M M1 : Mm} (h : f_X2_run x1 M = some M1) : Sp G S1 ad mX2_run 6 [.ref (ad 6), .int x1] M M1 none :=
  sp_intro (own := RX2) (by decide +kernel) rfl (Nat.le_of_ble_eq_true rfl) (fun X O T => jf_X2_run O (Nat.le_refl _) x1 M M1 h T)
