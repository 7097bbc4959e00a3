def f_X6_isLetter (x1 : Int32) (x2 : Int32) (M : Mm) : Option (Int32 × Mm) :=
  if (M.1 0 23) ≤ ((M.1 0 25) + x1) then
    if x2 = 0 then
      some (1, M)
    else
      some (0, M)
  else
    bd (f_X6_byteAt ((M.1 0 25) + x1) M) fun r2 M1 =>
    if r2 = x2 then
      some (1, M1)
    else
      some (0, M1)
set_option maxRecDepth 100000 in
set_option maxHeartbeats 4000000 in
theorem jf_X6_isLetter {G : wn_G} {ad : Nat → Nat} {X : wn_X} {d : Nat} (O : Ok G RX6 cX6_isLetter 3 d X) (hd0 : 2 ≤ d) (x1 : Int32) (x2 : Int32) (M : Mm) : JW G S2 ad X 0 [(0, .ref (ad 0)), (1, .int x1), (2, .int x2)] [] M (f_X6_isLetter x1 x2 M) (Krz G S2 ad X) := by
  unfold f_X6_isLetter
  refine j_aload_n (pc := 0) O 0 dX6_isLetter_0 rfl ?_
  refine j_getf (pc := 1) (v := .int (M.1 0 25)) O 0 25 dX6_isLetter_1 fl_X6_141 so_S2_0 rfl rfl ?_
  refine j_iload_n (pc := 4) O 1 dX6_isLetter_4 rfl ?_
  refine j_iadd (pc := 5) O dX6_isLetter_5 ?_
  refine j_aload_n (pc := 6) O 0 dX6_isLetter_6 rfl ?_
  refine j_getf (pc := 7) (v := .int (M.1 0 23)) O 0 23 dX6_isLetter_7 fl_X6_135 so_S2_0 rfl rfl ?_
  refine j_icmp_ge (pc := 10) (tgt := 35) O dX6_isLetter_10 (by decide) ?_ ?_
  · refine j_iload_n (pc := 35) O 2 dX6_isLetter_35 rfl ?_
    refine j_if_ne (pc := 36) (tgt := 43) O dX6_isLetter_36 (by decide) ?_ ?_
    · refine j_iconst (pc := 39) (v := 1) O dX6_isLetter_39 (by decide) ?_
      refine j_goto (pc := 40) (tgt := 44) O dX6_isLetter_40 (by decide) ?_
      exact j_z1 (pc := 44) O dX6_isLetter_44
    · refine j_iconst (pc := 43) (v := 0) O dX6_isLetter_43 (by decide) ?_
      exact j_z0 (pc := 44) O dX6_isLetter_44
  · refine j_aload_n (pc := 13) O 0 dX6_isLetter_13 rfl ?_
    refine j_aload_n (pc := 14) O 0 dX6_isLetter_14 rfl ?_
    refine j_getf (pc := 15) (v := .int (M.1 0 25)) O 0 25 dX6_isLetter_15 fl_X6_141 so_S2_0 rfl rfl ?_
    refine j_iload_n (pc := 18) O 1 dX6_isLetter_18 rfl ?_
    refine j_iadd (pc := 19) O dX6_isLetter_19 ?_
    refine j_callVi (pc := 20) (dc := 1) (As := [.int ((M.1 0 25) + x1)]) (rest := []) O 0 (fun r M1 h => sp_X6_byteAt h) dX6_isLetter_20 mv_X6_byteAt lm_X6_138 so_S2_0 rfl rfl (Nat.le_of_ble_eq_true rfl) (Nat.le_trans (Nat.le_of_ble_eq_true rfl) hd0) (fun r2 M1 => ?_)
    refine j_iload_n (pc := 23) O 2 dX6_isLetter_23 rfl ?_
    refine j_icmp_ne (pc := 24) (tgt := 31) O dX6_isLetter_24 (by decide) ?_ ?_
    · refine j_iconst (pc := 27) (v := 1) O dX6_isLetter_27 (by decide) ?_
      refine j_goto (pc := 28) (tgt := 44) O dX6_isLetter_28 (by decide) ?_
      exact j_z1 (pc := 44) O dX6_isLetter_44
    · refine j_iconst (pc := 31) (v := 0) O dX6_isLetter_31 (by decide) ?_
      refine j_goto (pc := 32) (tgt := 44) O dX6_isLetter_32 (by decide) ?_
      exact j_z0 (pc := 44) O dX6_isLetter_44
theorem sp_X6_isLetter {G : wn_G} {ad : Nat → Nat} {x1 : Int32} {x2 : Int32} {M : Mm} {r : Int32} {M1 : Mm} (h : f_X6_isLetter x1 x2 M = some (r, M1)) : Sp G S2 ad mX6_isLetter 2 [.ref (ad 0), .int x1, .int x2] M M1 (some (.int r)) :=
  sp_intro (own := RX6) (by decide +kernel) rfl (Nat.le_of_ble_eq_true rfl) (fun X O T => jf_X6_isLetter O (Nat.le_refl _) x1 x2 M (r, M1) h T)
def f_X6_isWord (x1 : Int32) (x2 : Int32) (x3 : Int32) (x4 : Int32) (x5 : Int32) (x6 : Int32) (x7 : Int32) (x8 : Int32) (M : Mm) : Option (Int32 × Mm) :=
  if (M.1 0 28) = 0 then
    if (M.1 0 24) = (1 : Int32) then
      if ((M.1 0 25) + (8 : Int32)) < (M.1 0 23) then
        some (0, M)
      else
        bd (f_X6_isLetter (0 : Int32) x1 M) fun r2 M1 =>
        if r2 = 0 then
          some (0, M1)
        else
          bd (f_X6_isLetter (1 : Int32) x2 M1) fun r4 M3 =>
          if r4 = 0 then
            some (0, M3)
          else
            bd (f_X6_isLetter (2 : Int32) x3 M3) fun r6 M5 =>
            if r6 = 0 then
              some (0, M5)
            else
              bd (f_X6_isLetter (3 : Int32) x4 M5) fun r8 M7 =>
              if r8 = 0 then
                some (0, M7)
              else
                bd (f_X6_isLetter (4 : Int32) x5 M7) fun r10 M9 =>
                if r10 = 0 then
                  some (0, M9)
                else
                  bd (f_X6_isLetter (5 : Int32) x6 M9) fun r12 M11 =>
                  if r12 = 0 then
                    some (0, M11)
                  else
                    bd (f_X6_isLetter (6 : Int32) x7 M11) fun r14 M13 =>
                    if r14 = 0 then
                      some (0, M13)
                    else
                      bd (f_X6_isLetter (7 : Int32) x8 M13) fun r16 M15 =>
                      if r16 = 0 then
                        some (0, M15)
                      else
                        some (1, M15)
    else
      some (0, M)
  else
    some (0, M)
set_option maxRecDepth 100000 in
set_option maxHeartbeats 4000000 in
theorem jf_X6_isWord {G : wn_G} {ad : Nat → Nat} {X : wn_X} {d : Nat} (O : Ok G RX6 cX6_isWord 9 d X) (hd0 : 3 ≤ d) (x1 : Int32) (x2 : Int32) (x3 : Int32) (x4 : Int32) (x5 : Int32) (x6 : Int32) (x7 : Int32) (x8 : Int32) (M : Mm) : JW G S2 ad X 0 [(0, .ref (ad 0)), (1, .int x1), (2, .int x2), (3, .int x3), (4, .int x4), (5, .int x5), (6, .int x6), (7, .int x7), (8, .int x8)] [] M (f_X6_isWord x1 x2 x3 x4 x5 x6 x7 x8 M) (Krz G S2 ad X) := by
  unfold f_X6_isWord
  refine j_aload_n (pc := 0) O 0 dX6_isWord_0 rfl ?_
  refine j_getf (pc := 1) (v := .int (M.1 0 28)) O 0 28 dX6_isWord_1 fl_X6_161 so_S2_0 rfl rfl ?_
  refine j_if_ne (pc := 4) (tgt := 112) O dX6_isWord_4 (by decide) ?_ ?_
  · refine j_aload_n (pc := 7) O 0 dX6_isWord_7 rfl ?_
    refine j_getf (pc := 8) (v := .int (M.1 0 24)) O 0 24 dX6_isWord_8 fl_X6_144 so_S2_0 rfl rfl ?_
    refine j_iconst (pc := 11) (v := 1) O dX6_isWord_11 (by decide) ?_
    refine j_icmp_ne (pc := 12) (tgt := 112) O dX6_isWord_12 (by decide) ?_ ?_
    · refine j_aload_n (pc := 15) O 0 dX6_isWord_15 rfl ?_
      refine j_getf (pc := 16) (v := .int (M.1 0 23)) O 0 23 dX6_isWord_16 fl_X6_135 so_S2_0 rfl rfl ?_
      refine j_aload_n (pc := 19) O 0 dX6_isWord_19 rfl ?_
      refine j_getf (pc := 20) (v := .int (M.1 0 25)) O 0 25 dX6_isWord_20 fl_X6_141 so_S2_0 rfl rfl ?_
      refine j_bipush (pc := 23) (v := 8) O dX6_isWord_23 (by decide) ?_
      refine j_iadd (pc := 25) O dX6_isWord_25 ?_
      refine j_icmp_gt (pc := 26) (tgt := 112) O dX6_isWord_26 (by decide) ?_ ?_
      · refine j_iconst (pc := 112) (v := 0) O dX6_isWord_112 (by decide) ?_
        exact j_z0 (pc := 113) O dX6_isWord_113
      · refine j_aload_n (pc := 29) O 0 dX6_isWord_29 rfl ?_
        refine j_iconst (pc := 30) (v := 0) O dX6_isWord_30 (by decide) ?_
        refine j_iload_n (pc := 31) O 1 dX6_isWord_31 rfl ?_
        refine j_callVi (pc := 32) (dc := 2) (As := [.int (0 : Int32), .int x1]) (rest := []) O 0 (fun r M1 h => sp_X6_isLetter h) dX6_isWord_32 mv_X6_isLetter lm_X6_168 so_S2_0 rfl rfl (Nat.le_of_ble_eq_true rfl) (Nat.le_trans (Nat.le_of_ble_eq_true rfl) hd0) (fun r2 M1 => ?_)
        refine j_if_eq (pc := 35) (tgt := 112) O dX6_isWord_35 (by decide) ?_ ?_
        · refine j_iconst (pc := 112) (v := 0) O dX6_isWord_112 (by decide) ?_
          exact j_z0 (pc := 113) O dX6_isWord_113
        · refine j_aload_n (pc := 38) O 0 dX6_isWord_38 rfl ?_
          refine j_iconst (pc := 39) (v := 1) O dX6_isWord_39 (by decide) ?_
          refine j_iload_n (pc := 40) O 2 dX6_isWord_40 rfl ?_
          refine j_callVi (pc := 41) (dc := 2) (As := [.int (1 : Int32), .int x2]) (rest := []) O 0 (fun r M1 h => sp_X6_isLetter h) dX6_isWord_41 mv_X6_isLetter lm_X6_168 so_S2_0 rfl rfl (Nat.le_of_ble_eq_true rfl) (Nat.le_trans (Nat.le_of_ble_eq_true rfl) hd0) (fun r4 M3 => ?_)
          refine j_if_eq (pc := 44) (tgt := 112) O dX6_isWord_44 (by decide) ?_ ?_
          · refine j_iconst (pc := 112) (v := 0) O dX6_isWord_112 (by decide) ?_
            exact j_z0 (pc := 113) O dX6_isWord_113
          · refine j_aload_n (pc := 47) O 0 dX6_isWord_47 rfl ?_
            refine j_iconst (pc := 48) (v := 2) O dX6_isWord_48 (by decide) ?_
            refine j_iload_n (pc := 49) O 3 dX6_isWord_49 rfl ?_
            refine j_callVi (pc := 50) (dc := 2) (As := [.int (2 : Int32), .int x3]) (rest := []) O 0 (fun r M1 h => sp_X6_isLetter h) dX6_isWord_50 mv_X6_isLetter lm_X6_168 so_S2_0 rfl rfl (Nat.le_of_ble_eq_true rfl) (Nat.le_trans (Nat.le_of_ble_eq_true rfl) hd0) (fun r6 M5 => ?_)
            refine j_if_eq (pc := 53) (tgt := 112) O dX6_isWord_53 (by decide) ?_ ?_
            · refine j_iconst (pc := 112) (v := 0) O dX6_isWord_112 (by decide) ?_
              exact j_z0 (pc := 113) O dX6_isWord_113
            · refine j_aload_n (pc := 56) O 0 dX6_isWord_56 rfl ?_
              refine j_iconst (pc := 57) (v := 3) O dX6_isWord_57 (by decide) ?_
              refine j_iload (pc := 58) O 4 dX6_isWord_58 rfl ?_
              refine j_callVi (pc := 60) (dc := 2) (As := [.int (3 : Int32), .int x4]) (rest := []) O 0 (fun r M1 h => sp_X6_isLetter h) dX6_isWord_60 mv_X6_isLetter lm_X6_168 so_S2_0 rfl rfl (Nat.le_of_ble_eq_true rfl) (Nat.le_trans (Nat.le_of_ble_eq_true rfl) hd0) (fun r8 M7 => ?_)
              refine j_if_eq (pc := 63) (tgt := 112) O dX6_isWord_63 (by decide) ?_ ?_
              · refine j_iconst (pc := 112) (v := 0) O dX6_isWord_112 (by decide) ?_
                exact j_z0 (pc := 113) O dX6_isWord_113
              · refine j_aload_n (pc := 66) O 0 dX6_isWord_66 rfl ?_
                refine j_iconst (pc := 67) (v := 4) O dX6_isWord_67 (by decide) ?_
                refine j_iload (pc := 68) O 5 dX6_isWord_68 rfl ?_
                refine j_callVi (pc := 70) (dc := 2) (As := [.int (4 : Int32), .int x5]) (rest := []) O 0 (fun r M1 h => sp_X6_isLetter h) dX6_isWord_70 mv_X6_isLetter lm_X6_168 so_S2_0 rfl rfl (Nat.le_of_ble_eq_true rfl) (Nat.le_trans (Nat.le_of_ble_eq_true rfl) hd0) (fun r10 M9 => ?_)
                refine j_if_eq (pc := 73) (tgt := 112) O dX6_isWord_73 (by decide) ?_ ?_
                · refine j_iconst (pc := 112) (v := 0) O dX6_isWord_112 (by decide) ?_
                  exact j_z0 (pc := 113) O dX6_isWord_113
                · refine j_aload_n (pc := 76) O 0 dX6_isWord_76 rfl ?_
                  refine j_iconst (pc := 77) (v := 5) O dX6_isWord_77 (by decide) ?_
                  refine j_iload (pc := 78) O 6 dX6_isWord_78 rfl ?_
                  refine j_callVi (pc := 80) (dc := 2) (As := [.int (5 : Int32), .int x6]) (rest := []) O 0 (fun r M1 h => sp_X6_isLetter h) dX6_isWord_80 mv_X6_isLetter lm_X6_168 so_S2_0 rfl rfl (Nat.le_of_ble_eq_true rfl) (Nat.le_trans (Nat.le_of_ble_eq_true rfl) hd0) (fun r12 M11 => ?_)
                  refine j_if_eq (pc := 83) (tgt := 112) O dX6_isWord_83 (by decide) ?_ ?_
                  · refine j_iconst (pc := 112) (v := 0) O dX6_isWord_112 (by decide) ?_
                    exact j_z0 (pc := 113) O dX6_isWord_113
                  · refine j_aload_n (pc := 86) O 0 dX6_isWord_86 rfl ?_
                    refine j_bipush (pc := 87) (v := 6) O dX6_isWord_87 (by decide) ?_
                    refine j_iload (pc := 89) O 7 dX6_isWord_89 rfl ?_
                    refine j_callVi (pc := 91) (dc := 2) (As := [.int (6 : Int32), .int x7]) (rest := []) O 0 (fun r M1 h => sp_X6_isLetter h) dX6_isWord_91 mv_X6_isLetter lm_X6_168 so_S2_0 rfl rfl (Nat.le_of_ble_eq_true rfl) (Nat.le_trans (Nat.le_of_ble_eq_true rfl) hd0) (fun r14 M13 => ?_)
                    refine j_if_eq (pc := 94) (tgt := 112) O dX6_isWord_94 (by decide) ?_ ?_
                    · refine j_iconst (pc := 112) (v := 0) O dX6_isWord_112 (by decide) ?_
                      exact j_z0 (pc := 113) O dX6_isWord_113
                    · refine j_aload_n (pc := 97) O 0 dX6_isWord_97 rfl ?_
                      refine j_bipush (pc := 98) (v := 7) O dX6_isWord_98 (by decide) ?_
                      refine j_iload (pc := 100) O 8 dX6_isWord_100 rfl ?_
                      refine j_callVi (pc := 102) (dc := 2) (As := [.int (7 : Int32), .int x8]) (rest := []) O 0 (fun r M1 h => sp_X6_isLetter h) dX6_isWord_102 mv_X6_isLetter lm_X6_168 so_S2_0 rfl rfl (Nat.le_of_ble_eq_true rfl) (Nat.le_trans (Nat.le_of_ble_eq_true rfl) hd0) (fun r16 M15 => ?_)
                      refine j_if_eq (pc := 105) (tgt := 112) O dX6_isWord_105 (by decide) ?_ ?_
                      · refine j_iconst (pc := 112) (v := 0) O dX6_isWord_112 (by decide) ?_
                        exact j_z0 (pc := 113) O dX6_isWord_113
                      · refine j_iconst (pc := 108) (v := 1) O dX6_isWord_108 (by decide) ?_
                        refine j_goto (pc := 109) (tgt := 113) O dX6_isWord_109 (by decide) ?_
                        exact j_z1 (pc := 113) O dX6_isWord_113
    · refine j_iconst (pc := 112) (v := 0) O dX6_isWord_112 (by decide) ?_
      exact j_z0 (pc := 113) O dX6_isWord_113
  · refine j_iconst (pc := 112) (v := 0) O dX6_isWord_112 (by decide) ?_
    exact j_z0 (pc := 113) O dX6_isWord_113
theorem sp_X6_isWord {G : wn_G} {ad : Nat → Nat} {x1 : Int32} {x2 : Int32} {x3 : Int32} {x4 : Int32} {x5 : Int32} {x6 : Int32} {x7 : Int32} {x8 : Int32} {M : Mm} {r : Int32} {M1 : Mm} (h : f_X6_isWord x1 x2 x3 x4 x5 x6 x7 x8 M = some (r, M1)) : Sp G S2 ad mX6_isWord 3 [.ref (ad 0), .int x1, .int x2, .int x3, .int x4, .int x5, .int x6, .int x7, .int x8] M M1 (some (.int r)) :=
  sp_intro (own := RX6) (by decide +kernel) rfl (Nat.le_of_ble_eq_true rfl) (fun X O T => jf_X6_isWord O (Nat.le_refl _) x1 x2 x3 x4 x5 x6 x7 x8 M (r, M1) h T)
def h_X6_either_5 (G : wn_G) (ad : Nat → Nat) (X : wn_X) : Int32 × Mm → Prop := fun s => PW G S2 ad X 5 [(0, .ref (ad 0)), (1, .int s.1)] [] s.2
def f_X6_either_b5 (g_X6_either : Mm → Option (Int32 × Mm)) (g_X6_both : Mm → Option (Int32 × Mm)) (g_X6_not : Mm → Option (Int32 × Mm)) (g_X6_added : Mm → Option (Int32 × Mm)) (g_X6_term : Mm → Option (Int32 × Mm)) (g_X6_atom : Mm → Option (Int32 × Mm)) (x1 : Int32) (M : Mm) : Option ((Int32 × Mm) ⊕ (Int32 × Mm)) :=
  bd (f_X6_isWord (111 : Int32) (114 : Int32) (0 : Int32) (0 : Int32) (0 : Int32) (0 : Int32) (0 : Int32) (0 : Int32) M) fun r4 M3 =>
  if r4 = 0 then
    ex (
    some (x1, M3))
  else
    bv (f_X6_next M3) fun M5 =>
    bd (g_X6_both M5) fun r7 M6 =>
    if x1 = 0 then
      if r7 = 0 then
        some (.inl ((0 : Int32), M6))
      else
        some (.inl ((1 : Int32), M6))
    else
      some (.inl ((1 : Int32), M6))
set_option maxRecDepth 100000 in
set_option maxHeartbeats 4000000 in
theorem jf_X6_either_b5 {G : wn_G} {ad : Nat → Nat} {X : wn_X} {d : Nat} (O : Ok G RX6 cX6_either 3 d X) (hd0 : 4 ≤ d) (g_X6_either : Mm → Option (Int32 × Mm)) (g_X6_both : Mm → Option (Int32 × Mm)) (g_X6_not : Mm → Option (Int32 × Mm)) (g_X6_added : Mm → Option (Int32 × Mm)) (g_X6_term : Mm → Option (Int32 × Mm)) (g_X6_atom : Mm → Option (Int32 × Mm)) {dg : Nat} (hdg : dg + 1 ≤ d) (hg_X6_either : ∀ (M : Mm) (r : Int32) (M1 : Mm), g_X6_either M = some (r, M1) → Sp G S2 ad mX6_either dg [.ref (ad 0)] M M1 (some (.int r))) (hg_X6_both : ∀ (M : Mm) (r : Int32) (M1 : Mm), g_X6_both M = some (r, M1) → Sp G S2 ad mX6_both dg [.ref (ad 0)] M M1 (some (.int r))) (hg_X6_not : ∀ (M : Mm) (r : Int32) (M1 : Mm), g_X6_not M = some (r, M1) → Sp G S2 ad mX6_not dg [.ref (ad 0)] M M1 (some (.int r))) (hg_X6_added : ∀ (M : Mm) (r : Int32) (M1 : Mm), g_X6_added M = some (r, M1) → Sp G S2 ad mX6_added dg [.ref (ad 0)] M M1 (some (.int r))) (hg_X6_term : ∀ (M : Mm) (r : Int32) (M1 : Mm), g_X6_term M = some (r, M1) → Sp G S2 ad mX6_term dg [.ref (ad 0)] M M1 (some (.int r))) (hg_X6_atom : ∀ (M : Mm) (r : Int32) (M1 : Mm), g_X6_atom M = some (r, M1) → Sp G S2 ad mX6_atom dg [.ref (ad 0)] M M1 (some (.int r))) (x1 : Int32) (M : Mm) : JW G S2 ad X 5 [(0, .ref (ad 0)), (1, .int x1)] [] M (f_X6_either_b5 g_X6_either g_X6_both g_X6_not g_X6_added g_X6_term g_X6_atom x1 M) (Kl (h_X6_either_5 G ad X) (Kri G S2 ad X)) := by
  unfold f_X6_either_b5
  refine j_aload_n (pc := 5) O 0 dX6_either_5 rfl ?_
  refine j_bipush (pc := 6) (v := 111) O dX6_either_6 (by decide) ?_
  refine j_bipush (pc := 8) (v := 114) O dX6_either_8 (by decide) ?_
  refine j_iconst (pc := 10) (v := 0) O dX6_either_10 (by decide) ?_
  refine j_iconst (pc := 11) (v := 0) O dX6_either_11 (by decide) ?_
  refine j_iconst (pc := 12) (v := 0) O dX6_either_12 (by decide) ?_
  refine j_iconst (pc := 13) (v := 0) O dX6_either_13 (by decide) ?_
  refine j_iconst (pc := 14) (v := 0) O dX6_either_14 (by decide) ?_
  refine j_iconst (pc := 15) (v := 0) O dX6_either_15 (by decide) ?_
  refine j_callVi (pc := 16) (dc := 3) (As := [.int (111 : Int32), .int (114 : Int32), .int (0 : Int32), .int (0 : Int32), .int (0 : Int32), .int (0 : Int32), .int (0 : Int32), .int (0 : Int32)]) (rest := []) O 0 (fun r M1 h => sp_X6_isWord h) dX6_either_16 mv_X6_isWord lm_X6_181 so_S2_0 rfl rfl (Nat.le_of_ble_eq_true rfl) (Nat.le_trans (Nat.le_of_ble_eq_true rfl) hd0) (fun r4 M3 => ?_)
  refine j_if_eq (pc := 19) (tgt := 48) O dX6_either_19 (by decide) ?_ ?_
  · refine jw_ex ?_
    refine j_iload_n (pc := 48) O 1 dX6_either_48 rfl ?_
    exact j_iret (pc := 49) O dX6_either_49
  · refine j_aload_n (pc := 22) O 0 dX6_either_22 rfl ?_
    refine j_callVv (pc := 23) (dc := 2) (As := []) (rest := []) O 0 (fun M1 h => sp_X6_next h) dX6_either_23 mv_X6_next lm_X6_178 so_S2_0 rfl rfl (Nat.le_of_ble_eq_true rfl) (Nat.le_trans (Nat.le_of_ble_eq_true rfl) hd0) (fun M5 => ?_)
    refine j_aload_n (pc := 26) O 0 dX6_either_26 rfl ?_
    refine j_callVi (pc := 27) (As := []) (rest := []) O 0 (hg_X6_both M5) dX6_either_27 mv_X6_both lm_X6_233 so_S2_0 rfl rfl (Nat.le_of_ble_eq_true rfl) hdg (fun r7 M6 => ?_)
    refine j_istore_n (pc := 30) (L' := [(2, .int r7), (0, .ref (ad 0)), (1, .int x1)]) O dX6_either_30 (by decide) rfl ?_
    refine j_iload_n (pc := 31) O 2 dX6_either_31 rfl ?_
    refine j_if_ne (pc := 32) (tgt := 39) O dX6_either_32 (by decide) ?_ ?_
    · refine j_iload_n (pc := 35) O 0 dX6_either_35 rfl ?_
      refine j_if_eq (pc := 36) (tgt := 43) O dX6_either_36 (by decide) ?_ ?_
      · refine j_iconst (pc := 43) (v := 0) O dX6_either_43 (by decide) ?_
        refine j_istore_n (pc := 44) (L' := [(1, .int (0 : Int32)), (2, .int r7), (0, .ref (ad 0))]) O dX6_either_44 (by decide) rfl ?_
        refine j_goto (pc := 45) (tgt := 5) O dX6_either_45 (by decide) ?_
        exact jw_next (fun hh => pw_sub [2, 0] rfl hh)
      · refine j_iconst (pc := 39) (v := 1) O dX6_either_39 (by decide) ?_
        refine j_goto (pc := 40) (tgt := 44) O dX6_either_40 (by decide) ?_
        refine j_istore_n (pc := 44) (L' := [(1, .int (1 : Int32)), (2, .int r7), (0, .ref (ad 0))]) O dX6_either_44 (by decide) rfl ?_
        refine j_goto (pc := 45) (tgt := 5) O dX6_either_45 (by decide) ?_
        exact jw_next (fun hh => pw_sub [2, 0] rfl hh)
    · refine j_iconst (pc := 39) (v := 1) O dX6_either_39 (by decide) ?_
      refine j_goto (pc := 40) (tgt := 44) O dX6_either_40 (by decide) ?_
      refine j_istore_n (pc := 44) (L' := [(1, .int (1 : Int32)), (2, .int r7), (0, .ref (ad 0))]) O dX6_either_44 (by decide) rfl ?_
      refine j_goto (pc := 45) (tgt := 5) O dX6_either_45 (by decide) ?_
      exact jw_next (fun hh => pw_sub [2, 0] rfl hh)
def f_X6_either (g_X6_either : Mm → Option (Int32 × Mm)) (g_X6_both : Mm → Option (Int32 × Mm)) (g_X6_not : Mm → Option (Int32 × Mm)) (g_X6_added : Mm → Option (Int32 × Mm)) (g_X6_term : Mm → Option (Int32 × Mm)) (g_X6_atom : Mm → Option (Int32 × Mm)) (M : Mm) : Option (Int32 × Mm) :=
  bd (g_X6_both M) fun r2 M1 =>
  iter (fun s => f_X6_either_b5 g_X6_either g_X6_both g_X6_not g_X6_added g_X6_term g_X6_atom s.1 s.2) fuel (r2, M1)
set_option maxRecDepth 100000 in
set_option maxHeartbeats 4000000 in
theorem jf_X6_either {G : wn_G} {ad : Nat → Nat} {X : wn_X} {d : Nat} (O : Ok G RX6 cX6_either 3 d X) (hd0 : 4 ≤ d) (g_X6_either : Mm → Option (Int32 × Mm)) (g_X6_both : Mm → Option (Int32 × Mm)) (g_X6_not : Mm → Option (Int32 × Mm)) (g_X6_added : Mm → Option (Int32 × Mm)) (g_X6_term : Mm → Option (Int32 × Mm)) (g_X6_atom : Mm → Option (Int32 × Mm)) {dg : Nat} (hdg : dg + 1 ≤ d) (hg_X6_either : ∀ (M : Mm) (r : Int32) (M1 : Mm), g_X6_either M = some (r, M1) → Sp G S2 ad mX6_either dg [.ref (ad 0)] M M1 (some (.int r))) (hg_X6_both : ∀ (M : Mm) (r : Int32) (M1 : Mm), g_X6_both M = some (r, M1) → Sp G S2 ad mX6_both dg [.ref (ad 0)] M M1 (some (.int r))) (hg_X6_not : ∀ (M : Mm) (r : Int32) (M1 : Mm), g_X6_not M = some (r, M1) → Sp G S2 ad mX6_not dg [.ref (ad 0)] M M1 (some (.int r))) (hg_X6_added : ∀ (M : Mm) (r : Int32) (M1 : Mm), g_X6_added M = some (r, M1) → Sp G S2 ad mX6_added dg [.ref (ad 0)] M M1 (some (.int r))) (hg_X6_term : ∀ (M : Mm) (r : Int32) (M1 : Mm), g_X6_term M = some (r, M1) → Sp G S2 ad mX6_term dg [.ref (ad 0)] M M1 (some (.int r))) (hg_X6_atom : ∀ (M : Mm) (r : Int32) (M1 : Mm), g_X6_atom M = some (r, M1) → Sp G S2 ad mX6_atom dg [.ref (ad 0)] M M1 (some (.int r))) (M : Mm) : JW G S2 ad X 0 [(0, .ref (ad 0))] [] M (f_X6_either g_X6_either g_X6_both g_X6_not g_X6_added g_X6_term g_X6_atom M) (Kri G S2 ad X) := by
  unfold f_X6_either
  refine j_aload_n (pc := 0) O 0 dX6_either_0 rfl ?_
  refine j_callVi (pc := 1) (As := []) (rest := []) O 0 (hg_X6_both M) dX6_either_1 mv_X6_both lm_X6_233 so_S2_0 rfl rfl (Nat.le_of_ble_eq_true rfl) hdg (fun r2 M1 => ?_)
  refine j_istore_n (pc := 4) (L' := [(1, .int r2), (0, .ref (ad 0))]) O dX6_either_4 (by decide) rfl ?_
  exact jw_iter (hd := h_X6_either_5 G ad X) (fun hh => pw_sub [1, 0] rfl hh) (fun s => jf_X6_either_b5 O hd0 g_X6_either g_X6_both g_X6_not g_X6_added g_X6_term g_X6_atom hdg hg_X6_either hg_X6_both hg_X6_not hg_X6_added hg_X6_term hg_X6_atom s.1 s.2)
def h_X6_both_5 (G : wn_G) (ad : Nat → Nat) (X : wn_X) : Int32 × Mm → Prop := fun s => PW G S2 ad X 5 [(0, .ref (ad 0)), (1, .int s.1)] [] s.2
def f_X6_both_b5 (g_X6_either : Mm → Option (Int32 × Mm)) (g_X6_both : Mm → Option (Int32 × Mm)) (g_X6_not : Mm → Option (Int32 × Mm)) (g_X6_added : Mm → Option (Int32 × Mm)) (g_X6_term : Mm → Option (Int32 × Mm)) (g_X6_atom : Mm → Option (Int32 × Mm)) (x1 : Int32) (M : Mm) : Option ((Int32 × Mm) ⊕ (Int32 × Mm)) :=
  bd (f_X6_isWord (97 : Int32) (110 : Int32) (100 : Int32) (0 : Int32) (0 : Int32) (0 : Int32) (0 : Int32) (0 : Int32) M) fun r4 M3 =>
  if r4 = 0 then
    ex (
    some (x1, M3))
  else
    bv (f_X6_next M3) fun M5 =>
    bd (g_X6_not M5) fun r7 M6 =>
    if x1 = 0 then
      some (.inl ((0 : Int32), M6))
    else
      if r7 = 0 then
        some (.inl ((0 : Int32), M6))
      else
        some (.inl ((1 : Int32), M6))
set_option maxRecDepth 100000 in
set_option maxHeartbeats 4000000 in
theorem jf_X6_both_b5 {G : wn_G} {ad : Nat → Nat} {X : wn_X} {d : Nat} (O : Ok G RX6 cX6_both 3 d X) (hd0 : 4 ≤ d) (g_X6_either : Mm → Option (Int32 × Mm)) (g_X6_both : Mm → Option (Int32 × Mm)) (g_X6_not : Mm → Option (Int32 × Mm)) (g_X6_added : Mm → Option (Int32 × Mm)) (g_X6_term : Mm → Option (Int32 × Mm)) (g_X6_atom : Mm → Option (Int32 × Mm)) {dg : Nat} (hdg : dg + 1 ≤ d) (hg_X6_either : ∀ (M : Mm) (r : Int32) (M1 : Mm), g_X6_either M = some (r, M1) → Sp G S2 ad mX6_either dg [.ref (ad 0)] M M1 (some (.int r))) (hg_X6_both : ∀ (M : Mm) (r : Int32) (M1 : Mm), g_X6_both M = some (r, M1) → Sp G S2 ad mX6_both dg [.ref (ad 0)] M M1 (some (.int r))) (hg_X6_not : ∀ (M : Mm) (r : Int32) (M1 : Mm), g_X6_not M = some (r, M1) → Sp G S2 ad mX6_not dg [.ref (ad 0)] M M1 (some (.int r))) (hg_X6_added : ∀ (M : Mm) (r : Int32) (M1 : Mm), g_X6_added M = some (r, M1) → Sp G S2 ad mX6_added dg [.ref (ad 0)] M M1 (some (.int r))) (hg_X6_term : ∀ (M : Mm) (r : Int32) (M1 : Mm), g_X6_term M = some (r, M1) → Sp G S2 ad mX6_term dg [.ref (ad 0)] M M1 (some (.int r))) (hg_X6_atom : ∀ (M : Mm) (r : Int32) (M1 : Mm), g_X6_atom M = some (r, M1) → Sp G S2 ad mX6_atom dg [.ref (ad 0)] M M1 (some (.int r))) (x1 : Int32) (M : Mm) : JW G S2 ad X 5 [(0, .ref (ad 0)), (1, .int x1)] [] M (f_X6_both_b5 g_X6_either g_X6_both g_X6_not g_X6_added g_X6_term g_X6_atom x1 M) (Kl (h_X6_both_5 G ad X) (Kri G S2 ad X)) := by
  unfold f_X6_both_b5
  refine j_aload_n (pc := 5) O 0 dX6_both_5 rfl ?_
  refine j_bipush (pc := 6) (v := 97) O dX6_both_6 (by decide) ?_
  refine j_bipush (pc := 8) (v := 110) O dX6_both_8 (by decide) ?_
  refine j_bipush (pc := 10) (v := 100) O dX6_both_10 (by decide) ?_
  refine j_iconst (pc := 12) (v := 0) O dX6_both_12 (by decide) ?_
  refine j_iconst (pc := 13) (v := 0) O dX6_both_13 (by decide) ?_
  refine j_iconst (pc := 14) (v := 0) O dX6_both_14 (by decide) ?_
  refine j_iconst (pc := 15) (v := 0) O dX6_both_15 (by decide) ?_
  refine j_iconst (pc := 16) (v := 0) O dX6_both_16 (by decide) ?_
  refine j_callVi (pc := 17) (dc := 3) (As := [.int (97 : Int32), .int (110 : Int32), .int (100 : Int32), .int (0 : Int32), .int (0 : Int32), .int (0 : Int32), .int (0 : Int32), .int (0 : Int32)]) (rest := []) O 0 (fun r M1 h => sp_X6_isWord h) dX6_both_17 mv_X6_isWord lm_X6_181 so_S2_0 rfl rfl (Nat.le_of_ble_eq_true rfl) (Nat.le_trans (Nat.le_of_ble_eq_true rfl) hd0) (fun r4 M3 => ?_)
  refine j_if_eq (pc := 20) (tgt := 49) O dX6_both_20 (by decide) ?_ ?_
  · refine jw_ex ?_
    refine j_iload_n (pc := 49) O 1 dX6_both_49 rfl ?_
    exact j_iret (pc := 50) O dX6_both_50
  · refine j_aload_n (pc := 23) O 0 dX6_both_23 rfl ?_
    refine j_callVv (pc := 24) (dc := 2) (As := []) (rest := []) O 0 (fun M1 h => sp_X6_next h) dX6_both_24 mv_X6_next lm_X6_178 so_S2_0 rfl rfl (Nat.le_of_ble_eq_true rfl) (Nat.le_trans (Nat.le_of_ble_eq_true rfl) hd0) (fun M5 => ?_)
    refine j_aload_n (pc := 27) O 0 dX6_both_27 rfl ?_
    refine j_callVi (pc := 28) (As := []) (rest := []) O 0 (hg_X6_not M5) dX6_both_28 mv_X6_not lm_X6_225 so_S2_0 rfl rfl (Nat.le_of_ble_eq_true rfl) hdg (fun r7 M6 => ?_)
    refine j_istore_n (pc := 31) (L' := [(2, .int r7), (0, .ref (ad 0)), (1, .int x1)]) O dX6_both_31 (by decide) rfl ?_
    refine j_iload_n (pc := 32) O 2 dX6_both_32 rfl ?_
    refine j_if_eq (pc := 33) (tgt := 44) O dX6_both_33 (by decide) ?_ ?_
    · refine j_iconst (pc := 44) (v := 0) O dX6_both_44 (by decide) ?_
      refine j_istore_n (pc := 45) (L' := [(1, .int (0 : Int32)), (2, .int r7), (0, .ref (ad 0))]) O dX6_both_45 (by decide) rfl ?_
      refine j_goto (pc := 46) (tgt := 5) O dX6_both_46 (by decide) ?_
      exact jw_next (fun hh => pw_sub [2, 0] rfl hh)
    · refine j_iload_n (pc := 36) O 0 dX6_both_36 rfl ?_
      refine j_if_eq (pc := 37) (tgt := 44) O dX6_both_37 (by decide) ?_ ?_
      · refine j_iconst (pc := 44) (v := 0) O dX6_both_44 (by decide) ?_
        refine j_istore_n (pc := 45) (L' := [(1, .int (0 : Int32)), (2, .int r7), (0, .ref (ad 0))]) O dX6_both_45 (by decide) rfl ?_
        refine j_goto (pc := 46) (tgt := 5) O dX6_both_46 (by decide) ?_
        exact jw_next (fun hh => pw_sub [2, 0] rfl hh)
      · refine j_iconst (pc := 40) (v := 1) O dX6_both_40 (by decide) ?_
        refine j_goto (pc := 41) (tgt := 45) O dX6_both_41 (by decide) ?_
        refine j_istore_n (pc := 45) (L' := [(1, .int (1 : Int32)), (2, .int r7), (0, .ref (ad 0))]) O dX6_both_45 (by decide) rfl ?_
        refine j_goto (pc := 46) (tgt := 5) O dX6_both_46 (by decide) ?_
        exact jw_next (fun hh => pw_sub [2, 0] rfl hh)
def f_X6_both (g_X6_either : Mm → Option (Int32 × Mm)) (g_X6_both : Mm → Option (Int32 × Mm)) (g_X6_not : Mm → Option (Int32 × Mm)) (g_X6_added : Mm → Option (Int32 × Mm)) (g_X6_term : Mm → Option (Int32 × Mm)) (g_X6_atom : Mm → Option (Int32 × Mm)) (M : Mm) : Option (Int32 × Mm) :=
  bd (g_X6_not M) fun r2 M1 =>
  iter (fun s => f_X6_both_b5 g_X6_either g_X6_both g_X6_not g_X6_added g_X6_term g_X6_atom s.1 s.2) fuel (r2, M1)
set_option maxRecDepth 100000 in
set_option maxHeartbeats 4000000 in
theorem jf_X6_both {G : wn_G} {ad : Nat → Nat} {X : wn_X} {d : Nat} (O : Ok G RX6 cX6_both 3 d X) (hd0 : 4 ≤ d) (g_X6_either : Mm → Option (Int32 × Mm)) (g_X6_both : Mm → Option (Int32 × Mm)) (g_X6_not : Mm → Option (Int32 × Mm)) (g_X6_added : Mm → Option (Int32 × Mm)) (g_X6_term : Mm → Option (Int32 × Mm)) (g_X6_atom : Mm → Option (Int32 × Mm)) {dg : Nat} (hdg : dg + 1 ≤ d) (hg_X6_either : ∀ (M : Mm) (r : Int32) (M1 : Mm), g_X6_either M = some (r, M1) → Sp G S2 ad mX6_either dg [.ref (ad 0)] M M1 (some (.int r))) (hg_X6_both : ∀ (M : Mm) (r : Int32) (M1 : Mm), g_X6_both M = some (r, M1) → Sp G S2 ad mX6_both dg [.ref (ad 0)] M M1 (some (.int r))) (hg_X6_not : ∀ (M : Mm) (r : Int32) (M1 : Mm), g_X6_not M = some (r, M1) → Sp G S2 ad mX6_not dg [.ref (ad 0)] M M1 (some (.int r))) (hg_X6_added : ∀ (M : Mm) (r : Int32) (M1 : Mm), g_X6_added M = some (r, M1) → Sp G S2 ad mX6_added dg [.ref (ad 0)] M M1 (some (.int r))) (hg_X6_term : ∀ (M : Mm) (r : Int32) (M1 : Mm), g_X6_term M = some (r, M1) → Sp G S2 ad mX6_term dg [.ref (ad 0)] M M1 (some (.int r))) (hg_X6_atom : ∀ (M : Mm) (r : Int32) (M1 : Mm), g_X6_atom M = some (r, M1) → Sp G S2 ad mX6_atom dg [.ref (ad 0)] M M1 (some (.int r))) (M : Mm) : JW G S2 ad X 0 [(0, .ref (ad 0))] [] M (f_X6_both g_X6_either g_X6_both g_X6_not g_X6_added g_X6_term g_X6_atom M) (Kri G S2 ad X) := by
  unfold f_X6_both
  refine j_aload_n (pc := 0) O 0 dX6_both_0 rfl ?_
  refine j_callVi (pc := 1) (As := []) (rest := []) O 0 (hg_X6_not M) dX6_both_1 mv_X6_not lm_X6_225 so_S2_0 rfl rfl (Nat.le_of_ble_eq_true rfl) hdg (fun r2 M1 => ?_)
  refine j_istore_n (pc := 4) (L' := [(1, .int r2), (0, .ref (ad 0))]) O dX6_both_4 (by decide) rfl ?_
  exact jw_iter (hd := h_X6_both_5 G ad X) (fun hh => pw_sub [1, 0] rfl hh) (fun s => jf_X6_both_b5 O hd0 g_X6_either g_X6_both g_X6_not g_X6_added g_X6_term g_X6_atom hdg hg_X6_either hg_X6_both hg_X6_not hg_X6_added hg_X6_term hg_X6_atom s.1 s.2)
def f_X6_isSign (x1 : Int32) (M : Mm) : Option (Int32 × Mm) :=
  if (M.1 0 28) = 0 then
    if (M.1 0 24) = (3 : Int32) then
      if (lg_cmp (M.2 0) (Int32.toInt64 x1)) = 0 then
        some (1, M)
      else
        some (0, M)
    else
      some (0, M)
  else
    some (0, M)
set_option maxRecDepth 100000 in
set_option maxHeartbeats 4000000 in
theorem jf_X6_isSign {G : wn_G} {ad : Nat → Nat} {X : wn_X} {d : Nat} (O : Ok G RX6 cX6_isSign 2 d X) (hd0 : 1 ≤ d) (x1 : Int32) (M : Mm) : JW G S2 ad X 0 [(0, .ref (ad 0)), (1, .int x1)] [] M (f_X6_isSign x1 M) (Krz G S2 ad X) := by
  unfold f_X6_isSign
  refine j_aload_n (pc := 0) O 0 dX6_isSign_0 rfl ?_
  refine j_getf (pc := 1) (v := .int (M.1 0 28)) O 0 28 dX6_isSign_1 fl_X6_161 so_S2_0 rfl rfl ?_
  refine j_if_ne (pc := 4) (tgt := 29) O dX6_isSign_4 (by decide) ?_ ?_
  · refine j_aload_n (pc := 7) O 0 dX6_isSign_7 rfl ?_
    refine j_getf (pc := 8) (v := .int (M.1 0 24)) O 0 24 dX6_isSign_8 fl_X6_144 so_S2_0 rfl rfl ?_
    refine j_iconst (pc := 11) (v := 3) O dX6_isSign_11 (by decide) ?_
    refine j_icmp_ne (pc := 12) (tgt := 29) O dX6_isSign_12 (by decide) ?_ ?_
    · refine j_aload_n (pc := 15) O 0 dX6_isSign_15 rfl ?_
      refine j_getf (pc := 16) (v := .long (M.2 0)) O 0 26 dX6_isSign_16 fl_X6_155 so_S2_0 rfl rfl ?_
      refine j_iload_n (pc := 19) O 1 dX6_isSign_19 rfl ?_
      refine j_i2l (pc := 20) O dX6_isSign_20 ?_
      refine j_lcmp (pc := 21) O dX6_isSign_21 ?_
      refine j_if_ne (pc := 22) (tgt := 29) O dX6_isSign_22 (by decide) ?_ ?_
      · refine j_iconst (pc := 25) (v := 1) O dX6_isSign_25 (by decide) ?_
        refine j_goto (pc := 26) (tgt := 30) O dX6_isSign_26 (by decide) ?_
        exact j_z1 (pc := 30) O dX6_isSign_30
      · refine j_iconst (pc := 29) (v := 0) O dX6_isSign_29 (by decide) ?_
        exact j_z0 (pc := 30) O dX6_isSign_30
    · refine j_iconst (pc := 29) (v := 0) O dX6_isSign_29 (by decide) ?_
      exact j_z0 (pc := 30) O dX6_isSign_30
  · refine j_iconst (pc := 29) (v := 0) O dX6_isSign_29 (by decide) ?_
    exact j_z0 (pc := 30) O dX6_isSign_30
theorem sp_X6_isSign {G : wn_G} {ad : Nat → Nat} {x1 : Int32} {M : Mm} {r : Int32} {M1 : Mm} (h : f_X6_isSign x1 M = some (r, M1)) : Sp G S2 ad mX6_isSign 1 [.ref (ad 0), .int x1] M M1 (some (.int r)) :=
  sp_intro (own := RX6) (by decide +kernel) rfl (Nat.le_of_ble_eq_true rfl) (fun X O T => jf_X6_isSign O (Nat.le_refl _) x1 M (r, M1) h T)
def f_X6_fail (M : Mm) : Option (Mm) :=
  if (M.1 0 28) = 0 then
    bm (ms M 0 28 (1 : Int32)) fun M1 =>
    bm (ms M1 0 29 (M1.1 0 25)) fun M2 =>
    some M2
  else
    some M
set_option maxRecDepth 100000 in
set_option maxHeartbeats 4000000 in
theorem jf_X6_fail {G : wn_G} {ad : Nat → Nat} {X : wn_X} {d : Nat} (O : Ok G RX6 cX6_fail 1 d X) (hd0 : 1 ≤ d) (M : Mm) : JW G S2 ad X 0 [(0, .ref (ad 0))] [] M (f_X6_fail M) (Krv G S2 ad X) := by
  unfold f_X6_fail
  refine j_aload_n (pc := 0) O 0 dX6_fail_0 rfl ?_
  refine j_getf (pc := 1) (v := .int (M.1 0 28)) O 0 28 dX6_fail_1 fl_X6_161 so_S2_0 rfl rfl ?_
  refine j_if_ne (pc := 4) (tgt := 20) O dX6_fail_4 (by decide) ?_ ?_
  · refine j_aload_n (pc := 7) O 0 dX6_fail_7 rfl ?_
    refine j_iconst (pc := 8) (v := 1) O dX6_fail_8 (by decide) ?_
    refine j_putz (pc := 9) O 0 28 dX6_fail_9 fl_X6_161 so_S2_0 ft_X6_28 ⟨by decide, by decide⟩ rfl (fun M1 => ?_)
    refine j_aload_n (pc := 12) O 0 dX6_fail_12 rfl ?_
    refine j_aload_n (pc := 13) O 0 dX6_fail_13 rfl ?_
    refine j_getf (pc := 14) (v := .int (M1.1 0 25)) O 0 25 dX6_fail_14 fl_X6_141 so_S2_0 rfl rfl ?_
    refine j_puti (pc := 17) O 0 29 dX6_fail_17 fl_X6_165 so_S2_0 ft_X6_29 rfl (fun M2 => ?_)
    exact j_vret (pc := 20) O dX6_fail_20
  · exact j_vret (pc := 20) O dX6_fail_20
theorem sp_X6_fail {G : wn_G} {ad : Nat → Nat} {M M1 : Mm} (h : f_X6_fail M = some M1) : Sp G S2 ad mX6_fail 1 [.ref (ad 0)] M M1 none :=
  sp_intro (own := RX6) (by decide +kernel) rfl (Nat.le_of_ble_eq_true rfl) (fun X O T => jf_X6_fail O (Nat.le_refl _) M M1 h T)
def f_X6_opens (M : Mm) : Option (Int32 × Mm) :=
  if (M.1 0 27) = (5 : Int32) then
    bv (f_X6_fail M) fun M3 =>
    some (0, M3)
  else
    bm (ms M 0 27 ((M.1 0 27) + (1 : Int32))) fun M1 =>
    bv (f_X6_next M1) fun M2 =>
    some (1, M2)
set_option maxRecDepth 100000 in
set_option maxHeartbeats 4000000 in
theorem jf_X6_opens {G : wn_G} {ad : Nat → Nat} {X : wn_X} {d : Nat} (O : Ok G RX6 cX6_opens 1 d X) (hd0 : 3 ≤ d) (M : Mm) : JW G S2 ad X 0 [(0, .ref (ad 0))] [] M (f_X6_opens M) (Krz G S2 ad X) := by
  unfold f_X6_opens
  refine j_aload_n (pc := 0) O 0 dX6_opens_0 rfl ?_
  refine j_getf (pc := 1) (v := .int (M.1 0 27)) O 0 27 dX6_opens_1 fl_X6_172 so_S2_0 rfl rfl ?_
  refine j_iconst (pc := 4) (v := 5) O dX6_opens_4 (by decide) ?_
  refine j_icmp_ne (pc := 5) (tgt := 14) O dX6_opens_5 (by decide) ?_ ?_
  · refine j_aload_n (pc := 8) O 0 dX6_opens_8 rfl ?_
    refine j_callVv (pc := 9) (dc := 1) (As := []) (rest := []) O 0 (fun M1 h => sp_X6_fail h) dX6_opens_9 mv_X6_fail lm_X6_175 so_S2_0 rfl rfl (Nat.le_of_ble_eq_true rfl) (Nat.le_trans (Nat.le_of_ble_eq_true rfl) hd0) (fun M3 => ?_)
    refine j_iconst (pc := 12) (v := 0) O dX6_opens_12 (by decide) ?_
    exact j_z0 (pc := 13) O dX6_opens_13
  · refine j_aload_n (pc := 14) O 0 dX6_opens_14 rfl ?_
    refine j_dup (pc := 15) O dX6_opens_15 rfl ?_
    refine j_getf (pc := 16) (v := .int (M.1 0 27)) O 0 27 dX6_opens_16 fl_X6_172 so_S2_0 rfl rfl ?_
    refine j_iconst (pc := 19) (v := 1) O dX6_opens_19 (by decide) ?_
    refine j_iadd (pc := 20) O dX6_opens_20 ?_
    refine j_puti (pc := 21) O 0 27 dX6_opens_21 fl_X6_172 so_S2_0 ft_X6_27 rfl (fun M1 => ?_)
    refine j_aload_n (pc := 24) O 0 dX6_opens_24 rfl ?_
    refine j_callVv (pc := 25) (dc := 2) (As := []) (rest := []) O 0 (fun M1 h => sp_X6_next h) dX6_opens_25 mv_X6_next lm_X6_178 so_S2_0 rfl rfl (Nat.le_of_ble_eq_true rfl) (Nat.le_trans (Nat.le_of_ble_eq_true rfl) hd0) (fun M2 => ?_)
    refine j_iconst (pc := 28) (v := 1) O dX6_opens_28 (by decide) ?_
    exact j_z1 (pc := 29) O dX6_opens_29
theorem sp_X6_opens {G : wn_G} {ad : Nat → Nat} {M : Mm} {r : Int32} {M1 : Mm} (h : f_X6_opens M = some (r, M1)) : Sp G S2 ad mX6_opens 3 [.ref (ad 0)] M M1 (some (.int r)) :=
  sp_intro (own := RX6) (by decide +kernel) rfl (Nat.le_of_ble_eq_true rfl) (fun X O T => jf_X6_opens O (Nat.le_refl _) M (r, M1) h T)
def f_X6_not_j93 (g_X6_either : Mm → Option (Int32 × Mm)) (g_X6_both : Mm → Option (Int32 × Mm)) (g_X6_not : Mm → Option (Int32 × Mm)) (g_X6_added : Mm → Option (Int32 × Mm)) (g_X6_term : Mm → Option (Int32 × Mm)) (g_X6_atom : Mm → Option (Int32 × Mm)) (x1 : Int32) (s0 : Int32) (M : Mm) : Option (Int32 × Mm) :=
  bv (f_X6_next M) fun M7 =>
  bd (g_X6_added M7) fun r9 M8 =>
  if s0 = 0 then
    if x1 = r9 then
      some ((1 : Int32), M8)
    else
      some ((0 : Int32), M8)
  else
    if r9 ≤ x1 then
      some ((0 : Int32), M8)
    else
      some ((1 : Int32), M8)
set_option maxRecDepth 100000 in
set_option maxHeartbeats 4000000 in
theorem jf_X6_not_j93 {G : wn_G} {ad : Nat → Nat} {X : wn_X} {d : Nat} (O : Ok G RX6 cX6_not 4 d X) (hd0 : 4 ≤ d) (g_X6_either : Mm → Option (Int32 × Mm)) (g_X6_both : Mm → Option (Int32 × Mm)) (g_X6_not : Mm → Option (Int32 × Mm)) (g_X6_added : Mm → Option (Int32 × Mm)) (g_X6_term : Mm → Option (Int32 × Mm)) (g_X6_atom : Mm → Option (Int32 × Mm)) {dg : Nat} (hdg : dg + 1 ≤ d) (hg_X6_either : ∀ (M : Mm) (r : Int32) (M1 : Mm), g_X6_either M = some (r, M1) → Sp G S2 ad mX6_either dg [.ref (ad 0)] M M1 (some (.int r))) (hg_X6_both : ∀ (M : Mm) (r : Int32) (M1 : Mm), g_X6_both M = some (r, M1) → Sp G S2 ad mX6_both dg [.ref (ad 0)] M M1 (some (.int r))) (hg_X6_not : ∀ (M : Mm) (r : Int32) (M1 : Mm), g_X6_not M = some (r, M1) → Sp G S2 ad mX6_not dg [.ref (ad 0)] M M1 (some (.int r))) (hg_X6_added : ∀ (M : Mm) (r : Int32) (M1 : Mm), g_X6_added M = some (r, M1) → Sp G S2 ad mX6_added dg [.ref (ad 0)] M M1 (some (.int r))) (hg_X6_term : ∀ (M : Mm) (r : Int32) (M1 : Mm), g_X6_term M = some (r, M1) → Sp G S2 ad mX6_term dg [.ref (ad 0)] M M1 (some (.int r))) (hg_X6_atom : ∀ (M : Mm) (r : Int32) (M1 : Mm), g_X6_atom M = some (r, M1) → Sp G S2 ad mX6_atom dg [.ref (ad 0)] M M1 (some (.int r))) (x1 : Int32) (s0 : Int32) (M : Mm) : JW G S2 ad X 93 [(0, .ref (ad 0)), (1, .int x1)] [.int s0] M (f_X6_not_j93 g_X6_either g_X6_both g_X6_not g_X6_added g_X6_term g_X6_atom x1 s0 M) (Kri G S2 ad X) := by
  unfold f_X6_not_j93
  refine j_istore_n (pc := 93) (L' := [(2, .int s0), (0, .ref (ad 0)), (1, .int x1)]) O dX6_not_93 (by decide) rfl ?_
  refine j_aload_n (pc := 94) O 1 dX6_not_94 rfl ?_
  refine j_callVv (pc := 95) (dc := 2) (As := []) (rest := []) O 0 (fun M1 h => sp_X6_next h) dX6_not_95 mv_X6_next lm_X6_178 so_S2_0 rfl rfl (Nat.le_of_ble_eq_true rfl) (Nat.le_trans (Nat.le_of_ble_eq_true rfl) hd0) (fun M7 => ?_)
  refine j_aload_n (pc := 98) O 1 dX6_not_98 rfl ?_
  refine j_callVi (pc := 99) (As := []) (rest := []) O 0 (hg_X6_added M7) dX6_not_99 mv_X6_added lm_X6_228 so_S2_0 rfl rfl (Nat.le_of_ble_eq_true rfl) hdg (fun r9 M8 => ?_)
  refine j_istore_n (pc := 102) (L' := [(3, .int r9), (2, .int s0), (0, .ref (ad 0)), (1, .int x1)]) O dX6_not_102 (by decide) rfl ?_
  refine j_iload_n (pc := 103) O 1 dX6_not_103 rfl ?_
  refine j_if_eq (pc := 104) (tgt := 115) O dX6_not_104 (by decide) ?_ ?_
  · refine j_iload_n (pc := 115) O 3 dX6_not_115 rfl ?_
    refine j_iload_n (pc := 116) O 0 dX6_not_116 rfl ?_
    refine j_icmp_ne (pc := 117) (tgt := 124) O dX6_not_117 (by decide) ?_ ?_
    · refine j_iconst (pc := 120) (v := 1) O dX6_not_120 (by decide) ?_
      refine j_goto (pc := 121) (tgt := 125) O dX6_not_121 (by decide) ?_
      exact j_iret (pc := 125) O dX6_not_125
    · refine j_iconst (pc := 124) (v := 0) O dX6_not_124 (by decide) ?_
      exact j_iret (pc := 125) O dX6_not_125
  · refine j_iload_n (pc := 107) O 3 dX6_not_107 rfl ?_
    refine j_iload_n (pc := 108) O 0 dX6_not_108 rfl ?_
    refine j_icmp_ge (pc := 109) (tgt := 124) O dX6_not_109 (by decide) ?_ ?_
    · refine j_iconst (pc := 124) (v := 0) O dX6_not_124 (by decide) ?_
      exact j_iret (pc := 125) O dX6_not_125
    · refine j_goto (pc := 112) (tgt := 120) O dX6_not_112 (by decide) ?_
      refine j_iconst (pc := 120) (v := 1) O dX6_not_120 (by decide) ?_
      refine j_goto (pc := 121) (tgt := 125) O dX6_not_121 (by decide) ?_
      exact j_iret (pc := 125) O dX6_not_125
def f_X6_not_j77 (g_X6_either : Mm → Option (Int32 × Mm)) (g_X6_both : Mm → Option (Int32 × Mm)) (g_X6_not : Mm → Option (Int32 × Mm)) (g_X6_added : Mm → Option (Int32 × Mm)) (g_X6_term : Mm → Option (Int32 × Mm)) (g_X6_atom : Mm → Option (Int32 × Mm)) (x1 : Int32) (M : Mm) : Option (Int32 × Mm) :=
  if (lg_cmp (M.2 0) (60 : Int64)) = 0 then
    f_X6_not_j93 g_X6_either g_X6_both g_X6_not g_X6_added g_X6_term g_X6_atom x1 (1 : Int32) M
  else
    f_X6_not_j93 g_X6_either g_X6_both g_X6_not g_X6_added g_X6_term g_X6_atom x1 (0 : Int32) M
set_option maxRecDepth 100000 in
set_option maxHeartbeats 4000000 in
theorem jf_X6_not_j77 {G : wn_G} {ad : Nat → Nat} {X : wn_X} {d : Nat} (O : Ok G RX6 cX6_not 4 d X) (hd0 : 4 ≤ d) (g_X6_either : Mm → Option (Int32 × Mm)) (g_X6_both : Mm → Option (Int32 × Mm)) (g_X6_not : Mm → Option (Int32 × Mm)) (g_X6_added : Mm → Option (Int32 × Mm)) (g_X6_term : Mm → Option (Int32 × Mm)) (g_X6_atom : Mm → Option (Int32 × Mm)) {dg : Nat} (hdg : dg + 1 ≤ d) (hg_X6_either : ∀ (M : Mm) (r : Int32) (M1 : Mm), g_X6_either M = some (r, M1) → Sp G S2 ad mX6_either dg [.ref (ad 0)] M M1 (some (.int r))) (hg_X6_both : ∀ (M : Mm) (r : Int32) (M1 : Mm), g_X6_both M = some (r, M1) → Sp G S2 ad mX6_both dg [.ref (ad 0)] M M1 (some (.int r))) (hg_X6_not : ∀ (M : Mm) (r : Int32) (M1 : Mm), g_X6_not M = some (r, M1) → Sp G S2 ad mX6_not dg [.ref (ad 0)] M M1 (some (.int r))) (hg_X6_added : ∀ (M : Mm) (r : Int32) (M1 : Mm), g_X6_added M = some (r, M1) → Sp G S2 ad mX6_added dg [.ref (ad 0)] M M1 (some (.int r))) (hg_X6_term : ∀ (M : Mm) (r : Int32) (M1 : Mm), g_X6_term M = some (r, M1) → Sp G S2 ad mX6_term dg [.ref (ad 0)] M M1 (some (.int r))) (hg_X6_atom : ∀ (M : Mm) (r : Int32) (M1 : Mm), g_X6_atom M = some (r, M1) → Sp G S2 ad mX6_atom dg [.ref (ad 0)] M M1 (some (.int r))) (x1 : Int32) (M : Mm) : JW G S2 ad X 77 [(0, .ref (ad 0)), (1, .int x1)] [] M (f_X6_not_j77 g_X6_either g_X6_both g_X6_not g_X6_added g_X6_term g_X6_atom x1 M) (Kri G S2 ad X) := by
  unfold f_X6_not_j77
  refine j_aload_n (pc := 77) O 0 dX6_not_77 rfl ?_
  refine j_getf (pc := 78) (v := .long (M.2 0)) O 0 26 dX6_not_78 fl_X6_155 so_S2_0 rfl rfl ?_
  refine j_ldc2 (pc := 81) (v := 60) O dX6_not_81 gk_X6_231 ?_
  refine j_lcmp (pc := 84) O dX6_not_84 ?_
  refine j_if_ne (pc := 85) (tgt := 92) O dX6_not_85 (by decide) ?_ ?_
  · refine j_iconst (pc := 88) (v := 1) O dX6_not_88 (by decide) ?_
    refine j_goto (pc := 89) (tgt := 93) O dX6_not_89 (by decide) ?_
    exact jw_sub [0, 1] rfl (jf_X6_not_j93 O hd0 g_X6_either g_X6_both g_X6_not g_X6_added g_X6_term g_X6_atom hdg hg_X6_either hg_X6_both hg_X6_not hg_X6_added hg_X6_term hg_X6_atom x1 (1 : Int32) M)
  · refine j_iconst (pc := 92) (v := 0) O dX6_not_92 (by decide) ?_
    exact jw_sub [0, 1] rfl (jf_X6_not_j93 O hd0 g_X6_either g_X6_both g_X6_not g_X6_added g_X6_term g_X6_atom hdg hg_X6_either hg_X6_both hg_X6_not hg_X6_added hg_X6_term hg_X6_atom x1 (0 : Int32) M)
def f_X6_not (g_X6_either : Mm → Option (Int32 × Mm)) (g_X6_both : Mm → Option (Int32 × Mm)) (g_X6_not : Mm → Option (Int32 × Mm)) (g_X6_added : Mm → Option (Int32 × Mm)) (g_X6_term : Mm → Option (Int32 × Mm)) (g_X6_atom : Mm → Option (Int32 × Mm)) (M : Mm) : Option (Int32 × Mm) :=
  bd (f_X6_isWord (110 : Int32) (111 : Int32) (116 : Int32) (0 : Int32) (0 : Int32) (0 : Int32) (0 : Int32) (0 : Int32) M) fun r2 M1 =>
  if r2 = 0 then
    bd (g_X6_added M1) fun r4 M3 =>
    bd (f_X6_isSign (60 : Int32) M3) fun r6 M5 =>
    if r6 = 0 then
      bd (f_X6_isSign (61 : Int32) M5) fun r11 M10 =>
      if r11 = 0 then
        some (r4, M10)
      else
        f_X6_not_j77 g_X6_either g_X6_both g_X6_not g_X6_added g_X6_term g_X6_atom r4 M10
    else
      f_X6_not_j77 g_X6_either g_X6_both g_X6_not g_X6_added g_X6_term g_X6_atom r4 M5
  else
    bd (f_X6_opens M1) fun r13 M12 =>
    if r13 = 0 then
      some ((0 : Int32), M12)
    else
      bd (g_X6_not M12) fun r15 M14 =>
      bm (ms M14 0 27 ((M14.1 0 27) - (1 : Int32))) fun M16 =>
      if r15 = 0 then
        some ((1 : Int32), M16)
      else
        some ((0 : Int32), M16)
set_option maxRecDepth 100000 in
set_option maxHeartbeats 4000000 in
theorem jf_X6_not {G : wn_G} {ad : Nat → Nat} {X : wn_X} {d : Nat} (O : Ok G RX6 cX6_not 4 d X) (hd0 : 4 ≤ d) (g_X6_either : Mm → Option (Int32 × Mm)) (g_X6_both : Mm → Option (Int32 × Mm)) (g_X6_not : Mm → Option (Int32 × Mm)) (g_X6_added : Mm → Option (Int32 × Mm)) (g_X6_term : Mm → Option (Int32 × Mm)) (g_X6_atom : Mm → Option (Int32 × Mm)) {dg : Nat} (hdg : dg + 1 ≤ d) (hg_X6_either : ∀ (M : Mm) (r : Int32) (M1 : Mm), g_X6_either M = some (r, M1) → Sp G S2 ad mX6_either dg [.ref (ad 0)] M M1 (some (.int r))) (hg_X6_both : ∀ (M : Mm) (r : Int32) (M1 : Mm), g_X6_both M = some (r, M1) → Sp G S2 ad mX6_both dg [.ref (ad 0)] M M1 (some (.int r))) (hg_X6_not : ∀ (M : Mm) (r : Int32) (M1 : Mm), g_X6_not M = some (r, M1) → Sp G S2 ad mX6_not dg [.ref (ad 0)] M M1 (some (.int r))) (hg_X6_added : ∀ (M : Mm) (r : Int32) (M1 : Mm), g_X6_added M = some (r, M1) → Sp G S2 ad mX6_added dg [.ref (ad 0)] M M1 (some (.int r))) (hg_X6_term : ∀ (M : Mm) (r : Int32) (M1 : Mm), g_X6_term M = some (r, M1) → Sp G S2 ad mX6_term dg [.ref (ad 0)] M M1 (some (.int r))) (hg_X6_atom : ∀ (M : Mm) (r : Int32) (M1 : Mm), g_X6_atom M = some (r, M1) → Sp G S2 ad mX6_atom dg [.ref (ad 0)] M M1 (some (.int r))) (M : Mm) : JW G S2 ad X 0 [(0, .ref (ad 0))] [] M (f_X6_not g_X6_either g_X6_both g_X6_not g_X6_added g_X6_term g_X6_atom M) (Kri G S2 ad X) := by
  unfold f_X6_not
  refine j_aload_n (pc := 0) O 0 dX6_not_0 rfl ?_
  refine j_bipush (pc := 1) (v := 110) O dX6_not_1 (by decide) ?_
  refine j_bipush (pc := 3) (v := 111) O dX6_not_3 (by decide) ?_
  refine j_bipush (pc := 5) (v := 116) O dX6_not_5 (by decide) ?_
  refine j_iconst (pc := 7) (v := 0) O dX6_not_7 (by decide) ?_
  refine j_iconst (pc := 8) (v := 0) O dX6_not_8 (by decide) ?_
  refine j_iconst (pc := 9) (v := 0) O dX6_not_9 (by decide) ?_
  refine j_iconst (pc := 10) (v := 0) O dX6_not_10 (by decide) ?_
  refine j_iconst (pc := 11) (v := 0) O dX6_not_11 (by decide) ?_
  refine j_callVi (pc := 12) (dc := 3) (As := [.int (110 : Int32), .int (111 : Int32), .int (116 : Int32), .int (0 : Int32), .int (0 : Int32), .int (0 : Int32), .int (0 : Int32), .int (0 : Int32)]) (rest := []) O 0 (fun r M1 h => sp_X6_isWord h) dX6_not_12 mv_X6_isWord lm_X6_181 so_S2_0 rfl rfl (Nat.le_of_ble_eq_true rfl) (Nat.le_trans (Nat.le_of_ble_eq_true rfl) hd0) (fun r2 M1 => ?_)
  refine j_if_eq (pc := 15) (tgt := 52) O dX6_not_15 (by decide) ?_ ?_
  · refine j_aload_n (pc := 52) O 0 dX6_not_52 rfl ?_
    refine j_callVi (pc := 53) (As := []) (rest := []) O 0 (hg_X6_added M1) dX6_not_53 mv_X6_added lm_X6_228 so_S2_0 rfl rfl (Nat.le_of_ble_eq_true rfl) hdg (fun r4 M3 => ?_)
    refine j_istore_n (pc := 56) (L' := [(1, .int r4), (0, .ref (ad 0))]) O dX6_not_56 (by decide) rfl ?_
    refine j_aload_n (pc := 57) O 1 dX6_not_57 rfl ?_
    refine j_bipush (pc := 58) (v := 60) O dX6_not_58 (by decide) ?_
    refine j_callVi (pc := 60) (dc := 1) (As := [.int (60 : Int32)]) (rest := []) O 0 (fun r M1 h => sp_X6_isSign h) dX6_not_60 mv_X6_isSign lm_X6_203 so_S2_0 rfl rfl (Nat.le_of_ble_eq_true rfl) (Nat.le_trans (Nat.le_of_ble_eq_true rfl) hd0) (fun r6 M5 => ?_)
    refine j_if_ne (pc := 63) (tgt := 77) O dX6_not_63 (by decide) ?_ ?_
    · refine j_aload_n (pc := 66) O 1 dX6_not_66 rfl ?_
      refine j_bipush (pc := 67) (v := 61) O dX6_not_67 (by decide) ?_
      refine j_callVi (pc := 69) (dc := 1) (As := [.int (61 : Int32)]) (rest := []) O 0 (fun r M1 h => sp_X6_isSign h) dX6_not_69 mv_X6_isSign lm_X6_203 so_S2_0 rfl rfl (Nat.le_of_ble_eq_true rfl) (Nat.le_trans (Nat.le_of_ble_eq_true rfl) hd0) (fun r11 M10 => ?_)
      refine j_if_ne (pc := 72) (tgt := 77) O dX6_not_72 (by decide) ?_ ?_
      · refine j_iload_n (pc := 75) O 0 dX6_not_75 rfl ?_
        exact j_iret (pc := 76) O dX6_not_76
      · exact jw_sub [1, 0] rfl (jf_X6_not_j77 O hd0 g_X6_either g_X6_both g_X6_not g_X6_added g_X6_term g_X6_atom hdg hg_X6_either hg_X6_both hg_X6_not hg_X6_added hg_X6_term hg_X6_atom r4 M10)
    · exact jw_sub [1, 0] rfl (jf_X6_not_j77 O hd0 g_X6_either g_X6_both g_X6_not g_X6_added g_X6_term g_X6_atom hdg hg_X6_either hg_X6_both hg_X6_not hg_X6_added hg_X6_term hg_X6_atom r4 M5)
  · refine j_aload_n (pc := 18) O 0 dX6_not_18 rfl ?_
    refine j_callVi (pc := 19) (dc := 3) (As := []) (rest := []) O 0 (fun r M1 h => sp_X6_opens h) dX6_not_19 mv_X6_opens lm_X6_206 so_S2_0 rfl rfl (Nat.le_of_ble_eq_true rfl) (Nat.le_trans (Nat.le_of_ble_eq_true rfl) hd0) (fun r13 M12 => ?_)
    refine j_if_ne (pc := 22) (tgt := 27) O dX6_not_22 (by decide) ?_ ?_
    · refine j_iconst (pc := 25) (v := 0) O dX6_not_25 (by decide) ?_
      exact j_iret (pc := 26) O dX6_not_26
    · refine j_aload_n (pc := 27) O 0 dX6_not_27 rfl ?_
      refine j_callVi (pc := 28) (As := []) (rest := []) O 0 (hg_X6_not M12) dX6_not_28 mv_X6_not lm_X6_225 so_S2_0 rfl rfl (Nat.le_of_ble_eq_true rfl) hdg (fun r15 M14 => ?_)
      refine j_istore_n (pc := 31) (L' := [(1, .int r15), (0, .ref (ad 0))]) O dX6_not_31 (by decide) rfl ?_
      refine j_aload_n (pc := 32) O 1 dX6_not_32 rfl ?_
      refine j_dup (pc := 33) O dX6_not_33 rfl ?_
      refine j_getf (pc := 34) (v := .int (M14.1 0 27)) O 0 27 dX6_not_34 fl_X6_172 so_S2_0 rfl rfl ?_
      refine j_iconst (pc := 37) (v := 1) O dX6_not_37 (by decide) ?_
      refine j_isub (pc := 38) O dX6_not_38 ?_
      refine j_puti (pc := 39) O 0 27 dX6_not_39 fl_X6_172 so_S2_0 ft_X6_27 rfl (fun M16 => ?_)
      refine j_iload_n (pc := 42) O 0 dX6_not_42 rfl ?_
      refine j_if_ne (pc := 43) (tgt := 50) O dX6_not_43 (by decide) ?_ ?_
      · refine j_iconst (pc := 46) (v := 1) O dX6_not_46 (by decide) ?_
        refine j_goto (pc := 47) (tgt := 51) O dX6_not_47 (by decide) ?_
        exact j_iret (pc := 51) O dX6_not_51
      · refine j_iconst (pc := 50) (v := 0) O dX6_not_50 (by decide) ?_
        exact j_iret (pc := 51) O dX6_not_51
def h_X6_added_5 (G : wn_G) (ad : Nat → Nat) (X : wn_X) : Int32 × Mm → Prop := fun s => PW G S2 ad X 5 [(0, .ref (ad 0)), (1, .int s.1)] [] s.2
def f_X6_added_j39 (g_X6_either : Mm → Option (Int32 × Mm)) (g_X6_both : Mm → Option (Int32 × Mm)) (g_X6_not : Mm → Option (Int32 × Mm)) (g_X6_added : Mm → Option (Int32 × Mm)) (g_X6_term : Mm → Option (Int32 × Mm)) (g_X6_atom : Mm → Option (Int32 × Mm)) (x1 : Int32) (s0 : Int32) (M : Mm) : Option ((Int32 × Mm) ⊕ (Int32 × Mm)) :=
  bv (f_X6_next M) fun M5 =>
  bd (g_X6_term M5) fun r7 M6 =>
  if s0 = 0 then
    bi (x1 - r7) fun y8 =>
    some (.inl (y8, M6))
  else
    bi (x1 + r7) fun y9 =>
    some (.inl (y9, M6))
set_option maxRecDepth 100000 in
set_option maxHeartbeats 4000000 in
theorem jf_X6_added_j39 {G : wn_G} {ad : Nat → Nat} {X : wn_X} {d : Nat} (O : Ok G RX6 cX6_added 4 d X) (hd0 : 3 ≤ d) (g_X6_either : Mm → Option (Int32 × Mm)) (g_X6_both : Mm → Option (Int32 × Mm)) (g_X6_not : Mm → Option (Int32 × Mm)) (g_X6_added : Mm → Option (Int32 × Mm)) (g_X6_term : Mm → Option (Int32 × Mm)) (g_X6_atom : Mm → Option (Int32 × Mm)) {dg : Nat} (hdg : dg + 1 ≤ d) (hg_X6_either : ∀ (M : Mm) (r : Int32) (M1 : Mm), g_X6_either M = some (r, M1) → Sp G S2 ad mX6_either dg [.ref (ad 0)] M M1 (some (.int r))) (hg_X6_both : ∀ (M : Mm) (r : Int32) (M1 : Mm), g_X6_both M = some (r, M1) → Sp G S2 ad mX6_both dg [.ref (ad 0)] M M1 (some (.int r))) (hg_X6_not : ∀ (M : Mm) (r : Int32) (M1 : Mm), g_X6_not M = some (r, M1) → Sp G S2 ad mX6_not dg [.ref (ad 0)] M M1 (some (.int r))) (hg_X6_added : ∀ (M : Mm) (r : Int32) (M1 : Mm), g_X6_added M = some (r, M1) → Sp G S2 ad mX6_added dg [.ref (ad 0)] M M1 (some (.int r))) (hg_X6_term : ∀ (M : Mm) (r : Int32) (M1 : Mm), g_X6_term M = some (r, M1) → Sp G S2 ad mX6_term dg [.ref (ad 0)] M M1 (some (.int r))) (hg_X6_atom : ∀ (M : Mm) (r : Int32) (M1 : Mm), g_X6_atom M = some (r, M1) → Sp G S2 ad mX6_atom dg [.ref (ad 0)] M M1 (some (.int r))) (x1 : Int32) (s0 : Int32) (M : Mm) : JW G S2 ad X 39 [(0, .ref (ad 0)), (1, .int x1)] [.int s0] M (f_X6_added_j39 g_X6_either g_X6_both g_X6_not g_X6_added g_X6_term g_X6_atom x1 s0 M) (Kl (h_X6_added_5 G ad X) (Kri G S2 ad X)) := by
  unfold f_X6_added_j39
  refine j_istore_n (pc := 39) (L' := [(2, .int s0), (0, .ref (ad 0)), (1, .int x1)]) O dX6_added_39 (by decide) rfl ?_
  refine j_aload_n (pc := 40) O 1 dX6_added_40 rfl ?_
  refine j_callVv (pc := 41) (dc := 2) (As := []) (rest := []) O 0 (fun M1 h => sp_X6_next h) dX6_added_41 mv_X6_next lm_X6_178 so_S2_0 rfl rfl (Nat.le_of_ble_eq_true rfl) (Nat.le_trans (Nat.le_of_ble_eq_true rfl) hd0) (fun M5 => ?_)
  refine j_aload_n (pc := 44) O 1 dX6_added_44 rfl ?_
  refine j_callVi (pc := 45) (As := []) (rest := []) O 0 (hg_X6_term M5) dX6_added_45 mv_X6_term lm_X6_220 so_S2_0 rfl rfl (Nat.le_of_ble_eq_true rfl) hdg (fun r7 M6 => ?_)
  refine j_istore_n (pc := 48) (L' := [(3, .int r7), (2, .int s0), (0, .ref (ad 0)), (1, .int x1)]) O dX6_added_48 (by decide) rfl ?_
  refine j_iload_n (pc := 49) O 1 dX6_added_49 rfl ?_
  refine j_if_eq (pc := 50) (tgt := 59) O dX6_added_50 (by decide) ?_ ?_
  · refine j_iload_n (pc := 59) O 3 dX6_added_59 rfl ?_
    refine j_iload_n (pc := 60) O 0 dX6_added_60 rfl ?_
    refine j_isub (pc := 61) O dX6_added_61 ?_
    refine jw_bi fun y8 => ?_
    refine j_istore_n (pc := 62) (L' := [(1, .int y8), (3, .int r7), (2, .int s0), (0, .ref (ad 0))]) O dX6_added_62 (by decide) rfl ?_
    refine j_goto (pc := 63) (tgt := 5) O dX6_added_63 (by decide) ?_
    exact jw_next (fun hh => pw_sub [3, 0] rfl hh)
  · refine j_iload_n (pc := 53) O 3 dX6_added_53 rfl ?_
    refine j_iload_n (pc := 54) O 0 dX6_added_54 rfl ?_
    refine j_iadd (pc := 55) O dX6_added_55 ?_
    refine j_goto (pc := 56) (tgt := 62) O dX6_added_56 (by decide) ?_
    refine jw_bi fun y9 => ?_
    refine j_istore_n (pc := 62) (L' := [(1, .int y9), (3, .int r7), (2, .int s0), (0, .ref (ad 0))]) O dX6_added_62 (by decide) rfl ?_
    refine j_goto (pc := 63) (tgt := 5) O dX6_added_63 (by decide) ?_
    exact jw_next (fun hh => pw_sub [3, 0] rfl hh)
def f_X6_added_j23 (g_X6_either : Mm → Option (Int32 × Mm)) (g_X6_both : Mm → Option (Int32 × Mm)) (g_X6_not : Mm → Option (Int32 × Mm)) (g_X6_added : Mm → Option (Int32 × Mm)) (g_X6_term : Mm → Option (Int32 × Mm)) (g_X6_atom : Mm → Option (Int32 × Mm)) (x1 : Int32) (M : Mm) : Option ((Int32 × Mm) ⊕ (Int32 × Mm)) :=
  if (lg_cmp (M.2 0) (43 : Int64)) = 0 then
    f_X6_added_j39 g_X6_either g_X6_both g_X6_not g_X6_added g_X6_term g_X6_atom x1 (1 : Int32) M
  else
    f_X6_added_j39 g_X6_either g_X6_both g_X6_not g_X6_added g_X6_term g_X6_atom x1 (0 : Int32) M
set_option maxRecDepth 100000 in
set_option maxHeartbeats 4000000 in
theorem jf_X6_added_j23 {G : wn_G} {ad : Nat → Nat} {X : wn_X} {d : Nat} (O : Ok G RX6 cX6_added 4 d X) (hd0 : 3 ≤ d) (g_X6_either : Mm → Option (Int32 × Mm)) (g_X6_both : Mm → Option (Int32 × Mm)) (g_X6_not : Mm → Option (Int32 × Mm)) (g_X6_added : Mm → Option (Int32 × Mm)) (g_X6_term : Mm → Option (Int32 × Mm)) (g_X6_atom : Mm → Option (Int32 × Mm)) {dg : Nat} (hdg : dg + 1 ≤ d) (hg_X6_either : ∀ (M : Mm) (r : Int32) (M1 : Mm), g_X6_either M = some (r, M1) → Sp G S2 ad mX6_either dg [.ref (ad 0)] M M1 (some (.int r))) (hg_X6_both : ∀ (M : Mm) (r : Int32) (M1 : Mm), g_X6_both M = some (r, M1) → Sp G S2 ad mX6_both dg [.ref (ad 0)] M M1 (some (.int r))) (hg_X6_not : ∀ (M : Mm) (r : Int32) (M1 : Mm), g_X6_not M = some (r, M1) → Sp G S2 ad mX6_not dg [.ref (ad 0)] M M1 (some (.int r))) (hg_X6_added : ∀ (M : Mm) (r : Int32) (M1 : Mm), g_X6_added M = some (r, M1) → Sp G S2 ad mX6_added dg [.ref (ad 0)] M M1 (some (.int r))) (hg_X6_term : ∀ (M : Mm) (r : Int32) (M1 : Mm), g_X6_term M = some (r, M1) → Sp G S2 ad mX6_term dg [.ref (ad 0)] M M1 (some (.int r))) (hg_X6_atom : ∀ (M : Mm) (r : Int32) (M1 : Mm), g_X6_atom M = some (r, M1) → Sp G S2 ad mX6_atom dg [.ref (ad 0)] M M1 (some (.int r))) (x1 : Int32) (M : Mm) : JW G S2 ad X 23 [(0, .ref (ad 0)), (1, .int x1)] [] M (f_X6_added_j23 g_X6_either g_X6_both g_X6_not g_X6_added g_X6_term g_X6_atom x1 M) (Kl (h_X6_added_5 G ad X) (Kri G S2 ad X)) := by
  unfold f_X6_added_j23
  refine j_aload_n (pc := 23) O 0 dX6_added_23 rfl ?_
  refine j_getf (pc := 24) (v := .long (M.2 0)) O 0 26 dX6_added_24 fl_X6_155 so_S2_0 rfl rfl ?_
  refine j_ldc2 (pc := 27) (v := 43) O dX6_added_27 gk_X6_223 ?_
  refine j_lcmp (pc := 30) O dX6_added_30 ?_
  refine j_if_ne (pc := 31) (tgt := 38) O dX6_added_31 (by decide) ?_ ?_
  · refine j_iconst (pc := 34) (v := 1) O dX6_added_34 (by decide) ?_
    refine j_goto (pc := 35) (tgt := 39) O dX6_added_35 (by decide) ?_
    exact jw_sub [0, 1] rfl (jf_X6_added_j39 O hd0 g_X6_either g_X6_both g_X6_not g_X6_added g_X6_term g_X6_atom hdg hg_X6_either hg_X6_both hg_X6_not hg_X6_added hg_X6_term hg_X6_atom x1 (1 : Int32) M)
  · refine j_iconst (pc := 38) (v := 0) O dX6_added_38 (by decide) ?_
    exact jw_sub [0, 1] rfl (jf_X6_added_j39 O hd0 g_X6_either g_X6_both g_X6_not g_X6_added g_X6_term g_X6_atom hdg hg_X6_either hg_X6_both hg_X6_not hg_X6_added hg_X6_term hg_X6_atom x1 (0 : Int32) M)
def f_X6_added_b5 (g_X6_either : Mm → Option (Int32 × Mm)) (g_X6_both : Mm → Option (Int32 × Mm)) (g_X6_not : Mm → Option (Int32 × Mm)) (g_X6_added : Mm → Option (Int32 × Mm)) (g_X6_term : Mm → Option (Int32 × Mm)) (g_X6_atom : Mm → Option (Int32 × Mm)) (x1 : Int32) (M : Mm) : Option ((Int32 × Mm) ⊕ (Int32 × Mm)) :=
  bd (f_X6_isSign (43 : Int32) M) fun r4 M3 =>
  if r4 = 0 then
    bd (f_X6_isSign (45 : Int32) M3) fun r11 M10 =>
    if r11 = 0 then
      ex (
      some (x1, M10))
    else
      f_X6_added_j23 g_X6_either g_X6_both g_X6_not g_X6_added g_X6_term g_X6_atom x1 M10
  else
    f_X6_added_j23 g_X6_either g_X6_both g_X6_not g_X6_added g_X6_term g_X6_atom x1 M3
set_option maxRecDepth 100000 in
set_option maxHeartbeats 4000000 in
theorem jf_X6_added_b5 {G : wn_G} {ad : Nat → Nat} {X : wn_X} {d : Nat} (O : Ok G RX6 cX6_added 4 d X) (hd0 : 3 ≤ d) (g_X6_either : Mm → Option (Int32 × Mm)) (g_X6_both : Mm → Option (Int32 × Mm)) (g_X6_not : Mm → Option (Int32 × Mm)) (g_X6_added : Mm → Option (Int32 × Mm)) (g_X6_term : Mm → Option (Int32 × Mm)) (g_X6_atom : Mm → Option (Int32 × Mm)) {dg : Nat} (hdg : dg + 1 ≤ d) (hg_X6_either : ∀ (M : Mm) (r : Int32) (M1 : Mm), g_X6_either M = some (r, M1) → Sp G S2 ad mX6_either dg [.ref (ad 0)] M M1 (some (.int r))) (hg_X6_both : ∀ (M : Mm) (r : Int32) (M1 : Mm), g_X6_both M = some (r, M1) → Sp G S2 ad mX6_both dg [.ref (ad 0)] M M1 (some (.int r))) (hg_X6_not : ∀ (M : Mm) (r : Int32) (M1 : Mm), g_X6_not M = some (r, M1) → Sp G S2 ad mX6_not dg [.ref (ad 0)] M M1 (some (.int r))) (hg_X6_added : ∀ (M : Mm) (r : Int32) (M1 : Mm), g_X6_added M = some (r, M1) → Sp G S2 ad mX6_added dg [.ref (ad 0)] M M1 (some (.int r))) (hg_X6_term : ∀ (M : Mm) (r : Int32) (M1 : Mm), g_X6_term M = some (r, M1) → Sp G S2 ad mX6_term dg [.ref (ad 0)] M M1 (some (.int r))) (hg_X6_atom : ∀ (M : Mm) (r : Int32) (M1 : Mm), g_X6_atom M = some (r, M1) → Sp G S2 ad mX6_atom dg [.ref (ad 0)] M M1 (some (.int r))) (x1 : Int32) (M : Mm) : JW G S2 ad X 5 [(0, .ref (ad 0)), (1, .int x1)] [] M (f_X6_added_b5 g_X6_either g_X6_both g_X6_not g_X6_added g_X6_term g_X6_atom x1 M) (Kl (h_X6_added_5 G ad X) (Kri G S2 ad X)) := by
  unfold f_X6_added_b5
  refine j_aload_n (pc := 5) O 0 dX6_added_5 rfl ?_
  refine j_bipush (pc := 6) (v := 43) O dX6_added_6 (by decide) ?_
  refine j_callVi (pc := 8) (dc := 1) (As := [.int (43 : Int32)]) (rest := []) O 0 (fun r M1 h => sp_X6_isSign h) dX6_added_8 mv_X6_isSign lm_X6_203 so_S2_0 rfl rfl (Nat.le_of_ble_eq_true rfl) (Nat.le_trans (Nat.le_of_ble_eq_true rfl) hd0) (fun r4 M3 => ?_)
  refine j_if_ne (pc := 11) (tgt := 23) O dX6_added_11 (by decide) ?_ ?_
  · refine j_aload_n (pc := 14) O 0 dX6_added_14 rfl ?_
    refine j_bipush (pc := 15) (v := 45) O dX6_added_15 (by decide) ?_
    refine j_callVi (pc := 17) (dc := 1) (As := [.int (45 : Int32)]) (rest := []) O 0 (fun r M1 h => sp_X6_isSign h) dX6_added_17 mv_X6_isSign lm_X6_203 so_S2_0 rfl rfl (Nat.le_of_ble_eq_true rfl) (Nat.le_trans (Nat.le_of_ble_eq_true rfl) hd0) (fun r11 M10 => ?_)
    refine j_if_eq (pc := 20) (tgt := 66) O dX6_added_20 (by decide) ?_ ?_
    · refine jw_ex ?_
      refine j_iload_n (pc := 66) O 1 dX6_added_66 rfl ?_
      exact j_iret (pc := 67) O dX6_added_67
    · exact jw_sub [0, 1] rfl (jf_X6_added_j23 O hd0 g_X6_either g_X6_both g_X6_not g_X6_added g_X6_term g_X6_atom hdg hg_X6_either hg_X6_both hg_X6_not hg_X6_added hg_X6_term hg_X6_atom x1 M10)
  · exact jw_sub [0, 1] rfl (jf_X6_added_j23 O hd0 g_X6_either g_X6_both g_X6_not g_X6_added g_X6_term g_X6_atom hdg hg_X6_either hg_X6_both hg_X6_not hg_X6_added hg_X6_term hg_X6_atom x1 M3)
def f_X6_added (g_X6_either : Mm → Option (Int32 × Mm)) (g_X6_both : Mm → Option (Int32 × Mm)) (g_X6_not : Mm → Option (Int32 × Mm)) (g_X6_added : Mm → Option (Int32 × Mm)) (g_X6_term : Mm → Option (Int32 × Mm)) (g_X6_atom : Mm → Option (Int32 × Mm)) (M : Mm) : Option (Int32 × Mm) :=
  bd (g_X6_term M) fun r2 M1 =>
  iter (fun s => f_X6_added_b5 g_X6_either g_X6_both g_X6_not g_X6_added g_X6_term g_X6_atom s.1 s.2) fuel (r2, M1)
set_option maxRecDepth 100000 in
set_option maxHeartbeats 4000000 in
theorem jf_X6_added {G : wn_G} {ad : Nat → Nat} {X : wn_X} {d : Nat} (O : Ok G RX6 cX6_added 4 d X) (hd0 : 3 ≤ d) (g_X6_either : Mm → Option (Int32 × Mm)) (g_X6_both : Mm → Option (Int32 × Mm)) (g_X6_not : Mm → Option (Int32 × Mm)) (g_X6_added : Mm → Option (Int32 × Mm)) (g_X6_term : Mm → Option (Int32 × Mm)) (g_X6_atom : Mm → Option (Int32 × Mm)) {dg : Nat} (hdg : dg + 1 ≤ d) (hg_X6_either : ∀ (M : Mm) (r : Int32) (M1 : Mm), g_X6_either M = some (r, M1) → Sp G S2 ad mX6_either dg [.ref (ad 0)] M M1 (some (.int r))) (hg_X6_both : ∀ (M : Mm) (r : Int32) (M1 : Mm), g_X6_both M = some (r, M1) → Sp G S2 ad mX6_both dg [.ref (ad 0)] M M1 (some (.int r))) (hg_X6_not : ∀ (M : Mm) (r : Int32) (M1 : Mm), g_X6_not M = some (r, M1) → Sp G S2 ad mX6_not dg [.ref (ad 0)] M M1 (some (.int r))) (hg_X6_added : ∀ (M : Mm) (r : Int32) (M1 : Mm), g_X6_added M = some (r, M1) → Sp G S2 ad mX6_added dg [.ref (ad 0)] M M1 (some (.int r))) (hg_X6_term : ∀ (M : Mm) (r : Int32) (M1 : Mm), g_X6_term M = some (r, M1) → Sp G S2 ad mX6_term dg [.ref (ad 0)] M M1 (some (.int r))) (hg_X6_atom : ∀ (M : Mm) (r : Int32) (M1 : Mm), g_X6_atom M = some (r, M1) → Sp G S2 ad mX6_atom dg [.ref (ad 0)] M M1 (some (.int r))) (M : Mm) : JW G S2 ad X 0 [(0, .ref (ad 0))] [] M (f_X6_added g_X6_either g_X6_both g_X6_not g_X6_added g_X6_term g_X6_atom M) (Kri G S2 ad X) := by
  unfold f_X6_added
  refine j_aload_n (pc := 0) O 0 dX6_added_0 rfl ?_
  refine j_callVi (pc := 1) (As := []) (rest := []) O 0 (hg_X6_term M) dX6_added_1 mv_X6_term lm_X6_220 so_S2_0 rfl rfl (Nat.le_of_ble_eq_true rfl) hdg (fun r2 M1 => ?_)
  refine j_istore_n (pc := 4) (L' := [(1, .int r2), (0, .ref (ad 0))]) O dX6_added_4 (by decide) rfl ?_
  exact jw_iter (hd := h_X6_added_5 G ad X) (fun hh => pw_sub [1, 0] rfl hh) (fun s => jf_X6_added_b5 O hd0 g_X6_either g_X6_both g_X6_not g_X6_added g_X6_term g_X6_atom hdg hg_X6_either hg_X6_both hg_X6_not hg_X6_added hg_X6_term hg_X6_atom s.1 s.2)
def h_X6_term_5 (G : wn_G) (ad : Nat → Nat) (X : wn_X) : Int32 × Mm → Prop := fun s => PW G S2 ad X 5 [(0, .ref (ad 0)), (1, .int s.1)] [] s.2
def f_X6_term_b5 (g_X6_either : Mm → Option (Int32 × Mm)) (g_X6_both : Mm → Option (Int32 × Mm)) (g_X6_not : Mm → Option (Int32 × Mm)) (g_X6_added : Mm → Option (Int32 × Mm)) (g_X6_term : Mm → Option (Int32 × Mm)) (g_X6_atom : Mm → Option (Int32 × Mm)) (x1 : Int32) (M : Mm) : Option ((Int32 × Mm) ⊕ (Int32 × Mm)) :=
  bd (f_X6_isSign (42 : Int32) M) fun r4 M3 =>
  if r4 = 0 then
    ex (
    some (x1, M3))
  else
    bv (f_X6_next M3) fun M5 =>
    bd (g_X6_atom M5) fun r7 M6 =>
    bi (x1 * r7) fun y8 =>
    some (.inl (y8, M6))
set_option maxRecDepth 100000 in
set_option maxHeartbeats 4000000 in
theorem jf_X6_term_b5 {G : wn_G} {ad : Nat → Nat} {X : wn_X} {d : Nat} (O : Ok G RX6 cX6_term 2 d X) (hd0 : 3 ≤ d) (g_X6_either : Mm → Option (Int32 × Mm)) (g_X6_both : Mm → Option (Int32 × Mm)) (g_X6_not : Mm → Option (Int32 × Mm)) (g_X6_added : Mm → Option (Int32 × Mm)) (g_X6_term : Mm → Option (Int32 × Mm)) (g_X6_atom : Mm → Option (Int32 × Mm)) {dg : Nat} (hdg : dg + 1 ≤ d) (hg_X6_either : ∀ (M : Mm) (r : Int32) (M1 : Mm), g_X6_either M = some (r, M1) → Sp G S2 ad mX6_either dg [.ref (ad 0)] M M1 (some (.int r))) (hg_X6_both : ∀ (M : Mm) (r : Int32) (M1 : Mm), g_X6_both M = some (r, M1) → Sp G S2 ad mX6_both dg [.ref (ad 0)] M M1 (some (.int r))) (hg_X6_not : ∀ (M : Mm) (r : Int32) (M1 : Mm), g_X6_not M = some (r, M1) → Sp G S2 ad mX6_not dg [.ref (ad 0)] M M1 (some (.int r))) (hg_X6_added : ∀ (M : Mm) (r : Int32) (M1 : Mm), g_X6_added M = some (r, M1) → Sp G S2 ad mX6_added dg [.ref (ad 0)] M M1 (some (.int r))) (hg_X6_term : ∀ (M : Mm) (r : Int32) (M1 : Mm), g_X6_term M = some (r, M1) → Sp G S2 ad mX6_term dg [.ref (ad 0)] M M1 (some (.int r))) (hg_X6_atom : ∀ (M : Mm) (r : Int32) (M1 : Mm), g_X6_atom M = some (r, M1) → Sp G S2 ad mX6_atom dg [.ref (ad 0)] M M1 (some (.int r))) (x1 : Int32) (M : Mm) : JW G S2 ad X 5 [(0, .ref (ad 0)), (1, .int x1)] [] M (f_X6_term_b5 g_X6_either g_X6_both g_X6_not g_X6_added g_X6_term g_X6_atom x1 M) (Kl (h_X6_term_5 G ad X) (Kri G S2 ad X)) := by
  unfold f_X6_term_b5
  refine j_aload_n (pc := 5) O 0 dX6_term_5 rfl ?_
  refine j_bipush (pc := 6) (v := 42) O dX6_term_6 (by decide) ?_
  refine j_callVi (pc := 8) (dc := 1) (As := [.int (42 : Int32)]) (rest := []) O 0 (fun r M1 h => sp_X6_isSign h) dX6_term_8 mv_X6_isSign lm_X6_203 so_S2_0 rfl rfl (Nat.le_of_ble_eq_true rfl) (Nat.le_trans (Nat.le_of_ble_eq_true rfl) hd0) (fun r4 M3 => ?_)
  refine j_if_eq (pc := 11) (tgt := 28) O dX6_term_11 (by decide) ?_ ?_
  · refine jw_ex ?_
    refine j_iload_n (pc := 28) O 1 dX6_term_28 rfl ?_
    exact j_iret (pc := 29) O dX6_term_29
  · refine j_aload_n (pc := 14) O 0 dX6_term_14 rfl ?_
    refine j_callVv (pc := 15) (dc := 2) (As := []) (rest := []) O 0 (fun M1 h => sp_X6_next h) dX6_term_15 mv_X6_next lm_X6_178 so_S2_0 rfl rfl (Nat.le_of_ble_eq_true rfl) (Nat.le_trans (Nat.le_of_ble_eq_true rfl) hd0) (fun M5 => ?_)
    refine j_iload_n (pc := 18) O 1 dX6_term_18 rfl ?_
    refine j_aload_n (pc := 19) O 0 dX6_term_19 rfl ?_
    refine j_callVi (pc := 20) (As := []) (rest := [.int x1]) O 0 (hg_X6_atom M5) dX6_term_20 mv_X6_atom lm_X6_210 so_S2_0 rfl rfl (Nat.le_of_ble_eq_true rfl) hdg (fun r7 M6 => ?_)
    refine j_imul (pc := 23) O dX6_term_23 ?_
    refine jw_bi fun y8 => ?_
    refine j_istore_n (pc := 24) (L' := [(1, .int y8), (0, .ref (ad 0))]) O dX6_term_24 (by decide) rfl ?_
    refine j_goto (pc := 25) (tgt := 5) O dX6_term_25 (by decide) ?_
    exact jw_next (fun hh => pw_sub [1, 0] rfl hh)
def f_X6_term (g_X6_either : Mm → Option (Int32 × Mm)) (g_X6_both : Mm → Option (Int32 × Mm)) (g_X6_not : Mm → Option (Int32 × Mm)) (g_X6_added : Mm → Option (Int32 × Mm)) (g_X6_term : Mm → Option (Int32 × Mm)) (g_X6_atom : Mm → Option (Int32 × Mm)) (M : Mm) : Option (Int32 × Mm) :=
  bd (g_X6_atom M) fun r2 M1 =>
  iter (fun s => f_X6_term_b5 g_X6_either g_X6_both g_X6_not g_X6_added g_X6_term g_X6_atom s.1 s.2) fuel (r2, M1)
set_option maxRecDepth 100000 in
set_option maxHeartbeats 4000000 in
theorem jf_X6_term {G : wn_G} {ad : Nat → Nat} {X : wn_X} {d : Nat} (O : Ok G RX6 cX6_term 2 d X) (hd0 : 3 ≤ d) (g_X6_either : Mm → Option (Int32 × Mm)) (g_X6_both : Mm → Option (Int32 × Mm)) (g_X6_not : Mm → Option (Int32 × Mm)) (g_X6_added : Mm → Option (Int32 × Mm)) (g_X6_term : Mm → Option (Int32 × Mm)) (g_X6_atom : Mm → Option (Int32 × Mm)) {dg : Nat} (hdg : dg + 1 ≤ d) (hg_X6_either : ∀ (M : Mm) (r : Int32) (M1 : Mm), g_X6_either M = some (r, M1) → Sp G S2 ad mX6_either dg [.ref (ad 0)] M M1 (some (.int r))) (hg_X6_both : ∀ (M : Mm) (r : Int32) (M1 : Mm), g_X6_both M = some (r, M1) → Sp G S2 ad mX6_both dg [.ref (ad 0)] M M1 (some (.int r))) (hg_X6_not : ∀ (M : Mm) (r : Int32) (M1 : Mm), g_X6_not M = some (r, M1) → Sp G S2 ad mX6_not dg [.ref (ad 0)] M M1 (some (.int r))) (hg_X6_added : ∀ (M : Mm) (r : Int32) (M1 : Mm), g_X6_added M = some (r, M1) → Sp G S2 ad mX6_added dg [.ref (ad 0)] M M1 (some (.int r))) (hg_X6_term : ∀ (M : Mm) (r : Int32) (M1 : Mm), g_X6_term M = some (r, M1) → Sp G S2 ad mX6_term dg [.ref (ad 0)] M M1 (some (.int r))) (hg_X6_atom : ∀ (M : Mm) (r : Int32) (M1 : Mm), g_X6_atom M = some (r, M1) → Sp G S2 ad mX6_atom dg [.ref (ad 0)] M M1 (some (.int r))) (M : Mm) : JW G S2 ad X 0 [(0, .ref (ad 0))] [] M (f_X6_term g_X6_either g_X6_both g_X6_not g_X6_added g_X6_term g_X6_atom M) (Kri G S2 ad X) := by
  unfold f_X6_term
  refine j_aload_n (pc := 0) O 0 dX6_term_0 rfl ?_
  refine j_callVi (pc := 1) (As := []) (rest := []) O 0 (hg_X6_atom M) dX6_term_1 mv_X6_atom lm_X6_210 so_S2_0 rfl rfl (Nat.le_of_ble_eq_true rfl) hdg (fun r2 M1 => ?_)
  refine j_istore_n (pc := 4) (L' := [(1, .int r2), (0, .ref (ad 0))]) O dX6_term_4 (by decide) rfl ?_
  exact jw_iter (hd := h_X6_term_5 G ad X) (fun hh => pw_sub [1, 0] rfl hh) (fun s => jf_X6_term_b5 O hd0 g_X6_either g_X6_both g_X6_not g_X6_added g_X6_term g_X6_atom hdg hg_X6_either hg_X6_both hg_X6_not hg_X6_added hg_X6_term hg_X6_atom s.1 s.2)
def f_X6_name (M : Mm) : Option (Int32 × Mm) :=
  bd (f_X6_isWord (99 : Int32) (97 : Int32) (107 : Int32) (101 : Int32) (0 : Int32) (0 : Int32) (0 : Int32) (0 : Int32) M) fun r2 M1 =>
  if r2 = 0 then
    bd (f_X6_isWord (109 : Int32) (105 : Int32) (110 : Int32) (117 : Int32) (116 : Int32) (101 : Int32) (0 : Int32) (0 : Int32) M1) fun r4 M3 =>
    if r4 = 0 then
      bd (f_X6_isWord (104 : Int32) (97 : Int32) (100 : Int32) (0 : Int32) (0 : Int32) (0 : Int32) (0 : Int32) (0 : Int32) M3) fun r6 M5 =>
      if r6 = 0 then
        bd (f_X6_isWord (119 : Int32) (97 : Int32) (110 : Int32) (116 : Int32) (0 : Int32) (0 : Int32) (0 : Int32) (0 : Int32) M5) fun r8 M7 =>
        if r8 = 0 then
          bd (f_X6_isWord (101 : Int32) (97 : Int32) (116 : Int32) (101 : Int32) (114 : Int32) (0 : Int32) (0 : Int32) (0 : Int32) M7) fun r10 M9 =>
          if r10 = 0 then
            bd (f_X6_isWord (108 : Int32) (97 : Int32) (116 : Int32) (101 : Int32) (0 : Int32) (0 : Int32) (0 : Int32) (0 : Int32) M9) fun r12 M11 =>
            if r12 = 0 then
              bv (f_X6_fail M11) fun M13 =>
              some ((0 : Int32), M13)
            else
              some ((M11.1 0 20), M11)
          else
            some ((M9.1 0 19), M9)
        else
          some ((M7.1 0 18), M7)
      else
        some ((M5.1 0 17), M5)
    else
      some ((M3.1 0 16), M3)
  else
    some ((M1.1 0 15), M1)
set_option maxRecDepth 100000 in
set_option maxHeartbeats 4000000 in
theorem jf_X6_name {G : wn_G} {ad : Nat → Nat} {X : wn_X} {d : Nat} (O : Ok G RX6 cX6_name 1 d X) (hd0 : 4 ≤ d) (M : Mm) : JW G S2 ad X 0 [(0, .ref (ad 0))] [] M (f_X6_name M) (Kri G S2 ad X) := by
  unfold f_X6_name
  refine j_aload_n (pc := 0) O 0 dX6_name_0 rfl ?_
  refine j_bipush (pc := 1) (v := 99) O dX6_name_1 (by decide) ?_
  refine j_bipush (pc := 3) (v := 97) O dX6_name_3 (by decide) ?_
  refine j_bipush (pc := 5) (v := 107) O dX6_name_5 (by decide) ?_
  refine j_bipush (pc := 7) (v := 101) O dX6_name_7 (by decide) ?_
  refine j_iconst (pc := 9) (v := 0) O dX6_name_9 (by decide) ?_
  refine j_iconst (pc := 10) (v := 0) O dX6_name_10 (by decide) ?_
  refine j_iconst (pc := 11) (v := 0) O dX6_name_11 (by decide) ?_
  refine j_iconst (pc := 12) (v := 0) O dX6_name_12 (by decide) ?_
  refine j_callVi (pc := 13) (dc := 3) (As := [.int (99 : Int32), .int (97 : Int32), .int (107 : Int32), .int (101 : Int32), .int (0 : Int32), .int (0 : Int32), .int (0 : Int32), .int (0 : Int32)]) (rest := []) O 0 (fun r M1 h => sp_X6_isWord h) dX6_name_13 mv_X6_isWord lm_X6_181 so_S2_0 rfl rfl (Nat.le_of_ble_eq_true rfl) (Nat.le_trans (Nat.le_of_ble_eq_true rfl) hd0) (fun r2 M1 => ?_)
  refine j_if_eq (pc := 16) (tgt := 24) O dX6_name_16 (by decide) ?_ ?_
  · refine j_aload_n (pc := 24) O 0 dX6_name_24 rfl ?_
    refine j_bipush (pc := 25) (v := 109) O dX6_name_25 (by decide) ?_
    refine j_bipush (pc := 27) (v := 105) O dX6_name_27 (by decide) ?_
    refine j_bipush (pc := 29) (v := 110) O dX6_name_29 (by decide) ?_
    refine j_bipush (pc := 31) (v := 117) O dX6_name_31 (by decide) ?_
    refine j_bipush (pc := 33) (v := 116) O dX6_name_33 (by decide) ?_
    refine j_bipush (pc := 35) (v := 101) O dX6_name_35 (by decide) ?_
    refine j_iconst (pc := 37) (v := 0) O dX6_name_37 (by decide) ?_
    refine j_iconst (pc := 38) (v := 0) O dX6_name_38 (by decide) ?_
    refine j_callVi (pc := 39) (dc := 3) (As := [.int (109 : Int32), .int (105 : Int32), .int (110 : Int32), .int (117 : Int32), .int (116 : Int32), .int (101 : Int32), .int (0 : Int32), .int (0 : Int32)]) (rest := []) O 0 (fun r M1 h => sp_X6_isWord h) dX6_name_39 mv_X6_isWord lm_X6_181 so_S2_0 rfl rfl (Nat.le_of_ble_eq_true rfl) (Nat.le_trans (Nat.le_of_ble_eq_true rfl) hd0) (fun r4 M3 => ?_)
    refine j_if_eq (pc := 42) (tgt := 50) O dX6_name_42 (by decide) ?_ ?_
    · refine j_aload_n (pc := 50) O 0 dX6_name_50 rfl ?_
      refine j_bipush (pc := 51) (v := 104) O dX6_name_51 (by decide) ?_
      refine j_bipush (pc := 53) (v := 97) O dX6_name_53 (by decide) ?_
      refine j_bipush (pc := 55) (v := 100) O dX6_name_55 (by decide) ?_
      refine j_iconst (pc := 57) (v := 0) O dX6_name_57 (by decide) ?_
      refine j_iconst (pc := 58) (v := 0) O dX6_name_58 (by decide) ?_
      refine j_iconst (pc := 59) (v := 0) O dX6_name_59 (by decide) ?_
      refine j_iconst (pc := 60) (v := 0) O dX6_name_60 (by decide) ?_
      refine j_iconst (pc := 61) (v := 0) O dX6_name_61 (by decide) ?_
      refine j_callVi (pc := 62) (dc := 3) (As := [.int (104 : Int32), .int (97 : Int32), .int (100 : Int32), .int (0 : Int32), .int (0 : Int32), .int (0 : Int32), .int (0 : Int32), .int (0 : Int32)]) (rest := []) O 0 (fun r M1 h => sp_X6_isWord h) dX6_name_62 mv_X6_isWord lm_X6_181 so_S2_0 rfl rfl (Nat.le_of_ble_eq_true rfl) (Nat.le_trans (Nat.le_of_ble_eq_true rfl) hd0) (fun r6 M5 => ?_)
      refine j_if_eq (pc := 65) (tgt := 73) O dX6_name_65 (by decide) ?_ ?_
      · refine j_aload_n (pc := 73) O 0 dX6_name_73 rfl ?_
        refine j_bipush (pc := 74) (v := 119) O dX6_name_74 (by decide) ?_
        refine j_bipush (pc := 76) (v := 97) O dX6_name_76 (by decide) ?_
        refine j_bipush (pc := 78) (v := 110) O dX6_name_78 (by decide) ?_
        refine j_bipush (pc := 80) (v := 116) O dX6_name_80 (by decide) ?_
        refine j_iconst (pc := 82) (v := 0) O dX6_name_82 (by decide) ?_
        refine j_iconst (pc := 83) (v := 0) O dX6_name_83 (by decide) ?_
        refine j_iconst (pc := 84) (v := 0) O dX6_name_84 (by decide) ?_
        refine j_iconst (pc := 85) (v := 0) O dX6_name_85 (by decide) ?_
        refine j_callVi (pc := 86) (dc := 3) (As := [.int (119 : Int32), .int (97 : Int32), .int (110 : Int32), .int (116 : Int32), .int (0 : Int32), .int (0 : Int32), .int (0 : Int32), .int (0 : Int32)]) (rest := []) O 0 (fun r M1 h => sp_X6_isWord h) dX6_name_86 mv_X6_isWord lm_X6_181 so_S2_0 rfl rfl (Nat.le_of_ble_eq_true rfl) (Nat.le_trans (Nat.le_of_ble_eq_true rfl) hd0) (fun r8 M7 => ?_)
        refine j_if_eq (pc := 89) (tgt := 97) O dX6_name_89 (by decide) ?_ ?_
        · refine j_aload_n (pc := 97) O 0 dX6_name_97 rfl ?_
          refine j_bipush (pc := 98) (v := 101) O dX6_name_98 (by decide) ?_
          refine j_bipush (pc := 100) (v := 97) O dX6_name_100 (by decide) ?_
          refine j_bipush (pc := 102) (v := 116) O dX6_name_102 (by decide) ?_
          refine j_bipush (pc := 104) (v := 101) O dX6_name_104 (by decide) ?_
          refine j_bipush (pc := 106) (v := 114) O dX6_name_106 (by decide) ?_
          refine j_iconst (pc := 108) (v := 0) O dX6_name_108 (by decide) ?_
          refine j_iconst (pc := 109) (v := 0) O dX6_name_109 (by decide) ?_
          refine j_iconst (pc := 110) (v := 0) O dX6_name_110 (by decide) ?_
          refine j_callVi (pc := 111) (dc := 3) (As := [.int (101 : Int32), .int (97 : Int32), .int (116 : Int32), .int (101 : Int32), .int (114 : Int32), .int (0 : Int32), .int (0 : Int32), .int (0 : Int32)]) (rest := []) O 0 (fun r M1 h => sp_X6_isWord h) dX6_name_111 mv_X6_isWord lm_X6_181 so_S2_0 rfl rfl (Nat.le_of_ble_eq_true rfl) (Nat.le_trans (Nat.le_of_ble_eq_true rfl) hd0) (fun r10 M9 => ?_)
          refine j_if_eq (pc := 114) (tgt := 122) O dX6_name_114 (by decide) ?_ ?_
          · refine j_aload_n (pc := 122) O 0 dX6_name_122 rfl ?_
            refine j_bipush (pc := 123) (v := 108) O dX6_name_123 (by decide) ?_
            refine j_bipush (pc := 125) (v := 97) O dX6_name_125 (by decide) ?_
            refine j_bipush (pc := 127) (v := 116) O dX6_name_127 (by decide) ?_
            refine j_bipush (pc := 129) (v := 101) O dX6_name_129 (by decide) ?_
            refine j_iconst (pc := 131) (v := 0) O dX6_name_131 (by decide) ?_
            refine j_iconst (pc := 132) (v := 0) O dX6_name_132 (by decide) ?_
            refine j_iconst (pc := 133) (v := 0) O dX6_name_133 (by decide) ?_
            refine j_iconst (pc := 134) (v := 0) O dX6_name_134 (by decide) ?_
            refine j_callVi (pc := 135) (dc := 3) (As := [.int (108 : Int32), .int (97 : Int32), .int (116 : Int32), .int (101 : Int32), .int (0 : Int32), .int (0 : Int32), .int (0 : Int32), .int (0 : Int32)]) (rest := []) O 0 (fun r M1 h => sp_X6_isWord h) dX6_name_135 mv_X6_isWord lm_X6_181 so_S2_0 rfl rfl (Nat.le_of_ble_eq_true rfl) (Nat.le_trans (Nat.le_of_ble_eq_true rfl) hd0) (fun r12 M11 => ?_)
            refine j_if_eq (pc := 138) (tgt := 146) O dX6_name_138 (by decide) ?_ ?_
            · refine j_aload_n (pc := 146) O 0 dX6_name_146 rfl ?_
              refine j_callVv (pc := 147) (dc := 1) (As := []) (rest := []) O 0 (fun M1 h => sp_X6_fail h) dX6_name_147 mv_X6_fail lm_X6_175 so_S2_0 rfl rfl (Nat.le_of_ble_eq_true rfl) (Nat.le_trans (Nat.le_of_ble_eq_true rfl) hd0) (fun M13 => ?_)
              refine j_iconst (pc := 150) (v := 0) O dX6_name_150 (by decide) ?_
              exact j_iret (pc := 151) O dX6_name_151
            · refine j_aload_n (pc := 141) O 0 dX6_name_141 rfl ?_
              refine j_getf (pc := 142) (v := .int (M11.1 0 20)) O 0 20 dX6_name_142 fl_X6_200 so_S2_0 rfl rfl ?_
              exact j_iret (pc := 145) O dX6_name_145
          · refine j_aload_n (pc := 117) O 0 dX6_name_117 rfl ?_
            refine j_getf (pc := 118) (v := .int (M9.1 0 19)) O 0 19 dX6_name_118 fl_X6_197 so_S2_0 rfl rfl ?_
            exact j_iret (pc := 121) O dX6_name_121
        · refine j_aload_n (pc := 92) O 0 dX6_name_92 rfl ?_
          refine j_getf (pc := 93) (v := .int (M7.1 0 18)) O 0 18 dX6_name_93 fl_X6_194 so_S2_0 rfl rfl ?_
          exact j_iret (pc := 96) O dX6_name_96
      · refine j_aload_n (pc := 68) O 0 dX6_name_68 rfl ?_
        refine j_getf (pc := 69) (v := .int (M5.1 0 17)) O 0 17 dX6_name_69 fl_X6_191 so_S2_0 rfl rfl ?_
        exact j_iret (pc := 72) O dX6_name_72
    · refine j_aload_n (pc := 45) O 0 dX6_name_45 rfl ?_
      refine j_getf (pc := 46) (v := .int (M3.1 0 16)) O 0 16 dX6_name_46 fl_X6_188 so_S2_0 rfl rfl ?_
      exact j_iret (pc := 49) O dX6_name_49
  · refine j_aload_n (pc := 19) O 0 dX6_name_19 rfl ?_
    refine j_getf (pc := 20) (v := .int (M1.1 0 15)) O 0 15 dX6_name_20 fl_X6_185 so_S2_0 rfl rfl ?_
    exact j_iret (pc := 23) O dX6_name_23
theorem sp_X6_name {G : wn_G} {ad : Nat → Nat} {M : Mm} {r : Int32} {M1 : Mm} (h : f_X6_name M = some (r, M1)) : Sp G S2 ad mX6_name 4 [.ref (ad 0)] M M1 (some (.int r)) :=
  sp_intro (own := RX6) (by decide +kernel) rfl (Nat.le_of_ble_eq_true rfl) (fun X O T => jf_X6_name O (Nat.le_refl _) M (r, M1) h T)
def f_X6_atom_j157 (g_X6_either : Mm → Option (Int32 × Mm)) (g_X6_both : Mm → Option (Int32 × Mm)) (g_X6_not : Mm → Option (Int32 × Mm)) (g_X6_added : Mm → Option (Int32 × Mm)) (g_X6_term : Mm → Option (Int32 × Mm)) (g_X6_atom : Mm → Option (Int32 × Mm)) (x1 : Int32) (M : Mm) : Option (Int32 × Mm) :=
  bv (f_X6_fail M) fun M5 =>
  some (x1, M5)
set_option maxRecDepth 100000 in
set_option maxHeartbeats 4000000 in
theorem jf_X6_atom_j157 {G : wn_G} {ad : Nat → Nat} {X : wn_X} {d : Nat} (O : Ok G RX6 cX6_atom 2 d X) (hd0 : 5 ≤ d) (g_X6_either : Mm → Option (Int32 × Mm)) (g_X6_both : Mm → Option (Int32 × Mm)) (g_X6_not : Mm → Option (Int32 × Mm)) (g_X6_added : Mm → Option (Int32 × Mm)) (g_X6_term : Mm → Option (Int32 × Mm)) (g_X6_atom : Mm → Option (Int32 × Mm)) {dg : Nat} (hdg : dg + 1 ≤ d) (hg_X6_either : ∀ (M : Mm) (r : Int32) (M1 : Mm), g_X6_either M = some (r, M1) → Sp G S2 ad mX6_either dg [.ref (ad 0)] M M1 (some (.int r))) (hg_X6_both : ∀ (M : Mm) (r : Int32) (M1 : Mm), g_X6_both M = some (r, M1) → Sp G S2 ad mX6_both dg [.ref (ad 0)] M M1 (some (.int r))) (hg_X6_not : ∀ (M : Mm) (r : Int32) (M1 : Mm), g_X6_not M = some (r, M1) → Sp G S2 ad mX6_not dg [.ref (ad 0)] M M1 (some (.int r))) (hg_X6_added : ∀ (M : Mm) (r : Int32) (M1 : Mm), g_X6_added M = some (r, M1) → Sp G S2 ad mX6_added dg [.ref (ad 0)] M M1 (some (.int r))) (hg_X6_term : ∀ (M : Mm) (r : Int32) (M1 : Mm), g_X6_term M = some (r, M1) → Sp G S2 ad mX6_term dg [.ref (ad 0)] M M1 (some (.int r))) (hg_X6_atom : ∀ (M : Mm) (r : Int32) (M1 : Mm), g_X6_atom M = some (r, M1) → Sp G S2 ad mX6_atom dg [.ref (ad 0)] M M1 (some (.int r))) (x1 : Int32) (M : Mm) : JW G S2 ad X 157 [(0, .ref (ad 0)), (1, .int x1)] [] M (f_X6_atom_j157 g_X6_either g_X6_both g_X6_not g_X6_added g_X6_term g_X6_atom x1 M) (Kri G S2 ad X) := by
  unfold f_X6_atom_j157
  refine j_aload_n (pc := 157) O 0 dX6_atom_157 rfl ?_
  refine j_callVv (pc := 158) (dc := 1) (As := []) (rest := []) O 0 (fun M1 h => sp_X6_fail h) dX6_atom_158 mv_X6_fail lm_X6_175 so_S2_0 rfl rfl (Nat.le_of_ble_eq_true rfl) (Nat.le_trans (Nat.le_of_ble_eq_true rfl) hd0) (fun M5 => ?_)
  refine j_iload_n (pc := 161) O 1 dX6_atom_161 rfl ?_
  exact j_iret (pc := 162) O dX6_atom_162
def f_X6_atom_j123 (g_X6_either : Mm → Option (Int32 × Mm)) (g_X6_both : Mm → Option (Int32 × Mm)) (g_X6_not : Mm → Option (Int32 × Mm)) (g_X6_added : Mm → Option (Int32 × Mm)) (g_X6_term : Mm → Option (Int32 × Mm)) (g_X6_atom : Mm → Option (Int32 × Mm)) (x1 : Int32) (M : Mm) : Option (Int32 × Mm) :=
  if (M.1 0 28) = 0 then
    if (M.1 0 24) = (1 : Int32) then
      bd (f_X6_name M) fun r7 M6 =>
      if (M6.1 0 28) = 0 then
        bv (f_X6_next M6) fun M8 =>
        some (r7, M8)
      else
        some (r7, M6)
    else
      f_X6_atom_j157 g_X6_either g_X6_both g_X6_not g_X6_added g_X6_term g_X6_atom x1 M
  else
    f_X6_atom_j157 g_X6_either g_X6_both g_X6_not g_X6_added g_X6_term g_X6_atom x1 M
set_option maxRecDepth 100000 in
set_option maxHeartbeats 4000000 in
theorem jf_X6_atom_j123 {G : wn_G} {ad : Nat → Nat} {X : wn_X} {d : Nat} (O : Ok G RX6 cX6_atom 2 d X) (hd0 : 5 ≤ d) (g_X6_either : Mm → Option (Int32 × Mm)) (g_X6_both : Mm → Option (Int32 × Mm)) (g_X6_not : Mm → Option (Int32 × Mm)) (g_X6_added : Mm → Option (Int32 × Mm)) (g_X6_term : Mm → Option (Int32 × Mm)) (g_X6_atom : Mm → Option (Int32 × Mm)) {dg : Nat} (hdg : dg + 1 ≤ d) (hg_X6_either : ∀ (M : Mm) (r : Int32) (M1 : Mm), g_X6_either M = some (r, M1) → Sp G S2 ad mX6_either dg [.ref (ad 0)] M M1 (some (.int r))) (hg_X6_both : ∀ (M : Mm) (r : Int32) (M1 : Mm), g_X6_both M = some (r, M1) → Sp G S2 ad mX6_both dg [.ref (ad 0)] M M1 (some (.int r))) (hg_X6_not : ∀ (M : Mm) (r : Int32) (M1 : Mm), g_X6_not M = some (r, M1) → Sp G S2 ad mX6_not dg [.ref (ad 0)] M M1 (some (.int r))) (hg_X6_added : ∀ (M : Mm) (r : Int32) (M1 : Mm), g_X6_added M = some (r, M1) → Sp G S2 ad mX6_added dg [.ref (ad 0)] M M1 (some (.int r))) (hg_X6_term : ∀ (M : Mm) (r : Int32) (M1 : Mm), g_X6_term M = some (r, M1) → Sp G S2 ad mX6_term dg [.ref (ad 0)] M M1 (some (.int r))) (hg_X6_atom : ∀ (M : Mm) (r : Int32) (M1 : Mm), g_X6_atom M = some (r, M1) → Sp G S2 ad mX6_atom dg [.ref (ad 0)] M M1 (some (.int r))) (x1 : Int32) (M : Mm) : JW G S2 ad X 123 [(0, .ref (ad 0)), (1, .int x1)] [] M (f_X6_atom_j123 g_X6_either g_X6_both g_X6_not g_X6_added g_X6_term g_X6_atom x1 M) (Kri G S2 ad X) := by
  unfold f_X6_atom_j123
  refine j_aload_n (pc := 123) O 0 dX6_atom_123 rfl ?_
  refine j_getf (pc := 124) (v := .int (M.1 0 28)) O 0 28 dX6_atom_124 fl_X6_161 so_S2_0 rfl rfl ?_
  refine j_if_ne (pc := 127) (tgt := 157) O dX6_atom_127 (by decide) ?_ ?_
  · refine j_aload_n (pc := 130) O 0 dX6_atom_130 rfl ?_
    refine j_getf (pc := 131) (v := .int (M.1 0 24)) O 0 24 dX6_atom_131 fl_X6_144 so_S2_0 rfl rfl ?_
    refine j_iconst (pc := 134) (v := 1) O dX6_atom_134 (by decide) ?_
    refine j_icmp_ne (pc := 135) (tgt := 157) O dX6_atom_135 (by decide) ?_ ?_
    · refine j_aload_n (pc := 138) O 0 dX6_atom_138 rfl ?_
      refine j_callVi (pc := 139) (dc := 4) (As := []) (rest := []) O 0 (fun r M1 h => sp_X6_name h) dX6_atom_139 mv_X6_name lm_X6_217 so_S2_0 rfl rfl (Nat.le_of_ble_eq_true rfl) (Nat.le_trans (Nat.le_of_ble_eq_true rfl) hd0) (fun r7 M6 => ?_)
      refine j_istore_n (pc := 142) (L' := [(1, .int r7), (0, .ref (ad 0))]) O dX6_atom_142 (by decide) rfl ?_
      refine j_aload_n (pc := 143) O 1 dX6_atom_143 rfl ?_
      refine j_getf (pc := 144) (v := .int (M6.1 0 28)) O 0 28 dX6_atom_144 fl_X6_161 so_S2_0 rfl rfl ?_
      refine j_if_ne (pc := 147) (tgt := 161) O dX6_atom_147 (by decide) ?_ ?_
      · refine j_aload_n (pc := 150) O 1 dX6_atom_150 rfl ?_
        refine j_callVv (pc := 151) (dc := 2) (As := []) (rest := []) O 0 (fun M1 h => sp_X6_next h) dX6_atom_151 mv_X6_next lm_X6_178 so_S2_0 rfl rfl (Nat.le_of_ble_eq_true rfl) (Nat.le_trans (Nat.le_of_ble_eq_true rfl) hd0) (fun M8 => ?_)
        refine j_goto (pc := 154) (tgt := 161) O dX6_atom_154 (by decide) ?_
        refine j_iload_n (pc := 161) O 0 dX6_atom_161 rfl ?_
        exact j_iret (pc := 162) O dX6_atom_162
      · refine j_iload_n (pc := 161) O 0 dX6_atom_161 rfl ?_
        exact j_iret (pc := 162) O dX6_atom_162
    · exact jw_sub [0, 1] rfl (jf_X6_atom_j157 O hd0 g_X6_either g_X6_both g_X6_not g_X6_added g_X6_term g_X6_atom hdg hg_X6_either hg_X6_both hg_X6_not hg_X6_added hg_X6_term hg_X6_atom x1 M)
  · exact jw_sub [0, 1] rfl (jf_X6_atom_j157 O hd0 g_X6_either g_X6_both g_X6_not g_X6_added g_X6_term g_X6_atom hdg hg_X6_either hg_X6_both hg_X6_not hg_X6_added hg_X6_term hg_X6_atom x1 M)
def f_X6_atom_j71 (g_X6_either : Mm → Option (Int32 × Mm)) (g_X6_both : Mm → Option (Int32 × Mm)) (g_X6_not : Mm → Option (Int32 × Mm)) (g_X6_added : Mm → Option (Int32 × Mm)) (g_X6_term : Mm → Option (Int32 × Mm)) (g_X6_atom : Mm → Option (Int32 × Mm)) (x1 : Int32) (M : Mm) : Option (Int32 × Mm) :=
  bm (ms M 0 27 ((M.1 0 27) - (1 : Int32))) fun M17 =>
  if (M17.1 0 28) = 0 then
    bv (f_X6_next M17) fun M18 =>
    some (x1, M18)
  else
    some (x1, M17)
set_option maxRecDepth 100000 in
set_option maxHeartbeats 4000000 in
theorem jf_X6_atom_j71 {G : wn_G} {ad : Nat → Nat} {X : wn_X} {d : Nat} (O : Ok G RX6 cX6_atom 2 d X) (hd0 : 5 ≤ d) (g_X6_either : Mm → Option (Int32 × Mm)) (g_X6_both : Mm → Option (Int32 × Mm)) (g_X6_not : Mm → Option (Int32 × Mm)) (g_X6_added : Mm → Option (Int32 × Mm)) (g_X6_term : Mm → Option (Int32 × Mm)) (g_X6_atom : Mm → Option (Int32 × Mm)) {dg : Nat} (hdg : dg + 1 ≤ d) (hg_X6_either : ∀ (M : Mm) (r : Int32) (M1 : Mm), g_X6_either M = some (r, M1) → Sp G S2 ad mX6_either dg [.ref (ad 0)] M M1 (some (.int r))) (hg_X6_both : ∀ (M : Mm) (r : Int32) (M1 : Mm), g_X6_both M = some (r, M1) → Sp G S2 ad mX6_both dg [.ref (ad 0)] M M1 (some (.int r))) (hg_X6_not : ∀ (M : Mm) (r : Int32) (M1 : Mm), g_X6_not M = some (r, M1) → Sp G S2 ad mX6_not dg [.ref (ad 0)] M M1 (some (.int r))) (hg_X6_added : ∀ (M : Mm) (r : Int32) (M1 : Mm), g_X6_added M = some (r, M1) → Sp G S2 ad mX6_added dg [.ref (ad 0)] M M1 (some (.int r))) (hg_X6_term : ∀ (M : Mm) (r : Int32) (M1 : Mm), g_X6_term M = some (r, M1) → Sp G S2 ad mX6_term dg [.ref (ad 0)] M M1 (some (.int r))) (hg_X6_atom : ∀ (M : Mm) (r : Int32) (M1 : Mm), g_X6_atom M = some (r, M1) → Sp G S2 ad mX6_atom dg [.ref (ad 0)] M M1 (some (.int r))) (x1 : Int32) (M : Mm) : JW G S2 ad X 71 [(0, .ref (ad 0)), (1, .int x1)] [] M (f_X6_atom_j71 g_X6_either g_X6_both g_X6_not g_X6_added g_X6_term g_X6_atom x1 M) (Kri G S2 ad X) := by
  unfold f_X6_atom_j71
  refine j_aload_n (pc := 71) O 0 dX6_atom_71 rfl ?_
  refine j_dup (pc := 72) O dX6_atom_72 rfl ?_
  refine j_getf (pc := 73) (v := .int (M.1 0 27)) O 0 27 dX6_atom_73 fl_X6_172 so_S2_0 rfl rfl ?_
  refine j_iconst (pc := 76) (v := 1) O dX6_atom_76 (by decide) ?_
  refine j_isub (pc := 77) O dX6_atom_77 ?_
  refine j_puti (pc := 78) O 0 27 dX6_atom_78 fl_X6_172 so_S2_0 ft_X6_27 rfl (fun M17 => ?_)
  refine j_aload_n (pc := 81) O 0 dX6_atom_81 rfl ?_
  refine j_getf (pc := 82) (v := .int (M17.1 0 28)) O 0 28 dX6_atom_82 fl_X6_161 so_S2_0 rfl rfl ?_
  refine j_if_ne (pc := 85) (tgt := 161) O dX6_atom_85 (by decide) ?_ ?_
  · refine j_aload_n (pc := 88) O 0 dX6_atom_88 rfl ?_
    refine j_callVv (pc := 89) (dc := 2) (As := []) (rest := []) O 0 (fun M1 h => sp_X6_next h) dX6_atom_89 mv_X6_next lm_X6_178 so_S2_0 rfl rfl (Nat.le_of_ble_eq_true rfl) (Nat.le_trans (Nat.le_of_ble_eq_true rfl) hd0) (fun M18 => ?_)
    refine j_goto (pc := 92) (tgt := 161) O dX6_atom_92 (by decide) ?_
    refine j_iload_n (pc := 161) O 1 dX6_atom_161 rfl ?_
    exact j_iret (pc := 162) O dX6_atom_162
  · refine j_iload_n (pc := 161) O 1 dX6_atom_161 rfl ?_
    exact j_iret (pc := 162) O dX6_atom_162
def f_X6_atom (g_X6_either : Mm → Option (Int32 × Mm)) (g_X6_both : Mm → Option (Int32 × Mm)) (g_X6_not : Mm → Option (Int32 × Mm)) (g_X6_added : Mm → Option (Int32 × Mm)) (g_X6_term : Mm → Option (Int32 × Mm)) (g_X6_atom : Mm → Option (Int32 × Mm)) (M : Mm) : Option (Int32 × Mm) :=
  bd (f_X6_isSign (45 : Int32) M) fun r2 M1 =>
  if r2 = 0 then
    bd (f_X6_isSign (40 : Int32) M1) fun r4 M3 =>
    if r4 = 0 then
      if (M3.1 0 28) = 0 then
        if (M3.1 0 24) = (2 : Int32) then
          bi (Int64.toInt32 (M3.2 0)) fun y9 =>
          bv (f_X6_next M3) fun M10 =>
          some (y9, M10)
        else
          f_X6_atom_j123 g_X6_either g_X6_both g_X6_not g_X6_added g_X6_term g_X6_atom (0 : Int32) M3
      else
        f_X6_atom_j123 g_X6_either g_X6_both g_X6_not g_X6_added g_X6_term g_X6_atom (0 : Int32) M3
    else
      bd (f_X6_opens M3) fun r12 M11 =>
      if r12 = 0 then
        some ((0 : Int32), M11)
      else
        bd (g_X6_either M11) fun r14 M13 =>
        bd (f_X6_isSign (41 : Int32) M13) fun r16 M15 =>
        if r16 = 0 then
          bv (f_X6_fail M15) fun M19 =>
          f_X6_atom_j71 g_X6_either g_X6_both g_X6_not g_X6_added g_X6_term g_X6_atom r14 M19
        else
          f_X6_atom_j71 g_X6_either g_X6_both g_X6_not g_X6_added g_X6_term g_X6_atom r14 M15
  else
    bd (f_X6_opens M1) fun r21 M20 =>
    if r21 = 0 then
      some ((0 : Int32), M20)
    else
      bd (g_X6_atom M20) fun r23 M22 =>
      bi (-r23) fun y24 =>
      bm (ms M22 0 27 ((M22.1 0 27) - (1 : Int32))) fun M25 =>
      some (y24, M25)
set_option maxRecDepth 100000 in
set_option maxHeartbeats 4000000 in
theorem jf_X6_atom {G : wn_G} {ad : Nat → Nat} {X : wn_X} {d : Nat} (O : Ok G RX6 cX6_atom 2 d X) (hd0 : 5 ≤ d) (g_X6_either : Mm → Option (Int32 × Mm)) (g_X6_both : Mm → Option (Int32 × Mm)) (g_X6_not : Mm → Option (Int32 × Mm)) (g_X6_added : Mm → Option (Int32 × Mm)) (g_X6_term : Mm → Option (Int32 × Mm)) (g_X6_atom : Mm → Option (Int32 × Mm)) {dg : Nat} (hdg : dg + 1 ≤ d) (hg_X6_either : ∀ (M : Mm) (r : Int32) (M1 : Mm), g_X6_either M = some (r, M1) → Sp G S2 ad mX6_either dg [.ref (ad 0)] M M1 (some (.int r))) (hg_X6_both : ∀ (M : Mm) (r : Int32) (M1 : Mm), g_X6_both M = some (r, M1) → Sp G S2 ad mX6_both dg [.ref (ad 0)] M M1 (some (.int r))) (hg_X6_not : ∀ (M : Mm) (r : Int32) (M1 : Mm), g_X6_not M = some (r, M1) → Sp G S2 ad mX6_not dg [.ref (ad 0)] M M1 (some (.int r))) (hg_X6_added : ∀ (M : Mm) (r : Int32) (M1 : Mm), g_X6_added M = some (r, M1) → Sp G S2 ad mX6_added dg [.ref (ad 0)] M M1 (some (.int r))) (hg_X6_term : ∀ (M : Mm) (r : Int32) (M1 : Mm), g_X6_term M = some (r, M1) → Sp G S2 ad mX6_term dg [.ref (ad 0)] M M1 (some (.int r))) (hg_X6_atom : ∀ (M : Mm) (r : Int32) (M1 : Mm), g_X6_atom M = some (r, M1) → Sp G S2 ad mX6_atom dg [.ref (ad 0)] M M1 (some (.int r))) (M : Mm) : JW G S2 ad X 0 [(0, .ref (ad 0))] [] M (f_X6_atom g_X6_either g_X6_both g_X6_not g_X6_added g_X6_term g_X6_atom M) (Kri G S2 ad X) := by
  unfold f_X6_atom
  refine j_iconst (pc := 0) (v := 0) O dX6_atom_0 (by decide) ?_
  refine j_istore_n (pc := 1) (L' := [(1, .int (0 : Int32)), (0, .ref (ad 0))]) O dX6_atom_1 (by decide) rfl ?_
  refine j_aload_n (pc := 2) O 1 dX6_atom_2 rfl ?_
  refine j_bipush (pc := 3) (v := 45) O dX6_atom_3 (by decide) ?_
  refine j_callVi (pc := 5) (dc := 1) (As := [.int (45 : Int32)]) (rest := []) O 0 (fun r M1 h => sp_X6_isSign h) dX6_atom_5 mv_X6_isSign lm_X6_203 so_S2_0 rfl rfl (Nat.le_of_ble_eq_true rfl) (Nat.le_trans (Nat.le_of_ble_eq_true rfl) hd0) (fun r2 M1 => ?_)
  refine j_if_eq (pc := 8) (tgt := 37) O dX6_atom_8 (by decide) ?_ ?_
  · refine j_aload_n (pc := 37) O 1 dX6_atom_37 rfl ?_
    refine j_bipush (pc := 38) (v := 40) O dX6_atom_38 (by decide) ?_
    refine j_callVi (pc := 40) (dc := 1) (As := [.int (40 : Int32)]) (rest := []) O 0 (fun r M1 h => sp_X6_isSign h) dX6_atom_40 mv_X6_isSign lm_X6_203 so_S2_0 rfl rfl (Nat.le_of_ble_eq_true rfl) (Nat.le_trans (Nat.le_of_ble_eq_true rfl) hd0) (fun r4 M3 => ?_)
    refine j_if_eq (pc := 43) (tgt := 95) O dX6_atom_43 (by decide) ?_ ?_
    · refine j_aload_n (pc := 95) O 1 dX6_atom_95 rfl ?_
      refine j_getf (pc := 96) (v := .int (M3.1 0 28)) O 0 28 dX6_atom_96 fl_X6_161 so_S2_0 rfl rfl ?_
      refine j_if_ne (pc := 99) (tgt := 123) O dX6_atom_99 (by decide) ?_ ?_
      · refine j_aload_n (pc := 102) O 1 dX6_atom_102 rfl ?_
        refine j_getf (pc := 103) (v := .int (M3.1 0 24)) O 0 24 dX6_atom_103 fl_X6_144 so_S2_0 rfl rfl ?_
        refine j_iconst (pc := 106) (v := 2) O dX6_atom_106 (by decide) ?_
        refine j_icmp_ne (pc := 107) (tgt := 123) O dX6_atom_107 (by decide) ?_ ?_
        · refine j_aload_n (pc := 110) O 1 dX6_atom_110 rfl ?_
          refine j_getf (pc := 111) (v := .long (M3.2 0)) O 0 26 dX6_atom_111 fl_X6_155 so_S2_0 rfl rfl ?_
          refine j_l2i (pc := 114) O dX6_atom_114 ?_
          refine jw_bi fun y9 => ?_
          refine j_istore_n (pc := 115) (L' := [(1, .int y9), (0, .ref (ad 0))]) O dX6_atom_115 (by decide) rfl ?_
          refine j_aload_n (pc := 116) O 1 dX6_atom_116 rfl ?_
          refine j_callVv (pc := 117) (dc := 2) (As := []) (rest := []) O 0 (fun M1 h => sp_X6_next h) dX6_atom_117 mv_X6_next lm_X6_178 so_S2_0 rfl rfl (Nat.le_of_ble_eq_true rfl) (Nat.le_trans (Nat.le_of_ble_eq_true rfl) hd0) (fun M10 => ?_)
          refine j_goto (pc := 120) (tgt := 161) O dX6_atom_120 (by decide) ?_
          refine j_iload_n (pc := 161) O 0 dX6_atom_161 rfl ?_
          exact j_iret (pc := 162) O dX6_atom_162
        · exact jw_sub [1, 0] rfl (jf_X6_atom_j123 O hd0 g_X6_either g_X6_both g_X6_not g_X6_added g_X6_term g_X6_atom hdg hg_X6_either hg_X6_both hg_X6_not hg_X6_added hg_X6_term hg_X6_atom (0 : Int32) M3)
      · exact jw_sub [1, 0] rfl (jf_X6_atom_j123 O hd0 g_X6_either g_X6_both g_X6_not g_X6_added g_X6_term g_X6_atom hdg hg_X6_either hg_X6_both hg_X6_not hg_X6_added hg_X6_term hg_X6_atom (0 : Int32) M3)
    · refine j_aload_n (pc := 46) O 1 dX6_atom_46 rfl ?_
      refine j_callVi (pc := 47) (dc := 3) (As := []) (rest := []) O 0 (fun r M1 h => sp_X6_opens h) dX6_atom_47 mv_X6_opens lm_X6_206 so_S2_0 rfl rfl (Nat.le_of_ble_eq_true rfl) (Nat.le_trans (Nat.le_of_ble_eq_true rfl) hd0) (fun r12 M11 => ?_)
      refine j_if_eq (pc := 50) (tgt := 161) O dX6_atom_50 (by decide) ?_ ?_
      · refine j_iload_n (pc := 161) O 0 dX6_atom_161 rfl ?_
        exact j_iret (pc := 162) O dX6_atom_162
      · refine j_aload_n (pc := 53) O 1 dX6_atom_53 rfl ?_
        refine j_callVi (pc := 54) (As := []) (rest := []) O 0 (hg_X6_either M11) dX6_atom_54 mv_X6_either lm_X6_214 so_S2_0 rfl rfl (Nat.le_of_ble_eq_true rfl) hdg (fun r14 M13 => ?_)
        refine j_istore_n (pc := 57) (L' := [(1, .int r14), (0, .ref (ad 0))]) O dX6_atom_57 (by decide) rfl ?_
        refine j_aload_n (pc := 58) O 1 dX6_atom_58 rfl ?_
        refine j_bipush (pc := 59) (v := 41) O dX6_atom_59 (by decide) ?_
        refine j_callVi (pc := 61) (dc := 1) (As := [.int (41 : Int32)]) (rest := []) O 0 (fun r M1 h => sp_X6_isSign h) dX6_atom_61 mv_X6_isSign lm_X6_203 so_S2_0 rfl rfl (Nat.le_of_ble_eq_true rfl) (Nat.le_trans (Nat.le_of_ble_eq_true rfl) hd0) (fun r16 M15 => ?_)
        refine j_if_ne (pc := 64) (tgt := 71) O dX6_atom_64 (by decide) ?_ ?_
        · refine j_aload_n (pc := 67) O 1 dX6_atom_67 rfl ?_
          refine j_callVv (pc := 68) (dc := 1) (As := []) (rest := []) O 0 (fun M1 h => sp_X6_fail h) dX6_atom_68 mv_X6_fail lm_X6_175 so_S2_0 rfl rfl (Nat.le_of_ble_eq_true rfl) (Nat.le_trans (Nat.le_of_ble_eq_true rfl) hd0) (fun M19 => ?_)
          exact jw_sub [1, 0] rfl (jf_X6_atom_j71 O hd0 g_X6_either g_X6_both g_X6_not g_X6_added g_X6_term g_X6_atom hdg hg_X6_either hg_X6_both hg_X6_not hg_X6_added hg_X6_term hg_X6_atom r14 M19)
        · exact jw_sub [1, 0] rfl (jf_X6_atom_j71 O hd0 g_X6_either g_X6_both g_X6_not g_X6_added g_X6_term g_X6_atom hdg hg_X6_either hg_X6_both hg_X6_not hg_X6_added hg_X6_term hg_X6_atom r14 M15)
  · refine j_aload_n (pc := 11) O 1 dX6_atom_11 rfl ?_
    refine j_callVi (pc := 12) (dc := 3) (As := []) (rest := []) O 0 (fun r M1 h => sp_X6_opens h) dX6_atom_12 mv_X6_opens lm_X6_206 so_S2_0 rfl rfl (Nat.le_of_ble_eq_true rfl) (Nat.le_trans (Nat.le_of_ble_eq_true rfl) hd0) (fun r21 M20 => ?_)
    refine j_if_eq (pc := 15) (tgt := 161) O dX6_atom_15 (by decide) ?_ ?_
    · refine j_iload_n (pc := 161) O 0 dX6_atom_161 rfl ?_
      exact j_iret (pc := 162) O dX6_atom_162
    · refine j_aload_n (pc := 18) O 1 dX6_atom_18 rfl ?_
      refine j_callVi (pc := 19) (As := []) (rest := []) O 0 (hg_X6_atom M20) dX6_atom_19 mv_X6_atom lm_X6_210 so_S2_0 rfl rfl (Nat.le_of_ble_eq_true rfl) hdg (fun r23 M22 => ?_)
      refine j_ineg (pc := 22) O dX6_atom_22 ?_
      refine jw_bi fun y24 => ?_
      refine j_istore_n (pc := 23) (L' := [(1, .int y24), (0, .ref (ad 0))]) O dX6_atom_23 (by decide) rfl ?_
      refine j_aload_n (pc := 24) O 1 dX6_atom_24 rfl ?_
      refine j_dup (pc := 25) O dX6_atom_25 rfl ?_
      refine j_getf (pc := 26) (v := .int (M22.1 0 27)) O 0 27 dX6_atom_26 fl_X6_172 so_S2_0 rfl rfl ?_
      refine j_iconst (pc := 29) (v := 1) O dX6_atom_29 (by decide) ?_
      refine j_isub (pc := 30) O dX6_atom_30 ?_
      refine j_puti (pc := 31) O 0 27 dX6_atom_31 fl_X6_172 so_S2_0 ft_X6_27 rfl (fun M25 => ?_)
      refine j_goto (pc := 34) (tgt := 161) O dX6_atom_34 (by decide) ?_
      refine j_iload_n (pc := 161) O 0 dX6_atom_161 rfl ?_
      exact j_iret (pc := 162) O dX6_atom_162
def R_X6_either : Nat → (Mm → Option (Int32 × Mm)) × (Mm → Option (Int32 × Mm)) × (Mm → Option (Int32 × Mm)) × (Mm → Option (Int32 × Mm)) × (Mm → Option (Int32 × Mm)) × (Mm → Option (Int32 × Mm))
  | 0 => (fun _ => none, fun _ => none, fun _ => none, fun _ => none, fun _ => none, fun _ => none)
  | n + 1 => (f_X6_either (R_X6_either n).1 (R_X6_either n).2.1 (R_X6_either n).2.2.1 (R_X6_either n).2.2.2.1 (R_X6_either n).2.2.2.2.1 (R_X6_either n).2.2.2.2.2, f_X6_both (R_X6_either n).1 (R_X6_either n).2.1 (R_X6_either n).2.2.1 (R_X6_either n).2.2.2.1 (R_X6_either n).2.2.2.2.1 (R_X6_either n).2.2.2.2.2, f_X6_not (R_X6_either n).1 (R_X6_either n).2.1 (R_X6_either n).2.2.1 (R_X6_either n).2.2.2.1 (R_X6_either n).2.2.2.2.1 (R_X6_either n).2.2.2.2.2, f_X6_added (R_X6_either n).1 (R_X6_either n).2.1 (R_X6_either n).2.2.1 (R_X6_either n).2.2.2.1 (R_X6_either n).2.2.2.2.1 (R_X6_either n).2.2.2.2.2, f_X6_term (R_X6_either n).1 (R_X6_either n).2.1 (R_X6_either n).2.2.1 (R_X6_either n).2.2.2.1 (R_X6_either n).2.2.2.2.1 (R_X6_either n).2.2.2.2.2, f_X6_atom (R_X6_either n).1 (R_X6_either n).2.1 (R_X6_either n).2.2.1 (R_X6_either n).2.2.2.1 (R_X6_either n).2.2.2.2.1 (R_X6_either n).2.2.2.2.2)
set_option maxRecDepth 100000 in
theorem sR_X6_either {G : wn_G} {ad : Nat → Nat} : ∀ n : Nat, (∀ (M : Mm) (r : Int32) (M1 : Mm), (R_X6_either n).1 M = some (r, M1) → Sp G S2 ad mX6_either (5 + n) [.ref (ad 0)] M M1 (some (.int r))) ∧ (∀ (M : Mm) (r : Int32) (M1 : Mm), (R_X6_either n).2.1 M = some (r, M1) → Sp G S2 ad mX6_both (5 + n) [.ref (ad 0)] M M1 (some (.int r))) ∧ (∀ (M : Mm) (r : Int32) (M1 : Mm), (R_X6_either n).2.2.1 M = some (r, M1) → Sp G S2 ad mX6_not (5 + n) [.ref (ad 0)] M M1 (some (.int r))) ∧ (∀ (M : Mm) (r : Int32) (M1 : Mm), (R_X6_either n).2.2.2.1 M = some (r, M1) → Sp G S2 ad mX6_added (5 + n) [.ref (ad 0)] M M1 (some (.int r))) ∧ (∀ (M : Mm) (r : Int32) (M1 : Mm), (R_X6_either n).2.2.2.2.1 M = some (r, M1) → Sp G S2 ad mX6_term (5 + n) [.ref (ad 0)] M M1 (some (.int r))) ∧ (∀ (M : Mm) (r : Int32) (M1 : Mm), (R_X6_either n).2.2.2.2.2 M = some (r, M1) → Sp G S2 ad mX6_atom (5 + n) [.ref (ad 0)] M M1 (some (.int r)))
  | 0 => ⟨fun _ _ _ h => (by cases h), fun _ _ _ h => (by cases h), fun _ _ _ h => (by cases h), fun _ _ _ h => (by cases h), fun _ _ _ h => (by cases h), fun _ _ _ h => (by cases h)⟩
  | n + 1 => by
    have ih := sR_X6_either (G := G) (ad := ad) n
    exact ⟨fun M r M1 h => sp_intro (own := RX6) (by decide +kernel) rfl (Nat.le_of_ble_eq_true rfl) (fun X O T => jf_X6_either O (by omega) (R_X6_either n).1 (R_X6_either n).2.1 (R_X6_either n).2.2.1 (R_X6_either n).2.2.2.1 (R_X6_either n).2.2.2.2.1 (R_X6_either n).2.2.2.2.2 (Nat.le_refl _) ih.1 ih.2.1 ih.2.2.1 ih.2.2.2.1 ih.2.2.2.2.1 ih.2.2.2.2.2  M (r, M1) h T),
      fun M r M1 h => sp_intro (own := RX6) (by decide +kernel) rfl (Nat.le_of_ble_eq_true rfl) (fun X O T => jf_X6_both O (by omega) (R_X6_either n).1 (R_X6_either n).2.1 (R_X6_either n).2.2.1 (R_X6_either n).2.2.2.1 (R_X6_either n).2.2.2.2.1 (R_X6_either n).2.2.2.2.2 (Nat.le_refl _) ih.1 ih.2.1 ih.2.2.1 ih.2.2.2.1 ih.2.2.2.2.1 ih.2.2.2.2.2  M (r, M1) h T),
      fun M r M1 h => sp_intro (own := RX6) (by decide +kernel) rfl (Nat.le_of_ble_eq_true rfl) (fun X O T => jf_X6_not O (by omega) (R_X6_either n).1 (R_X6_either n).2.1 (R_X6_either n).2.2.1 (R_X6_either n).2.2.2.1 (R_X6_either n).2.2.2.2.1 (R_X6_either n).2.2.2.2.2 (Nat.le_refl _) ih.1 ih.2.1 ih.2.2.1 ih.2.2.2.1 ih.2.2.2.2.1 ih.2.2.2.2.2  M (r, M1) h T),
      fun M r M1 h => sp_intro (own := RX6) (by decide +kernel) rfl (Nat.le_of_ble_eq_true rfl) (fun X O T => jf_X6_added O (by omega) (R_X6_either n).1 (R_X6_either n).2.1 (R_X6_either n).2.2.1 (R_X6_either n).2.2.2.1 (R_X6_either n).2.2.2.2.1 (R_X6_either n).2.2.2.2.2 (Nat.le_refl _) ih.1 ih.2.1 ih.2.2.1 ih.2.2.2.1 ih.2.2.2.2.1 ih.2.2.2.2.2  M (r, M1) h T),
      fun M r M1 h => sp_intro (own := RX6) (by decide +kernel) rfl (Nat.le_of_ble_eq_true rfl) (fun X O T => jf_X6_term O (by omega) (R_X6_either n).1 (R_X6_either n).2.1 (R_X6_either n).2.2.1 (R_X6_either n).2.2.2.1 (R_X6_either n).2.2.2.2.1 (R_X6_either n).2.2.2.2.2 (Nat.le_refl _) ih.1 ih.2.1 ih.2.2.1 ih.2.2.2.1 ih.2.2.2.2.1 ih.2.2.2.2.2  M (r, M1) h T),
      fun M r M1 h => sp_intro (own := RX6) (by decide +kernel) rfl (Nat.le_of_ble_eq_true rfl) (fun X O T => jf_X6_atom O (by omega) (R_X6_either n).1 (R_X6_either n).2.1 (R_X6_either n).2.2.1 (R_X6_either n).2.2.2.1 (R_X6_either n).2.2.2.2.1 (R_X6_either n).2.2.2.2.2 (Nat.le_refl _) ih.1 ih.2.1 ih.2.2.1 ih.2.2.2.1 ih.2.2.2.2.1 ih.2.2.2.2.2  M (r, M1) h T)⟩
def r_X6_either : Mm → Option (Int32 × Mm) := (R_X6_either recs).1
theorem sp_X6_either {G : wn_G} {ad : Nat → Nat} {M : Mm} {r : Int32} {M1 : Mm} (h : r_X6_either M = some (r, M1)) : Sp G S2 ad mX6_either 105 [.ref (ad 0)] M M1 (some (.int r)) := (sR_X6_either recs).1 M r M1 h
def r_X6_both : Mm → Option (Int32 × Mm) := (R_X6_either recs).2.1
theorem sp_X6_both {G : wn_G} {ad : Nat → Nat} {M : Mm} {r : Int32} {M1 : Mm} (h : r_X6_both M = some (r, M1)) : Sp G S2 ad mX6_both 105 [.ref (ad 0)] M M1 (some (.int r)) := (sR_X6_either recs).2.1 M r M1 h
def r_X6_not : Mm → Option (Int32 × Mm) := (R_X6_either recs).2.2.1
theorem sp_X6_not {G : wn_G} {ad : Nat → Nat} {M : Mm} {r : Int32} {M1 : Mm} (h : r_X6_not M = some (r, M1)) : Sp G S2 ad mX6_not 105 [.ref (ad 0)] M M1 (some (.int r)) := (sR_X6_either recs).2.2.1 M r M1 h
def r_X6_added : Mm → Option (Int32 × Mm) := (R_X6_either recs).2.2.2.1
theorem sp_X6_added {G : wn_G} {ad : Nat → Nat} {M : Mm} {r : Int32} {M1 : Mm} (h : r_X6_added M = some (r, M1)) : Sp G S2 ad mX6_added 105 [.ref (ad 0)] M M1 (some (.int r)) := (sR_X6_either recs).2.2.2.1 M r M1 h
def r_X6_term : Mm → Option (Int32 × Mm) := (R_X6_either recs).2.2.2.2.1
theorem sp_X6_term {G : wn_G} {ad : Nat → Nat} {M : Mm} {r : Int32} {M1 : Mm} (h : r_X6_term M = some (r, M1)) : Sp G S2 ad mX6_term 105 [.ref (ad 0)] M M1 (some (.int r)) := (sR_X6_either recs).2.2.2.2.1 M r M1 h
def r_X6_atom : Mm → Option (Int32 × Mm) := (R_X6_either recs).2.2.2.2.2
theorem sp_X6_atom {G : wn_G} {ad : Nat → Nat} {M : Mm} {r : Int32} {M1 : Mm} (h : r_X6_atom M = some (r, M1)) : Sp G S2 ad mX6_atom 105 [.ref (ad 0)] M M1 (some (.int r)) := (sR_X6_either recs).2.2.2.2.2 M r M1 h
def f_X6_part_j48 (x2 : Int32) (M : Mm) : Option (Int32 × Mm) :=
  if (M.1 0 28) = 0 then
    bv (f_X6_next M) fun M5 =>
    some (x2, M5)
  else
    some (x2, M)
set_option maxRecDepth 100000 in
set_option maxHeartbeats 4000000 in
theorem jf_X6_part_j48 {G : wn_G} {ad : Nat → Nat} {X : wn_X} {d : Nat} (O : Ok G RX6 cX6_part 3 d X) (hd0 : 106 ≤ d) (x2 : Int32) (M : Mm) : JW G S2 ad X 48 [(0, .ref (ad 0)), (2, .int x2)] [] M (f_X6_part_j48 x2 M) (Kri G S2 ad X) := by
  unfold f_X6_part_j48
  refine j_aload_n (pc := 48) O 0 dX6_part_48 rfl ?_
  refine j_getf (pc := 49) (v := .int (M.1 0 28)) O 0 28 dX6_part_49 fl_X6_161 so_S2_0 rfl rfl ?_
  refine j_if_ne (pc := 52) (tgt := 59) O dX6_part_52 (by decide) ?_ ?_
  · refine j_aload_n (pc := 55) O 0 dX6_part_55 rfl ?_
    refine j_callVv (pc := 56) (dc := 2) (As := []) (rest := []) O 0 (fun M1 h => sp_X6_next h) dX6_part_56 mv_X6_next lm_X6_178 so_S2_0 rfl rfl (Nat.le_of_ble_eq_true rfl) (Nat.le_trans (Nat.le_of_ble_eq_true rfl) hd0) (fun M5 => ?_)
    refine j_iload_n (pc := 59) O 1 dX6_part_59 rfl ?_
    exact j_iret (pc := 60) O dX6_part_60
  · refine j_iload_n (pc := 59) O 1 dX6_part_59 rfl ?_
    exact j_iret (pc := 60) O dX6_part_60
def f_X6_part_j34 (s0 : Int32) (M : Mm) : Option (Int32 × Mm) :=
  bd (f_X6_isSign (59 : Int32) M) fun r4 M3 =>
  if r4 = 0 then
    bv (f_X6_fail M3) fun M6 =>
    f_X6_part_j48 s0 M6
  else
    f_X6_part_j48 s0 M3
set_option maxRecDepth 100000 in
set_option maxHeartbeats 4000000 in
theorem jf_X6_part_j34 {G : wn_G} {ad : Nat → Nat} {X : wn_X} {d : Nat} (O : Ok G RX6 cX6_part 3 d X) (hd0 : 106 ≤ d) (s0 : Int32) (M : Mm) : JW G S2 ad X 34 [(0, .ref (ad 0))] [.int s0] M (f_X6_part_j34 s0 M) (Kri G S2 ad X) := by
  unfold f_X6_part_j34
  refine j_istore_n (pc := 34) (L' := [(2, .int s0), (0, .ref (ad 0))]) O dX6_part_34 (by decide) rfl ?_
  refine j_aload_n (pc := 35) O 1 dX6_part_35 rfl ?_
  refine j_bipush (pc := 36) (v := 59) O dX6_part_36 (by decide) ?_
  refine j_callVi (pc := 38) (dc := 1) (As := [.int (59 : Int32)]) (rest := []) O 0 (fun r M1 h => sp_X6_isSign h) dX6_part_38 mv_X6_isSign lm_X6_203 so_S2_0 rfl rfl (Nat.le_of_ble_eq_true rfl) (Nat.le_trans (Nat.le_of_ble_eq_true rfl) hd0) (fun r4 M3 => ?_)
  refine j_if_ne (pc := 41) (tgt := 48) O dX6_part_41 (by decide) ?_ ?_
  · refine j_aload_n (pc := 44) O 1 dX6_part_44 rfl ?_
    refine j_callVv (pc := 45) (dc := 1) (As := []) (rest := []) O 0 (fun M1 h => sp_X6_fail h) dX6_part_45 mv_X6_fail lm_X6_175 so_S2_0 rfl rfl (Nat.le_of_ble_eq_true rfl) (Nat.le_trans (Nat.le_of_ble_eq_true rfl) hd0) (fun M6 => ?_)
    exact jw_sub [1, 0] rfl (jf_X6_part_j48 O hd0 s0 M6)
  · exact jw_sub [1, 0] rfl (jf_X6_part_j48 O hd0 s0 M3)
def f_X6_part_j19 (M : Mm) : Option (Int32 × Mm) :=
  if (M.1 0 28) = 0 then
    bd (r_X6_either M) fun r2 M1 =>
    f_X6_part_j34 r2 M1
  else
    f_X6_part_j34 (0 : Int32) M
set_option maxRecDepth 100000 in
set_option maxHeartbeats 4000000 in
theorem jf_X6_part_j19 {G : wn_G} {ad : Nat → Nat} {X : wn_X} {d : Nat} (O : Ok G RX6 cX6_part 3 d X) (hd0 : 106 ≤ d) (M : Mm) : JW G S2 ad X 19 [(0, .ref (ad 0))] [] M (f_X6_part_j19 M) (Kri G S2 ad X) := by
  unfold f_X6_part_j19
  refine j_aload_n (pc := 19) O 0 dX6_part_19 rfl ?_
  refine j_getf (pc := 20) (v := .int (M.1 0 28)) O 0 28 dX6_part_20 fl_X6_161 so_S2_0 rfl rfl ?_
  refine j_if_eq (pc := 23) (tgt := 30) O dX6_part_23 (by decide) ?_ ?_
  · refine j_aload_n (pc := 30) O 0 dX6_part_30 rfl ?_
    refine j_callVi (pc := 31) (dc := 105) (As := []) (rest := []) O 0 (fun r M1 h => sp_X6_either h) dX6_part_31 mv_X6_either lm_X6_214 so_S2_0 rfl rfl (Nat.le_of_ble_eq_true rfl) (Nat.le_trans (Nat.le_of_ble_eq_true rfl) hd0) (fun r2 M1 => ?_)
    exact jw_sub [0] rfl (jf_X6_part_j34 O hd0 r2 M1)
  · refine j_iconst (pc := 26) (v := 0) O dX6_part_26 (by decide) ?_
    refine j_goto (pc := 27) (tgt := 34) O dX6_part_27 (by decide) ?_
    exact jw_sub [0] rfl (jf_X6_part_j34 O hd0 (0 : Int32) M)
def f_X6_part_j8 (M : Mm) : Option (Int32 × Mm) :=
  if (M.1 0 28) = 0 then
    bv (f_X6_next M) fun M7 =>
    f_X6_part_j19 M7
  else
    f_X6_part_j19 M
set_option maxRecDepth 100000 in
set_option maxHeartbeats 4000000 in
theorem jf_X6_part_j8 {G : wn_G} {ad : Nat → Nat} {X : wn_X} {d : Nat} (O : Ok G RX6 cX6_part 3 d X) (hd0 : 106 ≤ d) (M : Mm) : JW G S2 ad X 8 [(0, .ref (ad 0))] [] M (f_X6_part_j8 M) (Kri G S2 ad X) := by
  unfold f_X6_part_j8
  refine j_aload_n (pc := 8) O 0 dX6_part_8 rfl ?_
  refine j_getf (pc := 9) (v := .int (M.1 0 28)) O 0 28 dX6_part_9 fl_X6_161 so_S2_0 rfl rfl ?_
  refine j_if_ne (pc := 12) (tgt := 19) O dX6_part_12 (by decide) ?_ ?_
  · refine j_aload_n (pc := 15) O 0 dX6_part_15 rfl ?_
    refine j_callVv (pc := 16) (dc := 2) (As := []) (rest := []) O 0 (fun M1 h => sp_X6_next h) dX6_part_16 mv_X6_next lm_X6_178 so_S2_0 rfl rfl (Nat.le_of_ble_eq_true rfl) (Nat.le_trans (Nat.le_of_ble_eq_true rfl) hd0) (fun M7 => ?_)
    exact jw_sub [0] rfl (jf_X6_part_j19 O hd0 M7)
  · exact jw_sub [0] rfl (jf_X6_part_j19 O hd0 M)
def f_X6_part (x1 : Int32) (M : Mm) : Option (Int32 × Mm) :=
  if x1 = 0 then
    bv (f_X6_fail M) fun M8 =>
    f_X6_part_j8 M8
  else
    f_X6_part_j8 M
set_option maxRecDepth 100000 in
set_option maxHeartbeats 4000000 in
theorem jf_X6_part {G : wn_G} {ad : Nat → Nat} {X : wn_X} {d : Nat} (O : Ok G RX6 cX6_part 3 d X) (hd0 : 106 ≤ d) (x1 : Int32) (M : Mm) : JW G S2 ad X 0 [(0, .ref (ad 0)), (1, .int x1)] [] M (f_X6_part x1 M) (Kri G S2 ad X) := by
  unfold f_X6_part
  refine j_iload_n (pc := 0) O 1 dX6_part_0 rfl ?_
  refine j_if_ne (pc := 1) (tgt := 8) O dX6_part_1 (by decide) ?_ ?_
  · refine j_aload_n (pc := 4) O 0 dX6_part_4 rfl ?_
    refine j_callVv (pc := 5) (dc := 1) (As := []) (rest := []) O 0 (fun M1 h => sp_X6_fail h) dX6_part_5 mv_X6_fail lm_X6_175 so_S2_0 rfl rfl (Nat.le_of_ble_eq_true rfl) (Nat.le_trans (Nat.le_of_ble_eq_true rfl) hd0) (fun M8 => ?_)
    exact jw_sub [0] rfl (jf_X6_part_j8 O hd0 M8)
  · exact jw_sub [0] rfl (jf_X6_part_j8 O hd0 M)
theorem sp_X6_part {G : wn_G} {ad : Nat → Nat} {x1 : Int32} {M : Mm} {r : Int32} {M1 : Mm} (h : f_X6_part x1 M = some (r, M1)) : Sp G S2 ad mX6_part 106 [.ref (ad 0), .int x1] M M1 (some (.int r)) :=
  sp_intro (own := RX6) (by decide +kernel) rfl (Nat.le_of_ble_eq_true rfl) (fun X O T => jf_X6_part O (Nat.le_refl _) x1 M (r, M1) h T)
def f_X6_read_j147 (x2 : Int32) (x3 : Int32) (x4 : Int32) (x5 : Int32) (M : Mm) : Option (Int32 × Mm) :=
  if x2 = 0 then
    some (x3, M)
  else
    if x2 = (1 : Int32) then
      some (x4, M)
    else
      some (x5, M)
set_option maxRecDepth 100000 in
set_option maxHeartbeats 4000000 in
theorem jf_X6_read_j147 {G : wn_G} {ad : Nat → Nat} {X : wn_X} {d : Nat} (O : Ok G RX6 cX6_read 6 d X) (hd0 : 107 ≤ d) (x2 : Int32) (x3 : Int32) (x4 : Int32) (x5 : Int32) (M : Mm) : JW G S2 ad X 147 [(2, .int x2), (3, .int x3), (4, .int x4), (5, .int x5)] [] M (f_X6_read_j147 x2 x3 x4 x5 M) (Kri G S2 ad X) := by
  unfold f_X6_read_j147
  refine j_iload_n (pc := 147) O 0 dX6_read_147 rfl ?_
  refine j_if_ne (pc := 148) (tgt := 155) O dX6_read_148 (by decide) ?_ ?_
  · refine j_iload_n (pc := 151) O 1 dX6_read_151 rfl ?_
    refine j_goto (pc := 152) (tgt := 167) O dX6_read_152 (by decide) ?_
    exact j_iret (pc := 167) O dX6_read_167
  · refine j_iload_n (pc := 155) O 0 dX6_read_155 rfl ?_
    refine j_iconst (pc := 156) (v := 1) O dX6_read_156 (by decide) ?_
    refine j_icmp_ne (pc := 157) (tgt := 165) O dX6_read_157 (by decide) ?_ ?_
    · refine j_iload (pc := 160) O 2 dX6_read_160 rfl ?_
      refine j_goto (pc := 162) (tgt := 167) O dX6_read_162 (by decide) ?_
      exact j_iret (pc := 167) O dX6_read_167
    · refine j_iload (pc := 165) O 3 dX6_read_165 rfl ?_
      exact j_iret (pc := 167) O dX6_read_167
def f_X6_read_j127 (x2 : Int32) (x3 : Int32) (x4 : Int32) (s0 : Int32) (M : Mm) : Option (Int32 × Mm) :=
  if (M.1 0 28) = 0 then
    if (M.1 0 24) = 0 then
      f_X6_read_j147 x2 x3 x4 s0 M
    else
      bv (f_X6_fail M) fun M19 =>
      f_X6_read_j147 x2 x3 x4 s0 M19
  else
    f_X6_read_j147 x2 x3 x4 s0 M
set_option maxRecDepth 100000 in
set_option maxHeartbeats 4000000 in
theorem jf_X6_read_j127 {G : wn_G} {ad : Nat → Nat} {X : wn_X} {d : Nat} (O : Ok G RX6 cX6_read 6 d X) (hd0 : 107 ≤ d) (x2 : Int32) (x3 : Int32) (x4 : Int32) (s0 : Int32) (M : Mm) : JW G S2 ad X 127 [(0, .ref (ad 0)), (2, .int x2), (3, .int x3), (4, .int x4)] [.int s0] M (f_X6_read_j127 x2 x3 x4 s0 M) (Kri G S2 ad X) := by
  unfold f_X6_read_j127
  refine j_istore (pc := 127) (L' := [(5, .int s0), (0, .ref (ad 0)), (2, .int x2), (3, .int x3), (4, .int x4)]) O dX6_read_127 (by decide) rfl ?_
  refine j_aload_n (pc := 129) O 1 dX6_read_129 rfl ?_
  refine j_getf (pc := 130) (v := .int (M.1 0 28)) O 0 28 dX6_read_130 fl_X6_161 so_S2_0 rfl rfl ?_
  refine j_if_ne (pc := 133) (tgt := 147) O dX6_read_133 (by decide) ?_ ?_
  · refine j_aload_n (pc := 136) O 1 dX6_read_136 rfl ?_
    refine j_getf (pc := 137) (v := .int (M.1 0 24)) O 0 24 dX6_read_137 fl_X6_144 so_S2_0 rfl rfl ?_
    refine j_if_eq (pc := 140) (tgt := 147) O dX6_read_140 (by decide) ?_ ?_
    · exact jw_sub [2, 3, 4, 0] rfl (jf_X6_read_j147 O hd0 x2 x3 x4 s0 M)
    · refine j_aload_n (pc := 143) O 1 dX6_read_143 rfl ?_
      refine j_callVv (pc := 144) (dc := 1) (As := []) (rest := []) O 0 (fun M1 h => sp_X6_fail h) dX6_read_144 mv_X6_fail lm_X6_175 so_S2_0 rfl rfl (Nat.le_of_ble_eq_true rfl) (Nat.le_trans (Nat.le_of_ble_eq_true rfl) hd0) (fun M19 => ?_)
      exact jw_sub [2, 3, 4, 0] rfl (jf_X6_read_j147 O hd0 x2 x3 x4 s0 M19)
  · exact jw_sub [2, 3, 4, 0] rfl (jf_X6_read_j147 O hd0 x2 x3 x4 s0 M)
def f_X6_read_j93 (x2 : Int32) (x3 : Int32) (s0 : Int32) (M : Mm) : Option (Int32 × Mm) :=
  if (M.1 0 28) = 0 then
    bd (f_X6_isWord (119 : Int32) (111 : Int32) (114 : Int32) (116 : Int32) (104 : Int32) (0 : Int32) (0 : Int32) (0 : Int32) M) fun r16 M15 =>
    bd (f_X6_part r16 M15) fun r18 M17 =>
    f_X6_read_j127 x2 x3 s0 r18 M17
  else
    f_X6_read_j127 x2 x3 s0 (0 : Int32) M
set_option maxRecDepth 100000 in
set_option maxHeartbeats 4000000 in
theorem jf_X6_read_j93 {G : wn_G} {ad : Nat → Nat} {X : wn_X} {d : Nat} (O : Ok G RX6 cX6_read 6 d X) (hd0 : 107 ≤ d) (x2 : Int32) (x3 : Int32) (s0 : Int32) (M : Mm) : JW G S2 ad X 93 [(0, .ref (ad 0)), (2, .int x2), (3, .int x3)] [.int s0] M (f_X6_read_j93 x2 x3 s0 M) (Kri G S2 ad X) := by
  unfold f_X6_read_j93
  refine j_istore (pc := 93) (L' := [(4, .int s0), (0, .ref (ad 0)), (2, .int x2), (3, .int x3)]) O dX6_read_93 (by decide) rfl ?_
  refine j_aload_n (pc := 95) O 1 dX6_read_95 rfl ?_
  refine j_getf (pc := 96) (v := .int (M.1 0 28)) O 0 28 dX6_read_96 fl_X6_161 so_S2_0 rfl rfl ?_
  refine j_if_eq (pc := 99) (tgt := 106) O dX6_read_99 (by decide) ?_ ?_
  · refine j_aload_n (pc := 106) O 1 dX6_read_106 rfl ?_
    refine j_aload_n (pc := 107) O 1 dX6_read_107 rfl ?_
    refine j_bipush (pc := 108) (v := 119) O dX6_read_108 (by decide) ?_
    refine j_bipush (pc := 110) (v := 111) O dX6_read_110 (by decide) ?_
    refine j_bipush (pc := 112) (v := 114) O dX6_read_112 (by decide) ?_
    refine j_bipush (pc := 114) (v := 116) O dX6_read_114 (by decide) ?_
    refine j_bipush (pc := 116) (v := 104) O dX6_read_116 (by decide) ?_
    refine j_iconst (pc := 118) (v := 0) O dX6_read_118 (by decide) ?_
    refine j_iconst (pc := 119) (v := 0) O dX6_read_119 (by decide) ?_
    refine j_iconst (pc := 120) (v := 0) O dX6_read_120 (by decide) ?_
    refine j_callVi (pc := 121) (dc := 3) (As := [.int (119 : Int32), .int (111 : Int32), .int (114 : Int32), .int (116 : Int32), .int (104 : Int32), .int (0 : Int32), .int (0 : Int32), .int (0 : Int32)]) (rest := [.ref (ad 0)]) O 0 (fun r M1 h => sp_X6_isWord h) dX6_read_121 mv_X6_isWord lm_X6_181 so_S2_0 rfl rfl (Nat.le_of_ble_eq_true rfl) (Nat.le_trans (Nat.le_of_ble_eq_true rfl) hd0) (fun r16 M15 => ?_)
    refine j_callVi (pc := 124) (dc := 106) (As := [.int r16]) (rest := []) O 0 (fun r M1 h => sp_X6_part h) dX6_read_124 mv_X6_part lm_X6_236 so_S2_0 rfl rfl (Nat.le_of_ble_eq_true rfl) (Nat.le_trans (Nat.le_of_ble_eq_true rfl) hd0) (fun r18 M17 => ?_)
    exact jw_sub [1, 2, 3, 0] rfl (jf_X6_read_j127 O hd0 x2 x3 s0 r18 M17)
  · refine j_iconst (pc := 102) (v := 0) O dX6_read_102 (by decide) ?_
    refine j_goto (pc := 103) (tgt := 127) O dX6_read_103 (by decide) ?_
    exact jw_sub [1, 2, 3, 0] rfl (jf_X6_read_j127 O hd0 x2 x3 s0 (0 : Int32) M)
def f_X6_read (x1 : Int32) (x2 : Int32) (M : Mm) : Option (Int32 × Mm) :=
  bm (ms M 0 21 ((160 : Int32) * x1)) fun M1 =>
  gd (bin x1 6 = true) inferInstance <|
  bm (ms M1 0 22 (M1.1 2 (Int32.toNatClampNeg x1))) fun M2 =>
  bm (ms M2 0 23 (0 : Int32)) fun M3 =>
  bm (ms M3 0 27 (0 : Int32)) fun M4 =>
  bm (ms M4 0 28 (0 : Int32)) fun M5 =>
  bv (f_X6_next M5) fun M6 =>
  bd (f_X6_isWord (116 : Int32) (97 : Int32) (107 : Int32) (101 : Int32) (115 : Int32) (0 : Int32) (0 : Int32) (0 : Int32) M6) fun r8 M7 =>
  bd (f_X6_part r8 M7) fun r10 M9 =>
  if (M9.1 0 28) = 0 then
    bd (f_X6_isWord (104 : Int32) (117 : Int32) (110 : Int32) (103 : Int32) (101 : Int32) (114 : Int32) (0 : Int32) (0 : Int32) M9) fun r12 M11 =>
    bd (f_X6_part r12 M11) fun r14 M13 =>
    f_X6_read_j93 x2 r10 r14 M13
  else
    f_X6_read_j93 x2 r10 (0 : Int32) M9
set_option maxRecDepth 100000 in
set_option maxHeartbeats 4000000 in
theorem jf_X6_read {G : wn_G} {ad : Nat → Nat} {X : wn_X} {d : Nat} (O : Ok G RX6 cX6_read 6 d X) (hd0 : 107 ≤ d) (x1 : Int32) (x2 : Int32) (M : Mm) : JW G S2 ad X 0 [(0, .ref (ad 0)), (1, .int x1), (2, .int x2)] [] M (f_X6_read x1 x2 M) (Kri G S2 ad X) := by
  unfold f_X6_read
  refine j_aload_n (pc := 0) O 0 dX6_read_0 rfl ?_
  refine j_sipush (pc := 1) (v := 160) O dX6_read_1 (by decide) ?_
  refine j_iload_n (pc := 4) O 1 dX6_read_4 rfl ?_
  refine j_imul (pc := 5) O dX6_read_5 ?_
  refine j_puti (pc := 6) O 0 21 dX6_read_6 fl_X6_132 so_S2_0 ft_X6_21 rfl (fun M1 => ?_)
  refine j_aload_n (pc := 9) O 0 dX6_read_9 rfl ?_
  refine j_aload_n (pc := 10) O 0 dX6_read_10 rfl ?_
  refine j_getf (pc := 11) (v := .ref (ad 2)) O 0 2 dX6_read_11 fl_X6_17 so_S2_0 rfl rfl ?_
  refine j_iload_n (pc := 14) O 1 dX6_read_14 rfl ?_
  refine j_iald (pc := 15) O 2 dX6_read_15 so_S2_2 ?_
  refine j_puti (pc := 16) O 0 22 dX6_read_16 fl_X6_129 so_S2_0 ft_X6_22 rfl (fun M2 => ?_)
  refine j_aload_n (pc := 19) O 0 dX6_read_19 rfl ?_
  refine j_iconst (pc := 20) (v := 0) O dX6_read_20 (by decide) ?_
  refine j_puti (pc := 21) O 0 23 dX6_read_21 fl_X6_135 so_S2_0 ft_X6_23 rfl (fun M3 => ?_)
  refine j_aload_n (pc := 24) O 0 dX6_read_24 rfl ?_
  refine j_iconst (pc := 25) (v := 0) O dX6_read_25 (by decide) ?_
  refine j_puti (pc := 26) O 0 27 dX6_read_26 fl_X6_172 so_S2_0 ft_X6_27 rfl (fun M4 => ?_)
  refine j_aload_n (pc := 29) O 0 dX6_read_29 rfl ?_
  refine j_iconst (pc := 30) (v := 0) O dX6_read_30 (by decide) ?_
  refine j_putz (pc := 31) O 0 28 dX6_read_31 fl_X6_161 so_S2_0 ft_X6_28 ⟨by decide, by decide⟩ rfl (fun M5 => ?_)
  refine j_aload_n (pc := 34) O 0 dX6_read_34 rfl ?_
  refine j_callVv (pc := 35) (dc := 2) (As := []) (rest := []) O 0 (fun M1 h => sp_X6_next h) dX6_read_35 mv_X6_next lm_X6_178 so_S2_0 rfl rfl (Nat.le_of_ble_eq_true rfl) (Nat.le_trans (Nat.le_of_ble_eq_true rfl) hd0) (fun M6 => ?_)
  refine j_aload_n (pc := 38) O 0 dX6_read_38 rfl ?_
  refine j_aload_n (pc := 39) O 0 dX6_read_39 rfl ?_
  refine j_bipush (pc := 40) (v := 116) O dX6_read_40 (by decide) ?_
  refine j_bipush (pc := 42) (v := 97) O dX6_read_42 (by decide) ?_
  refine j_bipush (pc := 44) (v := 107) O dX6_read_44 (by decide) ?_
  refine j_bipush (pc := 46) (v := 101) O dX6_read_46 (by decide) ?_
  refine j_bipush (pc := 48) (v := 115) O dX6_read_48 (by decide) ?_
  refine j_iconst (pc := 50) (v := 0) O dX6_read_50 (by decide) ?_
  refine j_iconst (pc := 51) (v := 0) O dX6_read_51 (by decide) ?_
  refine j_iconst (pc := 52) (v := 0) O dX6_read_52 (by decide) ?_
  refine j_callVi (pc := 53) (dc := 3) (As := [.int (116 : Int32), .int (97 : Int32), .int (107 : Int32), .int (101 : Int32), .int (115 : Int32), .int (0 : Int32), .int (0 : Int32), .int (0 : Int32)]) (rest := [.ref (ad 0)]) O 0 (fun r M1 h => sp_X6_isWord h) dX6_read_53 mv_X6_isWord lm_X6_181 so_S2_0 rfl rfl (Nat.le_of_ble_eq_true rfl) (Nat.le_trans (Nat.le_of_ble_eq_true rfl) hd0) (fun r8 M7 => ?_)
  refine j_callVi (pc := 56) (dc := 106) (As := [.int r8]) (rest := []) O 0 (fun r M1 h => sp_X6_part h) dX6_read_56 mv_X6_part lm_X6_236 so_S2_0 rfl rfl (Nat.le_of_ble_eq_true rfl) (Nat.le_trans (Nat.le_of_ble_eq_true rfl) hd0) (fun r10 M9 => ?_)
  refine j_istore_n (pc := 59) (L' := [(3, .int r10), (0, .ref (ad 0)), (1, .int x1), (2, .int x2)]) O dX6_read_59 (by decide) rfl ?_
  refine j_aload_n (pc := 60) O 1 dX6_read_60 rfl ?_
  refine j_getf (pc := 61) (v := .int (M9.1 0 28)) O 0 28 dX6_read_61 fl_X6_161 so_S2_0 rfl rfl ?_
  refine j_if_eq (pc := 64) (tgt := 71) O dX6_read_64 (by decide) ?_ ?_
  · refine j_aload_n (pc := 71) O 1 dX6_read_71 rfl ?_
    refine j_aload_n (pc := 72) O 1 dX6_read_72 rfl ?_
    refine j_bipush (pc := 73) (v := 104) O dX6_read_73 (by decide) ?_
    refine j_bipush (pc := 75) (v := 117) O dX6_read_75 (by decide) ?_
    refine j_bipush (pc := 77) (v := 110) O dX6_read_77 (by decide) ?_
    refine j_bipush (pc := 79) (v := 103) O dX6_read_79 (by decide) ?_
    refine j_bipush (pc := 81) (v := 101) O dX6_read_81 (by decide) ?_
    refine j_bipush (pc := 83) (v := 114) O dX6_read_83 (by decide) ?_
    refine j_iconst (pc := 85) (v := 0) O dX6_read_85 (by decide) ?_
    refine j_iconst (pc := 86) (v := 0) O dX6_read_86 (by decide) ?_
    refine j_callVi (pc := 87) (dc := 3) (As := [.int (104 : Int32), .int (117 : Int32), .int (110 : Int32), .int (103 : Int32), .int (101 : Int32), .int (114 : Int32), .int (0 : Int32), .int (0 : Int32)]) (rest := [.ref (ad 0)]) O 0 (fun r M1 h => sp_X6_isWord h) dX6_read_87 mv_X6_isWord lm_X6_181 so_S2_0 rfl rfl (Nat.le_of_ble_eq_true rfl) (Nat.le_trans (Nat.le_of_ble_eq_true rfl) hd0) (fun r12 M11 => ?_)
    refine j_callVi (pc := 90) (dc := 106) (As := [.int r12]) (rest := []) O 0 (fun r M1 h => sp_X6_part h) dX6_read_90 mv_X6_part lm_X6_236 so_S2_0 rfl rfl (Nat.le_of_ble_eq_true rfl) (Nat.le_trans (Nat.le_of_ble_eq_true rfl) hd0) (fun r14 M13 => ?_)
    exact jw_sub [1, 3, 0] rfl (jf_X6_read_j93 O hd0 x2 r10 r14 M13)
  · refine j_iconst (pc := 67) (v := 0) O dX6_read_67 (by decide) ?_
    refine j_goto (pc := 68) (tgt := 93) O dX6_read_68 (by decide) ?_
    exact jw_sub [1, 3, 0] rfl (jf_X6_read_j93 O hd0 x2 r10 (0 : Int32) M9)
theorem sp_X6_read {G : wn_G} {ad : Nat → Nat} {x1 : Int32} {x2 : Int32} {M : Mm} {r : Int32} {M1 : Mm} (h : f_X6_read x1 x2 M = some (r, M1)) : Sp G S2 ad mX6_read 107 [.ref (ad 0), .int x1, .int x2] M M1 (some (.int r)) :=
  sp_intro (own := RX6) (by decide +kernel) rfl (Nat.le_of_ble_eq_true rfl) (fun X O T => jf_X6_read O (Nat.le_refl _) x1 x2 M (r, M1) h T)
def f_X6_within (x0 : Int32) (x1 : Int32) (x2 : Int32) (M : Mm) : Option (Int32 × Mm) :=
  if x1 ≤ x0 then
    if x0 ≤ x2 then
      some (x0, M)
    else
      some (x2, M)
  else
    some (x1, M)
set_option maxRecDepth 100000 in
set_option maxHeartbeats 4000000 in
theorem jf_X6_within {G : wn_G} {ad : Nat → Nat} {X : wn_X} {d : Nat} (O : Ok G RX6 cX6_within 3 d X) (hd0 : 1 ≤ d) (x0 : Int32) (x1 : Int32) (x2 : Int32) (M : Mm) : JW G S2 ad X 0 [(0, .int x0), (1, .int x1), (2, .int x2)] [] M (f_X6_within x0 x1 x2 M) (Kri G S2 ad X) := by
  unfold f_X6_within
  refine j_iload_n (pc := 0) O 0 dX6_within_0 rfl ?_
  refine j_iload_n (pc := 1) O 1 dX6_within_1 rfl ?_
  refine j_icmp_ge (pc := 2) (tgt := 9) O dX6_within_2 (by decide) ?_ ?_
  · refine j_iload_n (pc := 9) O 0 dX6_within_9 rfl ?_
    refine j_iload_n (pc := 10) O 2 dX6_within_10 rfl ?_
    refine j_icmp_le (pc := 11) (tgt := 18) O dX6_within_11 (by decide) ?_ ?_
    · refine j_iload_n (pc := 18) O 0 dX6_within_18 rfl ?_
      exact j_iret (pc := 19) O dX6_within_19
    · refine j_iload_n (pc := 14) O 2 dX6_within_14 rfl ?_
      refine j_goto (pc := 15) (tgt := 19) O dX6_within_15 (by decide) ?_
      exact j_iret (pc := 19) O dX6_within_19
  · refine j_iload_n (pc := 5) O 1 dX6_within_5 rfl ?_
    refine j_goto (pc := 6) (tgt := 19) O dX6_within_6 (by decide) ?_
    exact j_iret (pc := 19) O dX6_within_19
theorem sp_X6_within {G : wn_G} {ad : Nat → Nat} {x0 : Int32} {x1 : Int32} {x2 : Int32} {M : Mm} {r : Int32} {M1 : Mm} (h : f_X6_within x0 x1 x2 M = some (r, M1)) : Sp G S2 ad mX6_within 1 [.int x0, .int x1, .int x2] M M1 (some (.int r)) :=
  sp_intro (own := RX6) (by decide +kernel) rfl (Nat.le_of_ble_eq_true rfl) (fun X O T => jf_X6_within O (Nat.le_refl _) x0 x1 x2 M (r, M1) h T)
def f_X6_hungersOf_j72 (x1 : Int32) (x3 : Int32) (x5 : Int32) (x6 : Int32) (M : Mm) : Option (Int32 × Mm) :=
  gd (bin x1 5 = true) inferInstance <|
  bi (x5 + (M.1 5 (Int32.toNatClampNeg x1))) fun y12 =>
  if x6 = (3 : Int32) then
    if x3 = 0 then
      some (((2 : Int32) * y12), M)
    else
      some (y12, M)
  else
    some (y12, M)
set_option maxRecDepth 100000 in
set_option maxHeartbeats 4000000 in
theorem jf_X6_hungersOf_j72 {G : wn_G} {ad : Nat → Nat} {X : wn_X} {d : Nat} (O : Ok G RX6 cX6_hungersOf 8 d X) (hd0 : 108 ≤ d) (x1 : Int32) (x3 : Int32) (x5 : Int32) (x6 : Int32) (M : Mm) : JW G S2 ad X 72 [(0, .ref (ad 0)), (1, .int x1), (3, .int x3), (5, .int x5), (6, .int x6)] [] M (f_X6_hungersOf_j72 x1 x3 x5 x6 M) (Kri G S2 ad X) := by
  unfold f_X6_hungersOf_j72
  refine j_iload (pc := 72) O 3 dX6_hungersOf_72 rfl ?_
  refine j_aload_n (pc := 74) O 0 dX6_hungersOf_74 rfl ?_
  refine j_getf (pc := 75) (v := .ref (ad 5)) O 0 10 dX6_hungersOf_75 fl_X6_32 so_S2_0 rfl rfl ?_
  refine j_iload_n (pc := 78) O 1 dX6_hungersOf_78 rfl ?_
  refine j_iald (pc := 79) O 5 dX6_hungersOf_79 so_S2_5 ?_
  refine j_iadd (pc := 80) O dX6_hungersOf_80 ?_
  refine jw_bi fun y12 => ?_
  refine j_istore (pc := 81) (L' := [(7, .int y12), (0, .ref (ad 0)), (1, .int x1), (3, .int x3), (5, .int x5), (6, .int x6)]) O dX6_hungersOf_81 (by decide) rfl ?_
  refine j_iload (pc := 83) O 5 dX6_hungersOf_83 rfl ?_
  refine j_iconst (pc := 85) (v := 3) O dX6_hungersOf_85 (by decide) ?_
  refine j_icmp_ne (pc := 86) (tgt := 100) O dX6_hungersOf_86 (by decide) ?_ ?_
  · refine j_iload_n (pc := 89) O 3 dX6_hungersOf_89 rfl ?_
    refine j_if_ne (pc := 90) (tgt := 100) O dX6_hungersOf_90 (by decide) ?_ ?_
    · refine j_iconst (pc := 93) (v := 2) O dX6_hungersOf_93 (by decide) ?_
      refine j_iload (pc := 94) O 0 dX6_hungersOf_94 rfl ?_
      refine j_imul (pc := 96) O dX6_hungersOf_96 ?_
      refine j_goto (pc := 97) (tgt := 102) O dX6_hungersOf_97 (by decide) ?_
      exact j_iret (pc := 102) O dX6_hungersOf_102
    · refine j_iload (pc := 100) O 0 dX6_hungersOf_100 rfl ?_
      exact j_iret (pc := 102) O dX6_hungersOf_102
  · refine j_iload (pc := 100) O 0 dX6_hungersOf_100 rfl ?_
    exact j_iret (pc := 102) O dX6_hungersOf_102
def f_X6_hungersOf_j127 (x6 : Int32) (s0 : Int32) (M : Mm) : Option (Int32 × Mm) :=
  if x6 = (4 : Int32) then
    gd (¬ (2 : Int32) = 0) inferInstance <|
    some ((s0 / (2 : Int32)), M)
  else
    some (s0, M)
set_option maxRecDepth 100000 in
set_option maxHeartbeats 4000000 in
theorem jf_X6_hungersOf_j127 {G : wn_G} {ad : Nat → Nat} {X : wn_X} {d : Nat} (O : Ok G RX6 cX6_hungersOf 8 d X) (hd0 : 108 ≤ d) (x6 : Int32) (s0 : Int32) (M : Mm) : JW G S2 ad X 127 [(6, .int x6)] [.int s0] M (f_X6_hungersOf_j127 x6 s0 M) (Kri G S2 ad X) := by
  unfold f_X6_hungersOf_j127
  refine j_istore (pc := 127) (L' := [(7, .int s0), (6, .int x6)]) O dX6_hungersOf_127 (by decide) rfl ?_
  refine j_iload (pc := 129) O 1 dX6_hungersOf_129 rfl ?_
  refine j_iconst (pc := 131) (v := 4) O dX6_hungersOf_131 (by decide) ?_
  refine j_icmp_ne (pc := 132) (tgt := 142) O dX6_hungersOf_132 (by decide) ?_ ?_
  · refine j_iload (pc := 135) O 0 dX6_hungersOf_135 rfl ?_
    refine j_iconst (pc := 137) (v := 2) O dX6_hungersOf_137 (by decide) ?_
    refine j_idiv (pc := 138) O dX6_hungersOf_138 ?_
    refine j_goto (pc := 139) (tgt := 144) O dX6_hungersOf_139 (by decide) ?_
    exact j_iret (pc := 144) O dX6_hungersOf_144
  · refine j_iload (pc := 142) O 0 dX6_hungersOf_142 rfl ?_
    exact j_iret (pc := 144) O dX6_hungersOf_144
def f_X6_hungersOf_j115 (x3 : Int32) (x4 : Int32) (x5 : Int32) (x6 : Int32) (M : Mm) : Option (Int32 × Mm) :=
  if x3 ≤ x4 then
    f_X6_hungersOf_j127 x6 x5 M
  else
    f_X6_hungersOf_j127 x6 (0 : Int32) M
set_option maxRecDepth 100000 in
set_option maxHeartbeats 4000000 in
theorem jf_X6_hungersOf_j115 {G : wn_G} {ad : Nat → Nat} {X : wn_X} {d : Nat} (O : Ok G RX6 cX6_hungersOf 8 d X) (hd0 : 108 ≤ d) (x3 : Int32) (x4 : Int32) (x5 : Int32) (x6 : Int32) (M : Mm) : JW G S2 ad X 115 [(3, .int x3), (4, .int x4), (5, .int x5), (6, .int x6)] [] M (f_X6_hungersOf_j115 x3 x4 x5 x6 M) (Kri G S2 ad X) := by
  unfold f_X6_hungersOf_j115
  refine j_iload_n (pc := 115) O 0 dX6_hungersOf_115 rfl ?_
  refine j_iload (pc := 116) O 1 dX6_hungersOf_116 rfl ?_
  refine j_icmp_le (pc := 118) (tgt := 125) O dX6_hungersOf_118 (by decide) ?_ ?_
  · refine j_iload (pc := 125) O 2 dX6_hungersOf_125 rfl ?_
    exact jw_sub [3] rfl (jf_X6_hungersOf_j127 O hd0 x6 x5 M)
  · refine j_iconst (pc := 121) (v := 0) O dX6_hungersOf_121 (by decide) ?_
    refine j_goto (pc := 122) (tgt := 127) O dX6_hungersOf_122 (by decide) ?_
    exact jw_sub [3] rfl (jf_X6_hungersOf_j127 O hd0 x6 (0 : Int32) M)
def f_X6_hungersOf (x1 : Int32) (x2 : Int32) (x3 : Int32) (x4 : Int32) (M : Mm) : Option (Int32 × Mm) :=
  bm (ms M 0 15 (0 : Int32)) fun M1 =>
  bm (ms M1 0 16 x2) fun M2 =>
  bm (ms M2 0 17 x3) fun M3 =>
  gd (bin x1 5 = true) inferInstance <|
  bm (ms M3 0 18 (M3.1 6 (Int32.toNatClampNeg x1))) fun M4 =>
  bm (ms M4 0 19 x1) fun M5 =>
  bm (ms M5 0 20 (0 : Int32)) fun M6 =>
  bd (f_X6_read (M6.1 0 4) (1 : Int32) M6) fun r8 M7 =>
  bd (f_X6_within r8 (0 : Int32) (99 : Int32) M7) fun r10 M9 =>
  gd (bin x1 5 = true) inferInstance <|
  bi (M9.1 4 (Int32.toNatClampNeg x1)) fun y11 =>
  if y11 = (1 : Int32) then
    f_X6_hungersOf_j72 x1 x3 r10 y11 M9
  else
    if y11 = (3 : Int32) then
      f_X6_hungersOf_j72 x1 x3 r10 y11 M9
    else
      if y11 = (2 : Int32) then
        f_X6_hungersOf_j115 x3 x4 r10 y11 M9
      else
        if y11 = (4 : Int32) then
          f_X6_hungersOf_j115 x3 x4 r10 y11 M9
        else
          if y11 = (5 : Int32) then
            if r10 ≤ (5 : Int32) then
              some (r10, M9)
            else
              some ((5 : Int32), M9)
          else
            some (r10, M9)
set_option maxRecDepth 100000 in
set_option maxHeartbeats 4000000 in
theorem jf_X6_hungersOf {G : wn_G} {ad : Nat → Nat} {X : wn_X} {d : Nat} (O : Ok G RX6 cX6_hungersOf 8 d X) (hd0 : 108 ≤ d) (x1 : Int32) (x2 : Int32) (x3 : Int32) (x4 : Int32) (M : Mm) : JW G S2 ad X 0 [(0, .ref (ad 0)), (1, .int x1), (2, .int x2), (3, .int x3), (4, .int x4)] [] M (f_X6_hungersOf x1 x2 x3 x4 M) (Kri G S2 ad X) := by
  unfold f_X6_hungersOf
  refine j_aload_n (pc := 0) O 0 dX6_hungersOf_0 rfl ?_
  refine j_iconst (pc := 1) (v := 0) O dX6_hungersOf_1 (by decide) ?_
  refine j_puti (pc := 2) O 0 15 dX6_hungersOf_2 fl_X6_185 so_S2_0 ft_X6_15 rfl (fun M1 => ?_)
  refine j_aload_n (pc := 5) O 0 dX6_hungersOf_5 rfl ?_
  refine j_iload_n (pc := 6) O 2 dX6_hungersOf_6 rfl ?_
  refine j_puti (pc := 7) O 0 16 dX6_hungersOf_7 fl_X6_188 so_S2_0 ft_X6_16 rfl (fun M2 => ?_)
  refine j_aload_n (pc := 10) O 0 dX6_hungersOf_10 rfl ?_
  refine j_iload_n (pc := 11) O 3 dX6_hungersOf_11 rfl ?_
  refine j_puti (pc := 12) O 0 17 dX6_hungersOf_12 fl_X6_191 so_S2_0 ft_X6_17 rfl (fun M3 => ?_)
  refine j_aload_n (pc := 15) O 0 dX6_hungersOf_15 rfl ?_
  refine j_aload_n (pc := 16) O 0 dX6_hungersOf_16 rfl ?_
  refine j_getf (pc := 17) (v := .ref (ad 6)) O 0 11 dX6_hungersOf_17 fl_X6_35 so_S2_0 rfl rfl ?_
  refine j_iload_n (pc := 20) O 1 dX6_hungersOf_20 rfl ?_
  refine j_iald (pc := 21) O 6 dX6_hungersOf_21 so_S2_6 ?_
  refine j_puti (pc := 22) O 0 18 dX6_hungersOf_22 fl_X6_194 so_S2_0 ft_X6_18 rfl (fun M4 => ?_)
  refine j_aload_n (pc := 25) O 0 dX6_hungersOf_25 rfl ?_
  refine j_iload_n (pc := 26) O 1 dX6_hungersOf_26 rfl ?_
  refine j_puti (pc := 27) O 0 19 dX6_hungersOf_27 fl_X6_197 so_S2_0 ft_X6_19 rfl (fun M5 => ?_)
  refine j_aload_n (pc := 30) O 0 dX6_hungersOf_30 rfl ?_
  refine j_iconst (pc := 31) (v := 0) O dX6_hungersOf_31 (by decide) ?_
  refine j_puti (pc := 32) O 0 20 dX6_hungersOf_32 fl_X6_200 so_S2_0 ft_X6_20 rfl (fun M6 => ?_)
  refine j_aload_n (pc := 35) O 0 dX6_hungersOf_35 rfl ?_
  refine j_aload_n (pc := 36) O 0 dX6_hungersOf_36 rfl ?_
  refine j_getf (pc := 37) (v := .int (M6.1 0 4)) O 0 4 dX6_hungersOf_37 fl_X6_244 so_S2_0 rfl rfl ?_
  refine j_iconst (pc := 40) (v := 1) O dX6_hungersOf_40 (by decide) ?_
  refine j_callVi (pc := 41) (dc := 107) (As := [.int (M6.1 0 4), .int (1 : Int32)]) (rest := []) O 0 (fun r M1 h => sp_X6_read h) dX6_hungersOf_41 mv_X6_read lm_X6_240 so_S2_0 rfl rfl (Nat.le_of_ble_eq_true rfl) (Nat.le_trans (Nat.le_of_ble_eq_true rfl) hd0) (fun r8 M7 => ?_)
  refine j_iconst (pc := 44) (v := 0) O dX6_hungersOf_44 (by decide) ?_
  refine j_bipush (pc := 45) (v := 99) O dX6_hungersOf_45 (by decide) ?_
  refine j_callSi (pc := 47) (dc := 1) (As := [.int r8, .int (0 : Int32), .int (99 : Int32)]) (rest := []) O (fun r M1 h => sp_X6_within h) dX6_hungersOf_47 mst_X6_within lm_X6_247 rfl rfl (Nat.le_of_ble_eq_true rfl) (Nat.le_trans (Nat.le_of_ble_eq_true rfl) hd0) (fun r10 M9 => ?_)
  refine j_istore (pc := 50) (L' := [(5, .int r10), (0, .ref (ad 0)), (1, .int x1), (2, .int x2), (3, .int x3), (4, .int x4)]) O dX6_hungersOf_50 (by decide) rfl ?_
  refine j_aload_n (pc := 52) O 1 dX6_hungersOf_52 rfl ?_
  refine j_getf (pc := 53) (v := .ref (ad 4)) O 0 9 dX6_hungersOf_53 fl_X6_29 so_S2_0 rfl rfl ?_
  refine j_iload_n (pc := 56) O 2 dX6_hungersOf_56 rfl ?_
  refine j_iald (pc := 57) O 4 dX6_hungersOf_57 so_S2_4 ?_
  refine jw_bi fun y11 => ?_
  refine j_istore (pc := 58) (L' := [(6, .int y11), (5, .int r10), (0, .ref (ad 0)), (1, .int x1), (2, .int x2), (3, .int x3), (4, .int x4)]) O dX6_hungersOf_58 (by decide) rfl ?_
  refine j_iload (pc := 60) O 0 dX6_hungersOf_60 rfl ?_
  refine j_iconst (pc := 62) (v := 1) O dX6_hungersOf_62 (by decide) ?_
  refine j_icmp_eq (pc := 63) (tgt := 72) O dX6_hungersOf_63 (by decide) ?_ ?_
  · exact jw_sub [2, 3, 5, 1, 0] rfl (jf_X6_hungersOf_j72 O hd0 x1 x3 r10 y11 M9)
  · refine j_iload (pc := 66) O 0 dX6_hungersOf_66 rfl ?_
    refine j_iconst (pc := 68) (v := 3) O dX6_hungersOf_68 (by decide) ?_
    refine j_icmp_ne (pc := 69) (tgt := 103) O dX6_hungersOf_69 (by decide) ?_ ?_
    · exact jw_sub [2, 3, 5, 1, 0] rfl (jf_X6_hungersOf_j72 O hd0 x1 x3 r10 y11 M9)
    · refine j_iload (pc := 103) O 0 dX6_hungersOf_103 rfl ?_
      refine j_iconst (pc := 105) (v := 2) O dX6_hungersOf_105 (by decide) ?_
      refine j_icmp_eq (pc := 106) (tgt := 115) O dX6_hungersOf_106 (by decide) ?_ ?_
      · exact jw_sub [5, 6, 1, 0] rfl (jf_X6_hungersOf_j115 O hd0 x3 x4 r10 y11 M9)
      · refine j_iload (pc := 109) O 0 dX6_hungersOf_109 rfl ?_
        refine j_iconst (pc := 111) (v := 4) O dX6_hungersOf_111 (by decide) ?_
        refine j_icmp_ne (pc := 112) (tgt := 145) O dX6_hungersOf_112 (by decide) ?_ ?_
        · exact jw_sub [5, 6, 1, 0] rfl (jf_X6_hungersOf_j115 O hd0 x3 x4 r10 y11 M9)
        · refine j_iload (pc := 145) O 0 dX6_hungersOf_145 rfl ?_
          refine j_iconst (pc := 147) (v := 5) O dX6_hungersOf_147 (by decide) ?_
          refine j_icmp_ne (pc := 148) (tgt := 161) O dX6_hungersOf_148 (by decide) ?_ ?_
          · refine j_iload (pc := 151) O 1 dX6_hungersOf_151 rfl ?_
            refine j_iconst (pc := 153) (v := 5) O dX6_hungersOf_153 (by decide) ?_
            refine j_icmp_le (pc := 154) (tgt := 161) O dX6_hungersOf_154 (by decide) ?_ ?_
            · refine j_iload (pc := 161) O 1 dX6_hungersOf_161 rfl ?_
              exact j_iret (pc := 163) O dX6_hungersOf_163
            · refine j_iconst (pc := 157) (v := 5) O dX6_hungersOf_157 (by decide) ?_
              refine j_goto (pc := 158) (tgt := 163) O dX6_hungersOf_158 (by decide) ?_
              exact j_iret (pc := 163) O dX6_hungersOf_163
          · refine j_iload (pc := 161) O 1 dX6_hungersOf_161 rfl ?_
            exact j_iret (pc := 163) O dX6_hungersOf_163
theorem sp_X6_hungersOf {G : wn_G} {ad : Nat → Nat} {x1 : Int32} {x2 : Int32} {x3 : Int32} {x4 : Int32} {M : Mm} {r : Int32} {M1 : Mm} (h : f_X6_hungersOf x1 x2 x3 x4 M = some (r, M1)) : Sp G S2 ad mX6_hungersOf 108 [.ref (ad 0), .int x1, .int x2, .int x3, .int x4] M M1 (some (.int r)) :=
  sp_intro (own := RX6) (by decide +kernel) rfl (Nat.le_of_ble_eq_true rfl) (fun X O T => jf_X6_hungersOf O (Nat.le_refl _) x1 x2 x3 x4 M (r, M1) h T)
def f_X6_told (x1 : Int32) (x2 : Int32) (M : Mm) : Option (Int32 × Mm) :=
  bd (f_X6_isEater x1 M) fun r2 M1 =>
  if r2 = 0 then
    some ((-2 : Int32), M1)
  else
    bd (f_X6_in (Int32.toInt64 x2) (0 : Int64) (5 : Int64) M1) fun r4 M3 =>
    if r4 = 0 then
      some ((-2 : Int32), M3)
    else
      if x2 = (5 : Int32) then
        bd (f_X6_hungersOf x1 (0 : Int32) (0 : Int32) (0 : Int32) M3) fun r8 M7 =>
        some (r8, M7)
      else
        if x2 = 0 then
          gd (bin x1 5 = true) inferInstance <|
          some ((M3.1 4 (Int32.toNatClampNeg x1)), M3)
        else
          if x2 = (1 : Int32) then
            bd (f_X6_eatsOf x1 M3) fun r6 M5 =>
            some (r6, M5)
          else
            if x2 = (2 : Int32) then
              gd (bin x1 5 = true) inferInstance <|
              some ((M3.1 5 (Int32.toNatClampNeg x1)), M3)
            else
              if x2 = (3 : Int32) then
                gd (bin x1 5 = true) inferInstance <|
                some ((M3.1 6 (Int32.toNatClampNeg x1)), M3)
              else
                gd (bin x1 5 = true) inferInstance <|
                some ((M3.1 7 (Int32.toNatClampNeg x1)), M3)
set_option maxRecDepth 100000 in
set_option maxHeartbeats 4000000 in
theorem jf_X6_told {G : wn_G} {ad : Nat → Nat} {X : wn_X} {d : Nat} (O : Ok G RX6 cX6_told 3 d X) (hd0 : 109 ≤ d) (x1 : Int32) (x2 : Int32) (M : Mm) : JW G S2 ad X 0 [(0, .ref (ad 0)), (1, .int x1), (2, .int x2)] [] M (f_X6_told x1 x2 M) (Kri G S2 ad X) := by
  unfold f_X6_told
  refine j_aload_n (pc := 0) O 0 dX6_told_0 rfl ?_
  refine j_iload_n (pc := 1) O 1 dX6_told_1 rfl ?_
  refine j_callVi (pc := 2) (dc := 2) (As := [.int x1]) (rest := []) O 0 (fun r M1 h => sp_X6_isEater h) dX6_told_2 mv_X6_isEater lm_X6_100 so_S2_0 rfl rfl (Nat.le_of_ble_eq_true rfl) (Nat.le_trans (Nat.le_of_ble_eq_true rfl) hd0) (fun r2 M1 => ?_)
  refine j_if_eq (pc := 5) (tgt := 20) O dX6_told_5 (by decide) ?_ ?_
  · refine j_bipush (pc := 20) (v := -2) O dX6_told_20 (by decide) ?_
    exact j_iret (pc := 22) O dX6_told_22
  · refine j_iload_n (pc := 8) O 2 dX6_told_8 rfl ?_
    refine j_i2l (pc := 9) O dX6_told_9 ?_
    refine j_lconst (pc := 10) (v := 0) O dX6_told_10 (by decide) ?_
    refine j_ldc2 (pc := 11) (v := 5) O dX6_told_11 gk_X6_112 ?_
    refine j_callSi (pc := 14) (dc := 1) (As := [.long (Int32.toInt64 x2), .long (0 : Int64), .long (5 : Int64)]) (rest := []) O (fun r M1 h => sp_X6_in h) dX6_told_14 mst_X6_in lm_X6_94 rfl rfl (Nat.le_of_ble_eq_true rfl) (Nat.le_trans (Nat.le_of_ble_eq_true rfl) hd0) (fun r4 M3 => ?_)
    refine j_if_ne (pc := 17) (tgt := 23) O dX6_told_17 (by decide) ?_ ?_
    · refine j_bipush (pc := 20) (v := -2) O dX6_told_20 (by decide) ?_
      exact j_iret (pc := 22) O dX6_told_22
    · refine j_iload_n (pc := 23) O 2 dX6_told_23 rfl ?_
      refine j_iconst (pc := 24) (v := 5) O dX6_told_24 (by decide) ?_
      refine j_icmp_ne (pc := 25) (tgt := 37) O dX6_told_25 (by decide) ?_ ?_
      · refine j_aload_n (pc := 28) O 0 dX6_told_28 rfl ?_
        refine j_iload_n (pc := 29) O 1 dX6_told_29 rfl ?_
        refine j_iconst (pc := 30) (v := 0) O dX6_told_30 (by decide) ?_
        refine j_iconst (pc := 31) (v := 0) O dX6_told_31 (by decide) ?_
        refine j_iconst (pc := 32) (v := 0) O dX6_told_32 (by decide) ?_
        refine j_callVi (pc := 33) (dc := 108) (As := [.int x1, .int (0 : Int32), .int (0 : Int32), .int (0 : Int32)]) (rest := []) O 0 (fun r M1 h => sp_X6_hungersOf h) dX6_told_33 mv_X6_hungersOf lm_X6_116 so_S2_0 rfl rfl (Nat.le_of_ble_eq_true rfl) (Nat.le_trans (Nat.le_of_ble_eq_true rfl) hd0) (fun r8 M7 => ?_)
        exact j_iret (pc := 36) O dX6_told_36
      · refine j_iload_n (pc := 37) O 2 dX6_told_37 rfl ?_
        refine j_if_ne (pc := 38) (tgt := 50) O dX6_told_38 (by decide) ?_ ?_
        · refine j_aload_n (pc := 41) O 0 dX6_told_41 rfl ?_
          refine j_getf (pc := 42) (v := .ref (ad 4)) O 0 9 dX6_told_42 fl_X6_29 so_S2_0 rfl rfl ?_
          refine j_iload_n (pc := 45) O 1 dX6_told_45 rfl ?_
          refine j_iald (pc := 46) O 4 dX6_told_46 so_S2_4 ?_
          refine j_goto (pc := 47) (tgt := 97) O dX6_told_47 (by decide) ?_
          exact j_iret (pc := 97) O dX6_told_97
        · refine j_iload_n (pc := 50) O 2 dX6_told_50 rfl ?_
          refine j_iconst (pc := 51) (v := 1) O dX6_told_51 (by decide) ?_
          refine j_icmp_ne (pc := 52) (tgt := 63) O dX6_told_52 (by decide) ?_ ?_
          · refine j_aload_n (pc := 55) O 0 dX6_told_55 rfl ?_
            refine j_iload_n (pc := 56) O 1 dX6_told_56 rfl ?_
            refine j_callVi (pc := 57) (dc := 1) (As := [.int x1]) (rest := []) O 0 (fun r M1 h => sp_X6_eatsOf h) dX6_told_57 mv_X6_eatsOf lm_X6_120 so_S2_0 rfl rfl (Nat.le_of_ble_eq_true rfl) (Nat.le_trans (Nat.le_of_ble_eq_true rfl) hd0) (fun r6 M5 => ?_)
            refine j_goto (pc := 60) (tgt := 97) O dX6_told_60 (by decide) ?_
            exact j_iret (pc := 97) O dX6_told_97
          · refine j_iload_n (pc := 63) O 2 dX6_told_63 rfl ?_
            refine j_iconst (pc := 64) (v := 2) O dX6_told_64 (by decide) ?_
            refine j_icmp_ne (pc := 65) (tgt := 77) O dX6_told_65 (by decide) ?_ ?_
            · refine j_aload_n (pc := 68) O 0 dX6_told_68 rfl ?_
              refine j_getf (pc := 69) (v := .ref (ad 5)) O 0 10 dX6_told_69 fl_X6_32 so_S2_0 rfl rfl ?_
              refine j_iload_n (pc := 72) O 1 dX6_told_72 rfl ?_
              refine j_iald (pc := 73) O 5 dX6_told_73 so_S2_5 ?_
              refine j_goto (pc := 74) (tgt := 97) O dX6_told_74 (by decide) ?_
              exact j_iret (pc := 97) O dX6_told_97
            · refine j_iload_n (pc := 77) O 2 dX6_told_77 rfl ?_
              refine j_iconst (pc := 78) (v := 3) O dX6_told_78 (by decide) ?_
              refine j_icmp_ne (pc := 79) (tgt := 91) O dX6_told_79 (by decide) ?_ ?_
              · refine j_aload_n (pc := 82) O 0 dX6_told_82 rfl ?_
                refine j_getf (pc := 83) (v := .ref (ad 6)) O 0 11 dX6_told_83 fl_X6_35 so_S2_0 rfl rfl ?_
                refine j_iload_n (pc := 86) O 1 dX6_told_86 rfl ?_
                refine j_iald (pc := 87) O 6 dX6_told_87 so_S2_6 ?_
                refine j_goto (pc := 88) (tgt := 97) O dX6_told_88 (by decide) ?_
                exact j_iret (pc := 97) O dX6_told_97
              · refine j_aload_n (pc := 91) O 0 dX6_told_91 rfl ?_
                refine j_getf (pc := 92) (v := .ref (ad 7)) O 0 12 dX6_told_92 fl_X6_38 so_S2_0 rfl rfl ?_
                refine j_iload_n (pc := 95) O 1 dX6_told_95 rfl ?_
                refine j_iald (pc := 96) O 7 dX6_told_96 so_S2_7 ?_
                exact j_iret (pc := 97) O dX6_told_97
theorem sp_X6_told {G : wn_G} {ad : Nat → Nat} {x1 : Int32} {x2 : Int32} {M : Mm} {r : Int32} {M1 : Mm} (h : f_X6_told x1 x2 M = some (r, M1)) : Sp G S2 ad mX6_told 109 [.ref (ad 0), .int x1, .int x2] M M1 (some (.int r)) :=
  sp_intro (own := RX6) (by decide +kernel) rfl (Nat.le_of_ble_eq_true rfl) (fun X O T => jf_X6_told O (Nat.le_refl _) x1 x2 M (r, M1) h T)
def f_X5_ready (x1 : Int32) (M : Mm) : Option (Int32 × Mm) :=
  if x1 < 0 then
    some ((-2 : Int32), M)
  else
    if (M.1 1 0) ≤ x1 then
      some ((-2 : Int32), M)
    else
      if x1 < (12 : Int32) then
        bv (f_X2_bake (M.1 1 1) M) fun M1 =>
        gd (bin x1 12 = true) inferInstance <|
        some ((M1.1 25 (Int32.toNatClampNeg x1)), M1)
      else
        some ((-2 : Int32), M)
set_option maxRecDepth 100000 in
set_option maxHeartbeats 4000000 in
theorem jf_X5_ready {G : wn_G} {ad : Nat → Nat} {X : wn_X} {d : Nat} (O : Ok G RX5 cX5_ready 2 d X) (hd0 : 4 ≤ d) (x1 : Int32) (M : Mm) : JW G S1 ad X 0 [(0, .ref (ad 0)), (1, .int x1)] [] M (f_X5_ready x1 M) (Kri G S1 ad X) := by
  unfold f_X5_ready
  refine j_iload_n (pc := 0) O 1 dX5_ready_0 rfl ?_
  refine j_if_lt (pc := 1) (tgt := 21) O dX5_ready_1 (by decide) ?_ ?_
  · refine j_bipush (pc := 21) (v := -2) O dX5_ready_21 (by decide) ?_
    exact j_iret (pc := 23) O dX5_ready_23
  · refine j_iload_n (pc := 4) O 1 dX5_ready_4 rfl ?_
    refine j_aload_n (pc := 5) O 0 dX5_ready_5 rfl ?_
    refine j_getf (pc := 6) (v := .ref (ad 1)) O 0 0 dX5_ready_6 fl_X5_10 so_S1_0 rfl rfl ?_
    refine j_getf (pc := 9) (v := .int (M.1 1 0)) O 1 0 dX5_ready_9 fl_X5_108 so_S1_1 rfl rfl ?_
    refine j_icmp_ge (pc := 12) (tgt := 21) O dX5_ready_12 (by decide) ?_ ?_
    · refine j_bipush (pc := 21) (v := -2) O dX5_ready_21 (by decide) ?_
      exact j_iret (pc := 23) O dX5_ready_23
    · refine j_iload_n (pc := 15) O 1 dX5_ready_15 rfl ?_
      refine j_bipush (pc := 16) (v := 12) O dX5_ready_16 (by decide) ?_
      refine j_icmp_lt (pc := 18) (tgt := 24) O dX5_ready_18 (by decide) ?_ ?_
      · refine j_aload_n (pc := 24) O 0 dX5_ready_24 rfl ?_
        refine j_getf (pc := 25) (v := .ref (ad 6)) O 0 6 dX5_ready_25 fl_X5_45 so_S1_0 rfl rfl ?_
        refine j_aload_n (pc := 28) O 0 dX5_ready_28 rfl ?_
        refine j_getf (pc := 29) (v := .ref (ad 1)) O 0 0 dX5_ready_29 fl_X5_10 so_S1_0 rfl rfl ?_
        refine j_getf (pc := 32) (v := .int (M.1 1 1)) O 1 1 dX5_ready_32 fl_X5_97 so_S1_1 rfl rfl ?_
        refine j_callVv (pc := 35) (dc := 3) (As := [.int (M.1 1 1)]) (rest := []) O 6 (fun M1 h => sp_X2_bake h) dX5_ready_35 mv_X2_bake lm_X5_111 so_S1_6 rfl rfl (Nat.le_of_ble_eq_true rfl) (Nat.le_trans (Nat.le_of_ble_eq_true rfl) hd0) (fun M1 => ?_)
        refine j_aload_n (pc := 38) O 0 dX5_ready_38 rfl ?_
        refine j_getf (pc := 39) (v := .ref (ad 6)) O 0 6 dX5_ready_39 fl_X5_45 so_S1_0 rfl rfl ?_
        refine j_getf (pc := 42) (v := .ref (ad 25)) O 6 2 dX5_ready_42 fl_X5_114 so_S1_6 rfl rfl ?_
        refine j_iload_n (pc := 45) O 1 dX5_ready_45 rfl ?_
        refine j_iald (pc := 46) O 25 dX5_ready_46 so_S1_25 ?_
        exact j_iret (pc := 47) O dX5_ready_47
      · refine j_bipush (pc := 21) (v := -2) O dX5_ready_21 (by decide) ?_
        exact j_iret (pc := 23) O dX5_ready_23
theorem sp_X5_ready {G : wn_G} {ad : Nat → Nat} {x1 : Int32} {M : Mm} {r : Int32} {M1 : Mm} (h : f_X5_ready x1 M = some (r, M1)) : Sp G S1 ad mX5_ready 4 [.ref (ad 0), .int x1] M M1 (some (.int r)) :=
  sp_intro (own := RX5) (by decide +kernel) rfl (Nat.le_of_ble_eq_true rfl) (fun X O T => jf_X5_ready O (Nat.le_refl _) x1 M (r, M1) h T)
def f_X6_isCake (x1 : Int32) (M : Mm) : Option (Int32 × Mm) :=
  bd (f_X6_in (Int32.toInt64 x1) (0 : Int64) (Int32.toInt64 ((M.1 0 7) - (1 : Int32))) M) fun r2 M1 =>
  gd (r2 = 0 ∨ r2 = 1) inferInstance (some (r2, M1))
set_option maxRecDepth 100000 in
set_option maxHeartbeats 4000000 in
theorem jf_X6_isCake {G : wn_G} {ad : Nat → Nat} {X : wn_X} {d : Nat} (O : Ok G RX6 cX6_isCake 2 d X) (hd0 : 2 ≤ d) (x1 : Int32) (M : Mm) : JW G S2 ad X 0 [(0, .ref (ad 0)), (1, .int x1)] [] M (f_X6_isCake x1 M) (Krz G S2 ad X) := by
  unfold f_X6_isCake
  refine j_iload_n (pc := 0) O 1 dX6_isCake_0 rfl ?_
  refine j_i2l (pc := 1) O dX6_isCake_1 ?_
  refine j_lconst (pc := 2) (v := 0) O dX6_isCake_2 (by decide) ?_
  refine j_aload_n (pc := 3) O 0 dX6_isCake_3 rfl ?_
  refine j_getf (pc := 4) (v := .int (M.1 0 7)) O 0 7 dX6_isCake_4 fl_X6_23 so_S2_0 rfl rfl ?_
  refine j_iconst (pc := 7) (v := 1) O dX6_isCake_7 (by decide) ?_
  refine j_isub (pc := 8) O dX6_isCake_8 ?_
  refine j_i2l (pc := 9) O dX6_isCake_9 ?_
  refine j_callSi (pc := 10) (dc := 1) (As := [.long (Int32.toInt64 x1), .long (0 : Int64), .long (Int32.toInt64 ((M.1 0 7) - (1 : Int32)))]) (rest := []) O (fun r M1 h => sp_X6_in h) dX6_isCake_10 mst_X6_in lm_X6_94 rfl rfl (Nat.le_of_ble_eq_true rfl) (Nat.le_trans (Nat.le_of_ble_eq_true rfl) hd0) (fun r2 M1 => ?_)
  exact j_zret (pc := 13) O dX6_isCake_13
theorem sp_X6_isCake {G : wn_G} {ad : Nat → Nat} {x1 : Int32} {M : Mm} {r : Int32} {M1 : Mm} (h : f_X6_isCake x1 M = some (r, M1)) : Sp G S2 ad mX6_isCake 2 [.ref (ad 0), .int x1] M M1 (some (.int r)) :=
  sp_intro (own := RX6) (by decide +kernel) rfl (Nat.le_of_ble_eq_true rfl) (fun X O T => jf_X6_isCake O (Nat.le_refl _) x1 M (r, M1) h T)
def f_X6_takesOf (x1 : Int32) (M : Mm) : Option (Int32 × Mm) :=
  bm (ms M 0 15 x1) fun M1 =>
  bm (ms M1 0 16 (0 : Int32)) fun M2 =>
  bm (ms M2 0 17 (0 : Int32)) fun M3 =>
  bm (ms M3 0 18 (0 : Int32)) fun M4 =>
  bm (ms M4 0 19 (0 : Int32)) fun M5 =>
  bm (ms M5 0 20 (0 : Int32)) fun M6 =>
  bd (f_X6_read (M6.1 0 4) (0 : Int32) M6) fun r8 M7 =>
  bd (f_X6_within r8 (1 : Int32) (20 : Int32) M7) fun r10 M9 =>
  some (r10, M9)
set_option maxRecDepth 100000 in
set_option maxHeartbeats 4000000 in
theorem jf_X6_takesOf {G : wn_G} {ad : Nat → Nat} {X : wn_X} {d : Nat} (O : Ok G RX6 cX6_takesOf 2 d X) (hd0 : 108 ≤ d) (x1 : Int32) (M : Mm) : JW G S2 ad X 0 [(0, .ref (ad 0)), (1, .int x1)] [] M (f_X6_takesOf x1 M) (Kri G S2 ad X) := by
  unfold f_X6_takesOf
  refine j_aload_n (pc := 0) O 0 dX6_takesOf_0 rfl ?_
  refine j_iload_n (pc := 1) O 1 dX6_takesOf_1 rfl ?_
  refine j_puti (pc := 2) O 0 15 dX6_takesOf_2 fl_X6_185 so_S2_0 ft_X6_15 rfl (fun M1 => ?_)
  refine j_aload_n (pc := 5) O 0 dX6_takesOf_5 rfl ?_
  refine j_iconst (pc := 6) (v := 0) O dX6_takesOf_6 (by decide) ?_
  refine j_puti (pc := 7) O 0 16 dX6_takesOf_7 fl_X6_188 so_S2_0 ft_X6_16 rfl (fun M2 => ?_)
  refine j_aload_n (pc := 10) O 0 dX6_takesOf_10 rfl ?_
  refine j_iconst (pc := 11) (v := 0) O dX6_takesOf_11 (by decide) ?_
  refine j_puti (pc := 12) O 0 17 dX6_takesOf_12 fl_X6_191 so_S2_0 ft_X6_17 rfl (fun M3 => ?_)
  refine j_aload_n (pc := 15) O 0 dX6_takesOf_15 rfl ?_
  refine j_iconst (pc := 16) (v := 0) O dX6_takesOf_16 (by decide) ?_
  refine j_puti (pc := 17) O 0 18 dX6_takesOf_17 fl_X6_194 so_S2_0 ft_X6_18 rfl (fun M4 => ?_)
  refine j_aload_n (pc := 20) O 0 dX6_takesOf_20 rfl ?_
  refine j_iconst (pc := 21) (v := 0) O dX6_takesOf_21 (by decide) ?_
  refine j_puti (pc := 22) O 0 19 dX6_takesOf_22 fl_X6_197 so_S2_0 ft_X6_19 rfl (fun M5 => ?_)
  refine j_aload_n (pc := 25) O 0 dX6_takesOf_25 rfl ?_
  refine j_iconst (pc := 26) (v := 0) O dX6_takesOf_26 (by decide) ?_
  refine j_puti (pc := 27) O 0 20 dX6_takesOf_27 fl_X6_200 so_S2_0 ft_X6_20 rfl (fun M6 => ?_)
  refine j_aload_n (pc := 30) O 0 dX6_takesOf_30 rfl ?_
  refine j_aload_n (pc := 31) O 0 dX6_takesOf_31 rfl ?_
  refine j_getf (pc := 32) (v := .int (M6.1 0 4)) O 0 4 dX6_takesOf_32 fl_X6_244 so_S2_0 rfl rfl ?_
  refine j_iconst (pc := 35) (v := 0) O dX6_takesOf_35 (by decide) ?_
  refine j_callVi (pc := 36) (dc := 107) (As := [.int (M6.1 0 4), .int (0 : Int32)]) (rest := []) O 0 (fun r M1 h => sp_X6_read h) dX6_takesOf_36 mv_X6_read lm_X6_240 so_S2_0 rfl rfl (Nat.le_of_ble_eq_true rfl) (Nat.le_trans (Nat.le_of_ble_eq_true rfl) hd0) (fun r8 M7 => ?_)
  refine j_iconst (pc := 39) (v := 1) O dX6_takesOf_39 (by decide) ?_
  refine j_bipush (pc := 40) (v := 20) O dX6_takesOf_40 (by decide) ?_
  refine j_callSi (pc := 42) (dc := 1) (As := [.int r8, .int (1 : Int32), .int (20 : Int32)]) (rest := []) O (fun r M1 h => sp_X6_within h) dX6_takesOf_42 mst_X6_within lm_X6_247 rfl rfl (Nat.le_of_ble_eq_true rfl) (Nat.le_trans (Nat.le_of_ble_eq_true rfl) hd0) (fun r10 M9 => ?_)
  exact j_iret (pc := 45) O dX6_takesOf_45
theorem sp_X6_takesOf {G : wn_G} {ad : Nat → Nat} {x1 : Int32} {M : Mm} {r : Int32} {M1 : Mm} (h : f_X6_takesOf x1 M = some (r, M1)) : Sp G S2 ad mX6_takesOf 108 [.ref (ad 0), .int x1] M M1 (some (.int r)) :=
  sp_intro (own := RX6) (by decide +kernel) rfl (Nat.le_of_ble_eq_true rfl) (fun X O T => jf_X6_takesOf O (Nat.le_refl _) x1 M (r, M1) h T)
def h_X6_readyOf_18 (G : wn_G) (ad : Nat → Nat) (X : wn_X) (x1 : Int32) : Int32 × Int32 × Mm → Prop := fun s => PW G S2 ad X 18 [(0, .ref (ad 0)), (1, .int x1), (2, .int s.1), (3, .int s.2.1)] [] s.2.2
def f_X6_readyOf_b18 (x1 : Int32) (x2 : Int32) (x3 : Int32) (M : Mm) : Option ((Int32 × Int32 × Mm) ⊕ (Int32 × Mm)) :=
  if x1 < x3 then
    ex (
    some (x2, M))
  else
    bd (f_X6_takesOf x3 M) fun r2 M1 =>
    bi (x2 + r2) fun y3 =>
    bi (x3 + (M1.1 0 8)) fun y4 =>
    some (.inl (y3, y4, M1))
set_option maxRecDepth 100000 in
set_option maxHeartbeats 4000000 in
theorem jf_X6_readyOf_b18 {G : wn_G} {ad : Nat → Nat} {X : wn_X} {d : Nat} (O : Ok G RX6 cX6_readyOf 4 d X) (hd0 : 109 ≤ d) (x1 : Int32) (x2 : Int32) (x3 : Int32) (M : Mm) : JW G S2 ad X 18 [(0, .ref (ad 0)), (1, .int x1), (2, .int x2), (3, .int x3)] [] M (f_X6_readyOf_b18 x1 x2 x3 M) (Kl (h_X6_readyOf_18 G ad X x1) (Kri G S2 ad X)) := by
  unfold f_X6_readyOf_b18
  refine j_iload_n (pc := 18) O 3 dX6_readyOf_18 rfl ?_
  refine j_iload_n (pc := 19) O 1 dX6_readyOf_19 rfl ?_
  refine j_icmp_gt (pc := 20) (tgt := 41) O dX6_readyOf_20 (by decide) ?_ ?_
  · refine jw_ex ?_
    refine j_iload_n (pc := 41) O 2 dX6_readyOf_41 rfl ?_
    exact j_iret (pc := 42) O dX6_readyOf_42
  · refine j_iload_n (pc := 23) O 2 dX6_readyOf_23 rfl ?_
    refine j_aload_n (pc := 24) O 0 dX6_readyOf_24 rfl ?_
    refine j_iload_n (pc := 25) O 3 dX6_readyOf_25 rfl ?_
    refine j_callVi (pc := 26) (dc := 108) (As := [.int x3]) (rest := [.int x2]) O 0 (fun r M1 h => sp_X6_takesOf h) dX6_readyOf_26 mv_X6_takesOf lm_X6_251 so_S2_0 rfl rfl (Nat.le_of_ble_eq_true rfl) (Nat.le_trans (Nat.le_of_ble_eq_true rfl) hd0) (fun r2 M1 => ?_)
    refine j_iadd (pc := 29) O dX6_readyOf_29 ?_
    refine jw_bi fun y3 => ?_
    refine j_istore_n (pc := 30) (L' := [(2, .int y3), (0, .ref (ad 0)), (1, .int x1), (3, .int x3)]) O dX6_readyOf_30 (by decide) rfl ?_
    refine j_iload_n (pc := 31) O 3 dX6_readyOf_31 rfl ?_
    refine j_aload_n (pc := 32) O 1 dX6_readyOf_32 rfl ?_
    refine j_getf (pc := 33) (v := .int (M1.1 0 8)) O 0 8 dX6_readyOf_33 fl_X6_26 so_S2_0 rfl rfl ?_
    refine j_iadd (pc := 36) O dX6_readyOf_36 ?_
    refine jw_bi fun y4 => ?_
    refine j_istore_n (pc := 37) (L' := [(3, .int y4), (2, .int y3), (0, .ref (ad 0)), (1, .int x1)]) O dX6_readyOf_37 (by decide) rfl ?_
    refine j_goto (pc := 38) (tgt := 18) O dX6_readyOf_38 (by decide) ?_
    exact jw_next (fun hh => pw_sub [2, 3, 1, 0] rfl hh)
def f_X6_readyOf_j17 (x1 : Int32) (x2 : Int32) (s0 : Int32) (M : Mm) : Option (Int32 × Mm) :=
  iter (fun s => f_X6_readyOf_b18 x1 s.1 s.2.1 s.2.2) fuel (x2, s0, M)
set_option maxRecDepth 100000 in
set_option maxHeartbeats 4000000 in
theorem jf_X6_readyOf_j17 {G : wn_G} {ad : Nat → Nat} {X : wn_X} {d : Nat} (O : Ok G RX6 cX6_readyOf 4 d X) (hd0 : 109 ≤ d) (x1 : Int32) (x2 : Int32) (s0 : Int32) (M : Mm) : JW G S2 ad X 17 [(0, .ref (ad 0)), (1, .int x1), (2, .int x2)] [.int s0] M (f_X6_readyOf_j17 x1 x2 s0 M) (Kri G S2 ad X) := by
  unfold f_X6_readyOf_j17
  refine j_istore_n (pc := 17) (L' := [(3, .int s0), (0, .ref (ad 0)), (1, .int x1), (2, .int x2)]) O dX6_readyOf_17 (by decide) rfl ?_
  exact jw_iter (hd := h_X6_readyOf_18 G ad X x1) (fun hh => pw_sub [1, 2, 3, 0] rfl hh) (fun s => jf_X6_readyOf_b18 O hd0 x1 s.1 s.2.1 s.2.2)
def f_X6_readyOf (x1 : Int32) (M : Mm) : Option (Int32 × Mm) :=
  if (M.1 0 8) = (2 : Int32) then
    gd (¬ (2 : Int32) = 0) inferInstance <|
    f_X6_readyOf_j17 x1 (0 : Int32) (irm x1 (2 : Int32)) M
  else
    f_X6_readyOf_j17 x1 (0 : Int32) (0 : Int32) M
set_option maxRecDepth 100000 in
set_option maxHeartbeats 4000000 in
theorem jf_X6_readyOf {G : wn_G} {ad : Nat → Nat} {X : wn_X} {d : Nat} (O : Ok G RX6 cX6_readyOf 4 d X) (hd0 : 109 ≤ d) (x1 : Int32) (M : Mm) : JW G S2 ad X 0 [(0, .ref (ad 0)), (1, .int x1)] [] M (f_X6_readyOf x1 M) (Kri G S2 ad X) := by
  unfold f_X6_readyOf
  refine j_iconst (pc := 0) (v := 0) O dX6_readyOf_0 (by decide) ?_
  refine j_istore_n (pc := 1) (L' := [(2, .int (0 : Int32)), (0, .ref (ad 0)), (1, .int x1)]) O dX6_readyOf_1 (by decide) rfl ?_
  refine j_aload_n (pc := 2) O 1 dX6_readyOf_2 rfl ?_
  refine j_getf (pc := 3) (v := .int (M.1 0 8)) O 0 8 dX6_readyOf_3 fl_X6_26 so_S2_0 rfl rfl ?_
  refine j_iconst (pc := 6) (v := 2) O dX6_readyOf_6 (by decide) ?_
  refine j_icmp_ne (pc := 7) (tgt := 16) O dX6_readyOf_7 (by decide) ?_ ?_
  · refine j_iload_n (pc := 10) O 2 dX6_readyOf_10 rfl ?_
    refine j_iconst (pc := 11) (v := 2) O dX6_readyOf_11 (by decide) ?_
    refine j_irem (pc := 12) O dX6_readyOf_12 ?_
    refine j_goto (pc := 13) (tgt := 17) O dX6_readyOf_13 (by decide) ?_
    exact jw_sub [1, 2, 0] rfl (jf_X6_readyOf_j17 O hd0 x1 (0 : Int32) (irm x1 (2 : Int32)) M)
  · refine j_iconst (pc := 16) (v := 0) O dX6_readyOf_16 (by decide) ?_
    exact jw_sub [1, 2, 0] rfl (jf_X6_readyOf_j17 O hd0 x1 (0 : Int32) (0 : Int32) M)
theorem sp_X6_readyOf {G : wn_G} {ad : Nat → Nat} {x1 : Int32} {M : Mm} {r : Int32} {M1 : Mm} (h : f_X6_readyOf x1 M = some (r, M1)) : Sp G S2 ad mX6_readyOf 109 [.ref (ad 0), .int x1] M M1 (some (.int r)) :=
  sp_intro (own := RX6) (by decide +kernel) rfl (Nat.le_of_ble_eq_true rfl) (fun X O T => jf_X6_readyOf O (Nat.le_refl _) x1 M (r, M1) h T)
def f_X6_ready (x1 : Int32) (M : Mm) : Option (Int32 × Mm) :=
  bd (f_X6_isCake x1 M) fun r2 M1 =>
  if r2 = 0 then
    some ((-2 : Int32), M1)
  else
    bd (f_X6_readyOf x1 M1) fun r4 M3 =>
    some (r4, M3)
set_option maxRecDepth 100000 in
set_option maxHeartbeats 4000000 in
theorem jf_X6_ready {G : wn_G} {ad : Nat → Nat} {X : wn_X} {d : Nat} (O : Ok G RX6 cX6_ready 2 d X) (hd0 : 110 ≤ d) (x1 : Int32) (M : Mm) : JW G S2 ad X 0 [(0, .ref (ad 0)), (1, .int x1)] [] M (f_X6_ready x1 M) (Kri G S2 ad X) := by
  unfold f_X6_ready
  refine j_aload_n (pc := 0) O 0 dX6_ready_0 rfl ?_
  refine j_iload_n (pc := 1) O 1 dX6_ready_1 rfl ?_
  refine j_callVi (pc := 2) (dc := 2) (As := [.int x1]) (rest := []) O 0 (fun r M1 h => sp_X6_isCake h) dX6_ready_2 mv_X6_isCake lm_X6_254 so_S2_0 rfl rfl (Nat.le_of_ble_eq_true rfl) (Nat.le_trans (Nat.le_of_ble_eq_true rfl) hd0) (fun r2 M1 => ?_)
  refine j_if_eq (pc := 5) (tgt := 16) O dX6_ready_5 (by decide) ?_ ?_
  · refine j_bipush (pc := 16) (v := -2) O dX6_ready_16 (by decide) ?_
    exact j_iret (pc := 18) O dX6_ready_18
  · refine j_aload_n (pc := 8) O 0 dX6_ready_8 rfl ?_
    refine j_iload_n (pc := 9) O 1 dX6_ready_9 rfl ?_
    refine j_callVi (pc := 10) (dc := 109) (As := [.int x1]) (rest := []) O 0 (fun r M1 h => sp_X6_readyOf h) dX6_ready_10 mv_X6_readyOf lm_X6_257 so_S2_0 rfl rfl (Nat.le_of_ble_eq_true rfl) (Nat.le_trans (Nat.le_of_ble_eq_true rfl) hd0) (fun r4 M3 => ?_)
    refine j_goto (pc := 13) (tgt := 18) O dX6_ready_13 (by decide) ?_
    exact j_iret (pc := 18) O dX6_ready_18
theorem sp_X6_ready {G : wn_G} {ad : Nat → Nat} {x1 : Int32} {M : Mm} {r : Int32} {M1 : Mm} (h : f_X6_ready x1 M = some (r, M1)) : Sp G S2 ad mX6_ready 110 [.ref (ad 0), .int x1] M M1 (some (.int r)) :=
  sp_intro (own := RX6) (by decide +kernel) rfl (Nat.le_of_ble_eq_true rfl) (fun X O T => jf_X6_ready O (Nat.le_refl _) x1 M (r, M1) h T)
def f_X0_append (x1 : Int32) (M : Mm) : Option (Int32 × Mm) :=
  if (M.1 3 1) < 0 then
    some (0, M)
  else
    if (M.1 3 1) < (160 : Int32) then
      gd (bin (M.1 3 1) 160 = true) inferInstance <| bm (ms M 15 (Int32.toNatClampNeg (M.1 3 1)) x1) fun M1 =>
      bm (ms M1 3 1 ((M1.1 3 1) + (1 : Int32))) fun M2 =>
      some (1, M2)
    else
      some (0, M)
set_option maxRecDepth 100000 in
set_option maxHeartbeats 4000000 in
theorem jf_X0_append {G : wn_G} {ad : Nat → Nat} {X : wn_X} {d : Nat} (O : Ok G RX0 cX0_append 2 d X) (hd0 : 1 ≤ d) (x1 : Int32) (M : Mm) : JW G S1 ad X 0 [(0, .ref (ad 3)), (1, .int x1)] [] M (f_X0_append x1 M) (Krz G S1 ad X) := by
  unfold f_X0_append
  refine j_aload_n (pc := 0) O 0 dX0_append_0 rfl ?_
  refine j_getf (pc := 1) (v := .int (M.1 3 1)) O 3 1 dX0_append_1 fl_X0_21 so_S1_3 rfl rfl ?_
  refine j_if_lt (pc := 4) (tgt := 17) O dX0_append_4 (by decide) ?_ ?_
  · refine j_iconst (pc := 17) (v := 0) O dX0_append_17 (by decide) ?_
    exact j_z0 (pc := 18) O dX0_append_18
  · refine j_aload_n (pc := 7) O 0 dX0_append_7 rfl ?_
    refine j_getf (pc := 8) (v := .int (M.1 3 1)) O 3 1 dX0_append_8 fl_X0_21 so_S1_3 rfl rfl ?_
    refine j_sipush (pc := 11) (v := 160) O dX0_append_11 (by decide) ?_
    refine j_icmp_lt (pc := 14) (tgt := 19) O dX0_append_14 (by decide) ?_ ?_
    · refine j_aload_n (pc := 19) O 0 dX0_append_19 rfl ?_
      refine j_getf (pc := 20) (v := .ref (ad 15)) O 3 0 dX0_append_20 fl_X0_11 so_S1_3 rfl rfl ?_
      refine j_aload_n (pc := 23) O 0 dX0_append_23 rfl ?_
      refine j_getf (pc := 24) (v := .int (M.1 3 1)) O 3 1 dX0_append_24 fl_X0_21 so_S1_3 rfl rfl ?_
      refine j_iload_n (pc := 27) O 1 dX0_append_27 rfl ?_
      refine j_iast (pc := 28) O 15 dX0_append_28 so_S1_15 (fun M1 => ?_)
      refine j_aload_n (pc := 29) O 0 dX0_append_29 rfl ?_
      refine j_dup (pc := 30) O dX0_append_30 rfl ?_
      refine j_getf (pc := 31) (v := .int (M1.1 3 1)) O 3 1 dX0_append_31 fl_X0_21 so_S1_3 rfl rfl ?_
      refine j_iconst (pc := 34) (v := 1) O dX0_append_34 (by decide) ?_
      refine j_iadd (pc := 35) O dX0_append_35 ?_
      refine j_puti (pc := 36) O 3 1 dX0_append_36 fl_X0_21 so_S1_3 ft_X0_1 rfl (fun M2 => ?_)
      refine j_iconst (pc := 39) (v := 1) O dX0_append_39 (by decide) ?_
      exact j_z1 (pc := 40) O dX0_append_40
    · refine j_iconst (pc := 17) (v := 0) O dX0_append_17 (by decide) ?_
      exact j_z0 (pc := 18) O dX0_append_18
theorem sp_X0_append {G : wn_G} {ad : Nat → Nat} {x1 : Int32} {M : Mm} {r : Int32} {M1 : Mm} (h : f_X0_append x1 M = some (r, M1)) : Sp G S1 ad mX0_append 1 [.ref (ad 3), .int x1] M M1 (some (.int r)) :=
  sp_intro (own := RX0) (by decide +kernel) rfl (Nat.le_of_ble_eq_true rfl) (fun X O T => jf_X0_append O (Nat.le_refl _) x1 M (r, M1) h T)
def f_X5_feed (x1 : Int32) (M : Mm) : Option (Int32 × Mm) :=
  if x1 < 0 then
    some ((-2 : Int32), M)
  else
    if x1 ≤ (255 : Int32) then
      bd (f_X0_append x1 M) fun r2 M1 =>
      if r2 = 0 then
        some ((-4 : Int32), M1)
      else
        some ((M1.1 3 1), M1)
    else
      some ((-2 : Int32), M)
set_option maxRecDepth 100000 in
set_option maxHeartbeats 4000000 in
theorem jf_X5_feed {G : wn_G} {ad : Nat → Nat} {X : wn_X} {d : Nat} (O : Ok G RX5 cX5_feed 2 d X) (hd0 : 2 ≤ d) (x1 : Int32) (M : Mm) : JW G S1 ad X 0 [(0, .ref (ad 0)), (1, .int x1)] [] M (f_X5_feed x1 M) (Kri G S1 ad X) := by
  unfold f_X5_feed
  refine j_iload_n (pc := 0) O 1 dX5_feed_0 rfl ?_
  refine j_if_lt (pc := 1) (tgt := 11) O dX5_feed_1 (by decide) ?_ ?_
  · refine j_bipush (pc := 11) (v := -2) O dX5_feed_11 (by decide) ?_
    exact j_iret (pc := 13) O dX5_feed_13
  · refine j_iload_n (pc := 4) O 1 dX5_feed_4 rfl ?_
    refine j_sipush (pc := 5) (v := 255) O dX5_feed_5 (by decide) ?_
    refine j_icmp_le (pc := 8) (tgt := 14) O dX5_feed_8 (by decide) ?_ ?_
    · refine j_aload_n (pc := 14) O 0 dX5_feed_14 rfl ?_
      refine j_getf (pc := 15) (v := .ref (ad 3)) O 0 3 dX5_feed_15 fl_X5_22 so_S1_0 rfl rfl ?_
      refine j_iload_n (pc := 18) O 1 dX5_feed_18 rfl ?_
      refine j_callVi (pc := 19) (dc := 1) (As := [.int x1]) (rest := []) O 3 (fun r M1 h => sp_X0_append h) dX5_feed_19 mv_X0_append lm_X5_117 so_S1_3 rfl rfl (Nat.le_of_ble_eq_true rfl) (Nat.le_trans (Nat.le_of_ble_eq_true rfl) hd0) (fun r2 M1 => ?_)
      refine j_if_eq (pc := 22) (tgt := 35) O dX5_feed_22 (by decide) ?_ ?_
      · refine j_bipush (pc := 35) (v := -4) O dX5_feed_35 (by decide) ?_
        exact j_iret (pc := 37) O dX5_feed_37
      · refine j_aload_n (pc := 25) O 0 dX5_feed_25 rfl ?_
        refine j_getf (pc := 26) (v := .ref (ad 3)) O 0 3 dX5_feed_26 fl_X5_22 so_S1_0 rfl rfl ?_
        refine j_getf (pc := 29) (v := .int (M1.1 3 1)) O 3 1 dX5_feed_29 fl_X5_120 so_S1_3 rfl rfl ?_
        refine j_goto (pc := 32) (tgt := 37) O dX5_feed_32 (by decide) ?_
        exact j_iret (pc := 37) O dX5_feed_37
    · refine j_bipush (pc := 11) (v := -2) O dX5_feed_11 (by decide) ?_
      exact j_iret (pc := 13) O dX5_feed_13
theorem sp_X5_feed {G : wn_G} {ad : Nat → Nat} {x1 : Int32} {M : Mm} {r : Int32} {M1 : Mm} (h : f_X5_feed x1 M = some (r, M1)) : Sp G S1 ad mX5_feed 2 [.ref (ad 0), .int x1] M M1 (some (.int r)) :=
  sp_intro (own := RX5) (by decide +kernel) rfl (Nat.le_of_ble_eq_true rfl) (fun X O T => jf_X5_feed O (Nat.le_refl _) x1 M (r, M1) h T)
def f_X6_feed (x1 : Int32) (M : Mm) : Option (Int32 × Mm) :=
  bd (f_X6_in (Int32.toInt64 x1) (0 : Int64) (255 : Int64) M) fun r2 M1 =>
  if r2 = 0 then
    some ((-2 : Int32), M1)
  else
    if (M1.1 0 6) = (160 : Int32) then
      some ((-4 : Int32), M1)
    else
      gd (bin (M1.1 0 6) 160 = true) inferInstance <| bm (ms M1 3 (Int32.toNatClampNeg (M1.1 0 6)) x1) fun M3 =>
      bm (ms M3 0 6 ((M3.1 0 6) + (1 : Int32))) fun M4 =>
      some ((M4.1 0 6), M4)
set_option maxRecDepth 100000 in
set_option maxHeartbeats 4000000 in
theorem jf_X6_feed {G : wn_G} {ad : Nat → Nat} {X : wn_X} {d : Nat} (O : Ok G RX6 cX6_feed 2 d X) (hd0 : 2 ≤ d) (x1 : Int32) (M : Mm) : JW G S2 ad X 0 [(0, .ref (ad 0)), (1, .int x1)] [] M (f_X6_feed x1 M) (Kri G S2 ad X) := by
  unfold f_X6_feed
  refine j_iload_n (pc := 0) O 1 dX6_feed_0 rfl ?_
  refine j_i2l (pc := 1) O dX6_feed_1 ?_
  refine j_lconst (pc := 2) (v := 0) O dX6_feed_2 (by decide) ?_
  refine j_ldc2 (pc := 3) (v := 255) O dX6_feed_3 gk_X6_124 ?_
  refine j_callSi (pc := 6) (dc := 1) (As := [.long (Int32.toInt64 x1), .long (0 : Int64), .long (255 : Int64)]) (rest := []) O (fun r M1 h => sp_X6_in h) dX6_feed_6 mst_X6_in lm_X6_94 rfl rfl (Nat.le_of_ble_eq_true rfl) (Nat.le_trans (Nat.le_of_ble_eq_true rfl) hd0) (fun r2 M1 => ?_)
  refine j_if_ne (pc := 9) (tgt := 15) O dX6_feed_9 (by decide) ?_ ?_
  · refine j_bipush (pc := 12) (v := -2) O dX6_feed_12 (by decide) ?_
    exact j_iret (pc := 14) O dX6_feed_14
  · refine j_aload_n (pc := 15) O 0 dX6_feed_15 rfl ?_
    refine j_getf (pc := 16) (v := .int (M1.1 0 6)) O 0 6 dX6_feed_16 fl_X6_126 so_S2_0 rfl rfl ?_
    refine j_sipush (pc := 19) (v := 160) O dX6_feed_19 (by decide) ?_
    refine j_icmp_ne (pc := 22) (tgt := 28) O dX6_feed_22 (by decide) ?_ ?_
    · refine j_bipush (pc := 25) (v := -4) O dX6_feed_25 (by decide) ?_
      exact j_iret (pc := 27) O dX6_feed_27
    · refine j_aload_n (pc := 28) O 0 dX6_feed_28 rfl ?_
      refine j_getf (pc := 29) (v := .ref (ad 3)) O 0 5 dX6_feed_29 fl_X6_20 so_S2_0 rfl rfl ?_
      refine j_aload_n (pc := 32) O 0 dX6_feed_32 rfl ?_
      refine j_getf (pc := 33) (v := .int (M1.1 0 6)) O 0 6 dX6_feed_33 fl_X6_126 so_S2_0 rfl rfl ?_
      refine j_iload_n (pc := 36) O 1 dX6_feed_36 rfl ?_
      refine j_iast (pc := 37) O 3 dX6_feed_37 so_S2_3 (fun M3 => ?_)
      refine j_aload_n (pc := 38) O 0 dX6_feed_38 rfl ?_
      refine j_dup (pc := 39) O dX6_feed_39 rfl ?_
      refine j_getf (pc := 40) (v := .int (M3.1 0 6)) O 0 6 dX6_feed_40 fl_X6_126 so_S2_0 rfl rfl ?_
      refine j_iconst (pc := 43) (v := 1) O dX6_feed_43 (by decide) ?_
      refine j_iadd (pc := 44) O dX6_feed_44 ?_
      refine j_puti (pc := 45) O 0 6 dX6_feed_45 fl_X6_126 so_S2_0 ft_X6_6 rfl (fun M4 => ?_)
      refine j_aload_n (pc := 48) O 0 dX6_feed_48 rfl ?_
      refine j_getf (pc := 49) (v := .int (M4.1 0 6)) O 0 6 dX6_feed_49 fl_X6_126 so_S2_0 rfl rfl ?_
      exact j_iret (pc := 52) O dX6_feed_52
theorem sp_X6_feed {G : wn_G} {ad : Nat → Nat} {x1 : Int32} {M : Mm} {r : Int32} {M1 : Mm} (h : f_X6_feed x1 M = some (r, M1)) : Sp G S2 ad mX6_feed 2 [.ref (ad 0), .int x1] M M1 (some (.int r)) :=
  sp_intro (own := RX6) (by decide +kernel) rfl (Nat.le_of_ble_eq_true rfl) (fun X O T => jf_X6_feed O (Nat.le_refl _) x1 M (r, M1) h T)
def f_X0_byteAt (x1 : Int32) (M : Mm) : Option (Int32 × Mm) :=
  if x1 < 0 then
    some ((-1 : Int32), M)
  else
    if (M.1 3 1) ≤ x1 then
      some ((-1 : Int32), M)
    else
      if (160 : Int32) ≤ x1 then
        some ((-1 : Int32), M)
      else
        gd (bin x1 160 = true) inferInstance <|
        some ((M.1 15 (Int32.toNatClampNeg x1)), M)
set_option maxRecDepth 100000 in
set_option maxHeartbeats 4000000 in
theorem jf_X0_byteAt {G : wn_G} {ad : Nat → Nat} {X : wn_X} {d : Nat} (O : Ok G RX0 cX0_byteAt 2 d X) (hd0 : 1 ≤ d) (x1 : Int32) (M : Mm) : JW G S1 ad X 0 [(0, .ref (ad 3)), (1, .int x1)] [] M (f_X0_byteAt x1 M) (Kri G S1 ad X) := by
  unfold f_X0_byteAt
  refine j_iload_n (pc := 0) O 1 dX0_byteAt_0 rfl ?_
  refine j_if_lt (pc := 1) (tgt := 28) O dX0_byteAt_1 (by decide) ?_ ?_
  · refine j_iconst (pc := 28) (v := -1) O dX0_byteAt_28 (by decide) ?_
    exact j_iret (pc := 29) O dX0_byteAt_29
  · refine j_iload_n (pc := 4) O 1 dX0_byteAt_4 rfl ?_
    refine j_aload_n (pc := 5) O 0 dX0_byteAt_5 rfl ?_
    refine j_getf (pc := 6) (v := .int (M.1 3 1)) O 3 1 dX0_byteAt_6 fl_X0_21 so_S1_3 rfl rfl ?_
    refine j_icmp_ge (pc := 9) (tgt := 28) O dX0_byteAt_9 (by decide) ?_ ?_
    · refine j_iconst (pc := 28) (v := -1) O dX0_byteAt_28 (by decide) ?_
      exact j_iret (pc := 29) O dX0_byteAt_29
    · refine j_iload_n (pc := 12) O 1 dX0_byteAt_12 rfl ?_
      refine j_sipush (pc := 13) (v := 160) O dX0_byteAt_13 (by decide) ?_
      refine j_icmp_ge (pc := 16) (tgt := 28) O dX0_byteAt_16 (by decide) ?_ ?_
      · refine j_iconst (pc := 28) (v := -1) O dX0_byteAt_28 (by decide) ?_
        exact j_iret (pc := 29) O dX0_byteAt_29
      · refine j_aload_n (pc := 19) O 0 dX0_byteAt_19 rfl ?_
        refine j_getf (pc := 20) (v := .ref (ad 15)) O 3 0 dX0_byteAt_20 fl_X0_11 so_S1_3 rfl rfl ?_
        refine j_iload_n (pc := 23) O 1 dX0_byteAt_23 rfl ?_
        refine j_iald (pc := 24) O 15 dX0_byteAt_24 so_S1_15 ?_
        refine j_goto (pc := 25) (tgt := 29) O dX0_byteAt_25 (by decide) ?_
        exact j_iret (pc := 29) O dX0_byteAt_29
theorem sp_X0_byteAt {G : wn_G} {ad : Nat → Nat} {x1 : Int32} {M : Mm} {r : Int32} {M1 : Mm} (h : f_X0_byteAt x1 M = some (r, M1)) : Sp G S1 ad mX0_byteAt 1 [.ref (ad 3), .int x1] M M1 (some (.int r)) :=
  sp_intro (own := RX0) (by decide +kernel) rfl (Nat.le_of_ble_eq_true rfl) (fun X O T => jf_X0_byteAt O (Nat.le_refl _) x1 M (r, M1) h T)
def f_X0_isLetter (x0 : Int32) (M : Mm) : Option (Int32 × Mm) :=
  if x0 < (97 : Int32) then
    some (0, M)
  else
    if (122 : Int32) < x0 then
      some (0, M)
    else
      some (1, M)
set_option maxRecDepth 100000 in
set_option maxHeartbeats 4000000 in
theorem jf_X0_isLetter {G : wn_G} {ad : Nat → Nat} {X : wn_X} {d : Nat} (O : Ok G RX0 cX0_isLetter 1 d X) (hd0 : 1 ≤ d) (x0 : Int32) (M : Mm) : JW G S1 ad X 0 [(0, .int x0)] [] M (f_X0_isLetter x0 M) (Krz G S1 ad X) := by
  unfold f_X0_isLetter
  refine j_iload_n (pc := 0) O 0 dX0_isLetter_0 rfl ?_
  refine j_bipush (pc := 1) (v := 97) O dX0_isLetter_1 (by decide) ?_
  refine j_icmp_lt (pc := 3) (tgt := 16) O dX0_isLetter_3 (by decide) ?_ ?_
  · refine j_iconst (pc := 16) (v := 0) O dX0_isLetter_16 (by decide) ?_
    exact j_z0 (pc := 17) O dX0_isLetter_17
  · refine j_iload_n (pc := 6) O 0 dX0_isLetter_6 rfl ?_
    refine j_bipush (pc := 7) (v := 122) O dX0_isLetter_7 (by decide) ?_
    refine j_icmp_gt (pc := 9) (tgt := 16) O dX0_isLetter_9 (by decide) ?_ ?_
    · refine j_iconst (pc := 16) (v := 0) O dX0_isLetter_16 (by decide) ?_
      exact j_z0 (pc := 17) O dX0_isLetter_17
    · refine j_iconst (pc := 12) (v := 1) O dX0_isLetter_12 (by decide) ?_
      refine j_goto (pc := 13) (tgt := 17) O dX0_isLetter_13 (by decide) ?_
      exact j_z1 (pc := 17) O dX0_isLetter_17
theorem sp_X0_isLetter {G : wn_G} {ad : Nat → Nat} {x0 : Int32} {M : Mm} {r : Int32} {M1 : Mm} (h : f_X0_isLetter x0 M = some (r, M1)) : Sp G S1 ad mX0_isLetter 1 [.int x0] M M1 (some (.int r)) :=
  sp_intro (own := RX0) (by decide +kernel) rfl (Nat.le_of_ble_eq_true rfl) (fun X O T => jf_X0_isLetter O (Nat.le_refl _) x0 M (r, M1) h T)
