/-! ===== what stays, at the law's entry ===== -/
def fl0 : List Cond := flatC (Jvm.Cond.and given_1 narrow_1)
def sTm : Nat → Term := fun i => match i with
  | 0 => .string "FirstOne" 49
  | 1 => .string "FirstOne$Reader" 106
  | 2 => .string "FirstOne$Reader" 108
  | 3 => .string "FirstOne$Reader" 110
  | 4 => .string "FirstOne$Reader" 112
  | 5 => .string "FirstOne$Reader" 114
  | 6 => .string "FirstOne$Reader" 116
  | 7 => .string "FirstOne$Reader" 118
  | 8 => .string "FirstOne$Reader" 120
  | 9 => .string "FirstOne$Reader" 122
  | 10 => .string "FirstOne$Reader" 124
  | 11 => .string "FirstOne$Reader" 126
  | _ => .string "FirstOne$Reader" 128
theorem fl_hex : ∀ i : Nat, i < 13 → (Cond.exactly (sTm i) "java/lang/String") ∈ fl0 := by decide +kernel
theorem fl_hco : ∀ i : Nat, i < 13 → (Cond.eq (.field (sTm i) "java/lang/String" "coder" "B") (.int 0)) ∈ fl0 := by decide +kernel
theorem fl_har : ∀ i : Nat, i < 13 → (Cond.arrayOf (.field (sTm i) "java/lang/String" "value" "[B") .byte) ∈ fl0 := by decide +kernel
theorem fl_hle : ∀ i : Nat, i < 13 → (Cond.eq (.length (.field (sTm i) "java/lang/String" "value" "[B")) (.int (Int32.ofNat (sLen.getD i 0)))) ∈ fl0 := by decide +kernel
theorem fl_hel : ∀ i : Nat, i < 13 → ∀ j : Nat, j < sLen.getD i 0 → (Cond.eq (.elem (.field (sTm i) "java/lang/String" "value" "[B") (.int (Int32.ofNat j))) (.int ((sByt.getD i []).getD j 0))) ∈ fl0 := by decide +kernel
theorem fl_hne_0 : ∀ j : Nat, j < 13 → 0 ≠ j → (Cond.not (Cond.eq (sTm 0) (sTm j))) ∈ fl0 ∨ (Cond.not (Cond.eq (sTm j) (sTm 0))) ∈ fl0 := by decide +kernel
theorem fl_hne_1 : ∀ j : Nat, j < 13 → 1 ≠ j → (Cond.not (Cond.eq (sTm 1) (sTm j))) ∈ fl0 ∨ (Cond.not (Cond.eq (sTm j) (sTm 1))) ∈ fl0 := by decide +kernel
theorem fl_hne_2 : ∀ j : Nat, j < 13 → 2 ≠ j → (Cond.not (Cond.eq (sTm 2) (sTm j))) ∈ fl0 ∨ (Cond.not (Cond.eq (sTm j) (sTm 2))) ∈ fl0 := by decide +kernel
theorem fl_hne_3 : ∀ j : Nat, j < 13 → 3 ≠ j → (Cond.not (Cond.eq (sTm 3) (sTm j))) ∈ fl0 ∨ (Cond.not (Cond.eq (sTm j) (sTm 3))) ∈ fl0 := by decide +kernel
theorem fl_hne_4 : ∀ j : Nat, j < 13 → 4 ≠ j → (Cond.not (Cond.eq (sTm 4) (sTm j))) ∈ fl0 ∨ (Cond.not (Cond.eq (sTm j) (sTm 4))) ∈ fl0 := by decide +kernel
theorem fl_hne_5 : ∀ j : Nat, j < 13 → 5 ≠ j → (Cond.not (Cond.eq (sTm 5) (sTm j))) ∈ fl0 ∨ (Cond.not (Cond.eq (sTm j) (sTm 5))) ∈ fl0 := by decide +kernel
theorem fl_hne_6 : ∀ j : Nat, j < 13 → 6 ≠ j → (Cond.not (Cond.eq (sTm 6) (sTm j))) ∈ fl0 ∨ (Cond.not (Cond.eq (sTm j) (sTm 6))) ∈ fl0 := by decide +kernel
theorem fl_hne_7 : ∀ j : Nat, j < 13 → 7 ≠ j → (Cond.not (Cond.eq (sTm 7) (sTm j))) ∈ fl0 ∨ (Cond.not (Cond.eq (sTm j) (sTm 7))) ∈ fl0 := by decide +kernel
theorem fl_hne_8 : ∀ j : Nat, j < 13 → 8 ≠ j → (Cond.not (Cond.eq (sTm 8) (sTm j))) ∈ fl0 ∨ (Cond.not (Cond.eq (sTm j) (sTm 8))) ∈ fl0 := by decide +kernel
theorem fl_hne_9 : ∀ j : Nat, j < 13 → 9 ≠ j → (Cond.not (Cond.eq (sTm 9) (sTm j))) ∈ fl0 ∨ (Cond.not (Cond.eq (sTm j) (sTm 9))) ∈ fl0 := by decide +kernel
theorem fl_hne_10 : ∀ j : Nat, j < 13 → 10 ≠ j → (Cond.not (Cond.eq (sTm 10) (sTm j))) ∈ fl0 ∨ (Cond.not (Cond.eq (sTm j) (sTm 10))) ∈ fl0 := by decide +kernel
theorem fl_hne_11 : ∀ j : Nat, j < 13 → 11 ≠ j → (Cond.not (Cond.eq (sTm 11) (sTm j))) ∈ fl0 ∨ (Cond.not (Cond.eq (sTm j) (sTm 11))) ∈ fl0 := by decide +kernel
theorem fl_hne_12 : ∀ j : Nat, j < 13 → 12 ≠ j → (Cond.not (Cond.eq (sTm 12) (sTm j))) ∈ fl0 ∨ (Cond.not (Cond.eq (sTm j) (sTm 12))) ∈ fl0 := by decide +kernel
theorem fl_hne : ∀ i : Nat, i < 13 → ∀ j : Nat, j < 13 → i ≠ j → (Cond.not (Cond.eq (sTm i) (sTm j))) ∈ fl0 ∨ (Cond.not (Cond.eq (sTm j) (sTm i))) ∈ fl0 := by
  intro i hi
  rcases (by omega : i = 0 ∨ i = 1 ∨ i = 2 ∨ i = 3 ∨ i = 4 ∨ i = 5 ∨ i = 6 ∨ i = 7 ∨ i = 8 ∨ i = 9 ∨ i = 10 ∨ i = 11 ∨ i = 12) with rfl | rfl | rfl | rfl | rfl | rfl | rfl | rfl | rfl | rfl | rfl | rfl | rfl
  · exact fl_hne_0
  · exact fl_hne_1
  · exact fl_hne_2
  · exact fl_hne_3
  · exact fl_hne_4
  · exact fl_hne_5
  · exact fl_hne_6
  · exact fl_hne_7
  · exact fl_hne_8
  · exact fl_hne_9
  · exact fl_hne_10
  · exact fl_hne_11
  · exact fl_hne_12
theorem fl_LOWEST : (Cond.arrayOf (.static RX5 "LOWEST" "[I") .int) ∈ fl0 ∧ (Cond.eq (.length (.static RX5 "LOWEST" "[I")) (.int (Int32.ofNat 5))) ∈ fl0 ∧ ∀ j : Nat, j < 5 → (Cond.eq (.elem (.static RX5 "LOWEST" "[I") (.int (Int32.ofNat j))) (.int (lowV j))) ∈ fl0 := by decide +kernel
theorem fl_HIGHEST : (Cond.arrayOf (.static RX5 "HIGHEST" "[I") .int) ∈ fl0 ∧ (Cond.eq (.length (.static RX5 "HIGHEST" "[I")) (.int (Int32.ofNat 5))) ∈ fl0 ∧ ∀ j : Nat, j < 5 → (Cond.eq (.elem (.static RX5 "HIGHEST" "[I") (.int (Int32.ofNat j))) (.int (highV j))) ∈ fl0 := by decide +kernel
theorem fl_cs : (Cond.eq (.static RJ0 "COMPACT_STRINGS" "Z") (.int 1)) ∈ fl0 ∧ (Cond.isRef (.static RJ3 "SIOOBE_FORMATTER" "Ljava/util/function/BiFunction;")) ∈ fl0 := by decide +kernel
theorem nw_in : ∀ w ∈ nws, w ∈ lw_tbl := by decide +kernel
set_option maxHeartbeats 4000000 in
theorem env_start {s : State} {b : Nat} (hts : ∀ w ∈ lw_tbl, w.before #[Value.ref b] s = true) (hgv : (Jvm.Cond.and given_1 narrow_1).before #[Value.ref b] s = true) : ∃ G : wn_G, Ev G (fun q => s.heap.size ≤ q) s := by
  have hfl : ∀ c ∈ fl0, c.before #[Value.ref b] s = true := flat_of_before _ hgv
  have hA : ∀ a : Nat, a < s.heap.size → ¬ s.heap.size ≤ a := fun a h => by omega
  obtain ⟨c0, iS0, hKn0⟩ := u_known (C := RX0) (T := TX0) (N := 10) (n := 10) hts (fun w h => (List.mem_filter.mp (wi_X0 w h)).1) (hts (.instantiable RX0 10) (List.mem_append_right _ (List.mem_of_getElem? (i := 71) (by decide +kernel))))
  obtain ⟨c1, iS1, hKn1⟩ := u_known (C := RX1) (T := TX1) (N := 3) (n := 3) hts (fun w h => (List.mem_filter.mp (wi_X1 w h)).1) (hts (.instantiable RX1 3) (List.mem_append_right _ (List.mem_of_getElem? (i := 135) (by decide +kernel))))
  obtain ⟨c2, iS2, hKn2⟩ := u_known (C := RX2) (T := TX2) (N := 17) (n := 17) hts (fun w h => (List.mem_filter.mp (wi_X2 w h)).1) (hts (.instantiable RX2 17) (List.mem_append_right _ (List.mem_of_getElem? (i := 151) (by decide +kernel))))
  obtain ⟨c3, iS3, hKn3⟩ := u_known (C := RX3) (T := TX3) (N := 8) (n := 8) hts (fun w h => (List.mem_filter.mp (wi_X3 w h)).1) (hts (.instantiable RX3 8) (List.mem_append_right _ (List.mem_of_getElem? (i := 24) (by decide +kernel))))
  obtain ⟨c4, iS4, hKn4⟩ := u_known (C := RX4) (T := TX4) (N := 5) (n := 5) hts (fun w h => (List.mem_filter.mp (wi_X4 w h)).1) (hts (.instantiable RX4 5) (List.mem_append_right _ (List.mem_of_getElem? (i := 112) (by decide +kernel))))
  obtain ⟨c5, iS5, hKn5⟩ := u_known (C := RX5) (T := TX5) (N := 7) (n := 7) hts (fun w h => (List.mem_filter.mp (wi_X5 w h)).1) (hts (.instantiable RX5 7) (List.mem_append_right _ (List.mem_of_getElem? (i := 16) (by decide +kernel))))
  obtain ⟨c6, iS6, hKn6⟩ := u_known (C := RX6) (T := TX6) (N := 52) (n := 52) hts (fun w h => (List.mem_filter.mp (wi_X6 w h)).1) (hts (.instantiable RX6 52) (List.mem_append_right _ (List.mem_of_getElem? (i := 698) (by decide +kernel))))
  obtain ⟨cI, kI, cpI, hI1, hI2, hI3⟩ := Cond.arrayClass_spec (hts (.arrayClass .int) (List.mem_append_right _ (List.mem_of_getElem? (i := 69) (by decide +kernel))))
  obtain ⟨cZ, kZ, cpZ, hZ1, hZ2, hZ3⟩ := Cond.arrayClass_spec (hts (.arrayClass .boolean) (List.mem_append_right _ (List.mem_of_getElem? (i := 863) (by decide +kernel))))
  have sLt : ∀ i : Nat, i < 13 → sLen.getD i 0 < 2 ^ 31 := fun i _ => sLen_lt i
  obtain ⟨aK, aV, hS, hK⟩ := vk_Sof (args := #[Value.ref b]) (s := s) (N := 13) (tm := sTm) (len := sLen) (byt := sByt) (A := fun q => s.heap.size ≤ q) sLt (fun i hi => hfl _ (fl_hex i hi)) (fun i hi => hfl _ (fl_hco i hi)) (fun i hi => hfl _ (fl_har i hi)) (fun i hi => hfl _ (fl_hle i hi)) (fun i hi j hj => hfl _ (fl_hel i hi j hj)) (fun i j hi hj hne => (fl_hne i hi j hj hne).imp (fun h => hfl _ h) (fun h => hfl _ h)) hA
  obtain ⟨tL, hL1, hL2⟩ := va_Tof (args := #[Value.ref b]) (s := s) (tm := .static RX5 "LOWEST" "[I") (ty := .int) (N := 5) (f := fun j => .int (lowV j)) (A := fun q => s.heap.size ≤ q) (by decide) (hfl _ fl_LOWEST.1) (va_eqt (hfl _ fl_LOWEST.2.1)) (fun j hj => va_eqt (hfl _ (fl_LOWEST.2.2 j hj))) hA
  obtain ⟨tH, hH1, hH2⟩ := va_Tof (args := #[Value.ref b]) (s := s) (tm := .static RX5 "HIGHEST" "[I") (ty := .int) (N := 5) (f := fun j => .int (highV j)) (A := fun q => s.heap.size ≤ q) (by decide) (hfl _ fl_HIGHEST.1) (va_eqt (hfl _ fl_HIGHEST.2.1)) (fun j hj => va_eqt (hfl _ (fl_HIGHEST.2.2 j hj))) hA
  refine ⟨((fun k => [c0, c1, c2, c3, c4, c5, c6].getD k c0, fun k => [iS0, iS1, iS2, iS3, iS4, iS5, iS6].getD k iS0), cI, cZ, aK, aV, tL, tH), ⟨?_, ?_⟩, ?_, hS, ?_, ⟨?_, hL2⟩, ⟨?_, hH2⟩, ?_, ?_⟩
  · intro k q hq
    match k, hq with
    | 0, hq => cases hq; exact hKn0
    | 1, hq => cases hq; exact hKn1
    | 2, hq => cases hq; exact hKn2
    | 3, hq => cases hq; exact hKn3
    | 4, hq => cases hq; exact hKn4
    | 5, hq => cases hq; exact hKn5
    | 6, hq => cases hq; exact hKn6
    | k + 7, hq => simp [vwCl] at hq
  · intro k q hq
    match k, hq with
    | 0, hq => cases hq; exact ⟨fun n z => ⟨fun k h => (by cases h), kI, hI2, cpI, hI3⟩, hI1⟩
    | 1, hq => cases hq; exact ⟨fun n z => ⟨fun k h => (by cases h), kZ, hZ2, cpZ, hZ3⟩, hZ1⟩
    | k + 2, hq => simp [tys] at hq
  · intro w hw
    have hm : w ∈ lw_tbl := nw_in w hw
    have ho : w.onTables = true := by
      rcases List.mem_append.mp hw with h2 | h2
      · obtain ⟨q, -, rfl⟩ := List.mem_map.mp h2
        rfl
      · obtain ⟨q, -, rfl⟩ := List.mem_map.mp h2
        rfl
    exact va_Nw.of ho (hts w hm)
  · intro q hq
    simp only [sRef, List.mem_cons, List.not_mem_nil, or_false] at hq
    rcases hq with rfl | rfl | rfl | rfl | rfl | rfl | rfl | rfl | rfl | rfl | rfl | rfl | rfl
    · exact vk_R.of (hts (.stringRef RX5 49 "takes 4 ; hunger 1 ; worth 10 - late ;") (List.mem_append_right _ (List.mem_of_getElem? (i := 214) (by decide +kernel)))) (hK 0 (by decide))
    · exact vk_R.of (hts (.stringRef RX0 106 "cake") (List.mem_append_right _ (List.mem_of_getElem? (i := 293) (by decide +kernel)))) (hK 1 (by decide))
    · exact vk_R.of (hts (.stringRef RX0 108 "minute") (List.mem_append_right _ (List.mem_of_getElem? (i := 294) (by decide +kernel)))) (hK 2 (by decide))
    · exact vk_R.of (hts (.stringRef RX0 110 "had") (List.mem_append_right _ (List.mem_of_getElem? (i := 295) (by decide +kernel)))) (hK 3 (by decide))
    · exact vk_R.of (hts (.stringRef RX0 112 "want") (List.mem_append_right _ (List.mem_of_getElem? (i := 296) (by decide +kernel)))) (hK 4 (by decide))
    · exact vk_R.of (hts (.stringRef RX0 114 "eater") (List.mem_append_right _ (List.mem_of_getElem? (i := 297) (by decide +kernel)))) (hK 5 (by decide))
    · exact vk_R.of (hts (.stringRef RX0 116 "late") (List.mem_append_right _ (List.mem_of_getElem? (i := 298) (by decide +kernel)))) (hK 6 (by decide))
    · exact vk_R.of (hts (.stringRef RX0 118 "takes") (List.mem_append_right _ (List.mem_of_getElem? (i := 299) (by decide +kernel)))) (hK 7 (by decide))
    · exact vk_R.of (hts (.stringRef RX0 120 "hunger") (List.mem_append_right _ (List.mem_of_getElem? (i := 300) (by decide +kernel)))) (hK 8 (by decide))
    · exact vk_R.of (hts (.stringRef RX0 122 "worth") (List.mem_append_right _ (List.mem_of_getElem? (i := 301) (by decide +kernel)))) (hK 9 (by decide))
    · exact vk_R.of (hts (.stringRef RX0 124 "or") (List.mem_append_right _ (List.mem_of_getElem? (i := 302) (by decide +kernel)))) (hK 10 (by decide))
    · exact vk_R.of (hts (.stringRef RX0 126 "and") (List.mem_append_right _ (List.mem_of_getElem? (i := 303) (by decide +kernel)))) (hK 11 (by decide))
    · exact vk_R.of (hts (.stringRef RX0 128 "not") (List.mem_append_right _ (List.mem_of_getElem? (i := 304) (by decide +kernel)))) (hK 12 (by decide))
  · exact va_Zof (hts (.laysStatic RX5 "LOWEST" "[I") (List.mem_append_right _ (List.mem_of_getElem? (i := 374) (by decide +kernel)))) (hts (.initialized RX5) (List.mem_append_right _ (List.mem_of_getElem? (i := 1) (by decide +kernel)))) hL1 hA
  · exact va_Zof (hts (.laysStatic RX5 "HIGHEST" "[I") (List.mem_append_right _ (List.mem_of_getElem? (i := 376) (by decide +kernel)))) (hts (.initialized RX5) (List.mem_append_right _ (List.mem_of_getElem? (i := 1) (by decide +kernel)))) hH1 hA
  · exact va_Zof (hts (.laysStatic RJ0 "COMPACT_STRINGS" "Z") (List.mem_append_right _ (List.mem_of_getElem? (i := 228) (by decide +kernel)))) (hts (.initialized RJ0) (List.mem_append_right _ (List.mem_of_getElem? (i := 7) (by decide +kernel)))) (va_eqi (hfl _ fl_cs.1)) hA
  · exact va_Zqof (hts (.laysStatic RJ3 "SIOOBE_FORMATTER" "Ljava/util/function/BiFunction;") (List.mem_append_right _ (List.mem_of_getElem? (i := 244) (by decide +kernel)))) (hts (.initialized RJ3) (List.mem_append_right _ (List.mem_of_getElem? (i := 9) (by decide +kernel)))) (hfl _ fl_cs.2) hA
