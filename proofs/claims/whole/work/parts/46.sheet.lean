/-! ===== the sheets ===== -/
def KLs (s : Nat) : Nat → Nat → Bool := fun o k => !((o == 22 || o == 23) && k == s) && !(o == 24 && (decide (40 * s ≤ k) && decide (k < 40 * s + 40)))
def KRs (s : Nat) : Nat → Nat → Bool := fun o k => !((o == 16 || (o == 17 || o == 18)) && k == s) && !(o == 19 && (decide (40 * s ≤ k) && decide (k < 40 * s + 40)))
def KC4 : Nat → Nat → Bool := fun o k => KC1 o k && !(o == 22 || (o == 23 || o == 24))
def KR4 : Nat → Nat → Bool := fun o k => KR1 o k && !(decide (16 ≤ o) && decide (o ≤ 19))
theorem kc4_s (s : Nat) : ∀ o k, KC4 o k = true → KLs s o k = true := by
  intro o k h
  unfold KC4 at h
  unfold KLs
  simp at h ⊢
  omega
theorem kr4_s (s : Nat) : ∀ o k, KR4 o k = true → KRs s o k = true := by
  intro o k h
  unfold KR4 at h
  unfold KRs
  simp at h ⊢
  omega
section SHEET
variable {G G' : Gt} {nt : Nat} {zs : Nat → Txt} {M1 M2 N1 N2 M : Mm} {Ka Kb : Nat → Nat → Bool} {La Lb : Nat → Bool} {s : Nat}
theorem RG.shs (h : RG G nt zs M1 M2) (h1 : Sm Ka La M1 N1) (h2 : Sm Kb Lb M2 N2) (k1 : ∀ o k, KC4 o k = true → Ka o k = true) (k2 : ∀ o k, KR4 o k = true → Kb o k = true) (ht : ∀ s, s < 4 → Shs N1 N2 s) : RG G nt zs N1 N2 := by
  obtain ⟨a1, a2, ⟨a3, a4⟩, a5, a6, a7, a8⟩ := h
  refine ⟨a1, a2.same h1 (fun o k z => k1 o k ?_), ⟨a3.same h2 (fun o k z => k2 o k ?_), by rw [h2.1 _ _ (k2 _ _ rfl)]; exact a4⟩, a5.same h1 h2 (fun o k z => k1 o k ?_) (fun o k z => k2 o k ?_), a6.same h1 h2 (fun o k z => k1 o k ?_) (fun o k z => k2 o k ?_), ht, a8.same h1 h2 (fun o k z => k1 o k ?_) (fun o k z => k2 o k ?_)⟩
  · unfold KC0 at z; unfold KC4 KC1; simp at z ⊢; omega
  · unfold KR0 at z; unfold KR4 KR1; simp at z ⊢; omega
  · unfold KC4 KC1; simp; omega
  · unfold KR4 KR1; simp; omega
  · unfold KC4 KC1; simp; omega
  · unfold KR4 KR1; simp; omega
  · unfold KC4 KC1; simp; omega
  · unfold KR4 KR1; simp; omega
theorem Shs.other {s' : Nat} (h : Shs M1 M2 s') (h1 : Sm (KLs s) La M1 N1) (h2 : Sm (KRs s) Lb M2 N2) (hne : s' ≠ s) : Shs N1 N2 s' := by
  have kl : ∀ o, o = 22 ∨ o = 23 → KLs s o s' = true := by
    intro o ho
    unfold KLs
    rcases ho with rfl | rfl <;> simp [hne]
  have kr : ∀ o, o = 16 ∨ o = 17 ∨ o = 18 → KRs s o s' = true := by
    intro o ho
    unfold KRs
    rcases ho with rfl | rfl | rfl <;> simp [hne]
  have kl4 : ∀ i, i < 40 → KLs s 24 (40 * s' + i) = true := by
    intro i hi
    unfold KLs
    simp
    omega
  have kr9 : ∀ i, i < 40 → KRs s 19 (40 * s' + i) = true := by
    intro i hi
    unfold KRs
    simp
    omega
  rcases h with ⟨a, b⟩ | ⟨so, sz, a1, a2, a3, a4, a5, a6, a7, a8⟩
  · exact Or.inl ⟨by rw [h1.1 _ _ (kl 22 (Or.inl rfl))]; exact a, by rw [h2.1 _ _ (kr 16 (Or.inl rfl))]; exact b⟩
  · refine Or.inr ⟨so, sz, a1, a2, ?_, ?_, ?_, ?_, ?_, fun i hi => ?_⟩
    · rw [h1.1 _ _ (kl 22 (Or.inl rfl))]; exact a3
    · rw [h1.1 _ _ (kl 23 (Or.inr rfl))]; exact a4
    · rw [h2.1 _ _ (kr 16 (Or.inl rfl))]; exact a5
    · rw [h2.1 _ _ (kr 17 (Or.inr (Or.inl rfl)))]; exact a6
    · rw [h2.1 _ _ (kr 18 (Or.inr (Or.inr rfl)))]; exact a7
    · rw [h1.1 _ _ (kl4 i (by omega)), h2.1 _ _ (kr9 i (by omega))]; exact a8 i hi
theorem RG.sh1 (h : RG G nt zs M1 M2) (h1 : Sm (KLs s) La M1 N1) (h2 : Sm (KRs s) Lb M2 N2) (hs : Shs N1 N2 s) : RG G nt zs N1 N2 := by
  refine h.shs h1 h2 (kc4_s s) (kr4_s s) fun s' hs' => ?_
  by_cases q : s' = s
  · rw [q]; exact hs
  · exact (h.2.2.2.2.2.1 s' hs').other h1 h2 q
/-! the class's small words -/
theorem sh_has {x : Int32} (M : Mm) (hx : ∃ i, i < 4 ∧ x = nI i) : f_X1_has x M = some (1, M) := by
  obtain ⟨i, hi, rfl⟩ := hx
  unfold f_X1_has
  rw [if_neg (nI_ltz (by omega)), if_neg (by show ¬ nI 4 ≤ nI i; rw [nI_leI (by omega) (by omega)]; omega)]
theorem sh_hasn {x : Int32} (M : Mm) (hx : ¬ ∃ i, i < 4 ∧ x = nI i) : f_X1_has x M = some (0, M) := by
  unfold f_X1_has
  by_cases h0 : x < 0
  · rw [if_pos h0]
  · obtain ⟨j, hj, rfl⟩ := nI_of h0
    rw [if_neg h0, if_pos]
    show nI 4 ≤ nI j
    rw [nI_leI (by omega) hj]
    rcases Nat.lt_or_ge j 4 with q | q
    · exact absurd ⟨j, q, rfl⟩ hx
    · exact q
theorem sh_is {x : Int32} (M : Mm) (hx : ∃ i, i < 4 ∧ x = nI i) : f_X6_isSheet x M = some (1, M) := by
  obtain ⟨i, hi, rfl⟩ := hx
  refine en_eq ?_
  unfold f_X6_isSheet
  exact en_bd' (rin_yes (a := 0) (c := 3) rfl rfl (nI_btw (a := 0) (c := 3) (Nat.zero_le i) (by omega) (by omega)) M) (en_gd (Or.inr rfl) (en_some rfl))
theorem sh_isn {x : Int32} (M : Mm) (hx : ¬ ∃ i, i < 4 ∧ x = nI i) : f_X6_isSheet x M = some (0, M) := by
  refine en_eq ?_
  unfold f_X6_isSheet
  refine en_bd' (rin_no (a := 0) (c := 3) rfl rfl (fun z => hx ?_) M) (en_gd (Or.inl rfl) (en_some rfl))
  obtain ⟨j, hj, rfl⟩ := nI_of (Int32.not_lt.mpr z.1)
  refine ⟨j, ?_, rfl⟩
  have h3 : nI j ≤ nI 3 := z.2
  rw [nI_leI hj (by omega)] at h3
  omega
theorem sh_mis (hs : s < 4) (h : M.1 22 s = -1) : f_X1_isMissing (nI s) M = some (1, M) := by
  refine en_eq ?_
  unfold f_X1_isMissing
  refine en_bd' (sh_has M ⟨s, hs, rfl⟩) (en_f (by decide) (en_gd (bin_nI hs (by omega)) ?_))
  rw [cl_nI (by omega)]
  exact en_t h (en_some rfl)
theorem sh_nmis {so : Nat} (hs : s < 4) (hso : so ≤ 2) (h : M.1 22 s = nI so) : f_X1_isMissing (nI s) M = some (0, M) := by
  refine en_eq ?_
  unfold f_X1_isMissing
  refine en_bd' (sh_has M ⟨s, hs, rfl⟩) (en_f (by decide) (en_gd (bin_nI hs (by omega)) ?_))
  rw [cl_nI (by omega), h]
  exact en_f (nI_m1 (by omega)) (en_some rfl)
theorem sh_size (hs : s < 4) (M : Mm) : f_X1_sizeOf (nI s) M = some (M.1 23 s, M) := by
  refine en_eq ?_
  unfold f_X1_sizeOf
  refine en_bd' (sh_has M ⟨s, hs, rfl⟩) (en_f (by decide) (en_gd (bin_nI hs (by omega)) (en_some ?_)))
  rw [cl_nI (by omega)]
theorem sh_sort (hs : s < 4) (M : Mm) : f_X1_sortOf (nI s) M = some (M.1 22 s, M) := by
  refine en_eq ?_
  unfold f_X1_sortOf
  refine en_bd' (sh_has M ⟨s, hs, rfl⟩) (en_f (by decide) (en_gd (bin_nI hs (by omega)) (en_some ?_)))
  rw [cl_nI (by omega)]
theorem sp_yes {sz i n : Nat} (hs : s < 4) (hz : sz ≤ 40) (h : M.1 23 s = nI sz) (hn : i + n ≤ sz) : f_X1_spans (nI s) (nI i) (nI n) M = some (1, M) := by
  refine en_eq ?_
  unfold f_X1_spans
  refine en_f (nI_ltz (by omega)) (en_f (nI_ltz (by omega)) (en_bd' (sh_size hs M) ?_))
  rw [h]
  refine en_f (by rw [nI_ltI (by omega) (by omega)]; omega) (en_bd' (sh_size hs M) ?_)
  rw [h, pk_sub (by omega)]
  exact en_f (by rw [nI_ltI (by omega) (by omega)]; omega) (en_some rfl)
theorem sp_no {sz n : Nat} {x : Int32} (hs : s < 4) (hz : sz ≤ 40) (hn31 : n < 2 ^ 31) (h : M.1 23 s = nI sz) (hn : ¬ ∃ i, x = nI i ∧ i + n ≤ sz) : f_X1_spans (nI s) x (nI n) M = some (0, M) := by
  refine en_eq ?_
  unfold f_X1_spans
  refine en_ite (fun _ => en_some rfl) (fun h0 => en_f (nI_ltz hn31) (en_bd' (sh_size hs M) ?_))
  rw [h]
  refine en_ite (fun _ => en_some rfl) (fun h1 => en_bd' (sh_size hs M) ?_)
  rw [nI_ltI (by omega) hn31] at h1
  rw [h, pk_sub (by omega)]
  refine en_t ?_ (en_some rfl)
  obtain ⟨j, hj, rfl⟩ := nI_of h0
  rw [nI_ltI (by omega) hj]
  rcases Nat.lt_or_ge (sz - n) j with q | q
  · exact q
  · exact absurd ⟨j, rfl, by omega⟩ hn
theorem sh_item {sz i : Nat} (hs : s < 4) (hz : sz ≤ 40) (h : M.1 23 s = nI sz) (hi : i < sz) : f_X1_item (nI s) (nI i) M = some (M.1 24 (40 * s + i), M) := by
  refine en_eq ?_
  unfold f_X1_item
  refine en_bd' (sp_yes (n := 1) hs hz h (by omega)) (en_f (by decide) ?_)
  rw [show nI s * 40 = nI (40 * s) by rw [Nat.mul_comm]; exact pk_mul s 40, nI_add]
  refine en_gd (bin_nI (by omega) (by omega)) (en_some ?_)
  rw [cl_nI (by omega)]
/-! laying -/
theorem c_slay {so : Int32} {sz : Nat} (hs : s < 4) (hz : sz ≤ 40) (M : Mm) : En (f_X1_lay (nI s) so (nI sz) M) (fun N => Sm (KLs s) KA M N ∧ N.1 22 s = so ∧ N.1 23 s = nI sz ∧ ∀ i, i < sz → N.1 24 (40 * s + i) = 0) := by
  unfold f_X1_lay
  refine en_bd' (sh_has M ⟨s, hs, rfl⟩) (en_f (by decide) (en_f (nI_ltz (by omega)) (en_t ?_ (en_gd (bin_nI hs (by omega)) (en_bmv fun A1 e1 => en_gd (bin_nI hs (by omega)) (en_bmv fun A2 e2 => ?_))))))
  · show nI sz ≤ nI 40
    rw [nI_leI (by omega) (by omega)]; exact hz
  · rw [cl_nI (by omega)] at e1 e2
    have hs2 : Sm (KLs s) KA M A2 := (sm_1 e1 (by unfold KLs; simp)).tr (sm_1 e2 (by unfold KLs; simp))
    refine en_iter (fun (z : Int32 × Mm) => ∃ k, k ≤ sz ∧ z.1 = nI k ∧ Sm (KLs s) KA M z.2 ∧ z.2.1 22 s = so ∧ z.2.1 23 s = nI sz ∧ ∀ i, i < k → z.2.1 24 (40 * s + i) = 0) (fun z => 41 - z.1.toNatClampNeg) ⟨0, by omega, rfl, hs2, by rw [ms_off e2 (by omega), ms_at e1], ms_at e2, fun i hi => by omega⟩ (by have := fuel_gt; omega) ?_
    rintro ⟨x, A⟩ ⟨k, hk, rfl, g1, g2, g3, g4⟩
    have g1 : Sm (KLs s) KA M A := g1
    have g2 : A.1 22 s = so := g2
    have g3 : A.1 23 s = nI sz := g3
    have g4 : ∀ i, i < k → A.1 24 (40 * s + i) = 0 := g4
    show En (f_X1_lay_b36 (nI s) (nI sz) (nI k) A) _
    unfold f_X1_lay_b36
    refine en_ite (fun q => en_ex (en_some ?_)) (fun q => ?_)
    · rw [nI_leI (by omega) (by omega)] at q
      exact ⟨g1, g2, g3, fun i hi => g4 i (by omega)⟩
    · rw [nI_leI (by omega) (by omega)] at q
      rw [show nI s * 40 = nI (40 * s) by rw [Nat.mul_comm]; exact pk_mul s 40, nI_add]
      refine en_gd (bin_nI (by omega) (by omega)) (en_bmv fun A5 e5 => en_bi (en_some ⟨⟨k + 1, by omega, nI_add k 1, ?_, ?_, ?_, fun i hi => ?_⟩, ?_⟩))
      · rw [cl_nI (by omega)] at e5
        exact g1.tr (sm_1 e5 (by unfold KLs; simp; omega))
      · show A5.1 22 s = _
        rw [ms_off e5 (by omega)]; exact g2
      · show A5.1 23 s = _
        rw [ms_off e5 (by omega)]; exact g3
      · rw [cl_nI (by omega)] at e5
        show A5.1 24 (40 * s + i) = 0
        by_cases z : i = k
        · subst z; exact ms_at e5
        · rw [ms_off e5 (by omega)]; exact g4 i (by omega)
      · show 41 - (nI k + 1).toNatClampNeg < 41 - (nI k).toNatClampNeg
        rw [show nI k + 1 = nI (k + 1) from nI_add k 1, nI_clamp (by omega), nI_clamp (by omega)]
        omega
theorem r_slay {so sz : Nat} (hs : s < 4) (hso : so ≤ 2) (hz : sz ≤ 40) (M : Mm) : En (f_X6_sheet_j59 (nI s) (nI so) (nI sz) 1 (nI s) M) (fun q => q.1 = 1 ∧ Sm (KRs s) KA M q.2 ∧ q.2.1 16 s = 1 ∧ q.2.1 17 s = nI so ∧ q.2.1 18 s = nI sz ∧ ∀ i, i < sz → q.2.1 19 (40 * s + i) = 0) := by
  unfold f_X6_sheet_j59
  refine en_gd (bin_nI hs (by omega)) (en_bmv fun A1 e1 => en_gd (bin_nI hs (by omega)) (en_bmv fun A2 e2 => en_gd (bin_nI hs (by omega)) (en_bmv fun A3 e3 => ?_)))
  rw [cl_nI (by omega)] at e1 e2 e3
  have hs3 : Sm (KRs s) KA M A3 := ((sm_1 e1 (by unfold KRs; simp)).tr (sm_1 e2 (by unfold KRs; simp))).tr (sm_1 e3 (by unfold KRs; simp))
  refine en_iter (fun (z : Int32 × Mm) => ∃ k, k ≤ sz ∧ z.1 = nI k ∧ Sm (KRs s) KA M z.2 ∧ z.2.1 16 s = 1 ∧ z.2.1 17 s = nI so ∧ z.2.1 18 s = nI sz ∧ ∀ i, i < k → z.2.1 19 (40 * s + i) = 0) (fun z => 41 - z.1.toNatClampNeg) ⟨0, by omega, rfl, hs3, by rw [ms_off e3 (by omega), ms_off e2 (by omega), ms_at e1]; rfl, by rw [ms_off e3 (by omega), ms_at e2], ms_at e3, fun i hi => by omega⟩ (by have := fuel_gt; omega) ?_
  rintro ⟨x, A⟩ ⟨k, hk, rfl, g1, g2, g3, g4, g5⟩
  have g1 : Sm (KRs s) KA M A := g1
  have g2 : A.1 16 s = 1 := g2
  have g3 : A.1 17 s = nI so := g3
  have g4 : A.1 18 s = nI sz := g4
  have g5 : ∀ i, i < k → A.1 19 (40 * s + i) = 0 := g5
  show En (f_X6_sheet_b77 (nI s) (nI so) (nI sz) (nI k) A) _
  unfold f_X6_sheet_b77
  refine en_ite (fun q => en_ex (en_some ?_)) (fun q => en_f (nI_ltz (by omega)) ?_)
  · rw [nI_leI (by omega) (by omega)] at q
    exact ⟨rfl, g1, g2, g3, g4, fun i hi => g5 i (by omega)⟩
  · rw [nI_leI (by omega) (by omega)] at q
    rw [show (40 : Int32) * nI s = nI (40 * s) from pk_mul 40 s, nI_add]
    refine en_gd (bin_nI (by omega) (by omega)) (en_bmv fun A5 e5 => en_bi (en_some ⟨⟨k + 1, by omega, nI_add k 1, ?_, ?_, ?_, ?_, fun i hi => ?_⟩, ?_⟩))
    · rw [cl_nI (by omega)] at e5
      exact g1.tr (sm_1 e5 (by unfold KRs; simp; omega))
    · show A5.1 16 s = _
      rw [ms_off e5 (by omega)]; exact g2
    · show A5.1 17 s = _
      rw [ms_off e5 (by omega)]; exact g3
    · show A5.1 18 s = _
      rw [ms_off e5 (by omega)]; exact g4
    · rw [cl_nI (by omega)] at e5
      show A5.1 19 (40 * s + i) = 0
      by_cases z : i = k
      · subst z; exact ms_at e5
      · rw [ms_off e5 (by omega)]; exact g5 i (by omega)
    · show 41 - (nI k + 1).toNatClampNeg < 41 - (nI k).toNatClampNeg
      rw [show nI k + 1 = nI (k + 1) from nI_add k 1, nI_clamp (by omega), nI_clamp (by omega)]
      omega
theorem r_sheet {so sz : Nat} {P : Int32 × Mm → Prop} (hs : s < 4) (hso : so ≤ 2) (hz : sz ≤ 40) (M : Mm) (h : En (f_X6_sheet_j59 (nI s) (nI so) (nI sz) 1 (nI s) M) P) : En (f_X6_sheet (nI s) (nI so) (nI sz) M) P := by
  unfold f_X6_sheet f_X6_sheet_j34 f_X6_sheet_j45
  refine en_bd' (sh_is M ⟨s, hs, rfl⟩) (en_f (by decide) (en_bd' (rin_yes (a := -1) (c := 2) rfl rfl ⟨?_, ?_⟩ M) (en_f (by decide) (en_f (nI_ltz (by omega)) (en_t ?_ (en_f (nI_ltz (by omega)) (en_t (nI_pos' (by omega)) (en_f (nI_ltz (by omega)) h))))))))
  · rw [Int32.le_iff_toInt_le, nI_toInt (by omega)]
    have : (-1 : Int32).toInt = -1 := by decide
    omega
  · show nI so ≤ nI 2
    rw [nI_leI (by omega) (by omega)]; exact hso
  · show nI sz ≤ nI 40
    rw [nI_leI (by omega) (by omega)]; exact hz
theorem s_sheet : St3 Rel f_X5_sheet f_X6_sheet := by
  rintro x1 x2 x3 M1 M2 ⟨G, nt, zs, h⟩
  have bad : ∀ {r : Int32}, En (f_X5_sheet x1 x2 x3 M1) (fun q => q = (r, M1)) → En (f_X6_sheet x1 x2 x3 M2) (fun q => q = (r, M2)) → ∃ r N1 N2, f_X5_sheet x1 x2 x3 M1 = some (r, N1) ∧ f_X6_sheet x1 x2 x3 M2 = some (r, N2) ∧ Rel N1 N2 := fun e1 e2 => st_go e1 e2 ⟨G, nt, zs, h⟩
  have m1 : (-1 : Int32).toInt = -1 := by decide
  by_cases hx : ∃ i, i < 4 ∧ x1 = nI i
  · obtain ⟨s, hs, rfl⟩ := hx
    by_cases h2 : x2 < -1
    · refine bad (r := -2) ?_ ?_
      · unfold f_X5_sheet; exact en_bd' (sh_has M1 ⟨s, hs, rfl⟩) (en_f (by decide) (en_t h2 (en_some rfl)))
      · unfold f_X6_sheet; exact en_bd' (sh_is M2 ⟨s, hs, rfl⟩) (en_f (by decide) (en_bd' (rin_no (a := -1) (c := 2) rfl rfl (out_lo h2) M2) (en_t rfl (en_some rfl))))
    · rcases tri x2 (n := 2) (by omega) with q | q | ⟨so, hso, rfl⟩
      · have e1 : x2 = -1 := by
          rw [Int32.lt_iff_toInt_lt] at h2 q
          have : (0 : Int32).toInt = 0 := by decide
          rw [← Int32.toInt_inj]
          omega
        subst e1
        refine st_of (P := fun q => q.1 = 1 ∧ Sm (KLs s) KA M1 q.2 ∧ q.2.1 22 s = -1) (Q := fun q => q.1 = 1 ∧ Sm (KRs s) KA M2 q.2 ∧ q.2.1 16 s = 0) ?_ ?_ ?_
        · unfold f_X5_sheet
          refine en_bd' (sh_has M1 ⟨s, hs, rfl⟩) (en_f (by decide) (en_f h2 (en_t (by decide) (en_t rfl (en_bv (en_imp (c_slay (sz := 0) hs (by omega) M1) ?_))))))
          rintro N ⟨a, b, c, d⟩
          exact en_some ⟨rfl, a, b⟩
        · unfold f_X6_sheet f_X6_sheet_j34 f_X6_sheet_j45 f_X6_sheet_j59
          refine en_bd' (sh_is M2 ⟨s, hs, rfl⟩) (en_f (by decide) (en_bd' (rin_yes (a := -1) (c := 2) rfl rfl (by decide) M2) (en_f (by decide) (en_t (by decide) (en_t (by decide) (en_t (by decide) (en_gd (bin_nI hs (by omega)) (en_bmv fun A1 e1 => en_gd (bin_nI hs (by omega)) (en_bmv fun A2 e2 => en_gd (bin_nI hs (by omega)) (en_bmv fun A3 e3 => ?_))))))))))
          rw [cl_nI (by omega)] at e1 e2 e3
          have hs3 : Sm (KRs s) KA M2 A3 := ((sm_1 e1 (by unfold KRs; simp)).tr (sm_1 e2 (by unfold KRs; simp))).tr (sm_1 e3 (by unfold KRs; simp))
          have h16 : A3.1 16 s = 0 := by rw [ms_off e3 (by omega), ms_off e2 (by omega), ms_at e1]; rfl
          obtain ⟨f, hf⟩ : ∃ f, fuel = f + 1 := ⟨fuel - 1, by have := fuel_gt; omega⟩
          rw [hf]
          refine en_of (it_r (y := ((1 : Int32), A3)) (en_eq ?_)) ⟨rfl, hs3, h16⟩
          show En (f_X6_sheet_b77 (nI s) (-1) x3 0 A3) _
          unfold f_X6_sheet_b77
          exact en_ite (fun _ => en_ex (en_some rfl)) (fun _ => en_t (by decide) (en_ex (en_some rfl)))
        · rintro ⟨a, N1⟩ ⟨b, N2⟩ ⟨p1, p2, p3⟩ ⟨q1, q2, q3⟩
          exact ⟨p1.trans q1.symm, G, nt, zs, h.sh1 p2 q2 (Or.inl ⟨p3, q3⟩)⟩
      · refine bad (r := -2) ?_ ?_
        · unfold f_X5_sheet; exact en_bd' (sh_has M1 ⟨s, hs, rfl⟩) (en_f (by decide) (en_f h2 (en_f (Int32.not_lt.mpr (lt_le (n := 2) (by omega) q)) (en_some rfl))))
        · unfold f_X6_sheet; exact en_bd' (sh_is M2 ⟨s, hs, rfl⟩) (en_f (by decide) (en_bd' (rin_no (a := -1) (c := 2) rfl rfl (out_hi q) M2) (en_t rfl (en_some rfl))))
      · have so2 : nI so ≤ 2 := by show nI so ≤ nI 2; rw [nI_leI (by omega) (by omega)]; exact hso
        have so3 : nI so < 3 := by show nI so < nI 3; rw [nI_ltI (by omega) (by omega)]; omega
        have so1 : (-1 : Int32) ≤ nI so := by rw [Int32.le_iff_toInt_le, nI_toInt (by omega)]; omega
        have rs : f_X6_in (nI so).toInt64 (-1) 2 M2 = some (1, M2) := rin_yes (a := -1) (c := 2) rfl rfl ⟨so1, so2⟩ M2
        rcases tri x3 (n := 40) (by omega) with q | q | ⟨sz, hz, rfl⟩
        · have h40 : x3 ≤ 40 := by
            rw [Int32.lt_iff_toInt_lt] at q
            rw [Int32.le_iff_toInt_le]
            have : (0 : Int32).toInt = 0 := by decide
            have : (40 : Int32).toInt = 40 := by decide
            omega
          refine bad (r := -14) ?_ ?_
          · unfold f_X5_sheet
            exact en_bd' (sh_has M1 ⟨s, hs, rfl⟩) (en_f (by decide) (en_f h2 (en_t so3 (en_f (nI_m1 (by omega)) (en_t h40 (en_f (Int32.not_le.mpr q) (en_some rfl)))))))
          · unfold f_X6_sheet f_X6_sheet_j34
            exact en_bd' (sh_is M2 ⟨s, hs, rfl⟩) (en_f (by decide) (en_bd' rs (en_f (by decide) (en_f (nI_ltz (by omega)) (en_t h40 (en_f (nI_ltz (by omega)) (en_f (Int32.not_le.mpr q) (en_some rfl))))))))
        · refine bad (r := -2) ?_ ?_
          · unfold f_X5_sheet
            exact en_bd' (sh_has M1 ⟨s, hs, rfl⟩) (en_f (by decide) (en_f h2 (en_t so3 (en_f (nI_m1 (by omega)) (en_f (Int32.not_le.mpr q) (en_some rfl))))))
          · unfold f_X6_sheet
            exact en_bd' (sh_is M2 ⟨s, hs, rfl⟩) (en_f (by decide) (en_bd' rs (en_f (by decide) (en_f (nI_ltz (by omega)) (en_f (Int32.not_le.mpr q) (en_some rfl))))))
        · refine st_of (P := fun q => q.1 = 1 ∧ Sm (KLs s) KA M1 q.2 ∧ q.2.1 22 s = nI so ∧ q.2.1 23 s = nI sz ∧ ∀ i, i < sz → q.2.1 24 (40 * s + i) = 0) ?_ (r_sheet hs hso hz M2 (r_slay hs hso hz M2)) ?_
          · unfold f_X5_sheet
            refine en_bd' (sh_has M1 ⟨s, hs, rfl⟩) (en_f (by decide) (en_f h2 (en_t so3 (en_f (nI_m1 (by omega)) (en_t ?_ (en_t (nI_pos' (by omega)) (en_bv (en_imp (c_slay hs hz M1) ?_))))))))
            · show nI sz ≤ nI 40
              rw [nI_leI (by omega) (by omega)]; exact hz
            · rintro N ⟨a, b, c, d⟩
              exact en_some ⟨rfl, a, b, c, d⟩
          · rintro ⟨a, N1⟩ ⟨b, N2⟩ ⟨p1, p2, p3, p4, p5⟩ ⟨q1, q2, q3, q4, q5, q6⟩
            exact ⟨p1.trans q1.symm, G, nt, zs, h.sh1 p2 q2 (Or.inr ⟨so, sz, hso, hz, p3, p4, q3, q4, q5, fun i hi => (p5 i hi).trans (q6 i hi).symm⟩)⟩
  · refine bad (r := -2) ?_ ?_
    · unfold f_X5_sheet; exact en_bd' (sh_hasn M1 hx) (en_t rfl (en_some rfl))
    · unfold f_X6_sheet; exact en_bd' (sh_isn M2 hx) (en_t rfl (en_some rfl))
/-! a cell -/
def nrw (so : Nat) (v : Int32) : Int32 := if so = 0 then Int8.toInt32 (Int32.toInt8 v) else if so = 1 then Int16.toInt32 (Int32.toInt16 v) else v
theorem sh_put {so sz i : Nat} (v : Int32) (hs : s < 4) (hso : so ≤ 2) (hz : sz ≤ 40) (h22 : M.1 22 s = nI so) (h23 : M.1 23 s = nI sz) (hi : i < sz) : f_X1_put (nI s) (nI i) v M = some (ms M 24 (40 * s + i) (nrw so v)) := by
  refine en_eq ?_
  unfold f_X1_put
  refine en_bd' (sp_yes (n := 1) hs hz h23 (by omega)) (en_f (by decide) (en_gd (bin_nI hs (by omega)) ?_))
  rw [cl_nI (by omega), h22]
  have j44 : ∀ w : Int32, En (f_X1_put_j44 (nI s) (nI i) w M) (fun q => q = ms M 24 (40 * s + i) w) := by
    intro w
    unfold f_X1_put_j44
    rw [show nI s * 40 = nI (40 * s) by rw [Nat.mul_comm]; exact pk_mul s 40, nI_add]
    refine en_gd (bin_nI (by omega) (by omega)) (en_bm (en_some ?_))
    rw [cl_nI (by omega)]
  rcases (by omega : so = 0 ∨ so = 1 ∨ so = 2) with rfl | rfl | rfl
  · exact en_t rfl (en_bi (j44 _))
  · exact en_f (by decide) (en_gd (bin_nI hs (by omega)) (en_t rfl (en_bi (j44 _))))
  · exact en_f (by decide) (en_gd (bin_nI hs (by omega)) (en_f (by decide) (j44 _)))
theorem Shs.put {so sz i : Nat} {v : Int32} (hso : so ≤ 2) (hz : sz ≤ 40) (a3 : M1.1 22 s = nI so) (a4 : M1.1 23 s = nI sz) (a5 : M2.1 16 s = 1) (a6 : M2.1 17 s = nI so) (a7 : M2.1 18 s = nI sz) (a8 : ∀ i, i < sz → M1.1 24 (40 * s + i) = M2.1 19 (40 * s + i)) : Shs (ms M1 24 (40 * s + i) v) (ms M2 19 (40 * s + i) v) s := by
  refine Or.inr ⟨so, sz, hso, hz, by rw [ms_off rfl (by omega)]; exact a3, by rw [ms_off rfl (by omega)]; exact a4, by rw [ms_off rfl (by omega)]; exact a5, by rw [ms_off rfl (by omega)]; exact a6, by rw [ms_off rfl (by omega)]; exact a7, fun j hj => ?_⟩
  by_cases q : j = i
  · subst q; rw [ms_at rfl, ms_at rfl]
  · rw [ms_off rfl (by omega), ms_off rfl (by omega)]; exact a8 j hj
theorem s_cell : St3 Rel f_X5_cell f_X6_cell := by
  rintro x1 x2 x3 M1 M2 ⟨G, nt, zs, h⟩
  have bad : ∀ {r : Int32}, En (f_X5_cell x1 x2 x3 M1) (fun q => q = (r, M1)) → En (f_X6_cell x1 x2 x3 M2) (fun q => q = (r, M2)) → ∃ r N1 N2, f_X5_cell x1 x2 x3 M1 = some (r, N1) ∧ f_X6_cell x1 x2 x3 M2 = some (r, N2) ∧ Rel N1 N2 := fun e1 e2 => st_go e1 e2 ⟨G, nt, zs, h⟩
  by_cases hx : ∃ i, i < 4 ∧ x1 = nI i
  · obtain ⟨s, hs, rfl⟩ := hx
    rcases h.2.2.2.2.2.1 s hs with ⟨a, b⟩ | ⟨so, sz, a1, a2, a3, a4, a5, a6, a7, a8⟩
    · refine bad (r := -11) ?_ ?_
      · unfold f_X5_cell; exact en_bd' (sh_has M1 ⟨s, hs, rfl⟩) (en_f (by decide) (en_bd' (sh_mis hs a) (en_f (by decide) (en_some rfl))))
      · unfold f_X6_cell
        refine en_bd' (sh_is M2 ⟨s, hs, rfl⟩) (en_f (by decide) (en_gd (bin_nI hs (by omega)) ?_))
        rw [cl_nI (by omega)]
        exact en_t b (en_some rfl)
    · have rgo : ∀ {P : Int32 × Mm → Prop}, En (bd (f_X6_in (Int32.toInt64 x2) (0 : Int64) (Int32.toInt64 (nI sz - (1 : Int32))) M2) fun r4 M3 => if r4 = 0 then some ((-12 : Int32), M3) else gd (bin (nI s) 4 = true) inferInstance <| if (M3.1 17 s) = 0 then f_X6_cell_j83 (Int8.toInt32 (Int32.toInt8 x3)) (((40 : Int32) * nI s) + x2) M3 else gd (bin (nI s) 4 = true) inferInstance <| if (M3.1 17 s) = (1 : Int32) then f_X6_cell_j83 (Int16.toInt32 (Int32.toInt16 x3)) (((40 : Int32) * nI s) + x2) M3 else f_X6_cell_j83 x3 (((40 : Int32) * nI s) + x2) M3) P → En (f_X6_cell (nI s) x2 x3 M2) P := by
        intro P hP
        unfold f_X6_cell
        refine en_bd' (sh_is M2 ⟨s, hs, rfl⟩) (en_f (by decide) (en_gd (bin_nI hs (by omega)) ?_))
        rw [cl_nI (by omega), a5, a7]
        exact en_f (by decide) (en_gd (bin_nI hs (by omega)) hP)
      by_cases hi : ∃ i, i < sz ∧ x2 = nI i
      · obtain ⟨i, hi, rfl⟩ := hi
        refine st_go (r := 1) (N1 := ms M1 24 (40 * s + i) (nrw so x3)) (N2 := ms M2 19 (40 * s + i) (nrw so x3)) ?_ (rgo (en_bd' (rin_yes (a := 0) rfl rfl ((below_iff (by omega)).mpr ⟨i, hi, rfl⟩) M2) (en_f (by decide) (en_gd (bin_nI hs (by omega)) ?_)))) ⟨G, nt, zs, h.sh1 (sm_a rfl (by unfold KLs; simp; omega) : Sm (KLs s) KA M1 _) (sm_a rfl (by unfold KRs; simp; omega) : Sm (KRs s) KA M2 _) (Shs.put a1 a2 a3 a4 a5 a6 a7 a8)⟩
        · unfold f_X5_cell
          refine en_bd' (sh_has M1 ⟨s, hs, rfl⟩) (en_f (by decide) (en_bd' (sh_nmis hs a1 a3) (en_t rfl (en_f (nI_ltz (by omega)) (en_bd' (sh_size hs M1) ?_)))))
          rw [a4]
          exact en_t (by rw [nI_ltI (by omega) (by omega)]; exact hi) (en_bv' (sh_put x3 hs a1 a2 a3 a4 hi) (en_some rfl))
        · have j83 : ∀ w : Int32, En (f_X6_cell_j83 w (((40 : Int32) * nI s) + nI i) M2) (fun q => q = (1, ms M2 19 (40 * s + i) w)) := by
            intro w
            unfold f_X6_cell_j83
            rw [show (40 : Int32) * nI s = nI (40 * s) from pk_mul 40 s, nI_add]
            refine en_gd (bin_nI (by omega) (by omega)) (en_bm (en_some ?_))
            rw [cl_nI (by omega)]
          rw [a6]
          rcases (by omega : so = 0 ∨ so = 1 ∨ so = 2) with rfl | rfl | rfl
          · exact en_t rfl (j83 _)
          · exact en_f (by decide) (en_gd (bin_nI hs (by omega)) (en_t rfl (j83 _)))
          · exact en_f (by decide) (en_gd (bin_nI hs (by omega)) (en_f (by decide) (j83 _)))
      · refine bad (r := -12) ?_ (rgo (en_bd' (rin_no (a := 0) rfl rfl (fun z => hi ((below_iff (by omega)).mp z)) M2) (en_t rfl (en_some rfl))))
        unfold f_X5_cell
        refine en_bd' (sh_has M1 ⟨s, hs, rfl⟩) (en_f (by decide) (en_bd' (sh_nmis hs a1 a3) (en_t rfl (en_ite (fun _ => en_some rfl) (fun q => en_bd' (sh_size hs M1) (en_f ?_ (en_some rfl)))))))
        obtain ⟨j, hj, rfl⟩ := nI_of q
        rw [a4, nI_ltI hj (by omega)]
        exact fun z => hi ⟨j, z, rfl⟩
  · refine bad (r := -2) ?_ ?_
    · unfold f_X5_cell; exact en_bd' (sh_hasn M1 hx) (en_t rfl (en_some rfl))
    · unfold f_X6_cell; exact en_bd' (sh_isn M2 hx) (en_t rfl (en_some rfl))
end SHEET
