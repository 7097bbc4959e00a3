/-! ===== the class's supper: the minutes ===== -/
section CRUN3
variable {G : Gt} {T : Tb} {s : Sx} {M M1 : Mm} {N mi k : Nat} {w : Wy}
theorem lz_pass (hz : Lz s) : ∀ e, Lz (passF T mi e s) := by
  intro e j hj
  obtain ⟨h1, h2, -⟩ := passF_had (T := T) (mi := mi) (s := s) e
  rw [h1] at hj
  rw [h2]
  exact hz j hj
theorem lz_min (hz : Lz s) : Lz (minF T w mi s) := lz_pass (s := fairF T (serveF T w mi (tB T) s)) (lz_serve hz (tB T)) 5
theorem lz_run : ∀ i, Lz (runF T w i)
  | 0 => fun _ _ => rfl
  | i + 1 => lz_min (lz_run i)
theorem mo_ge {had : Nat → Nat} : ∀ k e, e < k → sit T e = true → had e ≤ mo T had k
  | 0, e, he, _ => by omega
  | k + 1, e, he, hs => by
    unfold mo
    rcases Nat.lt_or_ge e k with q | q
    · have := mo_ge (had := had) k e q hs
      split <;> omega
    · have : e = k := by omega
      subst this
      rw [if_pos hs]
      omega
theorem lea_mo (had : Nat → Nat) : lea T had ≤ mo T had 5 := by
  unfold lea
  cases hf : fl T had 5 with
  | none => exact Nat.zero_le _
  | some j => exact mo_ge 5 j (fl_some hf).2 (fl_some hf).1
theorem lea_0 : lea T (fun _ => 0) = 0 := by
  unfold lea
  split <;> rfl
theorem pass_no {e : Nat} (h : ¬ (sit T e = true ∧ xh s e < twa T e ∧ xl s e ≤ mi)) : passOne T mi e s = s := if_neg h
theorem pass_yes {e : Nat} (h : sit T e = true ∧ xh s e < twa T e ∧ xl s e ≤ mi) : passOne T mi e s = ((xh s, upN (xw s) e (xw s e + 1), xl s), (xc s + nI (thu T e mi (xh s e) (lea T (xh s))), xf s, xg s, xs s)) := if_pos h
theorem c_passOne (h : CR G T s M) (hb : Bd N s) (hN : N < 2 ^ 18) (hz : Lz s) (hmi : mi < 60) (hk5 : k < 5) {P : (Int32 × Mm) ⊕ Mm → Prop} (hgo : ∀ M2, Sm KX KA M M2 → CR G T (passOne T mi k s) M2 → P (.inl (nI (k + 1), M2))) : En (f_X2_pass_b2 (nI mi) (nI k) M) P := by
  have hk1 : nI k + 1 = nI (k + 1) := nI_add k 1
  obtain ⟨h13, hm5, h67', h10, hB12⟩ := h.cap
  obtain ⟨⟨hT, hG, hA, h67, h28, h25, hC⟩, hD⟩ := id h
  have skip : passOne T mi k s = s → P (.inl (nI k + 1, M)) := by
    intro q
    rw [hk1]
    exact hgo M Sm.rf (by rw [q]; exact h)
  unfold f_X2_pass_b2
  refine en_f (by show ¬ nI 5 ≤ nI k; rw [nI_leI (by omega) (by omega)]; omega) ?_
  refine en_bd' (sits_in h13 hm5 h67 (by omega)) (en_ite (fun hs => ?_) (fun hs => ?_))
  · have hs := if10.mp hs
    exact en_bi (en_some (skip (pass_no fun z => hs z.1)))
  · have hs : sit T k = true := Classical.not_not.mp (fun z => hs (if10.mpr z))
    have hkm := sit_m hs
    have hkm' : k < yM G := by rw [← hT.2.1]; exact hkm
    have hw12 := (hG.2.2.2.2.1 k).2.2.1
    have hwa : twa T k = yW G k := by rw [hT.2.2.1]
    have hhk := hb.1 k
    have hlk := hb.2.2.1 k
    refine en_gd (bin_nI hk5 (by omega)) (en_gd (bin_nI hk5 (by omega)) ?_)
    rw [cl_nI (by omega), (hA.2.2.2.2.1 k hkm').2.2.1, (hD.1 k hk5).1]
    refine en_ite (fun hle => ?_) (fun hle => ?_)
    · rw [nI_leI (by omega) (by omega)] at hle
      exact en_bi (en_some (skip (pass_no fun z => by rw [hwa] at z; omega)))
    · rw [nI_leI (by omega) (by omega)] at hle
      refine en_gd (bin_nI hk5 (by omega)) ?_
      rw [(hD.1 k hk5).2.2]
      have hlast : nI mi < lasI s k ↔ mi < xl s k := by
        unfold lasI
        by_cases q : xh s k = 0
        · rw [if_pos q, hz k q]
          constructor
          · intro z
            rw [Int32.lt_iff_toInt_lt, nI_toInt (by omega)] at z
            have : (-1 : Int32).toInt = -1 := by decide
            omega
          · intro z; omega
        · rw [if_neg q, nI_ltI (by omega) (by omega)]
      refine en_ite (fun hl => ?_) (fun hl => ?_)
      · rw [hlast] at hl
        exact en_bi (en_some (skip (pass_no fun z => by omega)))
      · rw [hlast] at hl
        have hcond : sit T k = true ∧ xh s k < twa T k ∧ xl s k ≤ mi := ⟨hs, by rw [hwa]; omega, by omega⟩
        have hP := pass_yes hcond
        refine en_gd (bin_nI hk5 (by omega)) (en_gd (bin_nI hk5 (by omega)) (en_bmv fun M6 e6 => ?_))
        have hs6 : Sm K32 KA M M6 := sm_1 e6 rfl
        obtain ⟨d1, d2, d3, d4, d5, d6⟩ := id hD
        have hR6 : CR G T ((xh s, upN (xw s) k (xw s k + 1), xl s), (xc s, xf s, xg s, xs s)) M6 := by
          refine ⟨h.1.same hs6 kx_32 (hC.same hs6 (fun _ => rfl)), ⟨fun j hj => ⟨?_, ?_, ?_⟩, ?_, ?_, ?_, ?_, ?_⟩⟩
          · rw [ms_off e6 (by omega)]; exact (d1 j hj).1
          · show M6.1 30 j = nI (upN (xw s) k (xw s k + 1) j)
            by_cases q : j = k
            · subst q
              rw [ms_at e6, upN_s, (d1 j hj).2.1]
              exact nI_add _ 1
            · rw [ms_off e6 (by omega), upN_n q]; exact (d1 j hj).2.1
          · rw [ms_off e6 (by omega)]; exact (d1 j hj).2.2
          · rw [ms_off e6 (by omega)]; exact d2
          · rw [ms_off e6 (by omega)]; exact d3
          · rw [ms_off e6 (by omega)]; exact d4
          · rw [ms_off e6 (by omega)]; exact d5
          · rw [ms_off e6 (by omega)]; exact d6
        have hb6 : Bd (N + 1) ((xh s, upN (xw s) k (xw s k + 1), xl s), (xc s, xf s, xg s, xs s)) := by
          have := pass_bd (T := T) (mi := mi) hb k
          rw [hP] at this
          exact this
        refine en_bd (en_imp (c_hun hR6 hb6 (by omega) hkm hmi (show xh s k ≤ 12 by omega)) ?_)
        rintro ⟨r8, M7⟩ ⟨g1, g2, g3⟩
        have g1 : r8 = nI (thu T k mi (xh s k) (lea T (xh s))) := g1
        have g2 : Sm KY KA M6 M7 := g2
        have g3 : CR G T ((xh s, upN (xw s) k (xw s k + 1), xl s), (xc s, xf s, xg s, xs s)) M7 := g3
        refine en_bmv fun M9 e9 => en_bi (en_some ?_)
        rw [hk1]
        have hs9 : Sm K32 KA M7 M9 := sm_1 e9 rfl
        obtain ⟨⟨-, -, -, -, -, -, hC7⟩, ⟨k1, k2, k3, k4, k5, k6⟩⟩ := id g3
        refine hgo M9 (((hs6.weak kx_32 (fun _ z => z)).tr (g2.weak kx_y (fun _ z => z))).tr (hs9.weak kx_32 (fun _ z => z))) ?_
        rw [hP]
        refine ⟨g3.1.same hs9 kx_32 (hC7.same hs9 (fun _ => rfl)), ⟨fun j hj => ⟨?_, ?_, ?_⟩, ?_, ?_, ?_, ?_, ?_⟩⟩
        · rw [ms_off e9 (by omega)]; exact (k1 j hj).1
        · rw [ms_off e9 (by omega)]; exact (k1 j hj).2.1
        · rw [ms_off e9 (by omega)]; exact (k1 j hj).2.2
        · rw [ms_off e9 (by omega)]; exact k2
        · rw [ms_at e9, ms_off e6 (by omega), d3, g1]; rfl
        · rw [ms_off e9 (by omega)]; exact k4
        · rw [ms_off e9 (by omega)]; exact k5
        · rw [ms_off e9 (by omega)]; exact k6
theorem c_pass (h : CR G T s M) (hb : Bd N s) (hN : N < 2 ^ 16) (hz : Lz s) (hmi : mi < 60) : En (f_X2_pass (nI mi) M) (fun M1 => Sm KX KA M M1 ∧ CR G T (passF T mi 5 s) M1) := by
  unfold f_X2_pass
  refine en_iter (fun (z : Int32 × Mm) => ∃ k, k ≤ 5 ∧ z.1 = nI k ∧ Sm KX KA M z.2 ∧ CR G T (passF T mi k s) z.2) (fun z => 6 - z.1.toNatClampNeg) ⟨0, by omega, rfl, Sm.rf, h⟩ (by have := fuel_gt; omega) ?_
  rintro ⟨x2, M'⟩ ⟨k, hk, rfl, hs', hR'⟩
  have hs' : Sm KX KA M M' := hs'
  have hR' : CR G T (passF T mi k s) M' := hR'
  show En (f_X2_pass_b2 (nI mi) (nI k) M') _
  rcases Nat.lt_or_ge k 5 with q | q
  · refine c_passOne hR' (passF_bd (T := T) (mi := mi) hb k) (by omega) (lz_pass (T := T) (mi := mi) hz k) hmi q fun M2 g1 g2 => ⟨⟨k + 1, by omega, rfl, hs'.tr g1, g2⟩, ?_⟩
    show 6 - (nI (k + 1)).toNatClampNeg < 6 - (nI k).toNatClampNeg
    rw [nI_clamp (by omega), nI_clamp (by omega)]
    omega
  · unfold f_X2_pass_b2
    have e5 : k = 5 := by omega
    subst e5
    exact en_t (by decide) (en_ex (en_some ⟨hs', hR'⟩))
theorem CR.fair (h : CR G T s M) {v : Nat} {M2 : Mm} (e : M2 = ms M 6 13 (nI v)) : CR G T (setF v s) M2 := by
  have hs : Sm K32 KA M M2 := sm_1 e rfl
  obtain ⟨⟨hT, hG, hA, h67, h28, h25, hC⟩, ⟨d1, d2, d3, d4, d5, d6⟩⟩ := id h
  refine ⟨h.1.same hs kx_32 (hC.same hs (fun _ => rfl)), ⟨fun j hj => ⟨?_, ?_, ?_⟩, ?_, ?_, ?_, ?_, ?_⟩⟩
  · rw [ms_off e (by omega)]; exact (d1 j hj).1
  · rw [ms_off e (by omega)]; exact (d1 j hj).2.1
  · rw [ms_off e (by omega)]; exact (d1 j hj).2.2
  · rw [ms_off e (by omega)]; exact d2
  · rw [ms_off e (by omega)]; exact d3
  · rw [ms_at e]; rfl
  · rw [ms_off e (by omega)]; exact d5
  · rw [ms_off e (by omega)]; exact d6
theorem bd_set {v : Nat} (h : Bd N s) (hv : v ≤ N) : Bd N (setF v s) := ⟨h.1, h.2.1, h.2.2.1, hv, h.2.2.2.2.1, h.2.2.2.2.2⟩
theorem c_min {x1 : Int32} (h : CR G T s M) (hm : CM T M) (hb : Bd N s) (hN : N < 2 ^ 14) (hz : Lz s) (hf : Fok T s) (hmi : mi < 60) (hw : WC T w x1 M) {P : (Int32 × Mm) ⊕ Mm → Prop} (hgo : ∀ M2, Sm KX KA M M2 → CR G T (minF T w mi s) M2 → P (.inl (nI (mi + 1), M2))) : En (f_X2_run_b61 x1 (nI mi) M) P := by
  obtain ⟨h13, hm5, h67', h10, hB12⟩ := h.cap
  have hea := h.1.1.2.2.2.2.2.1
  have fin : ∀ s1 M2, Sm KX KA M M2 → CR G T s1 M2 → Bd (N + 15) s1 → Lz s1 → minF T w mi s = passF T mi 5 s1 → En (f_X2_run_j106 x1 (nI mi) M2) P := by
    intro s1 M2 q1 q2 q3 q4 q5
    unfold f_X2_run_j106
    refine en_bv (en_imp (c_pass q2 q3 (by omega) q4 hmi) ?_)
    rintro M3 ⟨g1, g2⟩
    refine en_bi (en_some ?_)
    rw [show nI mi + 1 = nI (mi + 1) from nI_add mi 1]
    exact hgo M3 (q1.tr g1) (by rw [q5]; exact g2)
  unfold f_X2_run_b61
  refine en_f (by show ¬ nI 60 ≤ nI mi; rw [nI_leI (by omega) (by omega)]; omega) ?_
  refine en_ite (fun hbit => ?_) (fun hbit => ?_)
  · rw [mbit_get hmi] at hbit
    have hno : ∀ k, k < tB T → tsv T k ≠ mi := by
      intro k hk q
      have := (hm mi hmi).mpr ⟨k, hk, q⟩
      rw [hbit] at this
      cases this
    refine fin s M Sm.rf h (hb.up (by omega)) hz ?_
    unfold minF
    rw [serve_none hno (tB T) (Nat.le_refl _), fair_same hf]
  · have hbs := serve_bd (T := T) (w := w) (mi := mi) hea (by omega) hb (tB T)
    refine en_bv (en_imp (c_serve h hb (by omega) hz hmi hw) ?_)
    rintro M8 ⟨g1, g2⟩
    obtain ⟨k13, -, k67, -, -⟩ := g2.cap
    obtain ⟨-, ⟨d1, d2, d3, d4, d5, d6⟩⟩ := id g2
    refine en_bd' (c_mo k13 hm5 k67 hbs.1 (by omega) (fun e he => (d1 e he).1)) (en_bmv fun M11 e11 => ?_)
    have hle := lea_mo (T := T) (xh (serveF T w mi (tB T) s))
    have hmo := mo_le (T := T) hbs.1 5
    have hxf := hbs.2.2.2.1
    rw [d4, d2, pk_sub hle, imx_nI (by omega) (by omega)] at e11
    refine fin (fairF T (serveF T w mi (tB T) s)) M11 (g1.tr (sm_1 e11 rfl)) (g2.fair e11) ((bd_set hbs (by omega)).up (by omega)) ?_ rfl
    exact lz_serve hz (tB T)
theorem CM.same (h : CM T M) (hs : Sm KX KA M M1) : CM T M1 := by
  intro i hi
  rw [hs.2 6 rfl]
  exact h i hi
theorem c_run {x1 : Int32} (h : CT G T M) (hm : CM T M) (hw : WC T w x1 M) : En (f_X2_run x1 M) (fun M1 => Sm KX KA M M1 ∧ CR G T (runF T w 60) M1) := by
  obtain ⟨hT, hG, hA, h67, h28, h25, hC⟩ := id h
  have hea := hT.2.2.2.2.2.1
  have hB12 : tB T ≤ 12 := by rw [hT.1]; exact hG.1
  unfold f_X2_run
  refine en_iter (fun (z : Int32 × Mm) => ∃ k, k ≤ 5 ∧ z.1 = nI k ∧ Sm K32 KA M z.2 ∧ ∀ e, e < k → z.2.1 29 e = 0 ∧ z.2.1 30 e = 0 ∧ z.2.1 31 e = -1) (fun z => 6 - z.1.toNatClampNeg) ⟨0, by omega, rfl, Sm.rf, fun e he => by omega⟩ (by have := fuel_gt; omega) ?_
  rintro ⟨x2, M'⟩ ⟨k, hk, rfl, hs', hR'⟩
  have hs' : Sm K32 KA M M' := hs'
  have hR' : ∀ e, e < k → M'.1 29 e = 0 ∧ M'.1 30 e = 0 ∧ M'.1 31 e = -1 := hR'
  show En (f_X2_run_b2 x1 (nI k) M') _
  unfold f_X2_run_b2
  refine en_ite (fun hc => en_ex ?_) (fun hc => ?_)
  · have hc : nI 5 ≤ nI k := hc
    rw [nI_leI (by omega) (by omega)] at hc
    have e5 : k = 5 := by omega
    subst e5
    refine en_bmv fun M1 e1 => en_bmv fun M2 e2 => en_bmv fun M3 e3 => en_bmv fun M4 e4 => en_bmv fun M5 e5 => ?_
    have hs5 : Sm K32 KA M M5 := hs'.tr (((((sm_1 e1 rfl).tr (sm_1 e2 rfl)).tr (sm_1 e3 rfl)).tr (sm_1 e4 rfl)).tr (sm_1 e5 rfl))
    have off : ∀ o k, o ≠ 6 → M5.1 o k = M'.1 o k := by
      intro o k ho
      rw [ms_off e5 (by omega), ms_off e4 (by omega), ms_off e3 (by omega), ms_off e2 (by omega), ms_off e1 (by omega)]
    have hR5 : CR G T s0 M5 := by
      refine ⟨h.same hs5 kx_32 (hC.same hs5 (fun _ => rfl)), ⟨fun j hj => ⟨?_, ?_, ?_⟩, ?_, ?_, ?_, ?_, ?_⟩⟩
      · rw [off 29 j (by omega), (hR' j hj).1]; rfl
      · rw [off 30 j (by omega), (hR' j hj).2.1]; rfl
      · rw [off 31 j (by omega), (hR' j hj).2.2]; rfl
      · rw [ms_off e5 (by omega), ms_off e4 (by omega), ms_off e3 (by omega), ms_off e2 (by omega), ms_at e1]
        show 0 = nI (lea T (fun _ => 0))
        rw [lea_0]; rfl
      · rw [ms_off e5 (by omega), ms_off e4 (by omega), ms_off e3 (by omega), ms_at e2]; rfl
      · rw [ms_off e5 (by omega), ms_off e4 (by omega), ms_at e3]; rfl
      · rw [ms_off e5 (by omega), ms_at e4]; rfl
      · rw [ms_at e5]; rfl
    have hs5x : Sm KX KA M M5 := hs5.weak kx_32 (fun _ z => z)
    refine en_iter (fun (z : Int32 × Mm) => ∃ i, i ≤ 60 ∧ z.1 = nI i ∧ Sm KX KA M z.2 ∧ CR G T (runF T w i) z.2) (fun z => 61 - z.1.toNatClampNeg) ⟨0, by omega, rfl, hs5x, hR5⟩ (by have := fuel_gt; omega) ?_
    rintro ⟨x2, M6⟩ ⟨i, hi, rfl, hs6, hR6⟩
    have hs6 : Sm KX KA M M6 := hs6
    have hR6 : CR G T (runF T w i) M6 := hR6
    show En (f_X2_run_b61 x1 (nI i) M6) _
    rcases Nat.lt_or_ge i 60 with q | q
    · refine c_min hR6 (hm.same hs6) (run_bd hea hB12 i (by omega)) (by omega) (lz_run i) (fok_run T w i) q (hw.same hs6) fun M7 g1 g2 => ⟨⟨i + 1, by omega, rfl, hs6.tr g1, g2⟩, ?_⟩
      show 61 - (nI (i + 1)).toNatClampNeg < 61 - (nI i).toNatClampNeg
      rw [nI_clamp (by omega), nI_clamp (by omega)]
      omega
    · unfold f_X2_run_b61
      have e60 : i = 60 := by omega
      subst e60
      exact en_t (by decide) (en_ex (en_some ⟨hs6, hR6⟩))
  · have hc : ¬ nI 5 ≤ nI k := hc
    rw [nI_leI (by omega) (by omega)] at hc
    refine en_gd (bin_nI (by omega) (by omega)) (en_bmv fun M12 e12 => en_gd (bin_nI (by omega) (by omega)) (en_bmv fun M13 e13 => en_gd (bin_nI (by omega) (by omega)) (en_bmv fun M14 e14 => en_bi (en_some ⟨⟨k + 1, by omega, nI_add k 1, hs'.tr (((sm_1 e12 rfl).tr (sm_1 e13 rfl)).tr (sm_1 e14 rfl)), fun e he => ?_⟩, ?_⟩))))
    · rw [show Int32.toNatClampNeg (nI k) = k from cl_nI (by omega)] at e12 e13 e14
      show M14.1 29 e = 0 ∧ M14.1 30 e = 0 ∧ M14.1 31 e = -1
      by_cases q : e = k
      · subst q
        refine ⟨?_, ?_, ?_⟩
        · rw [ms_off e14 (by omega), ms_off e13 (by omega), ms_at e12]
        · rw [ms_off e14 (by omega), ms_at e13]
        · rw [ms_at e14]
      · obtain ⟨a, b, c⟩ := hR' e (by omega)
        refine ⟨?_, ?_, ?_⟩
        · rw [ms_off e14 (by omega), ms_off e13 (by omega), ms_off e12 (by omega), a]
        · rw [ms_off e14 (by omega), ms_off e13 (by omega), ms_off e12 (by omega), b]
        · rw [ms_off e14 (by omega), ms_off e13 (by omega), ms_off e12 (by omega), c]
    · show 6 - (nI k + 1).toNatClampNeg < 6 - (nI k).toNatClampNeg
      rw [show nI k + 1 = nI (k + 1) from nI_add k 1, nI_clamp (by omega), nI_clamp (by omega)]
      omega
end CRUN3
