/-! ===== told, ready, count ===== -/
section TOLD
variable {G G' : Gt} {nt : Nat} {zs : Nat → Txt} {M1 M2 N1 N2 M : Mm} {T : Tb}
theorem k1_sc : ∀ o k, KC1 o k = true → KSc o k = true := by
  intro o k h
  unfold KC1 at h
  unfold KSc
  simp at h ⊢
  omega
theorem k1_y : ∀ o k, KC1 o k = true → KY o k = true := by
  intro o k h
  unfold KC1 at h
  unfold KY
  simp at h ⊢
  omega
theorem k1_x : ∀ o k, KC1 o k = true → KX o k = true := by
  intro o k h
  unfold KC1 at h
  unfold KX
  simp at h ⊢
  omega
theorem k1_q : ∀ o k, KR1 o k = true → KQ o k = true := by
  intro o k h
  unfold KR1 at h
  unfold KQ
  simp at h ⊢
  omega
theorem k1_u : ∀ o k, KR1 o k = true → KU o k = true := by
  intro o k h
  unfold KR1 at h
  unfold KU
  simp at h ⊢
  omega
/-- the class asks how hungry one is, whatever else stands there -/
theorem c_hun0 {e mi h l : Nat} (hC : CT G T M) (he : e < yM G) (hmi : mi < 60) (hh : h ≤ 12) (hl : l < 2 ^ 31) (h29 : M.1 29 e = nI h) (h11 : M.1 6 11 = nI l) : En (f_X2_hungers (nI e) (nI mi) M) (fun r => r.1 = nI (thu T e mi h l) ∧ Sm KY KA M r.2) := by
  obtain ⟨hT, hG, hA, h67, h28, h25, hCh⟩ := hC
  have hm5 : yM G ≤ 5 := hG.2.2.1
  have he5 : e < 5 := by omega
  have hidx : ((nI e * 60 + nI mi) * 13 + nI h) = nI ((e * 60 + mi) * 13 + h) := by
    rw [show nI e * 60 = nI (e * 60) from pk_mul e 60, nI_add, show nI (e * 60 + mi) * 13 = nI ((e * 60 + mi) * 13) from pk_mul _ 13, nI_add]
  have hlt : (e * 60 + mi) * 13 + h < 3900 := by omega
  unfold f_X2_hungers
  refine en_gd (bin_nI he5 (by omega)) ?_
  rw [cl_nI (by omega), h29, hidx]
  refine en_bi (en_f (nI_ltz (by omega)) (en_t (by show nI _ < nI 3900; rw [nI_ltI (by omega) (by omega)]; exact hlt) (en_gd (bin_nI hlt (by omega)) ?_)))
  rw [cl_nI (by omega)]
  have hv99 : hvz (yZ G) e mi h (yW G e) ≤ 99 := (cl_in (lo := 0) (hi := 99) (by omega) (by omega) _).2
  have fin : ∀ M2 : Mm, Sm KY KA M M2 → M2.1 32 ((e * 60 + mi) * 13 + h) = nI (hvz (yZ G) e mi h (yW G e)) → En (f_X2_hungers_j95 (nI e) (nI ((e * 60 + mi) * 13 + h)) M2) (fun r => r.1 = nI (thu T e mi h l) ∧ Sm KY KA M r.2) := by
    intro M2 hs hv
    have hA2 := hA.same (hs.weak k7_y (fun _ z => z))
    unfold f_X2_hungers_j95
    refine en_gd (bin_nI he5 (by omega)) (en_gd (bin_nI he5 (by omega)) (en_gd (bin_nI hlt (by omega)) (en_gd (bin_nI he5 (by omega)) ?_)))
    obtain ⟨a7, a8, a9, a10⟩ := hA2.2.2.2.2.1 e he
    rw [cl_nI (by omega), cl_nI (by omega), a7, a8, hv, hs.1 29 e rfl, hs.1 6 11 rfl, h29, h11]
    refine en_bd' (hungersOf_eq (hG.2.2.2.2.1 e).1 (hG.2.2.2.2.1 e).2.1 hv99 (by omega) (by omega) M2) (en_some ⟨?_, hs⟩)
    rw [hT.2.2.2.1]
  refine en_ite (fun hc => ?_) (fun hc => ?_)
  · refine en_gd (bin_nI he5 (by omega)) (en_gd (bin_nI he5 (by omega)) (en_bv ?_))
    rw [(hA.2.2.2.2.1 e he).2.2.1]
    refine en_imp (ask_ok (w := 1) (lo := 0) (hi := 99) hG hA (by omega) (by omega) (by omega)) ?_
    rintro M4 ⟨g1, g2⟩
    refine en_bd (en_imp g2 ?_)
    rintro ⟨r6, M5⟩ ⟨g3, g4⟩
    refine en_bd' g4 (en_gd (bin_nI hlt (by omega)) (en_bmv fun M9 e9 => ?_))
    have hs : Sm KY KA M M9 := (g3.weak kw_y (fun _ h => h)).tr (sm_1 e9 rfl)
    refine fin M9 hs ?_
    rw [ms_at e9]
    rfl
  · exact fin M Sm.rf ((hCh e mi h he5 hmi hh).resolve_left hc)
theorem hun_0 {e : Nat} {P : Nat} : thu (tG G P) e 0 0 0 = hunN (yK G e) (yN G e) (hvz (yZ G) e 0 0 (yW G e)) 0 0 := rfl
theorem s_told : St2 Rel f_X5_told f_X6_told := by
  rintro x1 x2 M1 M2 ⟨G, nt, zs, h⟩
  have hC := h.ac
  have hA := h.ar
  have hG := h.1.1
  have hm := hG.2.2.1
  have bad : ∀ {r : Int32}, En (f_X5_told x1 x2 M1) (fun q => q = (r, M1)) → En (f_X6_told x1 x2 M2) (fun q => q = (r, M2)) → ∃ r N1 N2, f_X5_told x1 x2 M1 = some (r, N1) ∧ f_X6_told x1 x2 M2 = some (r, N2) ∧ Rel N1 N2 := fun e1 e2 => st_go e1 e2 ⟨G, nt, zs, h⟩
  by_cases hx : ∃ i, i < yM G ∧ x1 = nI i
  · have c1 := has_yes hC.2.2.2.1 hm hx
    have r1 := isE_in hA.2.2.2.1 hm hx
    obtain ⟨i, hi, rfl⟩ := hx
    obtain ⟨a1, a2, a3, a4⟩ := hC.2.2.2.2.1 i hi
    obtain ⟨b1, b2, b3, b4⟩ := hA.2.2.2.2.1 i hi
    have hg := hG.2.2.2.2.1 i
    have hi5 : i < 5 := by omega
    rcases tri x2 (n := 5) (by omega) with q | q | ⟨j, hj, rfl⟩
    · have ne : ∀ j : Nat, j ≤ 5 → x2 ≠ nI j := fun j _ z => by rw [z] at q; exact nI_ltz (by omega) q
      refine bad (r := -2) ?_ ?_
      · unfold f_X5_told
        exact en_bd' c1 (en_f (by decide) (en_bi (en_swn (ne 0 (by omega)) (en_swn (ne 1 (by omega)) (en_swn (ne 2 (by omega)) (en_swn (ne 3 (by omega)) (en_swn (ne 4 (by omega)) (en_swn (ne 5 (by omega)) (en_swd (en_some rfl))))))))))
      · unfold f_X6_told
        exact en_bd' r1 (en_f (by decide) (en_bd' (rin_no (a := 0) (c := 5) rfl rfl (out_lo q) M2) (en_t rfl (en_some rfl))))
    · have ne : ∀ j : Nat, j ≤ 5 → x2 ≠ nI j := fun j hj z => by rw [z, nI_ltI (by omega) (by omega)] at q; omega
      refine bad (r := -2) ?_ ?_
      · unfold f_X5_told
        exact en_bd' c1 (en_f (by decide) (en_bi (en_swn (ne 0 (by omega)) (en_swn (ne 1 (by omega)) (en_swn (ne 2 (by omega)) (en_swn (ne 3 (by omega)) (en_swn (ne 4 (by omega)) (en_swn (ne 5 (by omega)) (en_swd (en_some rfl))))))))))
      · unfold f_X6_told
        exact en_bd' r1 (en_f (by decide) (en_bd' (rin_no (a := 0) (c := 5) rfl rfl (out_hi q) M2) (en_t rfl (en_some rfl))))
    · have r5 := rin_yes (x := nI j) (lo := 0) (hi := 5) (a := 0) (c := 5) rfl rfl (nI_btw (a := 0) (c := 5) (Nat.zero_le j) hj (by omega)) M2
      have hb : bin (nI i) 5 = true := bin_nI hi5 (by omega)
      rcases (by omega : j = 0 ∨ j = 1 ∨ j = 2 ∨ j = 3 ∨ j = 4 ∨ j = 5) with rfl | rfl | rfl | rfl | rfl | rfl
      · refine bad (r := nI (yK G i)) ?_ ?_
        · unfold f_X5_told
          refine en_bd' c1 (en_f (by decide) (en_bi (en_swy rfl (en_gd hb (en_some ?_)))))
          rw [cl_nI (by omega), a1]
        · unfold f_X6_told
          refine en_bd' r1 (en_f (by decide) (en_bd' r5 (en_f (by decide) (en_f (by decide) (en_t rfl (en_gd hb (en_some ?_)))))))
          rw [cl_nI (by omega), b1]
      · refine bad (r := nI (max 1 (eatN (yK G i) (yA G i)))) ?_ ?_
        · unfold f_X5_told
          refine en_bd' c1 (en_f (by decide) (en_bi (en_swn (by decide) (en_swy rfl (en_gd hb (en_gd hb ?_))))))
          rw [cl_nI (by omega), a1, a4]
          exact en_bd' (eatsOf_eq hg.1 hg.2.2.2 M1) (en_some rfl)
        · unfold f_X6_told
          exact en_bd' r1 (en_f (by decide) (en_bd' r5 (en_f (by decide) (en_f (by decide) (en_f (by decide) (en_t rfl (en_bd' (r_eats hi5 hg.1 hg.2.2.2 b1 b4) (en_some rfl))))))))
      · refine bad (r := nI (yN G i)) ?_ ?_
        · unfold f_X5_told
          refine en_bd' c1 (en_f (by decide) (en_bi (en_swn (by decide) (en_swn (by decide) (en_swy rfl (en_gd hb (en_some ?_)))))))
          rw [cl_nI (by omega), a2]
        · unfold f_X6_told
          refine en_bd' r1 (en_f (by decide) (en_bd' r5 (en_f (by decide) (en_f (by decide) (en_f (by decide) (en_f (by decide) (en_t rfl (en_gd hb (en_some ?_)))))))))
          rw [cl_nI (by omega), b2]
      · refine bad (r := nI (yW G i)) ?_ ?_
        · unfold f_X5_told
          refine en_bd' c1 (en_f (by decide) (en_bi (en_swn (by decide) (en_swn (by decide) (en_swn (by decide) (en_swy rfl (en_gd hb (en_some ?_))))))))
          rw [cl_nI (by omega), a3]
        · unfold f_X6_told
          refine en_bd' r1 (en_f (by decide) (en_bd' r5 (en_f (by decide) (en_f (by decide) (en_f (by decide) (en_f (by decide) (en_f (by decide) (en_t rfl (en_gd hb (en_some ?_))))))))))
          rw [cl_nI (by omega), b3]
      · refine bad (r := nI (yA G i)) ?_ ?_
        · unfold f_X5_told
          refine en_bd' c1 (en_f (by decide) (en_bi (en_swn (by decide) (en_swn (by decide) (en_swn (by decide) (en_swn (by decide) (en_swy rfl (en_gd hb (en_some ?_)))))))))
          rw [cl_nI (by omega), a4]
        · unfold f_X6_told
          refine en_bd' r1 (en_f (by decide) (en_bd' r5 (en_f (by decide) (en_f (by decide) (en_f (by decide) (en_f (by decide) (en_f (by decide) (en_f (by decide) (en_gd hb (en_some ?_))))))))))
          rw [cl_nI (by omega), b4]
      · refine st_of (P := fun q => q.1 = nI (hunN (yK G i) (yN G i) (hvz (yZ G) i 0 0 (yW G i)) 0 0) ∧ Sm (fun o k => KSc o k && KY o k) KSl M1 q.2) (Q := fun q => q.1 = nI (hunN (yK G i) (yN G i) (hvz (yZ G) i 0 0 (yW G i)) 0 0) ∧ Sm KQ KB M2 q.2) ?_ ?_ ?_
        · unfold f_X5_told
          refine en_bd' c1 (en_f (by decide) (en_bi (en_swn (by decide) (en_swn (by decide) (en_swn (by decide) (en_swn (by decide) (en_swn (by decide) (en_swy rfl (en_bv ?_)))))))))
          rw [hC.2.1]
          refine en_imp (lay_ok hG hC hG.2.1) ?_
          rintro A ⟨g1, g2, g3, g4, g5, g6⟩
          refine en_bd (en_imp (c_hun0 (mi := 0) (h := 0) (l := 0) g2 hi (by omega) (by omega) (by omega) (g4 i hi5) g5) ?_)
          rintro ⟨r, B⟩ ⟨k1, k2⟩
          have k2 : Sm KY KA A B := k2
          exact en_some ⟨k1.trans (by rw [hun_0]), (g1.weak (fun o k z => by simp at z; exact z.1) (fun _ z => z)).tr (k2.weak (fun o k z => by simp at z; exact z.2) (fun _ _ => rfl))⟩
        · unfold f_X6_told
          refine en_bd' r1 (en_f (by decide) (en_bd' r5 (en_f (by decide) (en_t rfl (en_bd (en_imp (r_hung (mi := 0) (h := 0) (l := 0) hG hA hi (by omega) (by omega)) ?_))))))
          rintro ⟨r, B⟩ ⟨k1, k2⟩
          exact en_some ⟨k1, k2⟩
        · rintro ⟨a, A⟩ ⟨b, B⟩ ⟨p1, p2⟩ ⟨q1, q2⟩
          have p2 : Sm (fun o k => KSc o k && KY o k) KSl M1 A := p2
          have q2 : Sm KQ KB M2 B := q2
          exact ⟨p1.trans q1.symm, G, nt, zs, h.same p2 q2 (fun o k z => by simp; exact ⟨k1_sc o k z, k1_y o k z⟩) k1_q⟩
  · refine bad (r := -2) ?_ ?_
    · unfold f_X5_told; exact en_bd' (has_no hC.2.2.2.1 hm hx) (en_t rfl (en_some rfl))
    · unfold f_X6_told; exact en_bd' (isE_out hA.2.2.2.1 hm hx) (en_t rfl (en_some rfl))
theorem s_ready : St1 Rel f_X5_ready f_X6_ready := by
  rintro x M1 M2 ⟨G, nt, zs, h⟩
  have hC := h.ac
  have hA := h.ar
  have hG := h.1.1
  have hB := hG.1
  have rc : f_X6_in x.toInt64 0 (Int32.toInt64 ((M2.1 0 7) - 1)) M2 = some (if 0 ≤ x ∧ x ≤ nI (yB G) - 1 then 1 else 0, M2) := by
    rw [hA.1]
    exact rin (a := 0) rfl rfl M2
  by_cases hx : ∃ i, i < yB G ∧ x = nI i
  · obtain ⟨k, hk, rfl⟩ := hx
    refine st_of (P := fun q => q.1 = nI (rdN (yP G) (tkz (yZ G)) k) ∧ Sm KSc KSl M1 q.2) (Q := fun q => q.1 = nI (rdN (yP G) (tkz (yZ G)) k) ∧ Sm KQ KB M2 q.2) ?_ ?_ ?_
    · unfold f_X5_ready
      refine en_f (nI_ltz (by omega)) (en_f ?_ (en_t ?_ (en_bv ?_)))
      · rw [hC.1, nI_leI (by omega) (by omega)]; omega
      · show nI k < nI 12
        rw [nI_ltI (by omega) (by omega)]; omega
      · rw [hC.2.1]
        refine en_imp (bake_ok hG hC hG.2.1) ?_
        rintro A ⟨g1, g2, g3, g4⟩
        refine en_gd (bin_nI (by omega) (by omega)) (en_some ⟨?_, g1⟩)
        show A.1 25 (nI k).toNatClampNeg = _
        rw [cl_nI (by omega)]
        exact g2 k (by omega)
    · unfold f_X6_ready f_X6_isCake
      refine en_bd (en_bd' rc ?_)
      rw [if_pos ((below_iff (by omega)).mpr ⟨k, hk, rfl⟩)]
      refine en_gd (Or.inr rfl) (en_some (en_f (show ¬ (1 : Int32) = 0 by decide) (en_bd (en_imp (r_ready hG hA rfl (by omega)) ?_))))
      rintro ⟨r, B⟩ ⟨k1, k2⟩
      exact en_some ⟨k1, k2⟩
    · rintro ⟨a, A⟩ ⟨b, B⟩ ⟨p1, p2⟩ ⟨q1, q2⟩
      exact ⟨p1.trans q1.symm, G, nt, zs, h.same p2 q2 k1_sc k1_q⟩
  · refine st_go (r := -2) (N1 := M1) (N2 := M2) ?_ ?_ ⟨G, nt, zs, h⟩
    · unfold f_X5_ready
      refine en_ite (fun _ => en_some rfl) (fun h0 => en_t ?_ (en_some rfl))
      obtain ⟨j, hj, rfl⟩ := nI_of h0
      rw [hC.1, nI_leI (by omega) hj]
      rcases Nat.lt_or_ge j (yB G) with z | z
      · exact absurd ⟨j, z, rfl⟩ hx
      · exact z
    · unfold f_X6_ready f_X6_isCake
      refine en_bd (en_bd' rc ?_)
      rw [if_neg (fun z => hx ((below_iff (by omega)).mp z))]
      exact en_gd (Or.inl rfl) (en_some (en_t rfl (en_some rfl)))
/-! counting -/
def cnt (rd : Nat → Nat) : Nat → Nat
  | 0 => 0
  | k + 1 => if rd k < 60 then cnt rd k + 1 else cnt rd k
theorem cnt_le (rd : Nat → Nat) : ∀ k, cnt rd k ≤ k
  | 0 => Nat.le_refl _
  | k + 1 => by
    have := cnt_le rd k
    unfold cnt
    split <;> omega
theorem c_cnt {B : Nat} {rd : Nat → Nat} (hB : B ≤ 12) (h0 : M.1 1 0 = nI B) (hr : ∀ k, k < B → M.1 25 k = nI (rd k) ∧ rd k < 2 ^ 31) : f_X2_servedCakes M = some (nI (cnt rd B), M) := by
  refine en_eq ?_
  unfold f_X2_servedCakes
  refine en_iter (fun (z : Int32 × Int32 × Mm) => ∃ k, k ≤ B ∧ z.1 = nI (cnt rd k) ∧ z.2.1 = nI k ∧ z.2.2 = M) (fun z => 13 - z.2.1.toNatClampNeg) ⟨0, by omega, rfl, rfl, rfl⟩ (by have := fuel_gt; omega) ?_
  rintro ⟨x1, x2, M'⟩ ⟨k, hk, rfl, rfl, hM⟩
  have hM : M' = M := hM
  subst hM
  have hnx : 13 - (nI k + 1).toNatClampNeg < 13 - (nI k).toNatClampNeg := by
    rw [show nI k + 1 = nI (k + 1) from nI_add k 1, nI_clamp (by omega), nI_clamp (by omega)]
    omega
  show En (f_X2_servedCakes_b4 (nI (cnt rd k)) (nI k) M') _
  unfold f_X2_servedCakes_b4
  refine en_ite (fun q => en_ex (en_some ?_)) (fun q => en_ite (fun q2 => en_ex (en_some ?_)) (fun q2 => ?_))
  · have q : nI 12 ≤ nI k := q
    rw [nI_leI (by omega) (by omega)] at q
    rw [show k = B by omega]
    exact rfl
  · rw [h0, nI_leI (by omega) (by omega)] at q2
    rw [show k = B by omega]
    exact rfl
  · rw [h0, nI_leI (by omega) (by omega)] at q2
    refine en_gd (bin_nI (by omega) (by omega)) ?_
    rw [cl_nI (by omega), (hr k (by omega)).1]
    refine en_ite (fun z => ?_) (fun z => ?_)
    · have z : nI 60 ≤ nI (rd k) := z
      rw [nI_leI (by omega) (hr k (by omega)).2] at z
      refine en_bi (en_some ⟨⟨k + 1, by omega, ?_, nI_add k 1, rfl⟩, hnx⟩)
      show nI (cnt rd k) = nI (cnt rd (k + 1))
      rw [cnt, if_neg (by omega)]
    · have z : ¬ nI 60 ≤ nI (rd k) := z
      rw [nI_leI (by omega) (hr k (by omega)).2] at z
      refine en_bi (en_bi (en_some ⟨⟨k + 1, by omega, ?_, nI_add k 1, rfl⟩, hnx⟩))
      show nI (cnt rd k) + 1 = nI (cnt rd (k + 1))
      rw [cnt, if_pos (by omega)]
      exact nI_add _ 1
theorem r_cnt (hG : Gok G) (hA : AR G M) : En (f_X6_servedMany M) (fun q => q.1 = nI (cnt (rdN (yP G) (tkz (yZ G))) (yB G)) ∧ Sm KQ KB M q.2) := by
  have hB := hG.1
  have hrd := rd_le hG.2.1 (fun k => (tkz_in (yZ G) k).2)
  unfold f_X6_servedMany
  refine en_iter (fun (z : Int32 × Int32 × Mm) => ∃ k, k ≤ yB G ∧ z.1 = nI (cnt (rdN (yP G) (tkz (yZ G))) k) ∧ z.2.1 = nI k ∧ Sm KQ KB M z.2.2) (fun z => 13 - z.2.1.toNatClampNeg) ⟨0, by omega, rfl, rfl, Sm.rf⟩ (by have := fuel_gt; omega) ?_
  rintro ⟨x1, x2, A⟩ ⟨k, hk, rfl, rfl, hs⟩
  have hs : Sm KQ KB M A := hs
  have hA2 : AR G A := hA.same hs k6_q
  have hnx : 13 - (nI k + 1).toNatClampNeg < 13 - (nI k).toNatClampNeg := by
    rw [show nI k + 1 = nI (k + 1) from nI_add k 1, nI_clamp (by omega), nI_clamp (by omega)]
    omega
  show En (f_X6_servedMany_b4 (nI _) (nI k) A) _
  unfold f_X6_servedMany_b4
  rw [hA2.1]
  refine en_ite (fun q => en_ex (en_some ?_)) (fun q => ?_)
  · rw [nI_leI (by omega) (by omega)] at q
    rw [show k = yB G by omega]
    exact ⟨rfl, hs⟩
  · rw [nI_leI (by omega) (by omega)] at q
    refine en_bd (en_imp (r_ready hG hA2 rfl (by omega)) ?_)
    rintro ⟨r, B⟩ ⟨k1, k2⟩
    have k1 : r = nI (rdN (yP G) (tkz (yZ G)) k) := k1
    have hk260 := hrd k
    rw [k1]
    refine en_ite (fun z => ?_) (fun z => ?_)
    · have z : nI 60 ≤ nI (rdN (yP G) (tkz (yZ G)) k) := z
      rw [nI_leI (by omega) (by omega)] at z
      refine en_bi (en_bi (en_some ⟨⟨k + 1, by omega, ?_, nI_add k 1, hs.tr k2⟩, hnx⟩))
      show nI _ + 0 = nI (cnt _ (k + 1))
      rw [cnt, if_neg (by omega), Int32.add_zero]
    · have z : ¬ nI 60 ≤ nI (rdN (yP G) (tkz (yZ G)) k) := z
      rw [nI_leI (by omega) (by omega)] at z
      refine en_bi (en_bi (en_some ⟨⟨k + 1, by omega, ?_, nI_add k 1, hs.tr k2⟩, hnx⟩))
      show nI _ + 1 = nI (cnt _ (k + 1))
      rw [cnt, if_pos (by omega)]
      exact nI_add _ 1
def sumN (w : Nat → Nat) : Nat → Nat
  | 0 => 0
  | k + 1 => sumN w k + w k
theorem c_sum {m : Nat} {w : Nat → Nat} (hm : m ≤ 5) (h3 : M.1 1 3 = nI m) (hw : ∀ k, k < m → M.1 9 k = nI (w k)) : f_X3_wantOfAll_1 M = some (nI (sumN w m), M) := by
  refine en_eq ?_
  unfold f_X3_wantOfAll_1
  refine en_iter (fun (z : Int32 × Int32 × Mm) => ∃ k, k ≤ m ∧ z.1 = nI (sumN w k) ∧ z.2.1 = nI k ∧ z.2.2 = M) (fun z => 6 - z.2.1.toNatClampNeg) ⟨0, by omega, rfl, rfl, rfl⟩ (by have := fuel_gt; omega) ?_
  rintro ⟨x1, x2, M'⟩ ⟨k, hk, rfl, rfl, hM⟩
  have hM : M' = M := hM
  subst hM
  show En (f_X3_wantOfAll_1_b4 (nI (sumN w k)) (nI k) M') _
  unfold f_X3_wantOfAll_1_b4
  refine en_ite (fun q => en_ex (en_some ?_)) (fun q => en_ite (fun q2 => en_ex (en_some ?_)) (fun q2 => ?_))
  · have q : nI 5 ≤ nI k := q
    rw [nI_leI (by omega) (by omega)] at q
    rw [show k = m by omega]
    exact rfl
  · rw [h3, nI_leI (by omega) (by omega)] at q2
    rw [show k = m by omega]
    exact rfl
  · rw [h3, nI_leI (by omega) (by omega)] at q2
    refine en_gd (bin_nI (by omega) (by omega)) ?_
    rw [cl_nI (by omega), hw k (by omega), nI_add]
    refine en_bi (en_bi (en_some ⟨⟨k + 1, by omega, rfl, nI_add k 1, rfl⟩, ?_⟩))
    show 6 - (nI k + 1).toNatClampNeg < 6 - (nI k).toNatClampNeg
    rw [show nI k + 1 = nI (k + 1) from nI_add k 1, nI_clamp (by omega), nI_clamp (by omega)]
    omega
theorem r_sum {m : Nat} {w : Nat → Nat} (hm : m ≤ 5) (h3 : M.1 0 13 = nI m) (hw : ∀ k, k < m → M.1 6 k = nI (w k)) : iter (fun s => f_X6_count_b100 s.1 s.2.1 s.2.2) fuel ((0 : Int32), (0 : Int32), M) = some (nI (sumN w m), M) := by
  refine en_eq ?_
  refine en_iter (fun (z : Int32 × Int32 × Mm) => ∃ k, k ≤ m ∧ z.1 = nI (sumN w k) ∧ z.2.1 = nI k ∧ z.2.2 = M) (fun z => 6 - z.2.1.toNatClampNeg) ⟨0, by omega, rfl, rfl, rfl⟩ (by have := fuel_gt; omega) ?_
  rintro ⟨x1, x2, M'⟩ ⟨k, hk, rfl, rfl, hM⟩
  have hM : M' = M := hM
  subst hM
  show En (f_X6_count_b100 (nI (sumN w k)) (nI k) M') _
  unfold f_X6_count_b100
  rw [h3]
  refine en_ite (fun q => en_ex (en_some ?_)) (fun q => ?_)
  · rw [nI_leI (by omega) (by omega)] at q
    rw [show k = m by omega]
    exact rfl
  · rw [nI_leI (by omega) (by omega)] at q
    refine en_gd (bin_nI (by omega) (by omega)) ?_
    rw [cl_nI (by omega), hw k (by omega), nI_add]
    refine en_bi (en_bi (en_some ⟨⟨k + 1, by omega, rfl, nI_add k 1, rfl⟩, ?_⟩))
    show 6 - (nI k + 1).toNatClampNeg < 6 - (nI k).toNatClampNeg
    rw [show nI k + 1 = nI (k + 1) from nI_add k 1, nI_clamp (by omega), nI_clamp (by omega)]
    omega
theorem s_count : St1 Rel f_X5_count f_X6_count := by
  rintro x M1 M2 ⟨G, nt, zs, h⟩
  have hC := h.ac
  have hA := h.ar
  have hG := h.1.1
  have hB := hG.1
  have hm := hG.2.2.1
  have hrd := rd_le hG.2.1 (fun k => (tkz_in (yZ G) k).2)
  obtain ⟨b, n, pB, pT, p6, pb⟩ := id h.2.2.2.2.1
  obtain ⟨t1, t2, t3, t4⟩ := id h.2.2.2.1
  have bad : ∀ {r : Int32}, En (f_X5_count x M1) (fun q => q = (r, M1)) → En (f_X6_count x M2) (fun q => q = (r, M2)) → ∃ r N1 N2, f_X5_count x M1 = some (r, N1) ∧ f_X6_count x M2 = some (r, N2) ∧ Rel N1 N2 := fun e1 e2 => st_go e1 e2 ⟨G, nt, zs, h⟩
  have cno : (∀ j : Nat, j ≤ 7 → x ≠ nI j) → En (f_X5_count x M1) (fun q => q = (-2, M1)) := by
    intro ne
    unfold f_X5_count
    exact en_bi (en_swn (ne 0 (by omega)) (en_swn (ne 1 (by omega)) (en_swn (ne 2 (by omega)) (en_swn (ne 3 (by omega)) (en_swn (ne 4 (by omega)) (en_swn (ne 5 (by omega)) (en_swn (ne 6 (by omega)) (en_swn (ne 7 (by omega)) (en_swd (en_some rfl))))))))))
  rcases tri x (n := 7) (by omega) with q | q | ⟨j, hj, rfl⟩
  · refine bad (r := -2) (cno fun j _ z => by rw [z] at q; exact nI_ltz (by omega) q) ?_
    unfold f_X6_count; exact en_bd' (rin_no (a := 0) (c := 7) rfl rfl (out_lo q) M2) (en_t rfl (en_some rfl))
  · refine bad (r := -2) (cno fun j hj z => by rw [z, nI_ltI (by omega) (by omega)] at q; omega) ?_
    unfold f_X6_count; exact en_bd' (rin_no (a := 0) (c := 7) rfl rfl (out_hi q) M2) (en_t rfl (en_some rfl))
  · have r7 := rin_yes (x := nI j) (lo := 0) (hi := 7) (a := 0) (c := 7) rfl rfl (nI_btw (a := 0) (c := 7) (Nat.zero_le j) hj (by omega)) M2
    rcases (by omega : j = 0 ∨ j = 1 ∨ j = 2 ∨ j = 3 ∨ j = 4 ∨ j = 5 ∨ j = 6 ∨ j = 7) with rfl | rfl | rfl | rfl | rfl | rfl | rfl | rfl
    · refine bad (r := nI (yM G)) ?_ ?_
      · unfold f_X5_count
        exact en_bi (en_swy rfl (en_some (by rw [hC.2.2.2.1])))
      · unfold f_X6_count
        exact en_bd' r7 (en_f (by decide) (en_f (by decide) (en_t rfl (en_some (by rw [hA.2.2.2.1])))))
    · refine bad (r := nI (yB G)) ?_ ?_
      · unfold f_X5_count
        exact en_bi (en_swn (by decide) (en_swy rfl (en_some (by rw [hC.1]))))
      · unfold f_X6_count
        exact en_bd' r7 (en_f (by decide) (en_f (by decide) (en_f (by decide) (en_t rfl (en_some (by rw [hA.1]))))))
    · refine bad (r := nI (yP G)) ?_ ?_
      · unfold f_X5_count
        exact en_bi (en_swn (by decide) (en_swn (by decide) (en_swy rfl (en_some (by rw [hC.2.1])))))
      · unfold f_X6_count
        exact en_bd' r7 (en_f (by decide) (en_f (by decide) (en_f (by decide) (en_f (by decide) (en_t rfl (en_some (by rw [hA.2.1])))))))
    · refine bad (r := nI nt) ?_ ?_
      · unfold f_X5_count
        exact en_bi (en_swn (by decide) (en_swn (by decide) (en_swn (by decide) (en_swy rfl (en_some (by rw [t2]))))))
      · unfold f_X6_count
        exact en_bd' r7 (en_f (by decide) (en_f (by decide) (en_f (by decide) (en_f (by decide) (en_f (by decide) (en_t rfl (en_some (by rw [t3]))))))))
    · refine bad (r := nI n) ?_ ?_
      · unfold f_X5_count
        exact en_bi (en_swn (by decide) (en_swn (by decide) (en_swn (by decide) (en_swn (by decide) (en_swy rfl (en_some (by rw [pT.1])))))))
      · unfold f_X6_count
        exact en_bd' r7 (en_f (by decide) (en_f (by decide) (en_f (by decide) (en_f (by decide) (en_f (by decide) (en_f (by decide) (en_t rfl (en_some (by rw [p6])))))))))
    · refine bad (r := nI (yR G)) ?_ ?_
      · unfold f_X5_count
        exact en_bi (en_swn (by decide) (en_swn (by decide) (en_swn (by decide) (en_swn (by decide) (en_swn (by decide) (en_swy rfl (en_some (by rw [hC.2.2.1]))))))))
      · unfold f_X6_count
        exact en_bd' r7 (en_f (by decide) (en_f (by decide) (en_f (by decide) (en_f (by decide) (en_f (by decide) (en_f (by decide) (en_f (by decide) (en_some (by rw [hA.2.2.1])))))))))
    · refine st_of (P := fun q => q.1 = nI (cnt (rdN (yP G) (tkz (yZ G))) (yB G)) ∧ Sm KSc KSl M1 q.2) (Q := fun q => q.1 = nI (cnt (rdN (yP G) (tkz (yZ G))) (yB G)) ∧ Sm KQ KB M2 q.2) ?_ ?_ ?_
      · unfold f_X5_count
        refine en_bi (en_swn (by decide) (en_swn (by decide) (en_swn (by decide) (en_swn (by decide) (en_swn (by decide) (en_swn (by decide) (en_swy rfl (en_bv ?_))))))))
        rw [hC.2.1]
        refine en_imp (bake_ok hG hC hG.2.1) ?_
        rintro A ⟨g1, g2, g3, g4⟩
        exact en_bd' (c_cnt hB (by rw [g1.1 1 0 rfl]; exact hC.1) (fun k hk => ⟨g2 k (by omega), by have := hrd k; omega⟩)) (en_some ⟨rfl, g1⟩)
      · unfold f_X6_count
        refine en_bd' r7 (en_f (by decide) (en_t (by decide) (en_t rfl (en_bd (en_imp (r_cnt hG hA) ?_)))))
        rintro ⟨r, B⟩ hq
        exact en_some hq
      · rintro ⟨a, A⟩ ⟨b, B⟩ ⟨p1, p2⟩ ⟨q1, q2⟩
        exact ⟨p1.trans q1.symm, G, nt, zs, h.same p2 q2 k1_sc k1_q⟩
    · refine bad (r := nI (sumN (yW G) (yM G))) ?_ ?_
      · unfold f_X5_count
        exact en_bi (en_swn (by decide) (en_swn (by decide) (en_swn (by decide) (en_swn (by decide) (en_swn (by decide) (en_swn (by decide) (en_swn (by decide) (en_swy rfl (en_bd' (c_sum hm hC.2.2.2.1 (fun k hk => (hC.2.2.2.2.1 k hk).2.2.1)) (en_some rfl))))))))))
      · unfold f_X6_count
        exact en_bd' r7 (en_f (by decide) (en_t (by decide) (en_f (by decide) (en_of (r_sum hm hA.2.2.2.1 (fun k hk => (hA.2.2.2.2.1 k hk).2.2.1)) rfl))))
end TOLD
