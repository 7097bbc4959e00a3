/-! ===== copying, eaters by a sheet ===== -/
/-- two loops side by side -/
theorem iter2 {σ τ ρ ρ' : Type} {body1 : σ → Option (σ ⊕ ρ)} {body2 : τ → Option (τ ⊕ ρ')} (I : Nat → σ → τ → Prop) {Q : ρ → ρ' → Prop} (hs : ∀ i s t, I i s t → (∃ s' t', body1 s = some (.inl s') ∧ body2 t = some (.inl t') ∧ ∃ j, j < i ∧ I j s' t') ∨ (∃ y y', body1 s = some (.inr y) ∧ body2 t = some (.inr y') ∧ Q y y')) : ∀ n i s t, i < n → I i s t → ∃ y y', iter body1 n s = some y ∧ iter body2 n t = some y' ∧ Q y y'
  | 0, i, _, _, h, _ => by omega
  | n + 1, i, s, t, h, h0 => by
    rcases hs i s t h0 with ⟨s', t', e1, e2, j, hj, hI⟩ | ⟨y, y', e1, e2, hq⟩
    · obtain ⟨y, y', g1, g2, g3⟩ := iter2 I hs n j s' t' (by omega) hI
      exact ⟨y, y', by rw [it_l e1]; exact g1, by rw [it_l e2]; exact g2, g3⟩
    · exact ⟨y, y', it_r e1, it_r e2, hq⟩
section COPY
variable {G G' : Gt} {nt : Nat} {zs : Nat → Txt} {M1 M2 N1 N2 M : Mm} {s : Nat}
theorem mc_in {o sp o2 dp n p : Nat} (h : dp ≤ p ∧ p < dp + n) : (mc M o sp o2 dp n).1 o2 p = M.1 o (sp + (p - dp)) := if_pos ⟨rfl, h.1, h.2⟩
theorem mc_out {o sp o2 dp n o' p : Nat} (h : ¬ (o' = o2 ∧ dp ≤ p ∧ p < dp + n)) : (mc M o sp o2 dp n).1 o' p = M.1 o' p := if_neg h
/-- the reference's copying -/
theorem r_copy {s3 i j n : Nat} (hs : s < 4) (hs3 : s3 < 4) (hi : i + n ≤ 40) (hj : j + n ≤ 40) {up : Int32} (hup : (up = 0 ∧ (s = s3 → j ≤ i)) ∨ (up = 1 ∧ s = s3 ∧ i < j)) (M : Mm) : En (f_X6_copy_j116 (nI s) (nI i) (nI s3) (nI j) (nI n) up M) (fun q => q.1 = nI n ∧ Sm (KRs s3) KA M q.2 ∧ (∀ k, 16 ≤ k → k ≤ 18 → q.2.1 k s3 = M.1 k s3) ∧ ∀ p, p < 40 → q.2.1 19 (40 * s3 + p) = if j ≤ p ∧ p < j + n then M.1 19 (40 * s + i + (p - j)) else M.1 19 (40 * s3 + p)) := by
  -- what is done after k steps
  have hdn : ∃ dn : Nat → Nat → Prop, ∃ sel : Nat → Nat, (∀ k, k < n → sel k < n) ∧ (∀ q, q < n → ¬ dn 0 q) ∧ (∀ q, q < n → dn n q) ∧ (∀ k q, k < n → q < n → (dn (k + 1) q ↔ (dn k q ∨ q = sel k))) ∧ (∀ k q, k < n → q < n → dn k q → 40 * s3 + j + q ≠ 40 * s + i + sel k) ∧ (∀ k, k < n → ¬ dn k (sel k)) ∧ ((up = 0 ∧ ∀ k, sel k = k) ∨ (up = 1 ∧ ∀ k, sel k = n - 1 - k)) := by
    rcases hup with ⟨rfl, h⟩ | ⟨rfl, rfl, h⟩
    · refine ⟨fun k q => q < k, fun k => k, fun k hk => hk, fun q _ => Nat.not_lt_zero q, fun q hq => hq, fun k q _ _ => ?_, fun k q hk hq hd => ?_, fun k _ => Nat.lt_irrefl k, Or.inl ⟨rfl, fun _ => rfl⟩⟩
      · show q < k + 1 ↔ q < k ∨ q = k
        omega
      · show 40 * s3 + j + q ≠ 40 * s + i + k
        have hd : q < k := hd
        by_cases e : s = s3
        · have := h e
          subst e
          omega
        · omega
    · refine ⟨fun k q => n ≤ q + k, fun k => n - 1 - k, fun k hk => ?_, fun q _ => ?_, fun q hq => ?_, fun k q _ _ => ?_, fun k q hk hq hd => ?_, fun k _ => ?_, Or.inr ⟨rfl, fun _ => rfl⟩⟩
      · show n - 1 - k < n
        omega
      · show ¬ n ≤ q + 0
        omega
      · show n ≤ q + n
        omega
      · show n ≤ q + (k + 1) ↔ n ≤ q + k ∨ q = n - 1 - k
        omega
      · show 40 * s + j + q ≠ 40 * s + i + (n - 1 - k)
        have hd : n ≤ q + k := hd
        omega
      · show ¬ n ≤ n - 1 - k + k
        omega
  obtain ⟨dn, sel, d1, d2, d3, d4, d5, d6, d7⟩ := hdn
  unfold f_X6_copy_j116
  refine en_iter (fun (z : Int32 × Mm) => ∃ k, k ≤ n ∧ z.1 = nI k ∧ Sm (KRs s3) KA M z.2 ∧ (∀ k, 16 ≤ k → k ≤ 18 → z.2.1 k s3 = M.1 k s3) ∧ (∀ q, q < n → dn k q → z.2.1 19 (40 * s3 + j + q) = M.1 19 (40 * s + i + q)) ∧ ∀ p, (∀ q, q < n → dn k q → p ≠ 40 * s3 + j + q) → z.2.1 19 p = M.1 19 p) (fun z => 41 - z.1.toNatClampNeg) ⟨0, by omega, rfl, Sm.rf, fun _ _ _ => rfl, fun q hq hd => absurd hd (d2 q hq), fun p _ => rfl⟩ (by have := fuel_gt; omega) ?_
  rintro ⟨x, A⟩ ⟨k, hk, rfl, g1, g2, g3, g4⟩
  have g1 : Sm (KRs s3) KA M A := g1
  have g2 : ∀ k, 16 ≤ k → k ≤ 18 → A.1 k s3 = M.1 k s3 := g2
  have g3 : ∀ q, q < n → dn k q → A.1 19 (40 * s3 + j + q) = M.1 19 (40 * s + i + q) := g3
  have g4 : ∀ p, (∀ q, q < n → dn k q → p ≠ 40 * s3 + j + q) → A.1 19 p = M.1 19 p := g4
  show En (f_X6_copy_b121 (nI s) (nI i) (nI s3) (nI j) (nI n) up (nI k) A) _
  unfold f_X6_copy_b121
  refine en_ite (fun q => en_ex (en_some ?_)) (fun q => ?_)
  · rw [nI_leI (by omega) (by omega)] at q
    have e : k = n := by omega
    subst e
    refine ⟨rfl, g1, g2, fun p hp => ?_⟩
    show A.1 19 (40 * s3 + p) = _
    by_cases z : j ≤ p ∧ p < j + k
    · rw [if_pos z, ← g3 (p - j) (by omega) (d3 _ (by omega)), show 40 * s3 + j + (p - j) = 40 * s3 + p by omega]
    · rw [if_neg z]
      exact g4 _ fun q hq _ => by omega
  · rw [nI_leI (by omega) (by omega)] at q
    have hkn : k < n := by omega
    have hsel := d1 k hkn
    have go : En (f_X6_copy_j145 (nI s) (nI i) (nI s3) (nI j) (nI n) up (nI k) (nI (sel k)) A) (Lp (fun (z : Int32 × Mm) => ∃ k, k ≤ n ∧ z.1 = nI k ∧ Sm (KRs s3) KA M z.2 ∧ (∀ k, 16 ≤ k → k ≤ 18 → z.2.1 k s3 = M.1 k s3) ∧ (∀ q, q < n → dn k q → z.2.1 19 (40 * s3 + j + q) = M.1 19 (40 * s + i + q)) ∧ ∀ p, (∀ q, q < n → dn k q → p ≠ 40 * s3 + j + q) → z.2.1 19 p = M.1 19 p) (fun z => 41 - z.1.toNatClampNeg) (nI k, A) (fun q => q.1 = nI n ∧ Sm (KRs s3) KA M q.2 ∧ (∀ k, 16 ≤ k → k ≤ 18 → q.2.1 k s3 = M.1 k s3) ∧ ∀ p, p < 40 → q.2.1 19 (40 * s3 + p) = if j ≤ p ∧ p < j + n then M.1 19 (40 * s + i + (p - j)) else M.1 19 (40 * s3 + p))) := by
      unfold f_X6_copy_j145
      rw [show (40 : Int32) * nI s = nI (40 * s) from pk_mul 40 s, show (40 : Int32) * nI s3 = nI (40 * s3) from pk_mul 40 s3, nI_add, nI_add, nI_add, nI_add]
      refine en_gd (bin_nI (by omega) (by omega)) (en_gd (bin_nI (by omega) (by omega)) (en_bmv fun B e => en_bi (en_some ⟨⟨k + 1, by omega, nI_add k 1, ?_, fun k' h1 h2 => ?_, fun q hq hd => ?_, fun p hp => ?_⟩, ?_⟩)))
      · rw [cl_nI (by omega), cl_nI (by omega)] at e
        exact g1.tr (sm_1 e (by unfold KRs; simp; omega))
      · show B.1 k' s3 = _
        rw [ms_off e (by omega)]; exact g2 k' h1 h2
      · rw [cl_nI (by omega), cl_nI (by omega)] at e
        show B.1 19 (40 * s3 + j + q) = _
        by_cases z : q = sel k
        · subst z
          rw [ms_at e]
          exact g4 _ fun q hq hd => fun y => d5 k q hkn hq hd y.symm
        · rw [ms_off e (by omega)]
          exact g3 q hq (((d4 k q hkn hq).mp hd).resolve_right z)
      · rw [cl_nI (by omega), cl_nI (by omega)] at e
        show B.1 19 p = _
        have h1 := hp (sel k) hsel ((d4 k _ hkn hsel).mpr (Or.inr rfl))
        rw [ms_off e (by omega)]
        exact g4 p fun q hq hd => hp q hq ((d4 k q hkn hq).mpr (Or.inl hd))
      · show 41 - (nI k + 1).toNatClampNeg < 41 - (nI k).toNatClampNeg
        rw [show nI k + 1 = nI (k + 1) from nI_add k 1, nI_clamp (by omega), nI_clamp (by omega)]
        omega
    rcases d7 with ⟨e, hd⟩ | ⟨e, hd⟩
    · refine en_t e ?_
      rw [hd k] at go
      exact go
    · refine en_f (by rw [e]; decide) ?_
      rw [hd k] at go
      rw [show nI n - 1 = nI (n - 1) from pk_sub (b := 1) (by omega), pk_sub (by omega)]
      exact go
theorem s_copy : St5 Rel f_X5_copy f_X6_copy := by
  rintro x1 x2 x3 x4 x5 M1 M2 ⟨G, nt, zs, h⟩
  have bad : ∀ {r : Int32}, En (f_X5_copy x1 x2 x3 x4 x5 M1) (fun q => q = (r, M1)) → En (f_X6_copy x1 x2 x3 x4 x5 M2) (fun q => q = (r, M2)) → ∃ r N1 N2, f_X5_copy x1 x2 x3 x4 x5 M1 = some (r, N1) ∧ f_X6_copy x1 x2 x3 x4 x5 M2 = some (r, N2) ∧ Rel N1 N2 := fun e1 e2 => st_go e1 e2 ⟨G, nt, zs, h⟩
  by_cases hx : ∃ i, i < 4 ∧ x1 = nI i
  · obtain ⟨s, hs, rfl⟩ := hx
    by_cases hx3 : ∃ i, i < 4 ∧ x3 = nI i
    · obtain ⟨s3, hs3, rfl⟩ := hx3
      have c1 := sh_has M1 ⟨s, hs, rfl⟩
      have c3 := sh_has M1 ⟨s3, hs3, rfl⟩
      have r1 := sh_is M2 ⟨s, hs, rfl⟩
      have r3 := sh_is M2 ⟨s3, hs3, rfl⟩
      rcases h.2.2.2.2.2.1 s hs with ⟨a, b⟩ | ⟨so, sz, a1, a2, a3, a4, a5, a6, a7, a8⟩
      · refine bad (r := -11) ?_ ?_
        · unfold f_X5_copy; exact en_bd' c1 (en_f (by decide) (en_bd' c3 (en_f (by decide) (en_bd' (sh_mis hs a) (en_f (by decide) (en_some rfl))))))
        · unfold f_X6_copy
          refine en_bd' r1 (en_f (by decide) (en_bd' r3 (en_f (by decide) (en_gd (bin_nI hs (by omega)) ?_))))
          rw [cl_nI (by omega)]
          exact en_t b (en_some rfl)
      · rcases h.2.2.2.2.2.1 s3 hs3 with ⟨a, b⟩ | ⟨so3, sz3, b1, b2, b3, b4, b5, b6, b7, b8⟩
        · refine bad (r := -11) ?_ ?_
          · unfold f_X5_copy; exact en_bd' c1 (en_f (by decide) (en_bd' c3 (en_f (by decide) (en_bd' (sh_nmis hs a1 a3) (en_t rfl (en_bd' (sh_mis hs3 a) (en_f (by decide) (en_some rfl))))))))
          · unfold f_X6_copy
            refine en_bd' r1 (en_f (by decide) (en_bd' r3 (en_f (by decide) (en_gd (bin_nI hs (by omega)) ?_))))
            rw [cl_nI (by omega), cl_nI (by omega), a5]
            exact en_f (by decide) (en_gd (bin_nI hs3 (by omega)) (en_t b (en_some rfl)))
        · have cgo : ∀ {P : Int32 × Mm → Prop}, (so = so3 → En (if x5 < 0 then some ((-12 : Int32), M1) else bd (f_X1_spans (nI s) x2 x5 M1) fun r14 M13 => if r14 = 0 then some ((-12 : Int32), M13) else bd (f_X1_spans (nI s3) x4 x5 M13) fun r16 M15 => if r16 = 0 then some ((-12 : Int32), M15) else bv (f_X1_move (nI s) x2 (nI s3) x4 x5 M15) fun M17 => some (x5, M17)) P) → (so ≠ so3 → P (-13, M1)) → En (f_X5_copy (nI s) x2 (nI s3) x4 x5 M1) P := by
            intro P h1 h2
            unfold f_X5_copy
            refine en_bd' c1 (en_f (by decide) (en_bd' c3 (en_f (by decide) (en_bd' (sh_nmis hs a1 a3) (en_t rfl (en_bd' (sh_nmis hs3 b1 b3) (en_t rfl (en_bd' (sh_sort hs M1) (en_bd' (sh_sort hs3 M1) ?_)))))))))
            rw [a3, b3]
            exact en_ite (fun q => h1 ((nI_eq (by omega) (by omega)).mp q)) (fun q => en_some (h2 (fun z => q (by rw [z]))))
          have rgo : ∀ {P : Int32 × Mm → Prop}, (so = so3 → En (if x5 < 0 then some ((-12 : Int32), M2) else if x2 < 0 then some ((-12 : Int32), M2) else if x4 < 0 then some ((-12 : Int32), M2) else gd (bin (nI s) 4 = true) inferInstance <| if (nI sz - x5) < x2 then some ((-12 : Int32), M2) else gd (bin (nI s3) 4 = true) inferInstance <| if x4 ≤ (nI sz3 - x5) then (if nI s = nI s3 then (if x4 ≤ x2 then f_X6_copy_j115 (nI s) x2 (nI s3) x4 x5 M2 else f_X6_copy_j116 (nI s) x2 (nI s3) x4 x5 (1 : Int32) M2) else f_X6_copy_j115 (nI s) x2 (nI s3) x4 x5 M2) else some ((-12 : Int32), M2)) P) → (so ≠ so3 → P (-13, M2)) → En (f_X6_copy (nI s) x2 (nI s3) x4 x5 M2) P := by
            intro P h1 h2
            unfold f_X6_copy
            refine en_bd' r1 (en_f (by decide) (en_bd' r3 (en_f (by decide) (en_gd (bin_nI hs (by omega)) ?_))))
            rw [cl_nI (by omega), cl_nI (by omega), a5, b5, a6, b6, a7, b7]
            refine en_f (by decide) (en_gd (bin_nI hs3 (by omega)) (en_f (by decide) (en_gd (bin_nI hs (by omega)) (en_gd (bin_nI hs3 (by omega)) (en_ite (fun q => h1 ((nI_eq (by omega) (by omega)).mp q)) (fun q => en_some (h2 (fun z => q (by rw [z])))))))))
          by_cases hso : so = so3
          · by_cases h5 : x5 < 0
            · exact bad (r := -12) (cgo (fun _ => en_t h5 (en_some rfl)) (fun z => absurd hso z)) (rgo (fun _ => en_t h5 (en_some rfl)) (fun z => absurd hso z))
            · obtain ⟨n, hn, rfl⟩ := nI_of h5
              by_cases hA : ∃ i, x2 = nI i ∧ i + n ≤ sz
              · obtain ⟨i, rfl, hi⟩ := hA
                by_cases hB : ∃ j, x4 = nI j ∧ j + n ≤ sz3
                · obtain ⟨j, rfl, hj⟩ := hB
                  refine st_of (P := fun q => q = (nI n, mc M1 24 (40 * s + i) 24 (40 * s3 + j) n)) (Q := fun q => q.1 = nI n ∧ Sm (KRs s3) KA M2 q.2 ∧ (∀ k, 16 ≤ k → k ≤ 18 → q.2.1 k s3 = M2.1 k s3) ∧ ∀ p, p < 40 → q.2.1 19 (40 * s3 + p) = if j ≤ p ∧ p < j + n then M2.1 19 (40 * s + i + (p - j)) else M2.1 19 (40 * s3 + p)) (cgo (fun _ => ?_) (fun z => absurd hso z)) (rgo (fun _ => ?_) (fun z => absurd hso z)) ?_
                  · refine en_f h5 (en_bd' (sp_yes hs a2 a4 hi) (en_f (by decide) (en_bd' (sp_yes hs3 b2 b4 hj) (en_f (by decide) (en_bv' (M := mc M1 24 (40 * s + i) 24 (40 * s3 + j) n) ?_ (en_some rfl))))))
                    refine en_eq ?_
                    unfold f_X1_move
                    refine en_bd' (sp_yes hs a2 a4 hi) (en_f (by decide) (en_bd' (sp_yes hs3 b2 b4 hj) (en_f (by decide) ?_)))
                    rw [show nI s * 40 = nI (40 * s) by rw [Nat.mul_comm]; exact pk_mul s 40, show nI s3 * 40 = nI (40 * s3) by rw [Nat.mul_comm]; exact pk_mul s3 40, nI_add, nI_add, cl_nI (by omega), cl_nI (by omega), cl_nI (by omega)]
                    exact en_gd ⟨nI_ltz (by omega), nI_ltz (by omega), nI_ltz (by omega), by omega, by omega⟩ (en_bm (en_some rfl))
                  · refine en_f h5 (en_f (nI_ltz (by omega)) (en_f (nI_ltz (by omega)) (en_gd (bin_nI hs (by omega)) ?_)))
                    rw [pk_sub (by omega), pk_sub (by omega)]
                    refine en_f (by rw [nI_ltI (by omega) (by omega)]; omega) (en_gd (bin_nI hs3 (by omega)) (en_t (by rw [nI_leI (by omega) (by omega)]; omega) (en_ite (fun q => ?_) (fun q => ?_))))
                    · rw [nI_eq (by omega) (by omega)] at q
                      refine en_ite (fun y => ?_) (fun y => ?_)
                      · rw [nI_leI (by omega) (by omega)] at y
                        exact r_copy hs hs3 (by omega) (by omega) (Or.inl ⟨rfl, fun _ => y⟩) M2
                      · rw [nI_leI (by omega) (by omega)] at y
                        exact r_copy hs hs3 (by omega) (by omega) (Or.inr ⟨rfl, q, by omega⟩) M2
                    · rw [nI_eq (by omega) (by omega)] at q
                      exact r_copy hs hs3 (by omega) (by omega) (Or.inl ⟨rfl, fun z => absurd z q⟩) M2
                  · rintro ⟨a, N1⟩ ⟨b, N2⟩ p1 ⟨q1, q2, q3, q4⟩
                    have p1 : (a, N1) = (nI n, mc M1 24 (40 * s + i) 24 (40 * s3 + j) n) := p1
                    have pa : a = nI n := congrArg Prod.fst p1
                    have pN : N1 = mc M1 24 (40 * s + i) 24 (40 * s3 + j) n := congrArg Prod.snd p1
                    have q2 : Sm (KRs s3) KA M2 N2 := q2
                    have q3 : ∀ k, 16 ≤ k → k ≤ 18 → N2.1 k s3 = M2.1 k s3 := q3
                    have hsm : Sm (KLs s3) KA M1 N1 := by
                      rw [pN]
                      refine ⟨fun o k hk => ?_, fun o _ => rfl⟩
                      rw [mc_out]
                      rintro ⟨rfl, z1, z2⟩
                      unfold KLs at hk
                      simp at hk
                      omega
                    refine ⟨pa.trans q1.symm, G, nt, zs, h.sh1 hsm q2 (Or.inr ⟨so3, sz3, b1, b2, ?_, ?_, ?_, ?_, ?_, fun p hp => ?_⟩)⟩
                    · rw [pN, mc_out (by omega)]; exact b3
                    · rw [pN, mc_out (by omega)]; exact b4
                    · rw [q3 16 (by omega) (by omega)]; exact b5
                    · rw [q3 17 (by omega) (by omega)]; exact b6
                    · rw [q3 18 (by omega) (by omega)]; exact b7
                    · have q4 : N2.1 19 (40 * s3 + p) = _ := q4 p (by omega)
                      rw [q4, pN]
                      by_cases z : j ≤ p ∧ p < j + n
                      · rw [if_pos z, mc_in (by omega), show 40 * s + i + (40 * s3 + p - (40 * s3 + j)) = 40 * s + (i + (p - j)) by omega, a8 (i + (p - j)) (by omega), Nat.add_assoc]
                      · rw [if_neg z, mc_out (by omega)]
                        exact b8 p hp
                · refine bad (r := -12) (cgo (fun _ => ?_) (fun z => absurd hso z)) (rgo (fun _ => ?_) (fun z => absurd hso z))
                  · exact en_f h5 (en_bd' (sp_yes hs a2 a4 hi) (en_f (by decide) (en_bd' (sp_no hs3 b2 hn b4 hB) (en_t rfl (en_some rfl)))))
                  · refine en_f h5 (en_f (nI_ltz (by omega)) (en_ite (fun _ => en_some rfl) (fun h4 => en_gd (bin_nI hs (by omega)) ?_)))
                    rw [pk_sub (by omega)]
                    refine en_f (by rw [nI_ltI (by omega) (by omega)]; omega) (en_gd (bin_nI hs3 (by omega)) (en_f ?_ (en_some rfl)))
                    obtain ⟨j, hj, rfl⟩ := nI_of h4
                    by_cases y : n ≤ sz3
                    · rw [pk_sub y, nI_leI hj (by omega)]
                      exact fun z => hB ⟨j, rfl, by omega⟩
                    · intro z
                      have := pk_sneg (a := sz3) (b := n) (by omega) (by omega)
                      rw [Int32.le_iff_toInt_le, nI_toInt hj] at z
                      rw [Int32.lt_iff_toInt_lt] at this
                      have h0 : (0 : Int32).toInt = 0 := by decide
                      omega
              · refine bad (r := -12) (cgo (fun _ => ?_) (fun z => absurd hso z)) (rgo (fun _ => ?_) (fun z => absurd hso z))
                · exact en_f h5 (en_bd' (sp_no hs a2 hn a4 hA) (en_t rfl (en_some rfl)))
                · refine en_f h5 (en_ite (fun _ => en_some rfl) (fun h2 => en_ite (fun _ => en_some rfl) (fun _ => en_gd (bin_nI hs (by omega)) (en_t ?_ (en_some rfl)))))
                  obtain ⟨i, hi, rfl⟩ := nI_of h2
                  by_cases y : n ≤ sz
                  · rw [pk_sub y, nI_ltI (by omega) hi]
                    rcases Nat.lt_or_ge (sz - n) i with z | z
                    · exact z
                    · exact absurd ⟨i, rfl, by omega⟩ hA
                  · have e1 : (nI sz - nI n).toInt < 0 := by
                      rcases Nat.lt_or_ge n (2 ^ 30) with w | w
                      · have := pk_sneg (a := sz) (b := n) w (by omega)
                        rw [Int32.lt_iff_toInt_lt] at this
                        exact this
                      · rw [Int32.toInt_sub, nI_toInt (by omega), nI_toInt hn, Int.bmod_def]
                        omega
                    rw [Int32.lt_iff_toInt_lt, nI_toInt hi]
                    omega
          · exact bad (r := -13) (cgo (fun z => absurd z hso) (fun _ => rfl)) (rgo (fun z => absurd z hso) (fun _ => rfl))
    · refine bad (r := -2) ?_ ?_
      · unfold f_X5_copy; exact en_bd' (sh_has M1 ⟨s, hs, rfl⟩) (en_f (by decide) (en_bd' (sh_hasn M1 hx3) (en_t rfl (en_some rfl))))
      · unfold f_X6_copy; exact en_bd' (sh_is M2 ⟨s, hs, rfl⟩) (en_f (by decide) (en_bd' (sh_isn M2 hx3) (en_t rfl (en_some rfl))))
  · refine bad (r := -2) ?_ ?_
    · unfold f_X5_copy; exact en_bd' (sh_hasn M1 hx) (en_t rfl (en_some rfl))
    · unfold f_X6_copy; exact en_bd' (sh_isn M2 hx) (en_t rfl (en_some rfl))
/-! eaters by a sheet -/
theorem s_eaters : St4 Rel f_X5_eaters f_X6_eaters := by
  rintro x1 x2 x3 x4 M1 M2 ⟨G, nt, zs, h⟩
  have bad : ∀ {r : Int32}, En (f_X5_eaters x1 x2 x3 x4 M1) (fun q => q = (r, M1)) → En (f_X6_eaters x1 x2 x3 x4 M2) (fun q => q = (r, M2)) → ∃ r N1 N2, f_X5_eaters x1 x2 x3 x4 M1 = some (r, N1) ∧ f_X6_eaters x1 x2 x3 x4 M2 = some (r, N2) ∧ Rel N1 N2 := fun e1 e2 => st_go e1 e2 ⟨G, nt, zs, h⟩
  by_cases hx : ∃ i, i < 4 ∧ x1 = nI i
  · obtain ⟨s, hs, rfl⟩ := hx
    have c1 := sh_has M1 ⟨s, hs, rfl⟩
    have r1 := sh_is M2 ⟨s, hs, rfl⟩
    rcases tri x2 (n := 2) (by omega) with q | q | ⟨k, hk, rfl⟩
    · refine bad (r := -2) ?_ ?_
      · unfold f_X5_eaters; exact en_bd' c1 (en_f (by decide) (en_t q (en_some rfl)))
      · unfold f_X6_eaters; exact en_bd' r1 (en_f (by decide) (en_bd' (rin_no (a := 0) (c := 2) rfl rfl (out_lo q) M2) (en_t rfl (en_some rfl))))
    · refine bad (r := -2) ?_ ?_
      · unfold f_X5_eaters; exact en_bd' c1 (en_f (by decide) (en_f (lt_nz (by omega) q) (en_t (lt_le (n := 2) (by omega) q) (en_some rfl))))
      · unfold f_X6_eaters; exact en_bd' r1 (en_f (by decide) (en_bd' (rin_no (a := 0) (c := 2) rfl rfl (out_hi q) M2) (en_t rfl (en_some rfl))))
    · have r2 := rin_yes (x := nI k) (lo := 0) (hi := 2) (a := 0) (c := 2) rfl rfl (nI_btw (a := 0) (c := 2) (Nat.zero_le k) hk (by omega)) M2
      have k3 : ¬ (3 : Int32) ≤ nI k := by show ¬ nI 3 ≤ nI k; rw [nI_leI (by omega) (by omega)]; omega
      have k0 := nI_ltz (n := k) (by omega)
      rcases tri x4 (n := 5) (by omega) with q | q | ⟨n, hn, rfl⟩
      · refine bad (r := -2) ?_ ?_
        · unfold f_X5_eaters; exact en_bd' c1 (en_f (by decide) (en_f k0 (en_f k3 (en_t q (en_some rfl)))))
        · unfold f_X6_eaters; exact en_bd' r1 (en_f (by decide) (en_bd' r2 (en_f (by decide) (en_bd' (rin_no (a := 0) (c := 5) rfl rfl (out_lo q) M2) (en_t rfl (en_some rfl))))))
      · refine bad (r := -2) ?_ ?_
        · unfold f_X5_eaters; exact en_bd' c1 (en_f (by decide) (en_f k0 (en_f k3 (en_f (lt_nz (by omega) q) (en_f (Int32.not_le.mpr q) (en_some rfl))))))
        · unfold f_X6_eaters; exact en_bd' r1 (en_f (by decide) (en_bd' r2 (en_f (by decide) (en_bd' (rin_no (a := 0) (c := 5) rfl rfl (out_hi q) M2) (en_t rfl (en_some rfl))))))
      · have r5 := rin_yes (x := nI n) (lo := 0) (hi := 5) (a := 0) (c := 5) rfl rfl (nI_btw (a := 0) (c := 5) (Nat.zero_le n) hn (by omega)) M2
        have n5 : nI n ≤ 5 := by show nI n ≤ nI 5; rw [nI_leI (by omega) (by omega)]; exact hn
        have n0 := nI_ltz (n := n) (by omega)
        rcases h.2.2.2.2.2.1 s hs with ⟨a, b⟩ | ⟨so, sz, a1, a2, a3, a4, a5, a6, a7, a8⟩
        · refine bad (r := -11) ?_ ?_
          · unfold f_X5_eaters
            exact en_bd' c1 (en_f (by decide) (en_f k0 (en_f k3 (en_f n0 (en_t n5 (en_bd' (sh_mis hs a) (en_f (by decide) (en_some rfl))))))))
          · unfold f_X6_eaters f_X6_eaters_j57
            refine en_bd' r1 (en_f (by decide) (en_bd' r2 (en_f (by decide) (en_bd' r5 (en_f (by decide) (en_gd (bin_nI hs (by omega)) ?_))))))
            rw [cl_nI (by omega)]
            exact en_t b (en_gd (bin_nI hs (by omega)) (en_t b (en_some rfl)))
        · by_cases hso : so = k
          · subst hso
            have loop : ∃ y y', iter (fun s' => f_X5_eaters_b69 (nI s) x3 (nI n) s'.1 s'.2.1 s'.2.2) fuel ((0 : Int32), (0 : Int32), M1) = some y ∧ iter (fun s' => f_X6_eaters_b75 (nI s) x3 (nI n) s'.1 s'.2.1 s'.2.2) fuel ((0 : Int32), (0 : Int32), M2) = some y' ∧ y.1 = y'.1 ∧ Rel y.2 y'.2 := by
              refine iter2 (fun i (u v : Int32 × Int32 × Mm) => ∃ j, i + j = n ∧ u.1 = v.1 ∧ u.2.1 = nI j ∧ v.2.1 = nI j ∧ (∃ G, RG G nt zs u.2.2 v.2.2) ∧ Sm KC2 KA M1 u.2.2 ∧ Sm KR2 KB M2 v.2.2 ∧ (j = 0 ∨ ∃ f, x3 = nI f ∧ f ≤ 40)) (fun i u v hI => ?_) fuel n _ _ (by have := fuel_gt; omega) ⟨0, rfl, rfl, rfl, rfl, ⟨G, h⟩, Sm.rf, Sm.rf, Or.inl rfl⟩
              obtain ⟨x5, x6, A⟩ := u
              obtain ⟨y5, y6, B⟩ := v
              obtain ⟨j, hj, e1, e2, e3, ⟨G', hR⟩, s1, s2, hj0⟩ := hI
              have e1 : x5 = y5 := e1
              have e2 : x6 = nI j := e2
              have e3 : y6 = nI j := e3
              have s1 : Sm KC2 KA M1 A := s1
              have s2 : Sm KR2 KB M2 B := s2
              have hR : RG G' nt zs A B := hR
              subst e1 e2 e3
              show (∃ s' t', f_X5_eaters_b69 (nI s) x3 (nI n) x5 (nI j) A = some (.inl s') ∧ f_X6_eaters_b75 (nI s) x3 (nI n) x5 (nI j) B = some (.inl t') ∧ _) ∨ (∃ y y', f_X5_eaters_b69 (nI s) x3 (nI n) x5 (nI j) A = some (.inr y) ∧ f_X6_eaters_b75 (nI s) x3 (nI n) x5 (nI j) B = some (.inr y') ∧ _)
              by_cases hjn : n ≤ j
              · refine Or.inr ⟨(x5, A), (x5, B), en_eq ?_, en_eq ?_, rfl, G', nt, zs, hR⟩
                · unfold f_X5_eaters_b69
                  exact en_t (by rw [nI_leI (by omega) (by omega)]; exact hjn) (en_ex (en_some rfl))
                · unfold f_X6_eaters_b75
                  exact en_t (by rw [nI_leI (by omega) (by omega)]; exact hjn) (en_ex (en_some rfl))
              · have hj1 : ¬ nI n ≤ nI j := by rw [nI_leI (by omega) (by omega)]; omega
                have e3j : (3 : Int32) * nI j = nI (3 * j) := pk_mul 3 j
                have hA4 : A.1 23 s = nI sz := by rw [s1.1 23 s rfl]; exact a4
                have hB7 : B.1 18 s = nI sz := by rw [s2.1 18 s rfl]; exact a7
                have hit : ∀ i, i < sz → A.1 24 (40 * s + i) = B.1 19 (40 * s + i) := fun i hi => by rw [s1.1 24 _ rfl, s2.1 19 _ rfl]; exact a8 i hi
                by_cases hat : ∃ f, x3 = nI f ∧ f + 3 * j + 3 ≤ sz
                · obtain ⟨f, rfl, hf⟩ := hat
                  obtain ⟨r, N1, N2, G2, t1, t2, t3, t4, t5⟩ := s_seat hR (A.1 24 (40 * s + (f + 3 * j))) (A.1 24 (40 * s + (f + 3 * j + 1))) (A.1 24 (40 * s + (f + 3 * j + 2)))
                  have b24 : ∀ p, f + 3 * j ≤ p → p ≤ f + 3 * j + 2 → B.1 19 (40 * s + p) = A.1 24 (40 * s + p) := fun p _ h2 => (hit p (by omega)).symm
                  have cdo : ∀ {P : (Int32 × Int32 × Mm) ⊕ (Int32 × Mm) → Prop}, (r < 0 → P (.inl (x5, nI (j + 1), N1))) → (¬ r < 0 → P (.inl (x5 + 1, nI (j + 1), N1))) → En (f_X5_eaters_b69 (nI s) (nI f) (nI n) x5 (nI j) A) P := by
                    intro P p1 p2
                    unfold f_X5_eaters_b69
                    rw [e3j, nI_add]
                    refine en_f hj1 (en_bi (en_bd' (sp_yes (n := 3) hs a2 hA4 (by omega)) (en_f (by decide) (en_bd' (sh_item hs a2 hA4 (by omega)) ?_))))
                    rw [show nI (f + 3 * j) + 1 = nI (f + 3 * j + 1) from nI_add _ 1, show nI (f + 3 * j) + 2 = nI (f + 3 * j + 2) from nI_add _ 2]
                    refine en_bd' (sh_item hs a2 hA4 (by omega)) (en_bd' (sh_item hs a2 hA4 (by omega)) (en_bd' t1 ?_))
                    rw [show nI j + 1 = nI (j + 1) from nI_add j 1]
                    exact en_ite (fun q => en_bi (en_some (p1 q))) (fun q => en_bi (en_bi (en_some (p2 q))))
                  have rdo : ∀ {P : (Int32 × Int32 × Mm) ⊕ (Int32 × Mm) → Prop}, (r < 0 → P (.inl (x5, nI (j + 1), N2))) → (¬ r < 0 → P (.inl (x5 + 1, nI (j + 1), N2))) → En (f_X6_eaters_b75 (nI s) (nI f) (nI n) x5 (nI j) B) P := by
                    intro P p1 p2
                    unfold f_X6_eaters_b75
                    refine en_f hj1 (en_f (nI_ltz (by omega)) (en_gd (bin_nI hs (by omega)) ?_))
                    rw [cl_nI (by omega), hB7, e3j, pk_sub (by omega), show nI (sz - 3 * j) - 3 = nI (sz - 3 * j - 3) from pk_sub (b := 3) (by omega), show (40 : Int32) * nI s = nI (40 * s) from pk_mul 40 s, nI_add, nI_add]
                    refine en_t (by rw [nI_leI (by omega) (by omega)]; omega) (en_bi ?_)
                    rw [show nI (40 * s + f + 3 * j) + 1 = nI (40 * s + (f + 3 * j + 1)) by rw [show 40 * s + (f + 3 * j + 1) = 40 * s + f + 3 * j + 1 by omega]; exact nI_add _ 1, show nI (40 * s + f + 3 * j) + 2 = nI (40 * s + (f + 3 * j + 2)) by rw [show 40 * s + (f + 3 * j + 2) = 40 * s + f + 3 * j + 2 by omega]; exact nI_add _ 2, show 40 * s + f + 3 * j = 40 * s + (f + 3 * j) by omega]
                    refine en_gd (bin_nI (by omega) (by omega)) (en_gd (bin_nI (by omega) (by omega)) (en_gd (bin_nI (by omega) (by omega)) ?_))
                    rw [cl_nI (by omega), cl_nI (by omega), cl_nI (by omega), b24 _ (by omega) (by omega), b24 _ (by omega) (by omega), b24 _ (by omega) (by omega)]
                    refine en_bd' t2 ?_
                    rw [show nI j + 1 = nI (j + 1) from nI_add j 1]
                    refine en_ite (fun q => en_bi (en_bi (en_some ?_))) (fun q => en_bi (en_bi (en_some (p2 q))))
                    rw [Int32.add_zero]
                    exact p1 q
                  by_cases hr : r < 0
                  · exact Or.inl ⟨(x5, nI (j + 1), N1), (x5, nI (j + 1), N2), en_eq (cdo (fun _ => rfl) (fun z => absurd hr z)), en_eq (rdo (fun _ => rfl) (fun z => absurd hr z)), i - 1, by omega, j + 1, by omega, rfl, rfl, rfl, ⟨G2, t3⟩, s1.tr t4, s2.tr t5, Or.inr ⟨f, rfl, by omega⟩⟩
                  · exact Or.inl ⟨(x5 + 1, nI (j + 1), N1), (x5 + 1, nI (j + 1), N2), en_eq (cdo (fun z => absurd z hr) (fun _ => rfl)), en_eq (rdo (fun z => absurd z hr) (fun _ => rfl)), i - 1, by omega, j + 1, by omega, rfl, rfl, rfl, ⟨G2, t3⟩, s1.tr t4, s2.tr t5, Or.inr ⟨f, rfl, by omega⟩⟩
                · refine Or.inr ⟨(-12, A), (-12, B), en_eq ?_, en_eq ?_, rfl, G', nt, zs, hR⟩
                  · unfold f_X5_eaters_b69
                    rw [e3j]
                    refine en_f hj1 (en_bi (en_bd' (sp_no (n := 3) hs a2 (by omega) hA4 ?_) (en_t rfl (en_ex (en_some rfl)))))
                    rintro ⟨p, hp, hp2⟩
                    rcases hj0 with rfl | ⟨f, rfl, hf⟩
                    · rw [show nI (3 * 0) = 0 from rfl, Int32.add_zero] at hp
                      exact hat ⟨p, hp, by omega⟩
                    · rw [nI_add, nI_eq (by omega) (by omega)] at hp
                      exact hat ⟨f, rfl, by omega⟩
                  · unfold f_X6_eaters_b75
                    refine en_f hj1 (en_ite (fun _ => en_ex (en_some rfl)) (fun h0 => en_gd (bin_nI hs (by omega)) ?_))
                    rw [cl_nI (by omega), hB7, e3j]
                    refine en_f ?_ (en_ex (en_some rfl))
                    obtain ⟨f, hf, rfl⟩ := nI_of h0
                    intro z
                    by_cases y : 3 * j + 3 ≤ sz
                    · rw [pk_sub (by omega), show nI (sz - 3 * j) - 3 = nI (sz - 3 * j - 3) from pk_sub (b := 3) (by omega), nI_leI hf (by omega)] at z
                      exact hat ⟨f, rfl, by omega⟩
                    · rw [Int32.le_iff_toInt_le, nI_toInt hf] at z
                      have h3 : (nI sz - nI (3 * j) - nI 3).toInt = (sz : Int) - 3 * j - 3 := by
                        by_cases y2 : 3 * j ≤ sz
                        · rw [pk_sub y2, pk_sub_toInt (by omega) (by omega)]
                          omega
                        · rw [Int32.toInt_sub, pk_sub_toInt (by omega) (by omega), nI_toInt (by omega), Int.bmod_def]
                          omega
                      have h4 : (nI sz - nI (3 * j) - 3).toInt = (sz : Int) - 3 * j - 3 := h3
                      omega
            obtain ⟨y, y', l1, l2, l3, l4⟩ := loop
            refine st_of (P := fun q => q = y) (Q := fun q => q = y') ?_ ?_ (fun a b pa pb => by rw [pa, pb]; exact ⟨l3, l4⟩)
            · unfold f_X5_eaters
              refine en_bd' c1 (en_f (by decide) (en_f k0 (en_f k3 (en_f n0 (en_t n5 (en_bd' (sh_nmis hs a1 a3) (en_t rfl (en_bd' (sh_sort hs M1) ?_))))))))
              rw [a3]
              exact en_t rfl (en_of l1 rfl)
            · unfold f_X6_eaters f_X6_eaters_j57
              refine en_bd' r1 (en_f (by decide) (en_bd' r2 (en_f (by decide) (en_bd' r5 (en_f (by decide) (en_gd (bin_nI hs (by omega)) ?_))))))
              rw [cl_nI (by omega), a5, a6]
              exact en_f (by decide) (en_gd (bin_nI hs (by omega)) (en_t rfl (en_gd (bin_nI hs (by omega)) (en_f (by decide) (en_of l2 rfl)))))
          · refine bad (r := -13) ?_ ?_
            · unfold f_X5_eaters
              refine en_bd' c1 (en_f (by decide) (en_f k0 (en_f k3 (en_f n0 (en_t n5 (en_bd' (sh_nmis hs a1 a3) (en_t rfl (en_bd' (sh_sort hs M1) ?_))))))))
              rw [a3]
              exact en_f (by rw [nI_eq (by omega) (by omega)]; exact hso) (en_some rfl)
            · unfold f_X6_eaters
              refine en_bd' r1 (en_f (by decide) (en_bd' r2 (en_f (by decide) (en_bd' r5 (en_f (by decide) (en_gd (bin_nI hs (by omega)) ?_))))))
              rw [cl_nI (by omega), a5, a6]
              exact en_f (by decide) (en_gd (bin_nI hs (by omega)) (en_f (by rw [nI_eq (by omega) (by omega)]; exact hso) (en_some rfl)))
  · refine bad (r := -2) ?_ ?_
    · unfold f_X5_eaters; exact en_bd' (sh_hasn M1 hx) (en_t rfl (en_some rfl))
    · unfold f_X6_eaters; exact en_bd' (sh_isn M2 hx) (en_t rfl (en_some rfl))
end COPY
