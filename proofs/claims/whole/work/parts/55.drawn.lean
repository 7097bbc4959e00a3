/-! ===== drawn, chance ===== -/
def dz (z : Int32) : Nat → Int32
  | 0 => z
  | k + 1 => dz z k * 1103515245 + 12345
def dg (z : Int32) (m k : Nat) : Nat := ((dz z (k + 1)).toBitVec.toNat / 2 ^ 9) % m
def wD (z : Int32) (m : Nat) : Wy := (0, fun k => some (dg z m k))
theorem ius9 (x : Int32) : ius x 9 = nI (x.toBitVec.toNat / 2 ^ 9) := by
  have h := pk_ushr x 9 9 (by decide)
  have hlt : x.toBitVec.toNat < 2 ^ 32 := x.toBitVec.isLt
  rw [← Int32.toBitVec_inj]
  apply BitVec.eq_of_toNat_eq
  rw [pk_tn (by omega)]
  exact h
theorem draw_eq (x : Int32) {m : Nat} (h0 : 0 < m) (hm : m ≤ 5) : irm (ius x 9) (nI m) = nI ((x.toBitVec.toNat / 2 ^ 9) % m) := by
  have hlt : x.toBitVec.toNat < 2 ^ 32 := x.toBitVec.isLt
  rw [ius9, irm_nI (by omega) h0 (by omega)]
section DRAWN
variable {G G' : Gt} {nt : Nat} {zs : Nat → Txt} {M1 M2 N1 N2 M N A B : Mm} {T : Tb} {s : Sx} {w : Wy} {m v c c0 a mi : Nat} {z : Int32}
theorem CL.s27 (h : CL G a c M) (hs : Sm (fun o _ => !(o == 27)) KA M N) : CL G a c N := by
  obtain ⟨⟨hT, hG, hA, h67, h28, h25, hC⟩, hm, h25'⟩ := h
  refine ⟨⟨hT, hG, hA.same (hs.weak (fun o k z => ?_) (fun _ z => z)), ?_, fun e he => ?_, fun k hk => ⟨?_, ?_⟩, fun e mi h q1 q2 q3 => ?_⟩, fun i hi => ?_, fun k hk => ?_⟩
  · unfold K7 at z; simp at z ⊢; omega
  · rw [hs.1 6 7 rfl]; exact h67
  · rw [hs.1 28 e rfl]; exact h28 e he
  · rw [hs.1 25 k rfl]; exact (h25 k hk).1
  · rw [hs.1 26 k rfl]; exact (h25 k hk).2
  · rw [hs.1 32 _ rfl]; exact hC e mi h q1 q2 q3
  · rw [hs.2 6 rfl]; exact hm i hi
  · rw [hs.1 25 k rfl]; exact h25' k hk
theorem c_plan (h0 : 0 < m) (hm : m ≤ 5) (h3 : M.1 1 3 = nI m) : En (f_X2_planDrawn z M) (fun N => Sm (fun o _ => !(o == 27)) KA M N ∧ ∀ k, k < 12 → N.1 27 k = nI (dg z m k)) := by
  unfold f_X2_planDrawn
  rw [h3, show imx 1 (nI m) = nI (max 1 m) from imx_nI (a := 1) (by omega) (by omega), Nat.max_eq_right (by omega)]
  refine en_bi ?_
  refine en_iter (fun (u : Int32 × Int32 × Mm) => ∃ k, k ≤ 12 ∧ u.1 = dz z k ∧ u.2.1 = nI k ∧ Sm (fun o _ => !(o == 27)) KA M u.2.2 ∧ ∀ j, j < k → u.2.2.1 27 j = nI (dg z m j)) (fun u => 13 - u.2.1.toNatClampNeg) ⟨0, by omega, rfl, rfl, Sm.rf, fun j hj => by omega⟩ (by have := fuel_gt; omega) ?_
  rintro ⟨x3, x4, A⟩ ⟨k, hk, rfl, rfl, g1, g2⟩
  have g1 : Sm (fun o _ => !(o == 27)) KA M A := g1
  have g2 : ∀ j, j < k → A.1 27 j = nI (dg z m j) := g2
  show En (f_X2_planDrawn_b17 (nI m) (dz z k) (nI k) A) _
  unfold f_X2_planDrawn_b17
  refine en_ite (fun q => en_ex (en_some ?_)) (fun q => ?_)
  · have q : nI 12 ≤ nI k := q
    rw [nI_leI (by omega) (by omega)] at q
    exact ⟨g1, fun j hj => g2 j (by omega)⟩
  · have q : ¬ nI 12 ≤ nI k := q
    rw [nI_leI (by omega) (by omega)] at q
    refine en_bi ?_
    rw [draw_eq _ h0 hm]
    refine en_gd (nI_ne0 h0 (by omega)) (en_gd (bin_nI (by omega) (by omega)) (en_bmv fun B e => en_bi (en_some ⟨⟨k + 1, by omega, rfl, nI_add k 1, g1.tr (sm_1 e rfl), fun j hj => ?_⟩, ?_⟩)))
    · rw [cl_nI (by omega)] at e
      show B.1 27 j = _
      by_cases y : j = k
      · subst y; rw [ms_at e]; rfl
      · rw [ms_off e (by omega)]; exact g2 j (by omega)
    · show 13 - (nI k + 1).toNatClampNeg < 13 - (nI k).toNatClampNeg
      rw [show nI k + 1 = nI (k + 1) from nI_add k 1, nI_clamp (by omega), nI_clamp (by omega)]
      omega
theorem wc_D (h0 : 0 < tm T) (hm : tm T ≤ 5) (h5 : 5 ≤ ta T) (hB : tB T ≤ 12) (hp : ∀ k, k < 12 → M.1 27 k = nI (dg z (tm T) k)) : WC T (wD z (tm T)) 0 M := by
  refine Or.inl ⟨rfl, rfl, fun k hk => ?_⟩
  have hlt : dg z (tm T) k < tm T := Nat.mod_lt _ h0
  exact ⟨sit_iff.mpr ⟨hlt, by omega⟩, hp k (by omega)⟩
/-- the reference draws -/
theorem r_draws (hG : Gok G) (hA : AR G M) (h14 : M.1 0 14 = -1) (h0 : 0 < yM G) : En (f_X6_draws z M) (fun q => q.1 = xc (runF (tR G 5 0) (wD z (yM G)) 60) ∧ Sm (fun o k => KU o k && !(o == 13)) KB M q.2) := by
  have hB := hG.1
  have hm := hG.2.2.1
  unfold f_X6_draws
  refine en_iter (fun (u : Int32 × Int32 × Mm) => ∃ k, k ≤ yB G ∧ u.1 = dz z k ∧ u.2.1 = nI k ∧ Sm (fun o _ => !(o == 13)) KA M u.2.2 ∧ ∀ j, j < k → u.2.2.1 13 j = nI (dg z (yM G) j)) (fun u => 13 - u.2.1.toNatClampNeg) ⟨0, by omega, rfl, rfl, Sm.rf, fun j hj => by omega⟩ (by have := fuel_gt; omega) ?_
  rintro ⟨x3, x4, A⟩ ⟨k, hk, rfl, rfl, g1, g2⟩
  have g1 : Sm (fun o _ => !(o == 13)) KA M A := g1
  have g2 : ∀ j, j < k → A.1 13 j = nI (dg z (yM G) j) := g2
  have hAA : AR G A := hA.same g1 (fun o k z => by unfold KR6 at z; simp at z ⊢; omega)
  show En (f_X6_draws_b4 (dz z k) (nI k) A) _
  unfold f_X6_draws_b4
  rw [hAA.1, hAA.2.2.2.1]
  refine en_ite (fun q => en_ex ?_) (fun q => ?_)
  · rw [nI_leI (by omega) (by omega)] at q
    have e : k = yB G := by omega
    subst e
    refine en_bv (en_imp (r_sup (c := 0) (x1 := 4) (x2 := nI (yB G)) (w := wD z (yM G)) hAA hG (by rw [g1.1 0 14 rfl]; exact h14) (Or.inr ⟨by decide, rfl⟩) (Or.inr (Or.inr ⟨Nat.le_refl 5, rfl, Or.inr (Or.inl ⟨rfl, yB G, hB, rfl, fun k hk => ⟨fun hkn => ⟨dg z (yM G) k, Nat.mod_lt _ h0, g2 k hkn, rfl⟩, fun hkn => ?_⟩⟩)⟩))) ?_)
    · have hk : k < yB G := hk
      omega
    · rintro B ⟨k1, k2⟩
      exact en_some ⟨k2.2.2.1, (g1.weak (fun o k z => by simp at z ⊢; exact z.2) (fun _ _ => rfl)).tr (k1.weak (fun o k z => by simp at z; exact z.1) (fun _ z => z))⟩
  · rw [nI_leI (by omega) (by omega)] at q
    refine en_bi ?_
    rw [draw_eq _ h0 hm]
    refine en_gd (nI_ne0 h0 (by omega)) (en_gd (bin_nI (by omega) (by omega)) (en_bmv fun B e => en_bi (en_some ⟨⟨k + 1, by omega, rfl, nI_add k 1, g1.tr (sm_1 e rfl), fun j hj => ?_⟩, ?_⟩)))
    · rw [cl_nI (by omega)] at e
      show B.1 13 j = _
      by_cases y : j = k
      · subst y; rw [ms_at e]; rfl
      · rw [ms_off e (by omega)]; exact g2 j (by omega)
    · show 13 - (nI k + 1).toNatClampNeg < 13 - (nI k).toNatClampNeg
      rw [show nI k + 1 = nI (k + 1) from nI_add k 1, nI_clamp (by omega), nI_clamp (by omega)]
      omega
theorem k1_13 : ∀ o k, KR1 o k = true → (KU o k && !(o == 13)) = true := by
  intro o k z
  have := k1_u o k z
  unfold KR1 at z
  simp at z ⊢
  exact ⟨this, by omega⟩
theorem s27_27 (h : Sm (fun o _ => !(o == 27)) KA M N) : Sm (fun o k => KSc o k && !(o == 27)) KSl M N := h.weak (fun o k z => by simp at z ⊢; exact z.2) (fun _ _ => rfl)
/-- the class draws, with the table laid -/
theorem c_draws {P : Mm → Prop} (hL : CL G 5 0 M) (h0 : 0 < yM G) (hgo : ∀ N, Sm (fun o k => KSc o k && !(o == 27)) KSl M N → CL G 5 0 N → N.1 6 12 = xc (runF (tR G 5 0) (wD z (yM G)) 60) → P N) : En (bv (f_X2_planDrawn z M) fun M7 => f_X2_run (0 : Int32) M7) P := by
  have hG := hL.1.2.1
  have hm := hG.2.2.1
  have hAC := hL.1.2.2.1
  refine en_bv (en_imp (c_plan (z := z) h0 hm hAC.2.2.2.1) ?_)
  rintro A ⟨g1, g2⟩
  refine en_imp (cl_run (x1 := 0) (w := wD z (yM G)) (hL.s27 g1) (wc_D (T := tR G 5 0) h0 hm (Nat.le_refl 5) hG.1 g2)) ?_
  rintro B ⟨g3, g4, g5⟩
  exact hgo B ((s27_27 g1).tr (x_27 g3)) g4 g5.2.2.2.1
theorem c_draws' {α : Type} {K : Mm → Option α} {P : α → Prop} (hL : CL G 5 0 M) (h0 : 0 < yM G) (hgo : ∀ N, Sm (fun o k => KSc o k && !(o == 27)) KSl M N → CL G 5 0 N → N.1 6 12 = xc (runF (tR G 5 0) (wD z (yM G)) 60) → En (K N) P) : En (bv (f_X2_planDrawn z M) fun M7 => bv (f_X2_run (0 : Int32) M7) K) P := by
  obtain ⟨N, e, hN⟩ := c_draws (z := z) hL h0 (P := fun N => En (K N) P) hgo
  cases e1 : f_X2_planDrawn z M with
  | none => rw [e1] at e; cases e
  | some A =>
    rw [e1] at e
    have e : f_X2_run 0 A = some N := e
    exact en_bv' rfl (en_bv' e hN)
theorem s_drawn : St1 Rel f_X5_drawn f_X6_drawn := by
  rintro x M1 M2 ⟨G, nt, zs, h⟩
  have hC := h.ac
  have hA := h.ar
  have hG := h.1.1
  have hm := hG.2.2.1
  have h14 := h.2.2.1.2
  by_cases h0 : yM G = 0
  · refine st_go (r := -4611686018427387904) (N1 := M1) (N2 := M2) ?_ ?_ ⟨G, nt, zs, h⟩
    · unfold f_X5_drawn
      refine en_f ?_ (en_some rfl)
      rw [hC.2.2.2.1, h0]
      decide
    · unfold f_X6_drawn
      refine en_t ?_ (en_some rfl)
      rw [hA.2.2.2.1, h0]
      rfl
  · have h0 : 0 < yM G := by omega
    refine st_of (P := fun q => q.1 = (xc (runF (tR G 5 0) (wD x (yM G)) 60)).toInt64 ∧ Sm (fun o k => KSc o k && !(o == 27)) KSl M1 q.2) (Q := fun q => q.1 = (xc (runF (tR G 5 0) (wD x (yM G)) 60)).toInt64 ∧ Sm (fun o k => KU o k && !(o == 13)) KB M2 q.2) ?_ ?_ ?_
    · unfold f_X5_drawn
      refine en_t ?_ (en_bv (en_imp (c_lay hG hC) ?_))
      · rw [hC.2.2.2.1]
        show nI 1 ≤ nI (yM G)
        rw [nI_leI (by omega) (by omega)]; omega
      · rintro A ⟨g1, g2⟩
        exact c_draws' g2 h0 fun N s1 _ e => en_some ⟨by rw [← e], (sc_27 g1).tr s1⟩
    · unfold f_X6_drawn
      refine en_f ?_ (en_bd (en_imp (r_draws (z := x) hG hA h14 h0) ?_))
      · rw [hA.2.2.2.1]
        exact nI_ne0 h0 (by omega)
      · rintro ⟨r, B⟩ ⟨k1, k2⟩
        have k1 : r = _ := k1
        exact en_some ⟨by rw [k1], k2⟩
    · rintro ⟨a, N1⟩ ⟨b, N2⟩ ⟨p1, p2⟩ ⟨q1, q2⟩
      exact ⟨p1.trans q1.symm, G, nt, zs, h.same p2 q2 k1_27 k1_13⟩
/-! the common divisor -/
theorem c_gcd {p q : Nat} (hp : p ≤ 20) (hq : q ≤ 20) (M : Mm) : f_X5_commonDivisor (nI p) (nI q) M = some (nI (Nat.gcd p q), M) := by
  refine en_eq ?_
  unfold f_X5_commonDivisor
  refine en_iter (fun (u : Int32 × Int32 × Int32 × Mm) => ∃ a b i, a ≤ 20 ∧ b ≤ 20 ∧ i + b ≤ 20 ∧ Nat.gcd a b = Nat.gcd p q ∧ u.1 = nI a ∧ u.2.1 = nI b ∧ u.2.2.1 = nI i ∧ u.2.2.2 = M) (fun u => u.2.1.toNatClampNeg) ⟨p, q, 0, hp, hq, by omega, rfl, rfl, rfl, rfl, rfl⟩ (by have := fuel_gt; show (nI q).toNatClampNeg < fuel; rw [nI_clamp (by omega)]; omega) ?_
  rintro ⟨x2, x3, x4, M'⟩ ⟨a, b, i, ha, hb, hi, hg, rfl, rfl, rfl, hM0⟩
  have hM : M = M' := (show M' = M from hM0).symm
  subst hM
  show En (f_X5_commonDivisor_b7 (nI a) (nI b) (nI i) M) _
  unfold f_X5_commonDivisor_b7
  refine en_f ?_ (en_ite (fun z => en_ex (en_some ?_)) (fun z => en_gd z ?_))
  · show ¬ nI 64 ≤ nI i
    rw [nI_leI (by omega) (by omega)]; omega
  · have z : nI b = nI 0 := z
    rw [nI_eq (by omega) (by omega)] at z
    subst z
    rw [Nat.gcd_zero_right] at hg
    show (nI a, M) = _
    rw [hg]
  · have z : ¬ nI b = nI 0 := z
    rw [nI_eq (by omega) (by omega)] at z
    have hlt := Nat.mod_lt a (show 0 < b by omega)
    rw [irm_nI (by omega) (by omega) (by omega)]
    refine en_bi (en_bi (en_some ⟨⟨b, a % b, i + 1, hb, by omega, by omega, ?_, rfl, rfl, nI_add i 1, rfl⟩, ?_⟩))
    · rw [← hg, Nat.gcd_comm a b, Nat.gcd_rec b a, Nat.gcd_comm]
    · show (nI (a % b)).toNatClampNeg < (nI b).toNatClampNeg
      rw [nI_clamp (by omega), nI_clamp (by omega)]
      exact hlt
theorem r_gcd {p q : Nat} {x2 x3 : Int32} {x5 : Int64} {P : Int64 × Mm → Prop} (hp : p ≤ 20) (hq : q ≤ 20) (hP : En (if x3 = 0 then gd (¬ lN (Nat.gcd p q) = 0) inferInstance (some ((x5 / lN (Nat.gcd p q)), M)) else gd (¬ lN (Nat.gcd p q) = 0) inferInstance (some (((Int32.toInt64 x2) / lN (Nat.gcd p q)), M))) P) : En (iter (fun s => f_X6_chance_b94 x2 x3 x5 s.1 s.2.1 s.2.2) fuel (lN p, lN q, M)) P := by
  refine en_iter (fun (u : Int64 × Int64 × Mm) => ∃ a b, a ≤ 20 ∧ b ≤ 20 ∧ Nat.gcd a b = Nat.gcd p q ∧ u.1 = lN a ∧ u.2.1 = lN b ∧ u.2.2 = M) (fun u => u.2.1.toInt.toNat) ⟨p, q, hp, hq, rfl, rfl, rfl, rfl⟩ (by have := fuel_gt; show (lN q).toInt.toNat < fuel; rw [lN_toInt (by omega)]; omega) ?_
  rintro ⟨x7, x9, M'⟩ ⟨a, b, ha, hb, hg, rfl, rfl, hM0⟩
  have hM : M = M' := (show M' = M from hM0).symm
  subst hM
  show En (f_X6_chance_b94 x2 x3 x5 (lN a) (lN b) M) _
  unfold f_X6_chance_b94
  have hcmp : lg_cmp (lN b) 0 = 0 ↔ b = 0 := by
    rw [lg_cmp_eq]
    exact pk_lEQ (b := 0) (by omega) (by omega)
  refine en_ite (fun z => en_ex ?_) (fun z => ?_)
  · have z := hcmp.mp z
    subst z
    rw [Nat.gcd_zero_right] at hg
    rw [hg]
    exact hP
  · have z := (not_congr hcmp).mp z
    have hlt := Nat.mod_lt a (show 0 < b by omega)
    refine en_gd (fun y => z ((pk_lEQ (b := 0) (by omega) (by omega)).mp y)) ?_
    rw [show lrm (lN a) (lN b) = lN (a % b) from pk_lRem (by omega) (by omega) (by omega)]
    refine en_bl (en_some ⟨⟨b, a % b, hb, by omega, ?_, rfl, rfl, rfl⟩, ?_⟩)
    · rw [← hg, Nat.gcd_comm a b, Nat.gcd_rec b a, Nat.gcd_comm]
    · show (lN (a % b)).toInt.toNat < (lN b).toInt.toNat
      rw [lN_toInt (by omega), lN_toInt (by omega)]
      omega
theorem s_chance : St3 Rel f_X5_chance f_X6_chance := by
  rintro x1 x2 x3 M1 M2 ⟨G, nt, zs, h⟩
  have hC := h.ac
  have hA := h.ar
  have hG := h.1.1
  have hm := hG.2.2.1
  have h14 := h.2.2.1.2
  have bad : En (f_X5_chance x1 x2 x3 M1) (fun q => q = (-4611686018427387904, M1)) → En (f_X6_chance x1 x2 x3 M2) (fun q => q = (-4611686018427387904, M2)) → ∃ r N1 N2, f_X5_chance x1 x2 x3 M1 = some (r, N1) ∧ f_X6_chance x1 x2 x3 M2 = some (r, N2) ∧ Rel N1 N2 := fun e1 e2 => st_go e1 e2 ⟨G, nt, zs, h⟩
  by_cases hn : (1 : Int32) ≤ x2 ∧ x2 ≤ 20
  · have c1 : ¬ x2 < 1 := Int32.not_lt.mpr hn.1
    have c20 : ¬ (20 : Int32) < x2 := Int32.not_lt.mpr hn.2
    have r20 := rin_yes (x := x2) (lo := 1) (hi := 20) (a := 1) (c := 20) rfl rfl hn M2
    obtain ⟨n, hn1, hn20, rfl⟩ : ∃ n, 1 ≤ n ∧ n ≤ 20 ∧ x2 = nI n := by
      obtain ⟨z1, z2⟩ := hn
      obtain ⟨c, hc', rfl⟩ := nI_of (x := x2) (fun y => by
        have h1 : (1 : Int32).toInt = 1 := by decide
        have h0 : (0 : Int32).toInt = 0 := by decide
        rw [Int32.le_iff_toInt_le] at z1
        rw [Int32.lt_iff_toInt_lt] at y
        omega)
      have z1 : nI 1 ≤ nI c := z1
      have z2 : nI c ≤ nI 20 := z2
      rw [nI_leI (by omega) hc'] at z1
      rw [nI_leI hc' (by omega)] at z2
      exact ⟨c, z1, z2, rfl⟩
    by_cases hx3 : x3 = 0 ∨ x3 = 1
    · have r01 := rin_yes (x := x3) (lo := 0) (hi := 1) (a := 0) (c := 1) rfl rfl (by rcases hx3 with rfl | rfl <;> decide) M2
      have cj : ∀ {P : Int64 × Mm → Prop}, En (f_X5_chance_j20 x1 (nI n) x3 M1) P → En (f_X5_chance x1 (nI n) x3 M1) P := by
        intro P hP
        unfold f_X5_chance
        exact en_f c1 (en_f c20 (en_ite (fun _ => hP) (fun z => en_t (hx3.resolve_left z) hP)))
      by_cases h0 : yM G = 0
      · refine bad (cj ?_) ?_
        · unfold f_X5_chance_j20
          refine en_f ?_ (en_some rfl)
          rw [hC.2.2.2.1, h0]
          decide
        · unfold f_X6_chance
          refine en_bd' r20 (en_f (by decide) (en_bd' r01 (en_f (by decide) (en_t ?_ (en_some rfl)))))
          rw [hA.2.2.2.1, h0]
          rfl
      · have h0 : 0 < yM G := by omega
        obtain ⟨A0, eA, g1, g2⟩ := c_lay hG hC
        obtain ⟨A1, q1, g3, g4, g5⟩ := cl_run (x1 := 1) (w := wyj 1 (yM G)) g2 (wc_wy (T := tR G 5 0) (j := 1) (Nat.le_refl 5) hm (by omega))
        obtain ⟨B1, q2, g6, g7⟩ := r_sup (c := 0) (x1 := 1) (x2 := 0) (w := wyj 1 (yM G)) hA hG h14 (Or.inr ⟨by decide, rfl⟩) (rw_wy (T := tR G 5 0) (j := 1) (Nat.le_refl 5) (by omega))
        obtain ⟨ln, hln⟩ : ∃ x, x = xc (runF (tR G 5 0) (wyj 1 (yM G)) 60) := ⟨_, rfl⟩
        have ec : A1.1 6 12 = ln := by rw [hln]; exact g5.2.2.2.1
        have er : B1.1 0 36 = ln := by rw [hln]; exact g7.2.2.1
        have sA1 : Sm (fun o k => KSc o k && !(o == 27)) KSl M1 A1 := (sc_27 g1).tr (x_27 g3)
        have sB1 : Sm (fun o k => KU o k && !(o == 13)) KB M2 B1 := g6.weak (fun o k z => by simp at z; exact z.1) (fun _ z => z)
        have loop : ∃ y y', iter (fun s => f_X5_chance_b72 x1 (nI n) x3 ln s.1 s.2.1 s.2.2) fuel ((0 : Int32), (0 : Int32), A1) = some y ∧ iter (fun s => f_X6_chance_b51 x1 (nI n) x3 ln s.1 s.2.1 s.2.2) fuel ((0 : Int64), (0 : Int32), B1) = some y' ∧ y.1 = y'.1 ∧ Sm (fun o k => KSc o k && !(o == 27)) KSl M1 y.2 ∧ Sm (fun o k => KU o k && !(o == 13)) KB M2 y'.2 := by
          refine iter2 (fun i (u : Int32 × Int32 × Mm) (v : Int64 × Int32 × Mm) => ∃ k a, i + k = n ∧ a ≤ k ∧ u.1 = nI a ∧ v.1 = lN a ∧ u.2.1 = nI k ∧ v.2.1 = nI k ∧ CL G 5 0 u.2.2 ∧ Sm (fun o k => KSc o k && !(o == 27)) KSl M1 u.2.2 ∧ Sm (fun o k => KU o k && !(o == 13)) KB M2 v.2.2) (fun i u v hI => ?_) fuel n _ _ (by have := fuel_gt; omega) ⟨0, 0, rfl, by omega, rfl, rfl, rfl, rfl, g4, sA1, sB1⟩
          obtain ⟨x5, x6, A⟩ := u
          obtain ⟨y5, y6, B⟩ := v
          obtain ⟨k, a, hk, hak, e1, e2, e3, e4, hL, s1, s2⟩ := hI
          have e1 : x5 = nI a := e1
          have e2 : y5 = lN a := e2
          have e3 : x6 = nI k := e3
          have e4 : y6 = nI k := e4
          have hL : CL G 5 0 A := hL
          have s1 : Sm (fun o k => KSc o k && !(o == 27)) KSl M1 A := s1
          have s2 : Sm (fun o k => KU o k && !(o == 13)) KB M2 B := s2
          subst e1 e2 e3 e4
          show (∃ s' t', f_X5_chance_b72 x1 (nI n) x3 ln (nI a) (nI k) A = some (.inl s') ∧ f_X6_chance_b51 x1 (nI n) x3 ln (lN a) (nI k) B = some (.inl t') ∧ _) ∨ (∃ y y', f_X5_chance_b72 x1 (nI n) x3 ln (nI a) (nI k) A = some (.inr y) ∧ f_X6_chance_b51 x1 (nI n) x3 ln (lN a) (nI k) B = some (.inr y') ∧ _)
          by_cases hkn : k < n
          · have hkn' : ¬ nI n ≤ nI k := by rw [nI_leI (by omega) (by omega)]; omega
            have hAB : AR G B := hA.same s2 (fun o k z => by have := k6_u o k z; unfold KR6 at z; simp at z ⊢; exact ⟨this, by omega⟩)
            obtain ⟨⟨r, B2⟩, q3, k1, k2⟩ := r_draws (z := x1 + nI k) hG hAB (by rw [s2.1 0 14 rfl]; exact h14) h0
            obtain ⟨cc, hcc⟩ : ∃ x, x = xc (runF (tR G 5 0) (wD (x1 + nI k) (yM G)) 60) := ⟨_, rfl⟩
            have k1 : r = cc := by rw [hcc]; exact k1
            have k2 : Sm (fun o k => KU o k && !(o == 13)) KB B B2 := k2
            subst k1
            have hk1 : nI k + 1 = nI (k + 1) := nI_add k 1
            have ha1 : nI a + 1 = nI (a + 1) := nI_add a 1
            have hc : En (f_X5_chance_b72 x1 (nI n) x3 ln (nI a) (nI k) A) (fun u => ∃ A2, u = .inl (if ln < r then nI a else nI (a + 1), nI (k + 1), A2) ∧ CL G 5 0 A2 ∧ Sm (fun o k => KSc o k && !(o == 27)) KSl A A2) := by
              unfold f_X5_chance_b72
              refine en_f hkn' (c_draws' hL h0 fun N t1 t2 t3 => ?_)
              rw [t3, ← hcc, hk1, ha1]
              refine en_ite (fun z => en_bi (en_some ⟨N, ?_, t2, t1⟩)) (fun z => en_bi (en_bi (en_some ⟨N, ?_, t2, t1⟩)))
              · rw [if_pos z]
              · rw [if_neg z]
            have hr : En (f_X6_chance_b51 x1 (nI n) x3 ln (lN a) (nI k) B) (fun u => u = .inl (if ln < r then lN a else lN (a + 1), nI (k + 1), B2)) := by
              unfold f_X6_chance_b51
              refine en_f hkn' (en_bd' q3 ?_)
              rw [hk1]
              refine en_ite (fun z => en_bl (en_bi (en_some ?_))) (fun z => en_bl (en_bi (en_some ?_)))
              · rw [if_pos z, show lN a + 0 = lN (a + 0) from lN_add a 0, Nat.add_zero]
              · rw [if_neg z, lN_1]
            obtain ⟨_, f1, A2, rfl, t2, t1⟩ := hc
            have f2 := en_eq hr
            by_cases z : ln < r
            · rw [if_pos z] at f1 f2
              exact Or.inl ⟨_, _, f1, f2, i - 1, by omega, k + 1, a, by omega, by omega, rfl, rfl, rfl, rfl, t2, s1.tr t1, s2.tr k2⟩
            · rw [if_neg z] at f1 f2
              exact Or.inl ⟨_, _, f1, f2, i - 1, by omega, k + 1, a + 1, by omega, by omega, rfl, rfl, rfl, rfl, t2, s1.tr t1, s2.tr k2⟩
          · have hkn' : nI n ≤ nI k := by rw [nI_leI (by omega) (by omega)]; omega
            have hg1 : 0 < Nat.gcd a n := Nat.gcd_pos_of_pos_right _ (by omega)
            have hg20 : Nat.gcd a n ≤ 20 := Nat.le_trans (Nat.gcd_le_right _ (by omega)) hn20
            have hgl : ¬ lN (Nat.gcd a n) = 0 := fun y => by
              have := (pk_lEQ (b := 0) (by omega) (by omega)).mp y
              omega
            refine Or.inr ⟨(lN (if x3 = 0 then a / Nat.gcd a n else n / Nat.gcd a n), A), (lN (if x3 = 0 then a / Nat.gcd a n else n / Nat.gcd a n), B), en_eq ?_, en_eq ?_, rfl, s1, s2⟩
            · unfold f_X5_chance_b72
              refine en_t hkn' (en_ex (en_bd' (c_gcd (by omega) hn20 A) ?_))
              rw [show imx 1 (nI (Nat.gcd a n)) = nI (max 1 (Nat.gcd a n)) from imx_nI (a := 1) (by omega) (by omega), Nat.max_eq_right (by omega)]
              have hda : a / Nat.gcd a n ≤ a := Nat.div_le_self _ _
              have hdn : n / Nat.gcd a n ≤ n := Nat.div_le_self _ _
              refine en_bi (en_ite (fun z => en_gd (nI_ne0 hg1 (by omega)) (en_some ?_)) (fun z => en_gd (nI_ne0 hg1 (by omega)) (en_some ?_)))
              · rw [if_pos z, pk_div (by omega) hg1 (by omega), nI_l (by omega)]
              · rw [if_neg z, pk_div (by omega) hg1 (by omega), nI_l (by omega)]
            · unfold f_X6_chance_b51
              rw [nI_l (by omega)]
              refine en_t hkn' (en_ex (en_bl (r_gcd (by omega) hn20 (en_ite (fun z => en_gd hgl (en_some ?_)) (fun z => en_gd hgl (en_some ?_))))))
              · rw [if_pos z, pk_lDiv (by omega) hg1 (by omega)]
              · rw [if_neg z, nI_l (by omega), pk_lDiv (by omega) hg1 (by omega)]
        obtain ⟨y, y', l1, l2, l3, l4, l5⟩ := loop
        refine st_of (P := fun q => q = y) (Q := fun q => q = y') (cj ?_) ?_ (fun a b pa pb => by rw [pa, pb]; exact ⟨l3, G, nt, zs, h.same l4 l5 k1_27 k1_13⟩)
        · unfold f_X5_chance_j20
          refine en_t ?_ ?_
          · rw [hC.2.2.2.1]
            show nI 1 ≤ nI (yM G)
            rw [nI_leI (by omega) (by omega)]; omega
          · rw [eA]
            refine en_bv' rfl ?_
            rw [q1]
            refine en_bv' rfl (en_bi ?_)
            rw [ec]
            exact en_of l1 rfl
        · unfold f_X6_chance
          refine en_bd' r20 (en_f (by decide) (en_bd' r01 (en_f (by decide) (en_f ?_ ?_))))
          · rw [hA.2.2.2.1]
            exact nI_ne0 h0 (by omega)
          · rw [q2]
            refine en_bv' rfl (en_bi ?_)
            rw [er]
            exact en_of l2 rfl
    · refine bad ?_ ?_
      · unfold f_X5_chance
        exact en_f c1 (en_f c20 (en_f (fun z => hx3 (Or.inl z)) (en_f (fun z => hx3 (Or.inr z)) (en_some rfl))))
      · unfold f_X6_chance
        refine en_bd' r20 (en_f (by decide) (en_bd' (rin_no (a := 0) (c := 1) rfl rfl (fun z => hx3 ?_) M2) (en_t rfl (en_some rfl))))
        obtain ⟨c, hc', rfl⟩ := nI_of (Int32.not_lt.mpr z.1)
        have z2 : nI c ≤ nI 1 := z.2
        rw [nI_leI hc' (by omega)] at z2
        rcases (by omega : c = 0 ∨ c = 1) with rfl | rfl
        · exact Or.inl rfl
        · exact Or.inr rfl
  · refine bad ?_ ?_
    · unfold f_X5_chance
      exact en_ite (fun _ => en_some rfl) (fun q => en_t (Int32.not_le.mp (fun z => hn ⟨Int32.not_lt.mp q, z⟩)) (en_some rfl))
    · unfold f_X6_chance
      exact en_bd' (rin_no (a := 1) (c := 20) rfl rfl hn M2) (en_t rfl (en_some rfl))
end DRAWN
