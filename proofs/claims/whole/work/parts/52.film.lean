/-! ===== film ===== -/
def cB (f : Nat → Bool) : Nat → Nat
  | 0 => 0
  | k + 1 => if f k = true then cB f k + 1 else cB f k
theorem cB_le (f : Nat → Bool) : ∀ k, cB f k ≤ k
  | 0 => Nat.le_refl _
  | k + 1 => by
    have := cB_le f k
    unfold cB
    split <;> omega
theorem cB_add (sv : Nat → Nat) (i : Nat) : ∀ k, cB (fun j => decide (sv j < i)) k + cB (fun j => decide (sv j = i)) k = cB (fun j => decide (sv j < i + 1)) k
  | 0 => rfl
  | k + 1 => by
    have ih := cB_add sv i k
    unfold cB
    simp only [decide_eq_true_eq]
    by_cases h1 : sv k < i
    · rw [if_pos h1, if_neg (show ¬ sv k = i by omega), if_pos (show sv k < i + 1 by omega)]
      omega
    · by_cases h2 : sv k = i
      · rw [if_neg h1, if_pos h2, if_pos (show sv k < i + 1 by omega)]
        omega
      · rw [if_neg h1, if_neg h2, if_neg (show ¬ sv k < i + 1 by omega)]
        omega
section FILM
variable {G G' : Gt} {nt : Nat} {zs : Nat → Txt} {M1 M2 N1 N2 M N A B : Mm} {T : Tb} {s : Sx} {w : Wy} {m v c c0 a mi : Nat}
theorem give_had (o : Option Nat) (k e : Nat) : xh (giveTo T mi k s o) e ≤ xh s e + 1 := by
  cases o with
  | none => exact Nat.le_succ _
  | some j =>
    show upN (xh s) j (xh s j + 1) e ≤ xh s e + 1
    unfold upN
    split
    · next q => rw [q]; exact Nat.le_refl _
    · exact Nat.le_succ _
theorem serve_had (e : Nat) : ∀ k, xh (serveF T w mi k s) e ≤ xh s e + cB (fun j => decide (tsv T j = mi)) k
  | 0 => Nat.le_refl _
  | k + 1 => by
    have ih := serve_had e k
    unfold serveF cB
    simp only [decide_eq_true_eq]
    by_cases h : tsv T k = mi
    · rw [if_pos h, if_pos h]
      have := give_had (T := T) (mi := mi) (s := serveF T w mi k s) (who T w (serveF T w mi k s) mi k) k e
      omega
    · rw [if_neg h, if_neg h]
      exact ih
theorem run_had (e : Nat) : ∀ i, xh (runF T w i) e ≤ cB (fun j => decide (tsv T j < i)) (tB T)
  | 0 => Nat.zero_le _
  | i + 1 => by
    have ih := run_had e i
    have h1 := serve_had (T := T) (w := w) (mi := i) (s := runF T w i) e (tB T)
    have h2 : xh (runF T w (i + 1)) e = xh (serveF T w i (tB T) (runF T w i)) e := by
      show xh (passF T i 5 (fairF T (serveF T w i (tB T) (runF T w i)))) e = _
      rw [(passF_had (T := T) (mi := i) (s := fairF T (serveF T w i (tB T) (runF T w i))) 5).1]
      rfl
    have h3 := cB_add (tsv T) i (tB T)
    omega
theorem had_12 (hB : tB T ≤ 12) (e : Nat) : xh (runF T w 60) e ≤ 12 := by
  have h1 := run_had (T := T) (w := w) e 60
  have h2 := cB_le (fun j => decide (tsv T j < 60)) (tB T)
  omega
theorem nrw_12 : ∀ h : Nat, h < 13 → nrw 0 (nI h) = nI h := by decide
theorem c_film {sn : Nat} {hd : Nat → Nat} (hs : sn < 4) (hm : m ≤ 5) (h3 : M.1 1 3 = nI m) (hh : ∀ e, e < m → M.1 29 e = nI (hd e) ∧ hd e ≤ 12) (h22 : M.1 22 sn = 0) (h23 : M.1 23 sn = nI m) : En (iter (fun s => f_X5_film_b64 (nI sn) s.1 s.2) fuel ((0 : Int32), M)) (fun q => q.1 = nI m ∧ Sm (KLs sn) KA M q.2 ∧ q.2.1 22 sn = 0 ∧ q.2.1 23 sn = nI m ∧ ∀ e, e < m → q.2.1 24 (40 * sn + e) = nI (hd e)) := by
  refine en_iter (fun (z : Int32 × Mm) => ∃ k, k ≤ m ∧ z.1 = nI k ∧ Sm (fun o j => !(o == 24 && (decide (40 * sn ≤ j) && decide (j < 40 * sn + 40)))) KA M z.2 ∧ ∀ e, e < k → z.2.1 24 (40 * sn + e) = nI (hd e)) (fun z => 6 - z.1.toNatClampNeg) ⟨0, by omega, rfl, Sm.rf, fun e he => by omega⟩ (by have := fuel_gt; omega) ?_
  rintro ⟨x, A⟩ ⟨k, hk, rfl, g1, g2⟩
  have g1 : Sm (fun o j => !(o == 24 && (decide (40 * sn ≤ j) && decide (j < 40 * sn + 40)))) KA M A := g1
  have g2 : ∀ e, e < k → A.1 24 (40 * sn + e) = nI (hd e) := g2
  have hA3 : A.1 1 3 = nI m := by rw [g1.1 1 3 rfl]; exact h3
  have done : k = m → (nI m, A).1 = nI m ∧ Sm (KLs sn) KA M A ∧ A.1 22 sn = 0 ∧ A.1 23 sn = nI m ∧ ∀ e, e < m → A.1 24 (40 * sn + e) = nI (hd e) := by
    intro e
    subst e
    refine ⟨rfl, g1.weak (fun o k z => ?_) (fun _ z => z), by rw [g1.1 22 sn rfl]; exact h22, by rw [g1.1 23 sn rfl]; exact h23, g2⟩
    unfold KLs at z
    simp at z ⊢
    omega
  show En (f_X5_film_b64 (nI sn) (nI k) A) _
  unfold f_X5_film_b64
  rw [hA3]
  refine en_ite (fun q => en_ex (en_some (done ?_))) (fun q => en_ite (fun q2 => en_ex (en_some (done ?_))) (fun q2 => ?_))
  · have q : nI 5 ≤ nI k := q
    rw [nI_leI (by omega) (by omega)] at q
    omega
  · rw [nI_leI (by omega) (by omega)] at q2
    omega
  · rw [nI_leI (by omega) (by omega)] at q2
    have hkm : k < m := by omega
    have hh' := hh k hkm
    refine en_gd (bin_nI (by omega) (by omega)) ?_
    rw [cl_nI (by omega), g1.1 29 k rfl, hh'.1]
    refine en_bv' (sh_put (so := 0) (sz := m) (nI (hd k)) hs (by omega) (by omega) (by rw [g1.1 22 sn rfl]; exact h22) (by rw [g1.1 23 sn rfl]; exact h23) hkm) ?_
    rw [nrw_12 (hd k) (by omega)]
    refine en_bi (en_some ⟨⟨k + 1, by omega, nI_add k 1, g1.tr (sm_1 rfl (by simp; omega)), fun e he => ?_⟩, ?_⟩)
    · show (ms A 24 (40 * sn + k) (nI (hd k))).1 24 (40 * sn + e) = _
      by_cases z : e = k
      · subst z; exact ms_at rfl
      · rw [ms_off rfl (by omega)]; exact g2 e (by omega)
    · show 6 - (nI k + 1).toNatClampNeg < 6 - (nI k).toNatClampNeg
      rw [show nI k + 1 = nI (k + 1) from nI_add k 1, nI_clamp (by omega), nI_clamp (by omega)]
      omega
theorem r_film {sn : Nat} {hd : Nat → Nat} (hs : sn < 4) (hm : m ≤ 5) (h13 : M.1 0 13 = nI m) (hh : ∀ e, e < m → M.1 8 e = nI (hd e)) : En (iter (fun s => f_X6_film_b41 (nI sn) s.1 s.2) fuel ((0 : Int32), M)) (fun q => q.1 = nI m ∧ Sm (fun o j => !(o == 19 && (decide (40 * sn ≤ j) && decide (j < 40 * sn + 40)))) KA M q.2 ∧ ∀ e, e < m → q.2.1 19 (40 * sn + e) = nI (hd e)) := by
  refine en_iter (fun (z : Int32 × Mm) => ∃ k, k ≤ m ∧ z.1 = nI k ∧ Sm (fun o j => !(o == 19 && (decide (40 * sn ≤ j) && decide (j < 40 * sn + 40)))) KA M z.2 ∧ ∀ e, e < k → z.2.1 19 (40 * sn + e) = nI (hd e)) (fun z => 6 - z.1.toNatClampNeg) ⟨0, by omega, rfl, Sm.rf, fun e he => by omega⟩ (by have := fuel_gt; omega) ?_
  rintro ⟨x, A⟩ ⟨k, hk, rfl, g1, g2⟩
  have g1 : Sm (fun o j => !(o == 19 && (decide (40 * sn ≤ j) && decide (j < 40 * sn + 40)))) KA M A := g1
  have g2 : ∀ e, e < k → A.1 19 (40 * sn + e) = nI (hd e) := g2
  show En (f_X6_film_b41 (nI sn) (nI k) A) _
  unfold f_X6_film_b41
  rw [g1.1 0 13 rfl, h13]
  refine en_ite (fun q => en_ex (en_some ?_)) (fun q => ?_)
  · rw [nI_leI (by omega) (by omega)] at q
    exact ⟨rfl, g1, fun e he => g2 e (by omega)⟩
  · rw [nI_leI (by omega) (by omega)] at q
    rw [show (40 : Int32) * nI sn = nI (40 * sn) from pk_mul 40 sn, nI_add]
    refine en_gd (bin_nI (by omega) (by omega)) (en_gd (bin_nI (by omega) (by omega)) (en_bmv fun C e => en_bi (en_some ⟨⟨k + 1, by omega, nI_add k 1, ?_, fun e' he => ?_⟩, ?_⟩)))
    · rw [cl_nI (by omega)] at e
      exact g1.tr (sm_1 e (by simp; omega))
    · rw [cl_nI (by omega), cl_nI (by omega), g1.1 8 k rfl, hh k (by omega)] at e
      show C.1 19 (40 * sn + e') = _
      by_cases z : e' = k
      · subst z; exact ms_at e
      · rw [ms_off e (by omega)]; exact g2 e' (by omega)
    · show 6 - (nI k + 1).toNatClampNeg < 6 - (nI k).toNatClampNeg
      rw [show nI k + 1 = nI (k + 1) from nI_add k 1, nI_clamp (by omega), nI_clamp (by omega)]
      omega
theorem s_film : St2 Rel f_X5_film f_X6_film := by
  rintro x1 x2 M1 M2 ⟨G, nt, zs, h⟩
  have hC := h.ac
  have hA := h.ar
  have hG := h.1.1
  have hB := hG.1
  have hm := hG.2.2.1
  have h14 := h.2.2.1.2
  have bad : ∀ {r : Int32}, En (f_X5_film x1 x2 M1) (fun q => q = (r, M1)) → En (f_X6_film x1 x2 M2) (fun q => q = (r, M2)) → ∃ r N1 N2, f_X5_film x1 x2 M1 = some (r, N1) ∧ f_X6_film x1 x2 M2 = some (r, N2) ∧ Rel N1 N2 := fun e1 e2 => st_go e1 e2 ⟨G, nt, zs, h⟩
  by_cases hx : ∃ i, i < 4 ∧ x1 = nI i
  · obtain ⟨sn, hs, rfl⟩ := hx
    by_cases hj : ∃ j, 1 ≤ j ∧ j ≤ 3 ∧ x2 = nI j
    · obtain ⟨j, hj1, hj3, rfl⟩ := hj
      have hd12 := had_12 (T := tR G 5 0) (w := wyj j (yM G)) hB
      refine st_of (P := fun q => q.1 = nI (yM G) ∧ ∃ A, Sm KSc KSl M1 A ∧ Sm (KLs sn) KA A q.2 ∧ q.2.1 22 sn = 0 ∧ q.2.1 23 sn = nI (yM G) ∧ ∀ e, e < yM G → q.2.1 24 (40 * sn + e) = nI (xh (runF (tR G 5 0) (wyj j (yM G)) 60) e)) (Q := fun q => q.1 = nI (yM G) ∧ ∃ B, Sm KU KB M2 B ∧ Sm (KRs sn) KA B q.2 ∧ q.2.1 16 sn = 1 ∧ q.2.1 17 sn = 0 ∧ q.2.1 18 sn = nI (yM G) ∧ ∀ e, e < yM G → q.2.1 19 (40 * sn + e) = nI (xh (runF (tR G 5 0) (wyj j (yM G)) 60) e)) ?_ ?_ ?_
      · unfold f_X5_film
        refine en_bd' (sh_has M1 ⟨sn, hs, rfl⟩) (en_f (by decide) (en_f ?_ (en_t ?_ (en_bv (en_imp (c_lay hG hC) ?_)))))
        · show ¬ nI j < nI 1
          rw [nI_ltI (by omega) (by omega)]; omega
        · show nI j ≤ nI 3
          rw [nI_leI (by omega) (by omega)]; exact hj3
        · rintro A ⟨g1, g2⟩
          refine en_bv (en_imp (cl_run (w := wyj j (yM G)) g2 (wc_wy (T := tR G 5 0) (Nat.le_refl 5) hm ⟨hj1, hj3⟩)) ?_)
          rintro B ⟨g3, -, g4⟩
          have h13 : B.1 1 3 = nI (yM G) := g4.cap.1
          rw [h13]
          refine en_bv (en_imp (c_slay hs (by omega) B) ?_)
          rintro C ⟨g5, g6, g7, g8⟩
          refine en_imp (c_film (hd := xh (runF (tR G 5 0) (wyj j (yM G)) 60)) hs hm (by rw [g5.1 1 3 (by unfold KLs; simp)]; exact h13) (fun e he => ⟨?_, hd12 e⟩) g6 g7) ?_
          · rw [g5.1 29 e (by unfold KLs; simp)]
            exact (g4.2.1 e (by omega)).1
          · rintro q ⟨k1, k2, k3, k4, k5⟩
            exact ⟨k1, B, g1.tr (g3.weak kx_sc (fun _ _ => rfl)), g5.tr k2, k3, k4, k5⟩
      · unfold f_X6_film
        refine en_bd' (sh_is M2 ⟨sn, hs, rfl⟩) (en_f (by decide) (en_bd' (rin_yes (a := 1) (c := 3) rfl rfl (nI_btw (a := 1) (c := 3) hj1 hj3 (by omega)) M2) (en_f (by decide) (en_bv (en_imp (r_sup (c := 0) (w := wyj j (yM G)) hA hG h14 (Or.inr ⟨?_, rfl⟩) (rw_wy (T := tR G 5 0) (Nat.le_refl 5) ⟨hj1, hj3⟩)) ?_)))))
        · show nI j ≠ nI 5
          exact fun z => by rw [nI_eq (by omega) (by omega)] at z; omega
        · rintro B ⟨g1, g2⟩
          have h13 : B.1 0 13 = nI (yM G) := g2.1.cap.1
          rw [h13]
          refine en_bd (r_sheet (so := 0) hs (by omega) (by omega) B (en_imp (r_slay hs (by omega) (by omega) B) ?_))
          rintro ⟨r, C⟩ ⟨-, g4, g5, g6, g7, g8⟩
          have g4 : Sm (KRs sn) KA B C := g4
          have g5 : C.1 16 sn = 1 := g5
          have g6 : C.1 17 sn = 0 := g6
          have g7 : C.1 18 sn = nI (yM G) := g7
          refine en_imp (r_film (hd := xh (runF (tR G 5 0) (wyj j (yM G)) 60)) (m := yM G) hs hm (by rw [g4.1 0 13 (by unfold KRs; simp)]; exact h13) (fun e he => ?_)) ?_
          · rw [g4.1 8 e (by unfold KRs; simp)]
            exact (g2.2.1 e (by omega)).1
          · rintro q ⟨k1, k2, k3⟩
            refine ⟨k1, B, g1, g4.tr (k2.weak (fun o k z => ?_) (fun _ z => z)), by rw [k2.1 16 sn rfl]; exact g5, by rw [k2.1 17 sn rfl]; exact g6, by rw [k2.1 18 sn rfl]; exact g7, k3⟩
            unfold KRs at z
            simp at z ⊢
            omega
      · rintro ⟨a, N1⟩ ⟨b, N2⟩ ⟨p1, A, p2, p3, p4, p5, p6⟩ ⟨q1, B, q2, q3, q4, q5, q6, q7⟩
        have hAB : RG G nt zs A B := h.same p2 q2 k1_sc k1_u
        exact ⟨p1.trans q1.symm, G, nt, zs, hAB.sh1 p3 q3 (Or.inr ⟨0, yM G, by omega, by omega, p4, p5, q4, q5, q6, fun i hi => (p6 i hi).trans (q7 i hi).symm⟩)⟩
    · have hn : ¬ ((1 : Int32) ≤ x2 ∧ x2 ≤ 3) := by
        rintro ⟨z1, z2⟩
        obtain ⟨c, hc', rfl⟩ := nI_of (x := x2) (fun y => by
          have h1 : (1 : Int32).toInt = 1 := by decide
          have h0 : (0 : Int32).toInt = 0 := by decide
          rw [Int32.le_iff_toInt_le] at z1
          rw [Int32.lt_iff_toInt_lt] at y
          omega)
        have z1 : nI 1 ≤ nI c := z1
        have z2 : nI c ≤ nI 3 := z2
        rw [nI_leI (by omega) hc'] at z1
        rw [nI_leI hc' (by omega)] at z2
        exact hj ⟨c, z1, z2, rfl⟩
      refine bad (r := -2) ?_ ?_
      · unfold f_X5_film
        exact en_bd' (sh_has M1 ⟨sn, hs, rfl⟩) (en_f (by decide) (en_ite (fun _ => en_some rfl) (fun q => en_f (fun z => hn ⟨Int32.not_lt.mp q, z⟩) (en_some rfl))))
      · unfold f_X6_film
        exact en_bd' (sh_is M2 ⟨sn, hs, rfl⟩) (en_f (by decide) (en_bd' (rin_no (a := 1) (c := 3) rfl rfl hn M2) (en_t rfl (en_some rfl))))
  · refine bad (r := -2) ?_ ?_
    · unfold f_X5_film; exact en_bd' (sh_hasn M1 hx) (en_t rfl (en_some rfl))
    · unfold f_X6_film; exact en_bd' (sh_isn M2 hx) (en_t rfl (en_some rfl))
end FILM
