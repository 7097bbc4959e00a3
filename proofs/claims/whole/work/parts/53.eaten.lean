/-! ===== eaten ===== -/
theorem or_0 (x y : Int32) : x ||| isl 0 y = x := by
  rw [← Int32.toBitVec_inj]
  unfold isl
  rw [Int32.toBitVec_or, Int32.toBitVec_shiftLeft]
  show x.toBitVec ||| (0#32 <<< ((y &&& 31).toBitVec.smod 32).toNat) = x.toBitVec
  rw [BitVec.zero_shiftLeft, BitVec.or_zero]
theorem imn_60 (x : Int32) : imn x 60 = if x < 60 then x else 60 := by
  unfold imn
  by_cases h1 : (60 : Int32) < x
  · rw [if_pos h1, if_neg (fun z => by rw [Int32.lt_iff_toInt_lt] at h1 z; omega)]
  · rw [if_neg h1]
    by_cases h2 : x < 60
    · rw [if_pos h2]
    · rw [if_neg h2]
      rw [Int32.lt_iff_toInt_lt] at h1 h2
      rw [← Int32.toInt_inj]
      omega
/-- the table of G, eating ea -/
def tE (G : Gt) (ea : Nat → Nat) : Tb := tbl G (yP G) 5 ea (rdN (yP G) (tkz (yZ G)))
section EATEN
variable {G G' : Gt} {nt : Nat} {zs : Nat → Txt} {M1 M2 N1 N2 M N A B : Mm} {T : Tb} {s : Sx} {w : Wy} {m v c c0 a mi : Nat} {ea : Nat → Nat}
theorem tE_G : tE G (eaN G) = tR G 5 0 := rfl
theorem tE_A {i p : Nat} : tE G (eaN (gA G i p)) = tR (gA G i p) 5 0 := rfl
theorem eaN_A {i p : Nat} (h : ∀ e, e ≠ i → ea e = eaN G e) : upN ea i (max 1 (eatN (yK G i) p)) = eaN (gA G i p) := by
  funext e
  unfold upN
  by_cases q : e = i
  · subst q
    rw [if_pos rfl]
    show _ = max 1 (eatN (yK G e) (upN (yA G) e p e))
    rw [upN_s]
  · rw [if_neg q, h e q]
    show max 1 (eatN (yK G e) (yA G e)) = max 1 (eatN (yK G e) (upN (yA G) i p e))
    rw [upN_n q]
theorem lastTold_eq {e : Nat} (h : M.1 1 3 = nI m) (hm : m ≤ 5) (he : e < m) : f_X2_lastTold (nI e) M = some (imn (M.1 31 e) 60, M) := by
  refine en_eq ?_
  unfold f_X2_lastTold
  refine en_bd' (has_yes h hm ⟨e, he, rfl⟩) (en_f (by decide) (en_gd (bin_nI (by omega) (by omega)) (en_some ?_)))
  rw [cl_nI (by omega)]
theorem isSo_eq {e sn : Nat} (he : e < 5) (hs : sn < 4) : f_X6_isEatenSo (nI sn) (nI e) M = some (if imn (M.1 9 e) 60 = M.1 19 (40 * sn + e) then 1 else 0, M) := by
  refine en_eq ?_
  unfold f_X6_isEatenSo
  refine en_gd (bin_nI he (by omega)) ?_
  rw [cl_nI (by omega), imn_60]
  have j22 : ∀ x : Int32, En (f_X6_isEatenSo_j22 (nI sn) (nI e) x M) (fun b => b = (if x = M.1 19 (40 * sn + e) then 1 else 0, M)) := by
    intro x
    unfold f_X6_isEatenSo_j22
    rw [show (40 : Int32) * nI sn = nI (40 * sn) from pk_mul 40 sn, nI_add]
    refine en_gd (bin_nI (by omega) (by omega)) ?_
    rw [cl_nI (by omega)]
    refine en_ite (fun z => en_some ?_) (fun z => en_some ?_)
    · rw [if_pos z]
    · rw [if_neg z]
  refine en_ite (fun z => en_gd (bin_nI he (by omega)) ?_) (fun z => ?_)
  · rw [if_pos z]; exact j22 _
  · rw [if_neg z]; exact j22 _
/-- the class's table, with this eating -/
def CE (G : Gt) (ea : Nat → Nat) (M : Mm) : Prop := CT G (tE G ea) M ∧ CM (tE G ea) M
theorem CE.put {i : Nat} (h : CE G ea M) (hi : i < yM G) (hv : v ≤ 100) (hN : N = ms M 28 i (nI v)) : CE G (upN ea i v) N := by
  obtain ⟨⟨hT, hG, hA, h67, h28, h25, hC⟩, hm⟩ := h
  refine ⟨⟨⟨rfl, rfl, rfl, fun _ _ _ _ => rfl, fun _ _ _ _ _ => rfl, fun e => up_le hT.2.2.2.2.2.1 hv e, hT.2.2.2.2.2.2.1, hT.2.2.2.2.2.2.2⟩, hG, hA.same (KL := KA) (sm_1 hN rfl), ?_, fun e he => ?_, fun k hk => ⟨?_, ?_⟩, fun e mi h q1 q2 q3 => ?_⟩, fun i hi => ?_⟩
  · rw [ms_off hN (by omega)]; exact h67
  · show N.1 28 e = nI (upN ea i v e)
    rw [hN]
    exact up_row (h28 e he)
  · rw [ms_off hN (by omega)]; exact (h25 k hk).1
  · rw [ms_off hN (by omega)]; exact (h25 k hk).2
  · rw [ms_off hN (by omega)]; exact hC e mi h q1 q2 q3
  · rw [ms_offl hN]; exact hm i hi
theorem AR.gA2 {i p p' : Nat} (h : AR (gA G i p') M) (e : N = ms M 7 i (nI p)) : AR (gA G i p) N := by
  obtain ⟨h1, h2, h3, h4, h5, b, n, h6, h7, h8, h9⟩ := h
  refine ⟨by rw [ms_off e (by omega)]; exact h1, by rw [ms_off e (by omega)]; exact h2, by rw [ms_off e (by omega)]; exact h3, by rw [ms_off e (by omega)]; exact h4, fun j hj => ?_, b, n, h6, by rw [ms_off e (by omega)]; exact h7, fun j hj => by rw [ms_off e (by omega)]; exact h8 j hj, h9⟩
  obtain ⟨b1, b2, b3, b4⟩ := h5 j hj
  refine ⟨by rw [ms_off e (by omega)]; exact b1, by rw [ms_off e (by omega)]; exact b2, by rw [ms_off e (by omega)]; exact b3, ?_⟩
  show N.1 7 j = nI (upN (yA G) i p j)
  by_cases q : j = i
  · subst q; rw [ms_at e, upN_s]
  · rw [ms_off e (by omega), b4, upN_n q]
    show nI (upN (yA G) i p' j) = _
    rw [upN_n q]
theorem AR.gA0 {i : Nat} (h : AR G M) : AR (gA G i (yA G i)) M := by
  obtain ⟨h1, h2, h3, h4, h5, h6⟩ := h
  refine ⟨h1, h2, h3, h4, fun j hj => ?_, h6⟩
  obtain ⟨b1, b2, b3, b4⟩ := h5 j hj
  refine ⟨b1, b2, b3, ?_⟩
  rw [b4]
  show nI (yA G j) = nI (upN (yA G) i (yA G i) j)
  unfold upN
  split
  · next q => rw [q]
  · rfl
/-! who isn't so -/
theorem both_notSo {sn : Nat} (hG : Gok G) (hs : sn < 4) (hC : M1.1 1 3 = nI (yM G)) (hA : M2.1 0 13 = nI (yM G)) (hz : M1.1 23 sn = nI (yM G)) (hl : ∀ e, e < yM G → M1.1 31 e = M2.1 9 e) (hi : ∀ e, e < yM G → M1.1 24 (40 * sn + e) = M2.1 19 (40 * sn + e)) :
    ∃ r, iter (fun s => f_X5_notSo_b12 (nI sn) s.1 s.2.1 s.2.2) fuel ((0 : Int32), (0 : Int32), M1) = some (r, M1) ∧ iter (fun s => f_X6_eaten_b67 (nI sn) s.1 s.2.1 s.2.2) fuel ((0 : Int32), (0 : Int32), M2) = some (r, M2) := by
  have hm := hG.2.2.1
  have loop : ∃ y y', iter (fun s => f_X5_notSo_b12 (nI sn) s.1 s.2.1 s.2.2) fuel ((0 : Int32), (0 : Int32), M1) = some y ∧ iter (fun s => f_X6_eaten_b67 (nI sn) s.1 s.2.1 s.2.2) fuel ((0 : Int32), (0 : Int32), M2) = some y' ∧ y = (y'.1, M1) ∧ y'.2 = M2 := by
    refine iter2 (fun i (u v : Int32 × Int32 × Mm) => ∃ e, i + e = yM G ∧ u = (v.1, nI e, M1) ∧ v.2 = (nI e, M2)) (fun i u v hI => ?_) fuel (yM G) _ _ (by have := fuel_gt; omega) ⟨0, rfl, rfl, rfl⟩
    obtain ⟨y2, v2⟩ := v
    obtain ⟨e, he, rfl, e2⟩ := hI
    have e2 : v2 = (nI e, M2) := e2
    subst e2
    show (∃ s' t', f_X5_notSo_b12 (nI sn) y2 (nI e) M1 = some (.inl s') ∧ f_X6_eaten_b67 (nI sn) y2 (nI e) M2 = some (.inl t') ∧ _) ∨ (∃ y y', f_X5_notSo_b12 (nI sn) y2 (nI e) M1 = some (.inr y) ∧ f_X6_eaten_b67 (nI sn) y2 (nI e) M2 = some (.inr y') ∧ _)
    by_cases hem : e < yM G
    · have he1 : nI e + 1 = nI (e + 1) := nI_add e 1
      have c5 : ¬ (5 : Int32) ≤ nI e := by show ¬ nI 5 ≤ nI e; rw [nI_leI (by omega) (by omega)]; omega
      have cm : ¬ M1.1 1 3 ≤ nI e := by rw [hC, nI_leI (by omega) (by omega)]; omega
      have rm : ¬ M2.1 0 13 ≤ nI e := by rw [hA, nI_leI (by omega) (by omega)]; omega
      have hit := sh_item (i := e) hs (by omega : yM G ≤ 40) hz hem
      by_cases q : imn (M2.1 9 e) 60 = M2.1 19 (40 * sn + e)
      · refine Or.inl ⟨(y2, nI (e + 1), M1), (y2, nI (e + 1), M2), en_eq ?_, en_eq ?_, i - 1, by omega, e + 1, by omega, rfl, rfl⟩
        · unfold f_X5_notSo_b12
          refine en_f c5 (en_f cm (en_bd' (lastTold_eq hC hm hem) (en_bd' hit (en_t ?_ (en_bi (en_some ?_))))))
          · rw [hl e hem, hi e hem]; exact q
          · rw [he1]
        · unfold f_X6_eaten_b67
          refine en_f rm (en_bd' (isSo_eq (by omega) hs) ?_)
          rw [if_pos q]
          refine en_f (by decide) (en_bi (en_bi (en_some ?_)))
          rw [or_0, he1]
      · refine Or.inl ⟨(y2 ||| isl 1 (nI e), nI (e + 1), M1), (y2 ||| isl 1 (nI e), nI (e + 1), M2), en_eq ?_, en_eq ?_, i - 1, by omega, e + 1, by omega, rfl, rfl⟩
        · unfold f_X5_notSo_b12
          refine en_f c5 (en_f cm (en_bd' (lastTold_eq hC hm hem) (en_bd' hit (en_f ?_ (en_bi (en_bi (en_some ?_)))))))
          · rw [hl e hem, hi e hem]; exact q
          · rw [he1]
        · unfold f_X6_eaten_b67
          refine en_f rm (en_bd' (isSo_eq (by omega) hs) ?_)
          rw [if_neg q]
          refine en_t rfl (en_bi (en_bi (en_some ?_)))
          rw [he1]
    · refine Or.inr ⟨(y2, M1), (y2, M2), en_eq ?_, en_eq ?_, rfl, rfl⟩
      · unfold f_X5_notSo_b12
        refine en_ite (fun _ => en_ex (en_some rfl)) (fun _ => en_t ?_ (en_ex (en_some rfl)))
        rw [hC, nI_leI (by omega) (by omega)]; omega
      · unfold f_X6_eaten_b67
        refine en_t ?_ (en_ex (en_some rfl))
        rw [hA, nI_leI (by omega) (by omega)]; omega
  obtain ⟨y, y', l1, l2, l3, l4⟩ := loop
  obtain ⟨r, N⟩ := y'
  have l4 : N = M2 := l4
  subst l4
  exact ⟨r, by rw [l1, l3], l2⟩
theorem s_eaten : St2 Rel f_X5_eaten f_X6_eaten := by
  rintro x1 x2 M1 M2 ⟨G, nt, zs, h⟩
  have hC := h.ac
  have hA := h.ar
  have hG := h.1.1
  have hB := hG.1
  have hm := hG.2.2.1
  have h14 := h.2.2.1.2
  have bad : ∀ {r : Int32}, En (f_X5_eaten x1 x2 M1) (fun q => q = (r, M1)) → En (f_X6_eaten x1 x2 M2) (fun q => q = (r, M2)) → ∃ r N1 N2, f_X5_eaten x1 x2 M1 = some (r, N1) ∧ f_X6_eaten x1 x2 M2 = some (r, N2) ∧ Rel N1 N2 := fun e1 e2 => st_go e1 e2 ⟨G, nt, zs, h⟩
  by_cases hx : ∃ i, i < 4 ∧ x1 = nI i
  · obtain ⟨sn, hs, rfl⟩ := hx
    by_cases he : x2 = -1 ∨ ∃ i, i < yM G ∧ x2 = nI i
    · have cj : ∀ {P : Int32 × Mm → Prop}, En (f_X5_eaten_j30 (nI sn) x2 M1) P → En (f_X5_eaten (nI sn) x2 M1) P := by
        intro P hP
        unfold f_X5_eaten
        refine en_bd' (sh_has M1 ⟨sn, hs, rfl⟩) (en_f (by decide) (en_ite (fun _ => hP) (fun z => en_bd' (has_yes hC.2.2.2.1 hm (he.resolve_left z)) (en_f (by decide) hP))))
      have rj : ∀ {P : Int32 × Mm → Prop}, En (f_X6_eaten_j23 (nI sn) x2 M2) P → En (f_X6_eaten (nI sn) x2 M2) P := by
        intro P hP
        unfold f_X6_eaten
        refine en_bd' (sh_is M2 ⟨sn, hs, rfl⟩) (en_f (by decide) (en_ite (fun _ => hP) (fun z => en_bd' (isE_in hA.2.2.2.1 hm (he.resolve_left z)) (en_f (by decide) hP))))
      rcases h.2.2.2.2.2.1 sn hs with ⟨a, b⟩ | ⟨so, sz, a1, a2, a3, a4, a5, a6, a7, a8⟩
      · refine bad (r := -11) (cj ?_) (rj ?_)
        · unfold f_X5_eaten_j30
          exact en_bd' (sh_mis hs a) (en_f (by decide) (en_some rfl))
        · unfold f_X6_eaten_j23
          refine en_gd (bin_nI hs (by omega)) ?_
          rw [cl_nI (by omega)]
          exact en_t b (en_some rfl)
      · have cj2 : ∀ {P : Int32 × Mm → Prop}, (sz ≠ yM G → P (-2, M1)) → (sz = yM G → En (bv (f_X2_lay (M1.1 1 1) M1) fun M7 => if x2 = (-1 : Int32) then bd (f_X5_notSo (nI sn) M7) fun r11 M10 => some (r11, M10) else bd (f_X5_pacesOf (nI sn) x2 M7) fun r9 M8 => some (r9, M8)) P) → En (f_X5_eaten_j30 (nI sn) x2 M1) P := by
          intro P h1 h2
          unfold f_X5_eaten_j30
          refine en_bd' (sh_nmis hs a1 a3) (en_t rfl (en_bd' (sh_size hs M1) ?_))
          rw [a4, hC.2.2.2.1]
          exact en_ite (fun z => h2 ((nI_eq (by omega) (by omega)).mp z)) (fun z => en_some (h1 (fun y => z (by rw [y]))))
        have rj2 : ∀ {P : Int32 × Mm → Prop}, (sz ≠ yM G → P (-2, M2)) → (sz = yM G → En (if x2 = (-1 : Int32) then bv (f_X6_sups (1 : Int32) (0 : Int32) M2) fun M13 => iter (fun s => f_X6_eaten_b67 (nI sn) s.1 s.2.1 s.2.2) fuel ((0 : Int32), (0 : Int32), M13) else gd (bin x2 5 = true) inferInstance <| bi (M2.1 7 (Int32.toNatClampNeg x2)) fun y3 => iter (fun s => f_X6_eaten_b116 (nI sn) x2 s.1 y3 s.2.1 s.2.2) fuel ((0 : Int32), (1 : Int32), M2)) P) → En (f_X6_eaten_j23 (nI sn) x2 M2) P := by
          intro P h1 h2
          unfold f_X6_eaten_j23
          refine en_gd (bin_nI hs (by omega)) ?_
          rw [cl_nI (by omega), a5, a7, hA.2.2.2.1]
          exact en_f (by decide) (en_gd (bin_nI hs (by omega)) (en_ite (fun z => h2 ((nI_eq (by omega) (by omega)).mp z)) (fun z => en_some (h1 (fun y => z (by rw [y]))))))
        by_cases hsz : sz = yM G
        · obtain ⟨A0, eA, g1, g2⟩ := c_lay hG hC
          have g1x := sc_27 g1
          by_cases hx2 : x2 = -1
          · obtain ⟨A1, q1, g3, -, g4⟩ := cl_run (x1 := 1) (w := wyj 1 (yM G)) g2 (wc_wy (T := tR G 5 0) (j := 1) (Nat.le_refl 5) hm (by omega))
            obtain ⟨B1, q2, g5, g6⟩ := r_sup (c := 0) (x1 := 1) (x2 := 0) (w := wyj 1 (yM G)) hA hG h14 (Or.inr ⟨by decide, rfl⟩) (rw_wy (T := tR G 5 0) (j := 1) (Nat.le_refl 5) (by omega))
            have hsA : Sm (fun o k => KSc o k && !(o == 27)) KSl M1 A1 := g1x.tr (x_27 g3)
            obtain ⟨r, l1, l2⟩ := both_notSo (M1 := A1) (M2 := B1) hG hs g4.cap.1 g6.1.cap.1 (by rw [hsA.1 23 sn rfl, a4, hsz]) (fun e he => by rw [(g4.2.1 e (by omega)).2.2, (g6.2.1 e (by omega)).2.2]) (fun e he => by rw [hsA.1 24 _ rfl, g5.1 19 _ rfl]; exact a8 e (by omega))
            refine st_sup h (r := r) (cj (cj2 (fun z => absurd hsz z) (fun _ => ?_))) (rj (rj2 (fun z => absurd hsz z) (fun _ => ?_)))
            · rw [eA]
              refine en_bv' rfl (en_t hx2 ?_)
              unfold f_X5_notSo
              rw [q1]
              exact en_bd (en_bv' rfl (en_of l1 (en_some ⟨rfl, hsA⟩)))
            · refine en_t hx2 ?_
              rw [q2]
              exact en_bv' rfl (en_of l2 ⟨rfl, u_1 g5⟩)
          · obtain ⟨i, hi, rfl⟩ := he.resolve_left hx2
            have hK5 := (hG.2.2.2.2.1 i).1
            obtain ⟨b1, b2, b3, b4⟩ := hA.2.2.2.2.1 i hi
            have hi5 : i < 5 := by omega
            have hbi : bin (nI i) 5 = true := bin_nI hi5 (by omega)
            have loop : ∃ y y', iter (fun s => f_X5_pacesOf_b5 (nI sn) (nI i) s.1 s.2.1 s.2.2) fuel ((0 : Int32), (1 : Int32), A0) = some y ∧ iter (fun s => f_X6_eaten_b116 (nI sn) (nI i) s.1 (nI (yA G i)) s.2.1 s.2.2) fuel ((0 : Int32), (1 : Int32), M2) = some y' ∧ y.1 = y'.1 ∧ Sm (fun o k => KSc o k && !(o == 27)) KSl M1 y.2 ∧ Sm KU KB M2 y'.2 := by
              refine iter2 (fun j (u v : Int32 × Int32 × Mm) => ∃ p, j + p = 21 ∧ 1 ≤ p ∧ u.1 = v.1 ∧ u.2.1 = nI p ∧ v.2.1 = nI p ∧ (∃ ea, CE G ea u.2.2 ∧ ∀ e, e ≠ i → ea e = eaN G e) ∧ (∃ p', AR (gA G i p') v.2.2) ∧ Sm (fun o k => KSc o k && !(o == 27)) KSl M1 u.2.2 ∧ Sm (fun o k => KU o k && !(o == 7 && k == i)) KB M2 v.2.2) (fun j u v hI => ?_) fuel 20 _ _ (by have := fuel_gt; omega) ⟨1, rfl, by omega, rfl, rfl, rfl, ⟨eaN G, ⟨g2.1, g2.2.1⟩, fun _ _ => rfl⟩, ⟨yA G i, hA.gA0⟩, g1x, Sm.rf⟩
              obtain ⟨x3, x4, A⟩ := u
              obtain ⟨y3, y4, B⟩ := v
              obtain ⟨p, hp, hp1, e1, e2, e3, ⟨ea, hE, hea⟩, ⟨p', hAp⟩, s1, s2⟩ := hI
              have e1 : x3 = y3 := e1
              have e2 : x4 = nI p := e2
              have e3 : y4 = nI p := e3
              have hE : CE G ea A := hE
              have hAp : AR (gA G i p') B := hAp
              have s1 : Sm (fun o k => KSc o k && !(o == 27)) KSl M1 A := s1
              have s2 : Sm (fun o k => KU o k && !(o == 7 && k == i)) KB M2 B := s2
              subst e1 e2 e3
              show (∃ s' t', f_X5_pacesOf_b5 (nI sn) (nI i) x3 (nI p) A = some (.inl s') ∧ f_X6_eaten_b116 (nI sn) (nI i) x3 (nI (yA G i)) (nI p) B = some (.inl t') ∧ _) ∨ (∃ y y', f_X5_pacesOf_b5 (nI sn) (nI i) x3 (nI p) A = some (.inr y) ∧ f_X6_eaten_b116 (nI sn) (nI i) x3 (nI (yA G i)) (nI p) B = some (.inr y') ∧ _)
              by_cases hp20 : p ≤ 20
              · have hn : ¬ (20 : Int32) < nI p := by show ¬ nI 20 < nI p; rw [nI_ltI (by omega) (by omega)]; omega
                have hv100 : max 1 (eatN (yK G i) p) ≤ 100 := by
                  unfold eatN
                  repeat' split
                  all_goals omega
                have hAC : AC G A := hE.1.2.2.1
                obtain ⟨A1, f1⟩ : ∃ z, z = ms A 28 i (nI (max 1 (eatN (yK G i) p))) := ⟨_, rfl⟩
                have hE1 : CE G (eaN (gA G i p)) A1 := by
                  have := hE.put hi hv100 f1
                  rw [eaN_A hea] at this
                  exact this
                have hT1 : tE G (eaN (gA G i p)) = tR (gA G i p) 5 0 := rfl
                obtain ⟨A2, q1, g3, g4⟩ := c_run (x1 := 1) (w := wyj 1 (yM G)) hE1.1 hE1.2 (wc_wy (T := tE G (eaN (gA G i p))) (j := 1) (Nat.le_refl 5) hm (by omega))
                have hE2 : CE G (eaN (gA G i p)) A2 := ⟨g4.1, hE1.2.same g3⟩
                obtain ⟨B1, f2⟩ : ∃ z, z = ms B 7 i (nI p) := ⟨_, rfl⟩
                have hGp : Gok (gA G i p) := ⟨hG.1, hG.2.1, hG.2.2.1, hG.2.2.2.1, fun e => ⟨(hG.2.2.2.2.1 e).1, (hG.2.2.2.2.1 e).2.1, (hG.2.2.2.2.1 e).2.2.1, up_le (fun e => (hG.2.2.2.2.1 e).2.2.2) hp20 e⟩, hG.2.2.2.2.2⟩
                have hAp1 : AR (gA G i p) B1 := hAp.gA2 f2
                obtain ⟨B2, q2, g5, g6⟩ := r_sup (c := 0) (x1 := 1) (x2 := 0) (w := wyj 1 (yM G)) hAp1 hGp (by rw [ms_off f2 (by omega), s2.1 0 14 (by simp; rfl)]; exact h14) (Or.inr ⟨by decide, rfl⟩) (rw_wy (T := tR (gA G i p) 5 0) (j := 1) (Nat.le_refl 5) (by omega))
                have hAp2 : AR (gA G i p) B2 := hAp1.same g5 k6_u
                have sA : Sm (fun o k => KSc o k && !(o == 27)) KSl M1 A2 := (s1.tr (sm_1 f1 rfl)).tr (x_27 g3)
                have sB : Sm (fun o k => KU o k && !(o == 7 && k == i)) KB M2 B2 := (s2.tr (sm_1 f2 (by simp))).tr (g5.weak (fun o k z => by simp at z; exact z.1) (fun _ z => z))
                have hlast : A2.1 31 i = B2.1 9 i := by rw [(g4.2.1 i hi5).2.2, (g6.2.1 i hi5).2.2]; rfl
                have hitem : A2.1 24 (40 * sn + i) = B2.1 19 (40 * sn + i) := by rw [sA.1 24 _ rfl, sB.1 19 _ (by simp; rfl)]; exact a8 i (by omega)
                have hp1' : nI p + 1 = nI (p + 1) := nI_add p 1
                have cdo : ∀ {P : (Int32 × Int32 × Mm) ⊕ (Int32 × Mm) → Prop}, En (if imn (A2.1 31 i) 60 = A2.1 24 (40 * sn + i) then bi (x3 ||| (isl (1 : Int32) (nI p))) fun y10 => bi (nI p + (1 : Int32)) fun y11 => some (.inl (y10, y11, A2)) else bi (nI p + (1 : Int32)) fun y9 => some (.inl (x3, y9, A2))) P → En (f_X5_pacesOf_b5 (nI sn) (nI i) x3 (nI p) A) P := by
                  intro P hP
                  unfold f_X5_pacesOf_b5
                  refine en_f hn (en_gd hbi ?_)
                  rw [cl_nI (by omega), (hAC.2.2.2.2.1 i hi).1]
                  refine en_bd' (eatsOf_eq hK5 hp20 A) (en_gd hbi (en_bm ?_))
                  rw [← f1, q1]
                  exact en_bv' rfl (en_bd' (lastTold_eq g4.cap.1 hm hi) (en_bd' (sh_item (i := i) hs (by omega : yM G ≤ 40) (by rw [sA.1 23 sn rfl, a4, hsz]) hi) hP))
                have rdo : ∀ {P : (Int32 × Int32 × Mm) ⊕ (Int32 × Mm) → Prop}, En (if (if imn (B2.1 9 i) 60 = B2.1 19 (40 * sn + i) then (1 : Int32) else 0) = 0 then bi (x3 ||| (isl (0 : Int32) (nI p))) fun y9 => bi (nI p + (1 : Int32)) fun y10 => some (.inl (y9, y10, B2)) else bi (x3 ||| (isl (1 : Int32) (nI p))) fun y11 => bi (nI p + (1 : Int32)) fun y12 => some (.inl (y11, y12, B2))) P → En (f_X6_eaten_b116 (nI sn) (nI i) x3 (nI (yA G i)) (nI p) B) P := by
                  intro P hP
                  unfold f_X6_eaten_b116
                  refine en_f hn (en_gd hbi (en_bm ?_))
                  rw [cl_nI (by omega), ← f2, q2]
                  exact en_bv' rfl (en_bd' (isSo_eq hi5 hs) hP)
                by_cases q : imn (B2.1 9 i) 60 = B2.1 19 (40 * sn + i)
                · refine Or.inl ⟨(x3 ||| isl 1 (nI p), nI (p + 1), A2), (x3 ||| isl 1 (nI p), nI (p + 1), B2), en_eq (cdo (en_t (by rw [hlast, hitem]; exact q) (en_bi (en_bi (en_some (by rw [hp1'])))))), en_eq (rdo ?_), j - 1, by omega, p + 1, by omega, by omega, rfl, rfl, rfl, ⟨_, hE2, fun e hne => ?_⟩, ⟨p, hAp2⟩, sA, sB⟩
                  · rw [if_pos q]
                    exact en_f (by decide) (en_bi (en_bi (en_some (by rw [hp1']))))
                  · rw [← eaN_A hea, upN_n hne]
                    exact hea e hne
                · refine Or.inl ⟨(x3, nI (p + 1), A2), (x3, nI (p + 1), B2), en_eq (cdo (en_f (by rw [hlast, hitem]; exact q) (en_bi (en_some (by rw [hp1']))))), en_eq (rdo ?_), j - 1, by omega, p + 1, by omega, by omega, rfl, rfl, rfl, ⟨_, hE2, fun e hne => ?_⟩, ⟨p, hAp2⟩, sA, sB⟩
                  · rw [if_neg q]
                    exact en_t rfl (en_bi (en_bi (en_some (by rw [or_0, hp1']))))
                  · rw [← eaN_A hea, upN_n hne]
                    exact hea e hne
              · have hn : (20 : Int32) < nI p := by show nI 20 < nI p; rw [nI_ltI (by omega) (by omega)]; omega
                refine Or.inr ⟨(x3, A), (x3, ms B 7 i (nI (yA G i))), en_eq ?_, en_eq ?_, rfl, s1, sm_fix (a := 7) (b := i) (s2.tr (sm_1 rfl (by simp))) ?_⟩
                · unfold f_X5_pacesOf_b5
                  exact en_t hn (en_ex (en_some rfl))
                · unfold f_X6_eaten_b116
                  refine en_t hn (en_ex (en_gd hbi (en_bm (en_some ?_))))
                  rw [cl_nI (by omega)]
                · show (ms B 7 i (nI (yA G i))).1 7 i = M2.1 7 i
                  rw [ms_at rfl, b4]
            obtain ⟨y, y', l1, l2, l3, l4, l5⟩ := loop
            refine st_sup h (r := y.1) (cj (cj2 (fun z => absurd hsz z) (fun _ => ?_))) (rj (rj2 (fun z => absurd hsz z) (fun _ => ?_)))
            · rw [eA]
              refine en_bv' rfl (en_f hx2 ?_)
              unfold f_X5_pacesOf
              exact en_bd (en_of l1 (en_some ⟨rfl, l4⟩))
            · refine en_f hx2 (en_gd hbi ?_)
              rw [cl_nI (by omega), b4]
              exact en_bi (en_of l2 ⟨l3.symm, u_1 l5⟩)
        · exact bad (r := -2) (cj (cj2 (fun _ => rfl) (fun z => absurd z hsz))) (rj (rj2 (fun _ => rfl) (fun z => absurd z hsz)))
    · have hx2 : ¬ x2 = -1 := fun z => he (Or.inl z)
      have hx3 : ¬ ∃ i, i < yM G ∧ x2 = nI i := fun z => he (Or.inr z)
      refine bad (r := -2) ?_ ?_
      · unfold f_X5_eaten
        exact en_bd' (sh_has M1 ⟨sn, hs, rfl⟩) (en_f (by decide) (en_f hx2 (en_bd' (has_no hC.2.2.2.1 hm hx3) (en_t rfl (en_some rfl)))))
      · unfold f_X6_eaten
        exact en_bd' (sh_is M2 ⟨sn, hs, rfl⟩) (en_f (by decide) (en_f hx2 (en_bd' (isE_out hA.2.2.2.1 hm hx3) (en_t rfl (en_some rfl)))))
  · refine bad (r := -2) ?_ ?_
    · unfold f_X5_eaten; exact en_bd' (sh_hasn M1 hx) (en_t rfl (en_some rfl))
    · unfold f_X6_eaten; exact en_bd' (sh_isn M2 hx) (en_t rfl (en_some rfl))
end EATEN
