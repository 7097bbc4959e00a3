/-! ===== heap, keep, second, leave ===== -/
section HEAP
variable {G G' : Gt} {nt : Nat} {zs : Nat → Txt} {M1 M2 N1 N2 M N A B : Mm} {T : Tb} {s : Sx} {w : Wy} {m v c c0 a : Nat}
/-- the class's table laid: of G, heaps of c, a being away -/
def CL (G : Gt) (a c : Nat) (M : Mm) : Prop := CT G (tR G a c) M ∧ CM (tR G a c) M ∧ ∀ k, k < 12 → M.1 25 k = nI (rdN (yP G) (tkz (yZ G)) k)
theorem c_lay (hG : Gok G) (hA : AC G M) : En (f_X2_lay (M.1 1 1) M) (fun N => Sm KSc KSl M N ∧ CL G 5 0 N) := by
  rw [hA.2.1]
  refine en_imp (lay_ok hG hA hG.2.1) ?_
  rintro N ⟨g1, g2, g3, -, -, g6⟩
  exact ⟨g1, g2, g3, g6⟩
theorem c_heap (h : CL G a c0 M) (hc : 0 < c) (hc2 : c ≤ 12) : En (f_X2_heapUp (nI c) M) (fun N => Sm KSc KSl M N ∧ CL G a c N) := by
  obtain ⟨⟨hT, hG, hA, h67, h28, h25, hC⟩, hm, h25'⟩ := h
  have hrd := rd_le hG.2.1 (fun k => (tkz_in (yZ G) k).2)
  have hB := hG.1
  refine en_imp (heap_ok (c := c) (rd := rdN (yP G) (tkz (yZ G))) hG.1 hA.1 (fun k hk => ⟨h25' k hk, by have := hrd k; omega⟩) hc hc2) ?_
  rintro N ⟨g1, g2, g3⟩
  have hsv : svG (yB G) c (rdN (yP G) (tkz (yZ G))) = svN (yB G) c (rdN (yP G) (tkz (yZ G))) := if_neg (by omega)
  refine ⟨g1.weak (fun o k z => ?_) (fun _ z => z), ⟨⟨tgh_tbl hG.2.1 (eaN_le hG) (fun k hk => svG_le hB (fun i hi => by have := hrd i; omega) hk), hG, hA.same (KL := KSl) (g1.weak (fun o k z => ?_) (fun _ z => z)), ?_, fun e he => ?_, fun k hk => ⟨?_, ?_⟩, fun e mi h q1 q2 q3 => ?_⟩, fun i hi => ?_, fun k hk => ?_⟩⟩
  · unfold KSc at z; simp at z ⊢; omega
  · unfold K7 at z; simp at z ⊢; omega
  · rw [g1.1 6 7 rfl, h67]; rfl
  · rw [g1.1 28 e rfl]; exact h28 e he
  · rw [g1.1 25 k rfl]; exact h25' k (by omega)
  · rw [g2 k hk]
    show _ = nI (svG (yB G) c (rdN (yP G) (tkz (yZ G))) k)
    rw [hsv]
  · rw [g1.1 32 _ rfl]; exact hC e mi h q1 q2 q3
  · rw [g3 i hi]
    show _ ↔ ∃ k, k < yB G ∧ svG (yB G) c (rdN (yP G) (tkz (yZ G))) k = i
    rw [hsv]
  · rw [g1.1 25 k rfl]; exact h25' k hk
theorem CL.run (h : CL G a c M) (hs : Sm KX KA M N) (hR : CR G (tR G a c) s N) : CL G a c N := ⟨hR.1, h.2.1.same hs, fun k hk => by rw [hs.1 25 k rfl]; exact h.2.2 k hk⟩
/-- the class runs, with the table laid -/
theorem cl_run {x1 : Int32} (h : CL G a c M) (hw : WC (tR G a c) w x1 M) : En (f_X2_run x1 M) (fun N => Sm KX KA M N ∧ CL G a c N ∧ CR G (tR G a c) (runF (tR G a c) w 60) N) := by
  refine en_imp (c_run h.1 h.2.1 hw) ?_
  rintro N ⟨g1, g2⟩
  exact ⟨g1, h.run g1 g2, g2⟩
theorem CL.away {e : Nat} (h : CL G a c M) (he : e < 5) (hN : N = ms M 6 7 (nI e)) : CL G e c N := by
  obtain ⟨⟨hT, hG, hA, h67, h28, h25, hC⟩, hm, h25'⟩ := h
  refine ⟨⟨⟨rfl, rfl, rfl, fun _ _ _ _ => rfl, fun _ _ _ _ _ => rfl, hT.2.2.2.2.2.1, hT.2.2.2.2.2.2.1, hT.2.2.2.2.2.2.2⟩, hG, hA.same (KL := KA) (sm_1 hN rfl), ?_, fun e he => ?_, fun k hk => ⟨?_, ?_⟩, fun e mi h q1 q2 q3 => ?_⟩, fun i hi => ?_, fun k hk => ?_⟩
  · rw [ms_at hN]
    show nI e = if e < 5 then nI e else -1
    rw [if_pos he]
  · rw [ms_off hN (by omega)]; exact h28 e he
  · rw [ms_off hN (by omega)]; exact (h25 k hk).1
  · rw [ms_off hN (by omega)]; exact (h25 k hk).2
  · rw [ms_off hN (by omega)]; exact hC e mi h q1 q2 q3
  · rw [ms_offl hN]; exact hm i hi
  · rw [ms_off hN (by omega)]; exact h25' k hk
theorem ks_27 : ∀ o k, (KSc o k && !(o == 27)) = true → KSc o k = true := fun o k z => by simp at z; exact z.1
theorem k1_27 : ∀ o k, KC1 o k = true → (KSc o k && !(o == 27)) = true := by
  intro o k z
  have := k1_sc o k z
  unfold KC1 at z
  simp at z ⊢
  exact ⟨this, by omega⟩
/-- both come to one answer, and have only worked at a supper -/
theorem st_sup {α : Type} {x y : Option (α × Mm)} {r : α} (h : RG G nt zs M1 M2) (h1 : En x (fun q => q.1 = r ∧ Sm (fun o k => KSc o k && !(o == 27)) KSl M1 q.2)) (h2 : En y (fun q => q.1 = r ∧ Sm KR1 KB M2 q.2)) : ∃ r N1 N2, x = some (r, N1) ∧ y = some (r, N2) ∧ Rel N1 N2 :=
  st_of h1 h2 fun _ _ p q => ⟨p.1.trans q.1.symm, G, nt, zs, h.same p.2 q.2 k1_27 (fun _ _ z => z)⟩
theorem sc_27 (h : Sm KSc KSl M N) : Sm (fun o k => KSc o k && !(o == 27)) KSl M N := h.weak ks_27 (fun _ z => z)
theorem x_27 (h : Sm KX KA M N) : Sm (fun o k => KSc o k && !(o == 27)) KSl M N := h.weak (fun o k z => kx_sc o k (ks_27 o k z)) (fun _ _ => rfl)
theorem u_1 (h : Sm KU KB M N) : Sm KR1 KB M N := h.weak k1_u (fun _ z => z)
theorem s_heap : St2 Rel f_X5_heap f_X6_heap := by
  rintro x1 x2 M1 M2 ⟨G, nt, zs, h⟩
  have hC := h.ac
  have hA := h.ar
  have hG := h.1.1
  have hm := hG.2.2.1
  have h14 := h.2.2.1.2
  have bad : En (f_X5_heap x1 x2 M1) (fun q => q = (-100000, M1)) → En (f_X6_heap x1 x2 M2) (fun q => q = (-100000, M2)) → ∃ r N1 N2, f_X5_heap x1 x2 M1 = some (r, N1) ∧ f_X6_heap x1 x2 M2 = some (r, N2) ∧ Rel N1 N2 := fun e1 e2 => st_go e1 e2 ⟨G, nt, zs, h⟩
  by_cases hc : ∃ c, 1 ≤ c ∧ c ≤ 12 ∧ x1 = nI c
  · obtain ⟨c, hc1, hc2, rfl⟩ := hc
    have r12 := rin_yes (x := nI c) (lo := 1) (hi := 12) (a := 1) (c := 12) rfl rfl (nI_btw (a := 1) (c := 12) hc1 hc2 (by omega)) M2
    have c1 : ¬ nI c < 1 := by show ¬ nI c < nI 1; rw [nI_ltI (by omega) (by omega)]; omega
    have c12 : ¬ (12 : Int32) < nI c := by show ¬ nI 12 < nI c; rw [nI_ltI (by omega) (by omega)]; omega
    by_cases hv : ∃ v, x2 = nI v ∧ okW (yM G) v
    · have cv := c_isA hC.2.2.2.1 hm hv
      have rv := r_isT hA.2.2.2.1 hm hv
      obtain ⟨v, rfl, hv⟩ := hv
      refine st_sup h (r := ansV (runF (tR G 5 c) (wyj 1 (yM G)) 60) v) ?_ ?_
      · unfold f_X5_heap
        refine en_f c1 (en_f c12 (en_bd' cv (en_f (by decide) (en_bv (en_imp (c_lay hG hC) ?_)))))
        rintro A ⟨g1, g2⟩
        refine en_bv (en_imp (c_heap g2 hc1 hc2) ?_)
        rintro B ⟨g3, g4⟩
        refine en_bv (en_imp (cl_run (x1 := 1) (w := wyj 1 (yM G)) g4 (wc_wy (T := tR G 5 c) (j := 1) (Nat.le_refl 5) hm (by omega))) ?_)
        rintro C ⟨g5, -, g6⟩
        exact en_bd' (c_ans g6 hv) (en_some ⟨rfl, (sc_27 (g1.tr g3)).tr (x_27 g5)⟩)
      · unfold f_X6_heap
        refine en_bd' r12 (en_f (by decide) (en_bd' rv (en_f (by decide) (en_bv (en_imp (r_sup (c := c) (w := wyj 1 (yM G)) hA hG h14 (Or.inl ⟨rfl, by omega, hc2, rfl⟩) (rw_hp (T := tR G 5 c) (Nat.le_refl 5))) ?_)))))
        rintro A ⟨g1, g2⟩
        exact en_bd' (r_ans g2 (Nat.le_refl 5) hv) (en_some ⟨rfl, u_1 g1⟩)
    · have cv := c_isAn hC.2.2.2.1 hm hv
      have rv := r_isTn hA.2.2.2.1 hm hv
      refine bad ?_ ?_
      · unfold f_X5_heap
        exact en_f c1 (en_f c12 (en_bd' cv (en_t rfl (en_some rfl))))
      · unfold f_X6_heap
        exact en_bd' r12 (en_f (by decide) (en_bd' rv (en_t rfl (en_some rfl))))
  · have hn : ¬ ((1 : Int32) ≤ x1 ∧ x1 ≤ 12) := by
      rintro ⟨z1, z2⟩
      obtain ⟨c, hc', rfl⟩ := nI_of (x := x1) (fun y => by
        have h1 : (1 : Int32).toInt = 1 := by decide
        have h0 : (0 : Int32).toInt = 0 := by decide
        rw [Int32.le_iff_toInt_le] at z1
        rw [Int32.lt_iff_toInt_lt] at y
        omega)
      have z1 : nI 1 ≤ nI c := z1
      have z2 : nI c ≤ nI 12 := z2
      rw [nI_leI (by omega) hc'] at z1
      rw [nI_leI hc' (by omega)] at z2
      exact hc ⟨c, z1, z2, rfl⟩
    refine bad ?_ ?_
    · unfold f_X5_heap
      refine en_ite (fun _ => en_some rfl) (fun q => en_t ?_ (en_some rfl))
      exact Int32.not_le.mp (fun z => hn ⟨Int32.not_lt.mp q, z⟩)
    · unfold f_X6_heap
      exact en_bd' (rin_no (a := 1) (c := 12) rfl rfl hn M2) (en_t rfl (en_some rfl))
/-! keep -/
theorem s_keep : St1 Rel f_X5_keep f_X6_keep := by
  rintro x M1 M2 ⟨G, nt, zs, h⟩
  have hC := h.ac
  have hA := h.ar
  have hG := h.1.1
  have hm := hG.2.2.1
  have h14 := h.2.2.1.2
  by_cases hx : x = 0 ∨ x = 1
  · have cj : ∀ {P : Int32 × Mm → Prop}, En (f_X5_keep_j12 x M1) P → En (f_X5_keep x M1) P := by
      intro P hP
      unfold f_X5_keep
      exact en_ite (fun _ => hP) (fun a => en_t (hx.resolve_left a) hP)
    have rj : ∀ {P : Int32 × Mm → Prop}, En (iter (fun s => f_X6_keep_b21 x s.1 s.2.1 s.2.2.1 s.2.2.2) fuel ((-1 : Int32), (0 : Int32), (1 : Int32), M2)) P → En (f_X6_keep x M2) P := by
      intro P hP
      unfold f_X6_keep
      refine en_bd' (rin_yes (a := 0) (c := 1) rfl rfl ?_ M2) (en_f (by decide) hP)
      rcases hx with rfl | rfl <;> decide
    obtain ⟨A0, eA, g1, g2⟩ := c_lay hG hC
    have loop : ∃ y y', iter (fun s => f_X5_keep_b33 x s.1 s.2.1 s.2.2.1 s.2.2.2) fuel ((-1 : Int32), (0 : Int32), (1 : Int32), A0) = some y ∧ iter (fun s => f_X6_keep_b21 x s.1 s.2.1 s.2.2.1 s.2.2.2) fuel ((-1 : Int32), (0 : Int32), (1 : Int32), M2) = some y' ∧ y.1 = y'.1 ∧ Sm (fun o k => KSc o k && !(o == 27)) KSl M1 y.2 ∧ Sm KU KB M2 y'.2 := by
      refine iter2 (fun i (u v : Int32 × Int32 × Int32 × Mm) => ∃ c, i + c = 13 ∧ 1 ≤ c ∧ u.1 = v.1 ∧ u.2.1 = v.2.1 ∧ u.2.2.1 = nI c ∧ v.2.2.1 = nI c ∧ (∃ c0, CL G 5 c0 u.2.2.2) ∧ Sm (fun o k => KSc o k && !(o == 27)) KSl M1 u.2.2.2 ∧ Sm KU KB M2 v.2.2.2) (fun i u v hI => ?_) fuel 12 _ _ (by have := fuel_gt; omega) ⟨1, rfl, by omega, rfl, rfl, rfl, rfl, ⟨0, g2⟩, sc_27 g1, Sm.rf⟩
      obtain ⟨x2, x3, x4, A⟩ := u
      obtain ⟨y2, y3, y4, B⟩ := v
      obtain ⟨c, hc, hc1, e1, e2, e3, e4, ⟨c0, hL⟩, s1, s2⟩ := hI
      have e1 : x2 = y2 := e1
      have e2 : x3 = y3 := e2
      have e3 : x4 = nI c := e3
      have e4 : y4 = nI c := e4
      have hL : CL G 5 c0 A := hL
      have s1 : Sm (fun o k => KSc o k && !(o == 27)) KSl M1 A := s1
      have s2 : Sm KU KB M2 B := s2
      subst e1 e2 e3 e4
      show (∃ s' t', f_X5_keep_b33 x x2 x3 (nI c) A = some (.inl s') ∧ f_X6_keep_b21 x x2 x3 (nI c) B = some (.inl t') ∧ _) ∨ (∃ y y', f_X5_keep_b33 x x2 x3 (nI c) A = some (.inr y) ∧ f_X6_keep_b21 x x2 x3 (nI c) B = some (.inr y') ∧ _)
      by_cases hcn : c ≤ 12
      · have hn : ¬ (12 : Int32) < nI c := by show ¬ nI 12 < nI c; rw [nI_ltI (by omega) (by omega)]; omega
        obtain ⟨A1, q1, g3, g4⟩ := c_heap hL hc1 hcn
        obtain ⟨A2, q2, g5, g6, g7⟩ := cl_run (x1 := 1) (w := wyj 1 (yM G)) g4 (wc_wy (T := tR G 5 c) (j := 1) (Nat.le_refl 5) hm (by omega))
        obtain ⟨B1, q3, g8, g9⟩ := r_sup (c := c) (x1 := 5) (x2 := nI c) (w := wyj 1 (yM G)) (hA.same s2 k6_u) hG (by rw [s2.1 0 14 rfl]; exact h14) (Or.inl ⟨rfl, by omega, hcn, rfl⟩) (rw_hp (T := tR G 5 c) (Nat.le_refl 5))
        obtain ⟨cc, hcc⟩ : ∃ z, z = xc (runF (tR G 5 c) (wyj 1 (yM G)) 60) := ⟨_, rfl⟩
        have ec : A2.1 6 12 = cc := by rw [hcc]; exact g7.2.2.2.1
        have er : B1.1 0 36 = cc := by rw [hcc]; exact g9.2.2.1
        have hst : ∃ a b, f_X5_keep_b33 x x2 x3 (nI c) A = some (.inl (a, b, nI (c + 1), A2)) ∧ f_X6_keep_b21 x x2 x3 (nI c) B = some (.inl (a, b, nI (c + 1), B1)) := by
          unfold f_X5_keep_b33 f_X6_keep_b21
          rw [if_neg hn, if_neg hn, q1, q3]
          show ∃ a b, (bv (f_X2_run 1 A1) _) = _ ∧ _
          rw [q2]
          show ∃ a b, (if x2 = -1 then some (Sum.inl (nI c, A2.1 6 12, nI c + 1, A2)) else if x3 ≤ A2.1 6 12 then some (Sum.inl (x2, x3, nI c + 1, A2)) else some (Sum.inl (nI c, A2.1 6 12, nI c + 1, A2))) = _ ∧ (if x2 = -1 then some (Sum.inl (nI c, B1.1 0 36, nI c + 1, B1)) else if x3 ≤ B1.1 0 36 then some (Sum.inl (x2, x3, nI c + 1, B1)) else some (Sum.inl (nI c, B1.1 0 36, nI c + 1, B1))) = _
          rw [ec, er, show nI c + 1 = nI (c + 1) from nI_add c 1]
          by_cases z1 : x2 = -1
          · exact ⟨nI c, cc, by rw [if_pos z1], by rw [if_pos z1]⟩
          · by_cases z2 : x3 ≤ cc
            · exact ⟨x2, x3, by rw [if_neg z1, if_pos z2], by rw [if_neg z1, if_pos z2]⟩
            · exact ⟨nI c, cc, by rw [if_neg z1, if_neg z2], by rw [if_neg z1, if_neg z2]⟩
        obtain ⟨a, b, f1, f2⟩ := hst
        exact Or.inl ⟨_, _, f1, f2, i - 1, by omega, c + 1, by omega, by omega, rfl, rfl, rfl, rfl, ⟨c, g6⟩, (s1.tr (sc_27 g3)).tr (x_27 g5), s2.tr g8⟩
      · have hn : (12 : Int32) < nI c := by show nI 12 < nI c; rw [nI_ltI (by omega) (by omega)]; omega
        refine Or.inr ⟨(if x = 0 then x2 else x3, A), (if x = 0 then x2 else x3, B), en_eq ?_, en_eq ?_, rfl, s1, s2⟩
        · unfold f_X5_keep_b33
          refine en_t hn (en_ex (en_ite (fun z => en_some ?_) (fun z => en_some ?_)))
          · rw [if_pos z]
          · rw [if_neg z]
        · unfold f_X6_keep_b21
          refine en_t hn (en_ex (en_ite (fun z => en_some ?_) (fun z => en_some ?_)))
          · rw [if_pos z]
          · rw [if_neg z]
    obtain ⟨y, y', l1, l2, l3, l4, l5⟩ := loop
    refine st_sup h (r := y.1) (cj ?_) (rj (en_of l2 ⟨l3.symm, u_1 l5⟩))
    unfold f_X5_keep_j12
    rw [eA]
    exact en_bv' rfl (en_of l1 ⟨rfl, l4⟩)
  · refine st_go (r := -100000) (N1 := M1) (N2 := M2) ?_ ?_ ⟨G, nt, zs, h⟩
    · unfold f_X5_keep
      exact en_f (fun z => hx (Or.inl z)) (en_f (fun z => hx (Or.inr z)) (en_some rfl))
    · unfold f_X6_keep
      refine en_bd' (rin_no (a := 0) (c := 1) rfl rfl (fun z => hx ?_) M2) (en_t rfl (en_some rfl))
      obtain ⟨c, hc', rfl⟩ := nI_of (Int32.not_lt.mpr z.1)
      have z2 : nI c ≤ nI 1 := z.2
      rw [nI_leI hc' (by omega)] at z2
      rcases (by omega : c = 0 ∨ c = 1) with rfl | rfl
      · exact Or.inl rfl
      · exact Or.inr rfl
/-! second -/
theorem Gok.gP {v : Nat} (hG : Gok G) (hv : v = 1 ∨ v = 2) : Gok (gP G v) := ⟨hG.1, hv, hG.2.2⟩
theorem AR.gP {v : Nat} (h : AR G M) (e : N = ms M 0 8 (nI v)) : AR (gP G v) N := by
  obtain ⟨h1, h2, h3, h4, h5, b, n, h6, h7, h8, h9⟩ := h
  exact ⟨by rw [ms_off e (by omega)]; exact h1, ms_at e, by rw [ms_off e (by omega)]; exact h3, by rw [ms_off e (by omega)]; exact h4, fun e' he => by rw [ms_off e (by omega), ms_off e (by omega), ms_off e (by omega), ms_off e (by omega)]; exact h5 e' he, b, n, h6, by rw [ms_off e (by omega)]; exact h7, fun i hi => by rw [ms_off e (by omega)]; exact h8 i hi, h9⟩
theorem s_second : St0 Rel f_X5_second f_X6_second := by
  rintro M1 M2 ⟨G, nt, zs, h⟩
  have hC := h.ac
  have hA := h.ar
  have hG := h.1.1
  have hm := hG.2.2.1
  have h14 := h.2.2.1.2
  refine st_sup h (r := xc (runF (tR (gP G 1) 5 0) (wyj 2 (yM G)) 60) - xc (runF (tR (gP G 2) 5 0) (wyj 2 (yM G)) 60)) ?_ ?_
  · unfold f_X5_second
    refine en_bv (en_imp (lay_ok (P := 1) hG hC (Or.inl rfl)) ?_)
    rintro A1 ⟨g1, g2, g3, -⟩
    refine en_bv (en_imp (c_run (x1 := 2) (w := wyj 2 (yM G)) g2 g3 wc_2) ?_)
    rintro A2 ⟨g4, g5⟩
    have hs2 : Sm KSc KSl M1 A2 := g1.tr (g4.weak kx_sc (fun _ _ => rfl))
    have hC2 : AC G A2 := hC.same (hs2.weak k7_sc (fun _ z => z))
    refine en_bi (en_bv (en_imp (lay_ok (P := 2) hG hC2 (Or.inr rfl)) ?_))
    rintro A3 ⟨g6, g7, g8, -⟩
    refine en_bv (en_imp (c_run (x1 := 2) (w := wyj 2 (yM G)) g7 g8 wc_2) ?_)
    rintro A4 ⟨g9, g10⟩
    refine en_some ⟨?_, sc_27 ((hs2.tr g6).tr (g9.weak kx_sc (fun _ _ => rfl)))⟩
    show A2.1 6 12 - A4.1 6 12 = _
    rw [g5.2.2.2.1, g10.2.2.2.1]
    rfl
  · unfold f_X6_second
    refine en_bi (en_bmv fun B1 e1 => en_bv (en_imp (r_sup (c := 0) (x1 := 2) (x2 := 0) (w := wyj 2 (yM G)) (hA.gP (v := 1) e1) (hG.gP (Or.inl rfl)) (by rw [ms_off e1 (by omega)]; exact h14) (Or.inr ⟨by decide, rfl⟩) rw_2) ?_))
    rintro B2 ⟨g1, g2⟩
    have hs2 : Sm (fun o k => KU o k && !(o == 0 && k == 8)) KB M2 B2 := (sm_1 e1 rfl).tr (g1.weak (fun o k z => by simp at z; exact z.1) (fun _ z => z))
    have hA2 : AR (gP G 1) B2 := (hA.gP (v := 1) e1).same g1 k6_u
    refine en_bi (en_bmv fun B3 e3 => en_bv (en_imp (r_sup (c := 0) (x1 := 2) (x2 := 0) (w := wyj 2 (yM G)) (G := gP G 2) (hA2.gP (v := 2) e3) (hG.gP (Or.inr rfl)) (by rw [ms_off e3 (by omega), hs2.1 0 14 rfl]; exact h14) (Or.inr ⟨by decide, rfl⟩) rw_2) ?_))
    rintro B4 ⟨g3, g4⟩
    have hs4 : Sm (fun o k => KU o k && !(o == 0 && k == 8)) KB M2 B4 := (hs2.tr (sm_1 e3 rfl)).tr (g3.weak (fun o k z => by simp at z; exact z.1) (fun _ z => z))
    refine en_bmv fun B5 e5 => en_some ⟨?_, u_1 (sm_fix (a := 0) (b := 8) (hs4.tr (sm_1 e5 rfl)) (ms_at e5))⟩
    show B2.1 0 36 - B5.1 0 36 = _
    rw [g2.2.2.1, ms_off e5 (by omega), g4.2.2.1]
/-! leave -/
theorem s_leave : St0 Rel f_X5_leave f_X6_leave := by
  rintro M1 M2 ⟨G, nt, zs, h⟩
  have hC := h.ac
  have hA := h.ar
  have hG := h.1.1
  have hm := hG.2.2.1
  have h14 := h.2.2.1.2
  obtain ⟨A0, eA, g1, g2⟩ := c_lay hG hC
  have loop : ∃ y y', iter (fun s => f_X5_leave_b20 s.1 s.2.1 s.2.2.1 s.2.2.2) fuel ((-1 : Int32), (0 : Int32), (0 : Int32), A0) = some y ∧ iter (fun s => f_X6_leave_b6 s.1 s.2.1 s.2.2.1 s.2.2.2) fuel ((-1 : Int32), (0 : Int32), (0 : Int32), M2) = some y' ∧ y.1 = y'.1 ∧ Sm (fun o k => KSc o k && !(o == 27)) KSl M1 y.2 ∧ Sm KU KB M2 y'.2 := by
    refine iter2 (fun i (u v : Int32 × Int32 × Int32 × Mm) => ∃ e, i + e = yM G ∧ u.1 = v.1 ∧ u.2.1 = v.2.1 ∧ u.2.2.1 = nI e ∧ v.2.2.1 = nI e ∧ (∃ a, CL G a 0 u.2.2.2) ∧ Sm (fun o k => KSc o k && !(o == 27)) KSl M1 u.2.2.2 ∧ Sm KU KB M2 v.2.2.2) (fun i u v hI => ?_) fuel (yM G) _ _ (by have := fuel_gt; omega) ⟨0, rfl, rfl, rfl, rfl, rfl, ⟨5, g2⟩, sc_27 g1, Sm.rf⟩
    obtain ⟨x2, x3, x4, A⟩ := u
    obtain ⟨y2, y3, y4, B⟩ := v
    obtain ⟨e, he, e1, e2, e3, e4, ⟨a, hL⟩, s1, s2⟩ := hI
    have e1 : x2 = y2 := e1
    have e2 : x3 = y3 := e2
    have e3 : x4 = nI e := e3
    have e4 : y4 = nI e := e4
    have hL : CL G a 0 A := hL
    have s1 : Sm (fun o k => KSc o k && !(o == 27)) KSl M1 A := s1
    have s2 : Sm KU KB M2 B := s2
    have hCA : AC G A := hC.same (s1.weak (fun o k z => by have := k7_sc o k z; unfold K7 at z; simp at z ⊢; exact ⟨this, by omega⟩) (fun _ z => z))
    have hAB : AR G B := hA.same s2 k6_u
    subst e1 e2 e3 e4
    show (∃ s' t', f_X5_leave_b20 x2 x3 (nI e) A = some (.inl s') ∧ f_X6_leave_b6 x2 x3 (nI e) B = some (.inl t') ∧ _) ∨ (∃ y y', f_X5_leave_b20 x2 x3 (nI e) A = some (.inr y) ∧ f_X6_leave_b6 x2 x3 (nI e) B = some (.inr y') ∧ _)
    by_cases hem : e < yM G
    · have h5 : ¬ (5 : Int32) ≤ nI e := by show ¬ nI 5 ≤ nI e; rw [nI_leI (by omega) (by omega)]; omega
      have hcm : ¬ A.1 1 3 ≤ nI e := by rw [hCA.2.2.2.1, nI_leI (by omega) (by omega)]; omega
      have hrm : ¬ B.1 0 13 ≤ nI e := by rw [hAB.2.2.2.1, nI_leI (by omega) (by omega)]; omega
      obtain ⟨A1, f1⟩ : ∃ z, z = ms A 6 7 (nI e) := ⟨_, rfl⟩
      obtain ⟨A2, q2, g5, g6, g7⟩ := cl_run (x1 := 2) (w := wyj 2 (yM G)) (hL.away (by omega) f1) wc_2
      obtain ⟨B1, f2⟩ : ∃ z, z = ms B 0 14 (nI e) := ⟨_, rfl⟩
      have hAB1 : AR G B1 := hAB.same (K := KR6) (KL := KA) (sm_1 f2 rfl) (fun _ _ z => z)
      obtain ⟨B2, q3, g8, g9⟩ := sups_ok (a := e) (c := 0) (x1 := 2) (x2 := 0) (w := wyj 2 (yM G)) hG hAB1 (by rw [ms_at f2]; show nI e = if e < 5 then nI e else -1; rw [if_pos (by omega)]) (Or.inr ⟨by decide, rfl⟩) rw_2
      obtain ⟨B3, f3⟩ : ∃ z, z = ms B2 0 14 (-1) := ⟨_, rfl⟩
      have hsB : Sm KU KB M2 B3 := by
        refine s2.tr (sm_fix (a := 0) (b := 14) (((sm_1 f2 rfl).tr (g8.weak (fun o k z => by simp at z; exact z.1) (fun _ z => z))).tr (sm_1 f3 rfl)) ?_)
        rw [ms_at f3, s2.1 0 14 rfl, h14]
      obtain ⟨cc, hcc⟩ : ∃ z, z = xc (runF (tR G e 0) (wyj 2 (yM G)) 60) := ⟨_, rfl⟩
      have ec : A2.1 6 12 = cc := by rw [hcc]; exact g7.2.2.2.1
      have er : B3.1 0 36 = cc := by rw [hcc, ms_off f3 (by omega)]; exact g9.2.2.1
      have hst : ∃ a b, f_X5_leave_b20 x2 x3 (nI e) A = some (.inl (a, b, nI (e + 1), A2)) ∧ f_X6_leave_b6 x2 x3 (nI e) B = some (.inl (a, b, nI (e + 1), B3)) := by
        unfold f_X5_leave_b20 f_X6_leave_b6
        rw [if_neg h5, if_neg hcm, if_neg hrm]
        show ∃ a b, (bv (f_X2_run 2 (ms A 6 7 (nI e))) _) = _ ∧ (bv (f_X6_sups 2 0 (ms B 0 14 (nI e))) _) = _
        rw [← f1, ← f2, q2, q3]
        show ∃ a b, (if x2 = -1 then some (Sum.inl (nI e, A2.1 6 12, nI e + 1, A2)) else if x3 ≤ A2.1 6 12 then some (Sum.inl (x2, x3, nI e + 1, A2)) else some (Sum.inl (nI e, A2.1 6 12, nI e + 1, A2))) = _ ∧ (if x2 = -1 then some (Sum.inl (nI e, (ms B2 0 14 (-1)).1 0 36, nI e + 1, ms B2 0 14 (-1))) else if x3 ≤ (ms B2 0 14 (-1)).1 0 36 then some (Sum.inl (x2, x3, nI e + 1, ms B2 0 14 (-1))) else some (Sum.inl (nI e, (ms B2 0 14 (-1)).1 0 36, nI e + 1, ms B2 0 14 (-1)))) = _
        rw [← f3, ec, er, show nI e + 1 = nI (e + 1) from nI_add e 1]
        by_cases z1 : x2 = -1
        · exact ⟨nI e, cc, by rw [if_pos z1], by rw [if_pos z1]⟩
        · by_cases z2 : x3 ≤ cc
          · exact ⟨x2, x3, by rw [if_neg z1, if_pos z2], by rw [if_neg z1, if_pos z2]⟩
          · exact ⟨nI e, cc, by rw [if_neg z1, if_neg z2], by rw [if_neg z1, if_neg z2]⟩
      obtain ⟨a', b', f4, f5⟩ := hst
      exact Or.inl ⟨_, _, f4, f5, i - 1, by omega, e + 1, by omega, rfl, rfl, rfl, rfl, ⟨e, g6⟩, (s1.tr (sm_1 f1 rfl)).tr (x_27 g5), hsB⟩
    · refine Or.inr ⟨(x2, A), (x2, B), en_eq ?_, en_eq ?_, rfl, s1, s2⟩
      · unfold f_X5_leave_b20
        refine en_ite (fun _ => en_ex (en_some rfl)) (fun _ => en_t ?_ (en_ex (en_some rfl)))
        rw [hCA.2.2.2.1, nI_leI (by omega) (by omega)]; omega
      · unfold f_X6_leave_b6
        refine en_t ?_ (en_ex (en_some rfl))
        rw [hAB.2.2.2.1, nI_leI (by omega) (by omega)]; omega
  obtain ⟨y, y', l1, l2, l3, l4, l5⟩ := loop
  refine st_sup h (r := y.1) ?_ (en_of l2 ⟨l3.symm, u_1 l5⟩)
  unfold f_X5_leave
  rw [eA]
  exact en_bv' rfl (en_of l1 ⟨rfl, l4⟩)
end HEAP
