/-! ===== the class's supper ===== -/
def abI (T : Tb) : Int32 := if ta T < 5 then nI (ta T) else -1
def oI : Option Nat → Int32
  | none => -1
  | some j => nI j
def lasI (s : Sx) (e : Nat) : Int32 := if xh s e = 0 then -1 else nI (xl s e)
def Lz (s : Sx) : Prop := ∀ e, xh s e = 0 → xl s e = 0
/-- the ghost table and the supper's table -/
def Tgh (G : Gt) (T : Tb) : Prop := tB T = yB G ∧ tm T = yM G ∧ twa T = yW G ∧ (∀ e mi h l, thu T e mi h l = hunN (yK G e) (yN G e) (hvz (yZ G) e mi h (yW G e)) h l) ∧ (∀ k st h e late, two T k st h e late = wvz (yZ G) k st h (yW G e) e late) ∧ (∀ e, tea T e ≤ 100) ∧ (∀ k, k < 12 → tsv T k ≤ 1000) ∧ ∀ k, k < 12 → trd T k ≤ 1000
def Cch (G : Gt) (M : Mm) : Prop := ∀ e mi h, e < 5 → mi < 60 → h ≤ 12 → M.1 32 ((e * 60 + mi) * 13 + h) = -1 ∨ M.1 32 ((e * 60 + mi) * 13 + h) = nI (hvz (yZ G) e mi h (yW G e))
def CT (G : Gt) (T : Tb) (M : Mm) : Prop := Tgh G T ∧ Gok G ∧ AC G M ∧ M.1 6 7 = abI T ∧ (∀ e, e < yM G → M.1 28 e = nI (tea T e)) ∧ (∀ k, k < yB G → M.1 25 k = nI (trd T k) ∧ M.1 26 k = nI (tsv T k)) ∧ Cch G M
def Dyn (T : Tb) (s : Sx) (M : Mm) : Prop := (∀ e, e < 5 → M.1 29 e = nI (xh s e) ∧ M.1 30 e = nI (xw s e) ∧ M.1 31 e = lasI s e) ∧ M.1 6 11 = nI (lea T (xh s)) ∧ M.1 6 12 = xc s ∧ M.1 6 13 = nI (xf s) ∧ M.1 6 14 = nI (xg s) ∧ M.1 6 15 = nI (xs s)
def CR (G : Gt) (T : Tb) (s : Sx) (M : Mm) : Prop := CT G T M ∧ Dyn T s M
/-- kept by the run -/
def KX : Nat → Nat → Bool := fun o k => !(o == 6 && (k == 11 || (k == 12 || (k == 13 || (k == 14 || k == 15))))) && !(o == 20 || (o == 21 || (o == 29 || (o == 30 || (o == 31 || o == 32)))))
/-- kept by asking -/
def KY : Nat → Nat → Bool := fun o _ => !(o == 20 || (o == 21 || o == 32))
theorem k7_x : ∀ o k, K7 o k = true → KX o k = true := by
  intro o k h
  unfold K7 at h
  unfold KX
  simp at h ⊢
  omega
theorem k7_y : ∀ o k, K7 o k = true → KY o k = true := by
  intro o k h
  unfold K7 at h
  unfold KY
  simp at h ⊢
  omega
theorem kx_y : ∀ o k, KX o k = true → KY o k = true := by
  intro o k h
  unfold KX at h
  unfold KY
  simp at h ⊢
  omega
theorem kw_y : ∀ o k, KY o k = true → KW o k = true := by
  intro o k h
  unfold KY at h
  unfold KW
  simp at h ⊢
  omega
section CRUN
variable {G : Gt} {T : Tb} {s : Sx} {M M1 : Mm} {N mi : Nat} {w : Wy}
theorem CT.same {K : Nat → Nat → Bool} {KL : Nat → Bool} (h : CT G T M) (hs : Sm K KL M M1) (hk : ∀ o k, KX o k = true → K o k = true) (hc : Cch G M1) : CT G T M1 := by
  obtain ⟨h1, h2, h3, h4, h5, h6, h7⟩ := h
  refine ⟨h1, h2, h3.same (hs.weak (fun o k z => hk o k (k7_x o k z)) (fun _ z => z)), by rw [hs.1 6 7 (hk _ _ rfl), h4], fun e he => by rw [hs.1 28 e (hk _ _ rfl), h5 e he], fun k hk' => ?_, hc⟩
  obtain ⟨a, b⟩ := h6 k hk'
  exact ⟨by rw [hs.1 25 k (hk _ _ rfl), a], by rw [hs.1 26 k (hk _ _ rfl), b]⟩
theorem Dyn.same {K : Nat → Nat → Bool} {KL : Nat → Bool} (h : Dyn T s M) (hs : Sm K KL M M1) (hk : ∀ o k, KY o k = true → K o k = true) : Dyn T s M1 := by
  obtain ⟨h1, h2, h3, h4, h5, h6⟩ := h
  refine ⟨fun e he => ?_, by rw [hs.1 6 11 (hk _ _ rfl), h2], by rw [hs.1 6 12 (hk _ _ rfl), h3], by rw [hs.1 6 13 (hk _ _ rfl), h4], by rw [hs.1 6 14 (hk _ _ rfl), h5], by rw [hs.1 6 15 (hk _ _ rfl), h6]⟩
  obtain ⟨a, b, c⟩ := h1 e he
  exact ⟨by rw [hs.1 29 e (hk _ _ rfl), a], by rw [hs.1 30 e (hk _ _ rfl), b], by rw [hs.1 31 e (hk _ _ rfl), c]⟩
theorem has_in {m e : Nat} (h : M.1 1 3 = nI m) (hm : m ≤ 5) (he : e < 2 ^ 31) : f_X3_has_1 (nI e) M = some (if e < m then 1 else 0, M) := by
  unfold f_X3_has_1
  rw [if_neg (nI_ltz he), h]
  by_cases h5 : 5 ≤ e
  · rw [if_pos (by show nI 5 ≤ nI e; rw [nI_leI (by omega) he]; exact h5), if_neg (by omega)]
  · rw [if_neg (by show ¬ nI 5 ≤ nI e; rw [nI_leI (by omega) he]; exact h5)]
    by_cases q : e < m
    · rw [if_neg (by rw [nI_leI (by omega) he]; omega), if_pos q]
    · rw [if_pos (by rw [nI_leI (by omega) he]; omega), if_neg q]
theorem has_out {m : Nat} {x : Int32} (h : M.1 1 3 = nI m) (hm : m ≤ 5) (hx : ∀ e, e < m → x ≠ nI e) : f_X3_has_1 x M = some (0, M) := by
  by_cases h0 : x < 0
  · unfold f_X3_has_1
    rw [if_pos h0]
  · obtain ⟨j, hj, rfl⟩ := nI_of h0
    rw [has_in h hm hj, if_neg (fun q => hx j q rfl)]
theorem sits_in {e : Nat} (h : M.1 1 3 = nI (tm T)) (hm : tm T ≤ 5) (ha : M.1 6 7 = abI T) (he : e < 2 ^ 31) : f_X2_sits (nI e) M = some (if sit T e = true then 1 else 0, M) := by
  unfold f_X2_sits
  rw [has_in h hm he]
  refine en_eq (en_bd' rfl ?_)
  by_cases q : e < tm T
  · rw [if_pos q]
    refine en_f (by decide) ?_
    rw [ha]
    unfold abI
    by_cases hta : ta T < 5
    · rw [if_pos hta]
      refine en_ite (fun z => en_some ?_) (fun z => en_some ?_)
      · rw [nI_eq (by omega) (by omega)] at z
        rw [if_neg (by unfold sit; simp; omega)]
      · rw [nI_eq (by omega) (by omega)] at z
        rw [if_pos (by unfold sit; simp; omega)]
    · rw [if_neg hta]
      refine en_f (nI_m1 (by omega)) (en_some ?_)
      rw [if_pos (by unfold sit; simp; omega)]
  · rw [if_neg q]
    refine en_t rfl (en_some ?_)
    rw [if_neg (by unfold sit; simp; omega)]
theorem sits_no {x : Int32} (h : M.1 1 3 = nI (tm T)) (hm : tm T ≤ 5) (ha : M.1 6 7 = abI T) (hx : ∀ e, sit T e = true → x ≠ nI e) : f_X2_sits x M = some (0, M) := by
  by_cases h0 : x < 0
  · unfold f_X2_sits
    refine en_eq (en_bd' (has_out h hm fun e he => ?_) (en_t rfl (en_some rfl)))
    rintro rfl
    exact nI_ltz (by omega) h0
  · obtain ⟨j, hj, rfl⟩ := nI_of h0
    rw [sits_in h hm ha hj, if_neg (fun q => hx j q rfl)]
theorem oI_some {o : Option Nat} {e : Nat} (h : o = some e) : oI o = nI e := by rw [h]; rfl
theorem c_fl {had : Nat → Nat} (h : M.1 1 3 = nI (tm T)) (hm : tm T ≤ 5) (ha : M.1 6 7 = abI T) (hh : ∀ e, e < 5 → M.1 29 e = nI (had e) ∧ had e < 2 ^ 31) : f_X2_firstOfLeast M = some (oI (fl T had 5), M) := by
  refine en_eq ?_
  unfold f_X2_firstOfLeast
  refine en_iter (fun z => ∃ k, k ≤ 5 ∧ z.1 = oI (fl T had k) ∧ z.2.1 = (match fl T had k with | none => 0 | some j => nI (had j)) ∧ z.2.2.1 = nI k ∧ z.2.2.2 = M) (fun z => 6 - z.2.2.1.toNatClampNeg) ⟨0, by omega, rfl, rfl, rfl, rfl⟩ (by have := fuel_gt; omega) ?_
  rintro ⟨x1, x2, x3, M'⟩ ⟨k, hk, rfl, rfl, rfl, rfl⟩
  show En (f_X2_firstOfLeast_b6 _ _ _ _) _
  unfold f_X2_firstOfLeast_b6
  refine en_ite (fun hc => en_ex (en_some ?_)) (fun hc => ?_)
  · have hc : nI 5 ≤ nI k := hc
    rw [nI_leI (by omega) (by omega)] at hc
    have e5 : k = 5 := by omega
    subst e5
    exact rfl
  · have hc : ¬ nI 5 ≤ nI k := hc
    rw [nI_leI (by omega) (by omega)] at hc
    have hk5 : k < 5 := by omega
    have hnx : 6 - (nI k + 1).toNatClampNeg < 6 - (nI k).toNatClampNeg := by
      rw [show nI k + 1 = nI (k + 1) from nI_add k 1, nI_clamp (by omega), nI_clamp (by omega)]
      omega
    refine en_bd' (sits_in h hm ha (by omega)) (en_ite (fun hs => ?_) (fun hs => ?_))
    · have hs := if10.mp hs
      refine en_bi (en_some ⟨⟨k + 1, by omega, ?_, ?_, nI_add k 1, rfl⟩, hnx⟩)
      · rw [fl, if_neg hs]
      · rw [fl, if_neg hs]
    · have hs : sit T k = true := Classical.not_not.mp (fun z => hs (if10.mpr z))
      have take : fl T had (k + 1) = some k → En (f_X2_firstOfLeast_j34 (nI k) M') (Lp (fun z => ∃ k, k ≤ 5 ∧ z.1 = oI (fl T had k) ∧ z.2.1 = (match fl T had k with | none => 0 | some j => nI (had j)) ∧ z.2.2.1 = nI k ∧ z.2.2.2 = M') (fun z => 6 - z.2.2.1.toNatClampNeg) (oI (fl T had k), (match fl T had k with | none => 0 | some j => nI (had j)), nI k, M') (fun a => a = (oI (fl T had 5), M'))) := by
        intro hf
        unfold f_X2_firstOfLeast_j34
        refine en_gd (bin_nI hk5 (by omega)) (en_bi (en_bi (en_some ⟨⟨k + 1, by omega, ?_, ?_, nI_add k 1, rfl⟩, hnx⟩)))
        · rw [hf]; rfl
        · rw [hf, cl_nI (by omega)]
          exact (hh k hk5).1
      cases hf : fl T had k with
      | none =>
        refine en_t rfl ?_
        have := take (by rw [fl, if_pos hs, hf])
        rw [hf] at this
        exact this
      | some j =>
        have hj := (fl_some hf).2
        refine en_f (nI_m1 (by omega)) (en_gd (bin_nI hk5 (by omega)) ?_)
        rw [cl_nI (by omega), (hh k hk5).1]
        refine en_ite (fun hle => ?_) (fun hle => ?_)
        · have hle : nI (had j) ≤ nI (had k) := hle
          rw [nI_leI (hh j (by omega)).2 (hh k hk5).2] at hle
          have hf2 : fl T had (k + 1) = some j := by rw [fl, if_pos hs, hf]; exact if_pos hle
          refine en_bi (en_some ⟨⟨k + 1, by omega, ?_, ?_, nI_add k 1, rfl⟩, hnx⟩)
          · rw [hf2]
          · rw [hf2]
        · have hle : ¬ nI (had j) ≤ nI (had k) := hle
          rw [nI_leI (hh j (by omega)).2 (hh k hk5).2] at hle
          have := take (by rw [fl, if_pos hs, hf]; exact if_neg hle)
          rw [hf] at this
          exact this
theorem c_mo {had : Nat → Nat} (h : M.1 1 3 = nI (tm T)) (hm : tm T ≤ 5) (ha : M.1 6 7 = abI T) (hN : ∀ e, had e ≤ N) (hN2 : N < 2 ^ 30) (hh : ∀ e, e < 5 → M.1 29 e = nI (had e)) : f_X2_mostHad M = some (nI (mo T had 5), M) := by
  refine en_eq ?_
  unfold f_X2_mostHad
  refine en_iter (fun z => ∃ k, k ≤ 5 ∧ z.1 = nI (mo T had k) ∧ z.2.1 = nI k ∧ z.2.2 = M) (fun z => 6 - z.2.1.toNatClampNeg) ⟨0, by omega, rfl, rfl, rfl⟩ (by have := fuel_gt; omega) ?_
  rintro ⟨x1, x2, M'⟩ ⟨k, hk, rfl, rfl, rfl⟩
  show En (f_X2_mostHad_b4 _ _ _) _
  unfold f_X2_mostHad_b4
  refine en_ite (fun hc => en_ex (en_some ?_)) (fun hc => ?_)
  · have hc : nI 5 ≤ nI k := hc
    rw [nI_leI (by omega) (by omega)] at hc
    have e5 : k = 5 := by omega
    subst e5
    exact rfl
  · have hc : ¬ nI 5 ≤ nI k := hc
    rw [nI_leI (by omega) (by omega)] at hc
    have hnx : 6 - (nI k + 1).toNatClampNeg < 6 - (nI k).toNatClampNeg := by
      rw [show nI k + 1 = nI (k + 1) from nI_add k 1, nI_clamp (by omega), nI_clamp (by omega)]
      omega
    have hmk := mo_le (T := T) hN k
    have hkk := hN k
    refine en_bd' (sits_in h hm ha (by omega)) (en_ite (fun hs => ?_) (fun hs => ?_))
    · have hs := if10.mp hs
      refine en_bi (en_some ⟨⟨k + 1, by omega, ?_, nI_add k 1, rfl⟩, hnx⟩)
      rw [mo, if_neg hs]
    · have hs : sit T k = true := Classical.not_not.mp (fun z => hs (if10.mpr z))
      refine en_gd (bin_nI (by omega) (by omega)) ?_
      rw [cl_nI (by omega), hh k (by omega), imx_nI (by omega) (by omega)]
      refine en_bi (en_bi (en_some ⟨⟨k + 1, by omega, ?_, nI_add k 1, rfl⟩, hnx⟩))
      rw [mo, if_pos hs]
/-- the class asks how hungry one is -/
theorem c_hun (h : CR G T s M) (hb : Bd N s) (hN : N < 2 ^ 20) {e : Nat} (he : e < tm T) (hmi : mi < 60) (hh : xh s e ≤ 12) : En (f_X2_hungers (nI e) (nI mi) M) (fun r => r.1 = nI (thu T e mi (xh s e) (lea T (xh s))) ∧ Sm KY KA M r.2 ∧ CR G T s r.2) := by
  obtain ⟨⟨hT, hG, hA, h67, h28, h25, hC⟩, hD⟩ := h
  have hm5 : yM G ≤ 5 := hG.2.2.1
  have he' : e < yM G := by rw [← hT.2.1]; exact he
  have he5 : e < 5 := by omega
  obtain ⟨d1, d2, d3, d4, d5, d6⟩ := hD
  have hD : Dyn T s M := ⟨d1, d2, d3, d4, d5, d6⟩
  have hidx : ((nI e * 60 + nI mi) * 13 + nI (xh s e)) = nI ((e * 60 + mi) * 13 + xh s e) := by
    rw [show nI e * 60 = nI (e * 60) from pk_mul e 60, nI_add, show nI (e * 60 + mi) * 13 = nI ((e * 60 + mi) * 13) from pk_mul _ 13, nI_add]
  have hlt : (e * 60 + mi) * 13 + xh s e < 3900 := by omega
  unfold f_X2_hungers
  refine en_gd (bin_nI he5 (by omega)) ?_
  rw [cl_nI (by omega), (d1 e he5).1, hidx]
  refine en_bi (en_f (nI_ltz (by omega)) (en_t (by show nI _ < nI 3900; rw [nI_ltI (by omega) (by omega)]; exact hlt) (en_gd (bin_nI hlt (by omega)) ?_)))
  rw [cl_nI (by omega)]
  have hv99 : hvz (yZ G) e mi (xh s e) (yW G e) ≤ 99 := (cl_in (lo := 0) (hi := 99) (by omega) (by omega) _).2
  have fin : ∀ M2 : Mm, Sm KY KA M M2 → CR G T s M2 → M2.1 32 ((e * 60 + mi) * 13 + xh s e) = nI (hvz (yZ G) e mi (xh s e) (yW G e)) → En (f_X2_hungers_j95 (nI e) (nI ((e * 60 + mi) * 13 + xh s e)) M2) (fun r => r.1 = nI (thu T e mi (xh s e) (lea T (xh s))) ∧ Sm KY KA M r.2 ∧ CR G T s r.2) := by
    intro M2 hs hR hv
    obtain ⟨⟨-, -, hA2, -, -, -, -⟩, hD2⟩ := id hR
    unfold f_X2_hungers_j95
    refine en_gd (bin_nI he5 (by omega)) (en_gd (bin_nI he5 (by omega)) (en_gd (bin_nI hlt (by omega)) (en_gd (bin_nI he5 (by omega)) ?_)))
    obtain ⟨a7, a8, a9, a10⟩ := hA2.2.2.2.2.1 e he'
    have hle := lea_le (T := T) hb.1
    have hhe := hb.1 e
    rw [cl_nI (by omega), cl_nI (by omega), a7, a8, hv, (hD2.1 e he5).1, hD2.2.1]
    refine en_bd' (hungersOf_eq (hG.2.2.2.2.1 e).1 (hG.2.2.2.2.1 e).2.1 hv99 (by omega) (by omega) M2) (en_some ⟨?_, hs, hR⟩)
    rw [hT.2.2.2.1]
  refine en_ite (fun hc => ?_) (fun hc => ?_)
  · refine en_gd (bin_nI he5 (by omega)) (en_gd (bin_nI he5 (by omega)) (en_bv ?_))
    rw [(hA.2.2.2.2.1 e he').2.2.1]
    refine en_imp (ask_ok (w := 1) (lo := 0) (hi := 99) hG hA (by omega) (by omega) (by omega)) ?_
    rintro M4 ⟨g1, g2⟩
    refine en_bd (en_imp g2 ?_)
    rintro ⟨r6, M5⟩ ⟨g3, g4⟩
    refine en_bd' g4 (en_gd (bin_nI hlt (by omega)) (en_bmv fun M9 e9 => ?_))
    have hs : Sm KY KA M M9 := (g3.weak kw_y (fun _ h => h)).tr (sm_1 e9 rfl)
    have g3 : Sm KW KA M M5 := g3
    have hC9 : Cch G M9 := by
      intro e' mi' h' q1 q2 q3
      by_cases q : (e' * 60 + mi') * 13 + h' = (e * 60 + mi) * 13 + xh s e
      · have : e' = e ∧ mi' = mi ∧ h' = xh s e := by omega
        obtain ⟨rfl, rfl, rfl⟩ := this
        right
        rw [ms_at e9]
        rfl
      · rw [ms_off e9 (by omega), g3.1 32 _ rfl]
        exact hC e' mi' h' q1 q2 q3
    refine fin M9 hs ⟨CT.same ⟨hT, hG, hA, h67, h28, h25, hC⟩ hs kx_y hC9, hD.same hs (fun _ _ z => z)⟩ ?_
    rw [ms_at e9]
    rfl
  · refine fin M Sm.rf ⟨⟨hT, hG, hA, h67, h28, h25, hC⟩, hD⟩ ?_
    exact (hC e mi (xh s e) he5 hmi hh).resolve_left hc
theorem sit_m {e : Nat} (h : sit T e = true) : e < tm T := by
  unfold sit at h
  simp at h
  exact h.1
theorem c_hg (h : CR G T s M) (hb : Bd N s) (hN : N < 2 ^ 20) (hmi : mi < 60) : En (f_X2_hungriest (nI mi) M) (fun r => r.1 = oI ((hg T mi (xh s) 5).map (fun q => q.1)) ∧ Sm KY KA M r.2 ∧ CR G T s r.2) := by
  have hm5 : tm T ≤ 5 := by rw [h.1.1.2.1]; exact h.1.2.1.2.2.1
  unfold f_X2_hungriest
  refine en_iter (fun z => ∃ k, k ≤ 5 ∧ z.1 = oI ((hg T mi (xh s) k).map (fun q => q.1)) ∧ z.2.1 = (match hg T mi (xh s) k with | none => 0 | some q => nI q.2) ∧ z.2.2.1 = nI k ∧ Sm KY KA M z.2.2.2 ∧ CR G T s z.2.2.2) (fun z => 6 - z.2.2.1.toNatClampNeg) ⟨0, by omega, rfl, rfl, rfl, Sm.rf, h⟩ (by have := fuel_gt; omega) ?_
  rintro ⟨x2, x3, x4, M'⟩ ⟨k, hk, rfl, rfl, rfl, hs', hR'⟩
  show En (f_X2_hungriest_b7 _ _ _ _ _) _
  unfold f_X2_hungriest_b7
  refine en_ite (fun hc => en_ex (en_some ?_)) (fun hc => ?_)
  · have hc : nI 5 ≤ nI k := hc
    rw [nI_leI (by omega) (by omega)] at hc
    rw [show k = 5 by omega]
    exact ⟨rfl, hs', hR'⟩
  · have hc : ¬ nI 5 ≤ nI k := hc
    rw [nI_leI (by omega) (by omega)] at hc
    have hk5 : k < 5 := by omega
    have hnx : 6 - (nI k + 1).toNatClampNeg < 6 - (nI k).toNatClampNeg := by
      rw [show nI k + 1 = nI (k + 1) from nI_add k 1, nI_clamp (by omega), nI_clamp (by omega)]
      omega
    obtain ⟨⟨hT, hG, hA, h67, h28, h25, hC⟩, hD⟩ := id hR'
    have h13 : M'.1 1 3 = nI (tm T) := by rw [hT.2.1]; exact hA.2.2.2.1
    have skip : ∀ (M2 : Mm), Sm KY KA M M2 → CR G T s M2 → hg T mi (xh s) (k + 1) = hg T mi (xh s) k → Lp (fun z => ∃ k, k ≤ 5 ∧ z.1 = oI ((hg T mi (xh s) k).map (fun q => q.1)) ∧ z.2.1 = (match hg T mi (xh s) k with | none => 0 | some q => nI q.2) ∧ z.2.2.1 = nI k ∧ Sm KY KA M z.2.2.2 ∧ CR G T s z.2.2.2) (fun z => 6 - z.2.2.1.toNatClampNeg) (oI ((hg T mi (xh s) k).map (fun q => q.1)), (match hg T mi (xh s) k with | none => 0 | some q => nI q.2), nI k, M') (fun (r : Int32 × Mm) => r.1 = oI ((hg T mi (xh s) 5).map (fun q => q.1)) ∧ Sm KY KA M r.2 ∧ CR G T s r.2) (.inl (oI ((hg T mi (xh s) k).map (fun q => q.1)), (match hg T mi (xh s) k with | none => 0 | some q => nI q.2), nI k + 1, M2)) := by
      intro M2 q1 q2 q3
      exact ⟨⟨k + 1, by omega, by rw [q3], by rw [q3], nI_add k 1, q1, q2⟩, hnx⟩
    refine en_bd' (sits_in h13 hm5 h67 (by omega)) (en_ite (fun hs => ?_) (fun hs => ?_))
    · have hs := if10.mp hs
      exact en_bi (en_some (skip M' hs' hR' (by rw [hg, if_neg (fun z => hs z.1)])))
    · have hs : sit T k = true := Classical.not_not.mp (fun z => hs (if10.mpr z))
      have hkm := sit_m hs
      have hkm' : k < yM G := by rw [← hT.2.1]; exact hkm
      refine en_gd (bin_nI hk5 (by omega)) (en_gd (bin_nI hk5 (by omega)) ?_)
      have hw12 := (hG.2.2.2.2.1 k).2.2.1
      have hhk := hb.1 k
      rw [cl_nI (by omega), (hA.2.2.2.2.1 k hkm').2.2.1, (hD.1 k hk5).1]
      have hwa : twa T k = yW G k := by rw [hT.2.2.1]
      refine en_ite (fun hle => ?_) (fun hle => ?_)
      · rw [nI_leI (by omega) (by omega)] at hle
        exact en_bi (en_some (skip M' hs' hR' (by rw [hg, if_neg (fun z => by rw [hwa] at z; omega)])))
      · rw [nI_leI (by omega) (by omega)] at hle
        have hcond : sit T k = true ∧ xh s k < twa T k := ⟨hs, by rw [hwa]; omega⟩
        refine en_bd (en_imp (c_hun hR' hb hN hkm hmi (by omega)) ?_)
        rintro ⟨r6, M5⟩ ⟨g1, g2, g3⟩
        have g1 : r6 = nI (thu T k mi (xh s k) (lea T (xh s))) := g1
        subst g1
        have hbound : ∀ e h l, thu T e mi h l < 2 ^ 31 := by
          intro e h l
          rw [hT.2.2.2.1]
          have h1 := (hG.2.2.2.2.1 e).2.1
          have h2 : hvz (yZ G) e mi h (yW G e) ≤ 99 := (cl_in (lo := 0) (hi := 99) (by omega) (by omega) _).2
          unfold hunN
          repeat' split
          all_goals omega
        have take : hg T mi (xh s) (k + 1) = some (k, thu T k mi (xh s k) (lea T (xh s))) → Lp (fun z => ∃ k, k ≤ 5 ∧ z.1 = oI ((hg T mi (xh s) k).map (fun q => q.1)) ∧ z.2.1 = (match hg T mi (xh s) k with | none => 0 | some q => nI q.2) ∧ z.2.2.1 = nI k ∧ Sm KY KA M z.2.2.2 ∧ CR G T s z.2.2.2) (fun z => 6 - z.2.2.1.toNatClampNeg) (oI ((hg T mi (xh s) k).map (fun q => q.1)), (match hg T mi (xh s) k with | none => 0 | some q => nI q.2), nI k, M') (fun (r : Int32 × Mm) => r.1 = oI ((hg T mi (xh s) 5).map (fun q => q.1)) ∧ Sm KY KA M r.2 ∧ CR G T s r.2) (.inl (nI k, nI (thu T k mi (xh s k) (lea T (xh s))), nI k + 1, M5)) := by
          intro q3
          exact ⟨⟨k + 1, by omega, by rw [q3]; rfl, by rw [q3], nI_add k 1, hs'.tr g2, g3⟩, hnx⟩
        cases hq : hg T mi (xh s) k with
        | none =>
          refine en_t rfl (en_bi (en_some ?_))
          have := take (by rw [hg, if_pos hcond, hq])
          rw [hq] at this
          exact this
        | some q =>
          have hq5 := (hg_some hq).2.1
          refine en_f (by show ¬ nI q.1 = -1; exact nI_m1 (by omega)) ?_
          refine en_ite (fun hle2 => ?_) (fun hle2 => ?_)
          · have hle2 : nI (thu T k mi (xh s k) (lea T (xh s))) ≤ nI q.2 := hle2
            have hq2 : q.2 < 2 ^ 31 := by rw [(hg_some hq).2.2.2]; exact hbound _ _ _
            rw [nI_leI (hbound _ _ _) hq2] at hle2
            have hsame : hg T mi (xh s) (k + 1) = hg T mi (xh s) k := by
              rw [hg, if_pos hcond, hq]; exact if_pos hle2
            have := skip M5 (hs'.tr g2) g3 hsame
            rw [hq] at this
            exact en_bi (en_some this)
          · have hle2 : ¬ nI (thu T k mi (xh s k) (lea T (xh s))) ≤ nI q.2 := hle2
            have hq2 : q.2 < 2 ^ 31 := by rw [(hg_some hq).2.2.2]; exact hbound _ _ _
            rw [nI_leI (hbound _ _ _) hq2] at hle2
            have := take (by rw [hg, if_pos hcond, hq]; exact if_neg hle2)
            rw [hq] at this
            exact en_bi (en_some this)
end CRUN
