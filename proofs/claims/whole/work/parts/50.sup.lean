/-! ===== suppers: both alike ===== -/
def okW (m v : Nat) : Prop := v ≤ 3 ∨ (10 ≤ v ∧ v < 40 ∧ v % 10 < m)
def ansV (s : Sx) (v : Nat) : Int32 := if v = 0 then xc s else if v = 1 then nI (xf s) else if v = 2 then nI (xg s) else if v = 3 then nI (xs s) else if v / 10 = 1 then nI (xh s (v % 10)) else if v / 10 = 2 then nI (xw s (v % 10)) else lasI s (v % 10)
/-- a way by its number -/
def wyj (j m : Nat) : Wy := (if j = 1 then 0 else j, tns m)
section SUP
variable {G G' : Gt} {nt : Nat} {zs : Nat → Txt} {M1 M2 N1 N2 M N : Mm} {T : Tb} {s : Sx} {w : Wy} {m v c : Nat}
theorem okW_dec (m v : Nat) : okW m v ∨ ¬ okW m v := Classical.em _
theorem c_isA {x : Int32} (h : M.1 1 3 = nI m) (hm : m ≤ 5) (hx : ∃ v, x = nI v ∧ okW m v) : f_X2_isAnswer x M = some (1, M) := by
  obtain ⟨v, rfl, hv⟩ := hx
  refine en_eq ?_
  unfold f_X2_isAnswer
  unfold okW at hv
  refine en_ite (fun q => ?_) (fun q => ?_)
  · have q : nI 10 ≤ nI v := q
    rw [nI_leI (by omega) (by omega)] at q
    refine en_f ?_ (en_gd (by decide) ?_)
    · show ¬ nI 40 ≤ nI v
      rw [nI_leI (by omega) (by omega)]; omega
    · rw [show irm (nI v) 10 = nI (v % 10) from irm_nI (b := 10) (by omega) (by omega) (by omega)]
      exact en_bd' (has_yes h hm ⟨v % 10, by omega, rfl⟩) (en_f (by decide) (en_some rfl))
  · have q : ¬ nI 10 ≤ nI v := q
    rw [nI_leI (by omega) (by omega)] at q
    refine en_f (nI_ltz (by omega)) (en_f ?_ (en_some rfl))
    show ¬ nI 3 < nI v
    rw [nI_ltI (by omega) (by omega)]; omega
theorem c_isAn {x : Int32} (h : M.1 1 3 = nI m) (hm : m ≤ 5) (hx : ¬ ∃ v, x = nI v ∧ okW m v) : f_X2_isAnswer x M = some (0, M) := by
  refine en_eq ?_
  unfold f_X2_isAnswer
  refine en_ite (fun q => en_ite (fun q2 => en_some rfl) (fun q2 => en_gd (by decide) ?_)) (fun q => en_ite (fun q2 => en_some rfl) (fun q2 => ?_))
  · obtain ⟨v, hv, rfl⟩ := nI_of (x := x) (fun z => by
      have h10 : (10 : Int32).toInt = 10 := by decide
      have h0 : (0 : Int32).toInt = 0 := by decide
      rw [Int32.le_iff_toInt_le] at q
      rw [Int32.lt_iff_toInt_lt] at z
      omega)
    have q : nI 10 ≤ nI v := q
    have q2 : ¬ nI 40 ≤ nI v := q2
    rw [nI_leI (by omega) hv] at q q2
    rw [show irm (nI v) 10 = nI (v % 10) from irm_nI (b := 10) hv (by omega) (by omega)]
    refine en_bd' (has_no h hm ?_) (en_t rfl (en_some rfl))
    rintro ⟨i, hi, e⟩
    rw [nI_eq (by omega) (by omega)] at e
    exact hx ⟨v, rfl, Or.inr ⟨q, by omega, by omega⟩⟩
  · obtain ⟨v, hv, rfl⟩ := nI_of q2
    refine en_t ?_ (en_some rfl)
    show nI 3 < nI v
    rw [nI_ltI (by omega) hv]
    rcases Nat.lt_or_ge 3 v with z | z
    · exact z
    · exact absurd ⟨v, rfl, Or.inl z⟩ hx
theorem r_isT {x : Int32} (h : M.1 0 13 = nI m) (hm : m ≤ 5) (hx : ∃ v, x = nI v ∧ okW m v) : f_X6_isTells x M = some (1, M) := by
  obtain ⟨v, rfl, hv⟩ := hx
  refine en_eq ?_
  unfold f_X6_isTells
  unfold okW at hv
  by_cases q : v ≤ 3
  · exact en_bd' (rin_yes (a := 0) (c := 3) rfl rfl (nI_btw (a := 0) (c := 3) (Nat.zero_le v) q (by omega)) M) (en_f (by decide) (en_some rfl))
  · refine en_bd' (rin_no (a := 0) (c := 3) rfl rfl (out_hi (nI_lt (a := 3) (by omega) (by omega))) M) (en_t rfl (en_bd' (rin_yes (a := 10) (c := 34) rfl rfl (nI_btw (a := 10) (c := 34) (by omega) (by omega) (by omega)) M) (en_f (by decide) (en_gd (by decide) ?_))))
    rw [show irm (nI v) 10 = nI (v % 10) from irm_nI (b := 10) (by omega) (by omega) (by omega)]
    refine en_f ?_ (en_gd (by decide) (en_bd' (isE_in h hm ⟨v % 10, by omega, rfl⟩) (en_f (by decide) (en_some rfl))))
    show ¬ nI 5 ≤ nI (v % 10)
    rw [nI_leI (by omega) (by omega)]; omega
theorem r_isTn {x : Int32} (h : M.1 0 13 = nI m) (hm : m ≤ 5) (hx : ¬ ∃ v, x = nI v ∧ okW m v) : f_X6_isTells x M = some (0, M) := by
  refine en_eq ?_
  unfold f_X6_isTells
  refine en_bd' (rin_no (a := 0) (c := 3) rfl rfl (fun z => hx ?_) M) (en_t rfl ?_)
  · obtain ⟨v, hv, rfl⟩ := nI_of (Int32.not_lt.mpr z.1)
    have z2 : nI v ≤ nI 3 := z.2
    rw [nI_leI hv (by omega)] at z2
    exact ⟨v, rfl, Or.inl z2⟩
  · by_cases z : (10 : Int32) ≤ x ∧ x ≤ 34
    · refine en_bd' (rin_yes (a := 10) (c := 34) rfl rfl z M) (en_f (by decide) (en_gd (by decide) ?_))
      obtain ⟨v, hv, rfl⟩ := nI_of (x := x) (fun y => by
        have h10 : (10 : Int32).toInt = 10 := by decide
        have h0 : (0 : Int32).toInt = 0 := by decide
        have z1 := z.1
        rw [Int32.le_iff_toInt_le] at z1
        rw [Int32.lt_iff_toInt_lt] at y
        omega)
      have z1 : nI 10 ≤ nI v := z.1
      have z2 : nI v ≤ nI 34 := z.2
      rw [nI_leI (by omega) hv] at z1
      rw [nI_leI hv (by omega)] at z2
      rw [show irm (nI v) 10 = nI (v % 10) from irm_nI (b := 10) hv (by omega) (by omega)]
      refine en_ite (fun _ => en_some rfl) (fun _ => en_gd (by decide) (en_bd' (isE_out h hm ?_) (en_t rfl (en_some rfl))))
      rintro ⟨i, hi, e⟩
      rw [nI_eq (by omega) (by omega)] at e
      exact hx ⟨v, rfl, Or.inr ⟨z1, by omega, by omega⟩⟩
    · exact en_bd' (rin_no (a := 10) (c := 34) rfl rfl z M) (en_t rfl (en_some rfl))
theorem c_ans (h : CR G T s M) (hv : okW (tm T) v) : f_X2_answer (nI v) M = some (ansV s v, M) := by
  obtain ⟨h13, hm5, -, -, -⟩ := h.cap
  obtain ⟨-, d1, d2, d3, d4, d5, d6⟩ := id h
  refine en_eq ?_
  unfold f_X2_answer
  unfold okW at hv
  by_cases q : v ≤ 3
  · rcases (by omega : v = 0 ∨ v = 1 ∨ v = 2 ∨ v = 3) with rfl | rfl | rfl | rfl
    · exact en_bi (en_swy rfl (en_some (by rw [d3]; rfl)))
    · exact en_bi (en_swn (by decide) (en_swy rfl (en_some (by rw [d4]; rfl))))
    · exact en_bi (en_swn (by decide) (en_swn (by decide) (en_swy rfl (en_some (by rw [d5]; rfl)))))
    · exact en_bi (en_swn (by decide) (en_swn (by decide) (en_swn (by decide) (en_swy rfl (en_some (by rw [d6]; rfl))))))
  · have ne : ∀ j : Nat, j ≤ 3 → nI v ≠ nI j := fun j hj z => by rw [nI_eq (by omega) (by omega)] at z; omega
    have hv2 : 10 ≤ v ∧ v < 40 ∧ v % 10 < tm T := hv.resolve_left q
    refine en_bi (en_swn (ne 0 (by omega)) (en_swn (ne 1 (by omega)) (en_swn (ne 2 (by omega)) (en_swn (ne 3 (by omega)) (en_swd (en_gd (by decide) (en_gd (by decide) ?_)))))))
    rw [show irm (nI v) 10 = nI (v % 10) from irm_nI (b := 10) (by omega) (by omega) (by omega), show nI v / 10 = nI (v / 10) from pk_div (d := 10) (by omega) (by omega) (by omega)]
    obtain ⟨e1, e2, e3⟩ := d1 (v % 10) (by omega)
    have ha : ansV s v = if v / 10 = 1 then nI (xh s (v % 10)) else if v / 10 = 2 then nI (xw s (v % 10)) else lasI s (v % 10) := by
      unfold ansV
      rw [if_neg (by omega), if_neg (by omega), if_neg (by omega), if_neg (by omega)]
    refine en_bd' (r := ansV s v) (M := M) (en_eq ?_) (en_some rfl)
    unfold f_X2_ofOne
    have hb : bin (nI (v % 10)) 5 = true := bin_nI (by omega) (by omega)
    refine en_bd' (has_yes h13 hm5 ⟨v % 10, hv2.2.2, rfl⟩) (en_f (by decide) ?_)
    rw [ha, cl_nI (by omega), e1, e2, e3]
    rcases (by omega : v / 10 = 1 ∨ v / 10 = 2 ∨ v / 10 = 3) with z | z | z
    · rw [z]; exact en_t rfl (en_gd hb (en_some rfl))
    · rw [z]; exact en_f (by decide) (en_t rfl (en_gd hb (en_some rfl)))
    · rw [z]; exact en_f (by decide) (en_f (by decide) (en_gd hb (en_some rfl)))
theorem r_ans (h : RR G T s M) (ha5 : 5 ≤ ta T) (hv : okW (tm T) v) : f_X6_tells (nI v) M = some (ansV s v, M) := by
  obtain ⟨h13, hm5, -, -, -, -⟩ := h.1.cap
  obtain ⟨-, d1, d2, d3, d4, d5⟩ := id h
  refine en_eq ?_
  unfold f_X6_tells
  unfold okW at hv
  by_cases q : v ≤ 3
  · rcases (by omega : v = 0 ∨ v = 1 ∨ v = 2 ∨ v = 3) with rfl | rfl | rfl | rfl
    · exact en_f (by decide) (en_t rfl (en_some (by rw [d2]; rfl)))
    · exact en_f (by decide) (en_f (by decide) (en_t rfl (en_some (by rw [d3 ha5]; rfl))))
    · exact en_f (by decide) (en_f (by decide) (en_f (by decide) (en_t rfl (en_some (by rw [d4]; rfl)))))
    · exact en_f (by decide) (en_f (by decide) (en_f (by decide) (en_f (by decide) (en_some (by rw [d5]; rfl)))))
  · have hv2 : 10 ≤ v ∧ v < 40 ∧ v % 10 < tm T := hv.resolve_left q
    have hb : bin (nI (v % 10)) 5 = true := bin_nI (by omega) (by omega)
    obtain ⟨e1, e2, e3⟩ := d1 (v % 10) (by omega)
    have ha : ansV s v = if v / 10 = 1 then nI (xh s (v % 10)) else if v / 10 = 2 then nI (xw s (v % 10)) else lasI s (v % 10) := by
      unfold ansV
      rw [if_neg (by omega), if_neg (by omega), if_neg (by omega), if_neg (by omega)]
    refine en_t (by show nI 4 ≤ nI v; rw [nI_leI (by omega) (by omega)]; omega) (en_gd (by decide) ?_)
    rw [show irm (nI v) 10 = nI (v % 10) from irm_nI (b := 10) (by omega) (by omega) (by omega), ha]
    refine en_bi (en_ite (fun a => en_ite (fun b => ?_) (fun b => ?_)) (fun a => ?_))
    · have b : nI 30 ≤ nI v := b
      rw [nI_leI (by omega) (by omega)] at b
      rw [if_neg (by omega), if_neg (by omega), cl_nI (by omega), e3]
      exact en_gd hb (en_some rfl)
    · have a : nI 20 ≤ nI v := a
      have b : ¬ nI 30 ≤ nI v := b
      rw [nI_leI (by omega) (by omega)] at a b
      rw [if_neg (by omega), if_pos (by omega), cl_nI (by omega), e2]
      exact en_gd hb (en_some rfl)
    · have a : ¬ nI 20 ≤ nI v := a
      rw [nI_leI (by omega) (by omega)] at a
      rw [if_pos (by omega), cl_nI (by omega), e1]
      exact en_gd hb (en_some rfl)
/-! ways -/
theorem gvr_tns {k : Nat} (h5 : 5 ≤ ta T) (hm : tm T ≤ 5) : gvr T (tns (tm T) k) (nI (k % max 1 (tm T))) := by
  unfold tns
  by_cases q : tm T = 0
  · rw [if_pos q]
    intro e he
    have := sit_m he
    omega
  · rw [if_neg q]
    refine ⟨sit_iff.mpr ⟨Nat.mod_lt _ (by omega), ?_⟩, ?_⟩
    · have := Nat.mod_lt k (show 0 < tm T by omega)
      omega
    · rw [Nat.max_eq_right (by omega)]
theorem gvr_tld {x : Int32} (h5 : 5 ≤ ta T) (hm : tm T ≤ 5) : gvr T (tld (tm T) x) x := by
  cases ht : tld (tm T) x with
  | none =>
    intro e he z
    have := sit_m he
    exact tld_none ht ⟨e, this, z, by omega⟩
  | some e =>
    have := tld_some ht
    exact ⟨sit_iff.mpr ⟨this.1, by omega⟩, this.2⟩
theorem wc_wy {j : Nat} (h5 : 5 ≤ ta T) (hm : tm T ≤ 5) (hj : 1 ≤ j ∧ j ≤ 3) : WC T (wyj j (tm T)) (nI j) M := by
  rcases (by omega : j = 1 ∨ j = 2 ∨ j = 3) with rfl | rfl | rfl
  · exact Or.inr (Or.inl ⟨rfl, rfl, fun k _ => gvr_tns h5 hm⟩)
  · exact Or.inr (Or.inr (Or.inl ⟨rfl, rfl⟩))
  · exact Or.inr (Or.inr (Or.inr ⟨rfl, rfl⟩))
theorem wc_2 : WC T (wyj 2 m) 2 M := Or.inr (Or.inr (Or.inl ⟨rfl, rfl⟩))
theorem rw_2 {x2 : Int32} : RW T (wyj 2 m) 2 x2 M := Or.inl ⟨rfl, rfl⟩
theorem rw_wy {j : Nat} {x2 : Int32} (h5 : 5 ≤ ta T) (hj : 1 ≤ j ∧ j ≤ 3) : RW T (wyj j (tm T)) (nI j) x2 M := by
  rcases (by omega : j = 1 ∨ j = 2 ∨ j = 3) with rfl | rfl | rfl
  · exact Or.inr (Or.inr ⟨h5, rfl, Or.inr (Or.inr ⟨Or.inl rfl, fun _ _ => rfl⟩)⟩)
  · exact Or.inl ⟨rfl, rfl⟩
  · exact Or.inr (Or.inl ⟨rfl, rfl⟩)
theorem rw_hp {x2 : Int32} (h5 : 5 ≤ ta T) : RW T (wyj 1 (tm T)) 5 x2 M := Or.inr (Or.inr ⟨h5, rfl, Or.inr (Or.inr ⟨Or.inr rfl, fun _ _ => rfl⟩)⟩)
theorem tG_tR : tG G (yP G) = tR G 5 0 := rfl
theorem aR_5 {c : Nat} : abI (tR G 5 c) = -1 := rfl
theorem sm_fix {K : Nat → Nat → Bool} {KL : Nat → Bool} {a b : Nat} (h : Sm (fun o k => K o k && !(o == a && k == b)) KL M N) (e : N.1 a b = M.1 a b) : Sm K KL M N := by
  refine ⟨fun o k hk => ?_, h.2⟩
  by_cases z : o = a ∧ k = b
  · rw [z.1, z.2]; exact e
  · refine h.1 o k ?_
    dsimp only
    rw [hk]
    simp
    omega
/-- the reference sups with nobody away -/
theorem r_sup {x1 x2 : Int32} (h : AR G M) (hG : Gok G) (h14 : M.1 0 14 = -1) (hc : (x1 = 5 ∧ 0 < c ∧ c ≤ 12 ∧ x2 = nI c) ∨ (x1 ≠ 5 ∧ c = 0)) (hW : RW (tR G 5 c) w x1 x2 M) : En (f_X6_sups x1 x2 M) (fun N => Sm KU KB M N ∧ RR G (tR G 5 c) (runF (tR G 5 c) w 60) N) := sups_ok hG h (by rw [h14]; rfl) hc hW
/-! supper -/
theorem c_j94 {j : Nat} (hG : Gok G) (hA : AC G M) (hw : ∀ A, Sm KSc KSl M A → WC (tR G 5 0) w (nI j) A) (hv : okW (yM G) v) : En (f_X5_supper_j94 (nI j) (nI v) M) (fun q => q.1 = ansV (runF (tR G 5 0) w 60) v ∧ Sm KSc KSl M q.2) := by
  unfold f_X5_supper_j94
  rw [hA.2.1]
  refine en_bv (en_imp (lay_ok hG hA hG.2.1) ?_)
  rintro A ⟨g1, g2, g3, -⟩
  rw [tG_tR] at g2 g3
  refine en_bv (en_imp (c_run g2 g3 (hw A g1)) ?_)
  rintro B ⟨k1, k2⟩
  exact en_bd' (c_ans k2 hv) (en_some ⟨rfl, g1.tr (k1.weak kx_sc (fun _ _ => rfl))⟩)
theorem s_supper : St3 Rel f_X5_supper f_X6_supper := by
  rintro x1 x2 x3 M1 M2 ⟨G, nt, zs, h⟩
  have hC := h.ac
  have hA := h.ar
  have hG := h.1.1
  have hB := hG.1
  have hm := hG.2.2.1
  have h14 := h.2.2.1.2
  have bad : En (f_X5_supper x1 x2 x3 M1) (fun q => q = (-100000, M1)) → En (f_X6_supper x1 x2 x3 M2) (fun q => q = (-100000, M2)) → ∃ r N1 N2, f_X5_supper x1 x2 x3 M1 = some (r, N1) ∧ f_X6_supper x1 x2 x3 M2 = some (r, N2) ∧ Rel N1 N2 := fun e1 e2 => st_go e1 e2 ⟨G, nt, zs, h⟩
  have good : ∀ {r : Int32}, En (f_X5_supper x1 x2 x3 M1) (fun q => q.1 = r ∧ Sm (fun o k => KSc o k && !(o == 27)) KSl M1 q.2) → En (f_X6_supper x1 x2 x3 M2) (fun q => q.1 = r ∧ Sm KU KB M2 q.2) → ∃ r N1 N2, f_X5_supper x1 x2 x3 M1 = some (r, N1) ∧ f_X6_supper x1 x2 x3 M2 = some (r, N2) ∧ Rel N1 N2 := fun e1 e2 => st_of e1 e2 fun a b p q => ⟨p.1.trans q.1.symm, G, nt, zs, h.same p.2 q.2 (fun o k z => by have := k1_sc o k z; unfold KC1 at z; simp at z ⊢; exact ⟨this, by omega⟩) k1_u⟩
  rcases tri x1 (n := 3) (by omega) with q | q | ⟨j, hj, rfl⟩
  · refine bad ?_ ?_
    · unfold f_X5_supper; exact en_t q (en_some rfl)
    · unfold f_X6_supper; exact en_bd' (rin_no (a := 0) (c := 3) rfl rfl (out_lo q) M2) (en_t rfl (en_some rfl))
  · refine bad ?_ ?_
    · unfold f_X5_supper; exact en_f (lt_nz (by omega) q) (en_t q (en_some rfl))
    · unfold f_X6_supper; exact en_bd' (rin_no (a := 0) (c := 3) rfl rfl (out_hi q) M2) (en_t rfl (en_some rfl))
  · have r3 := rin_yes (x := nI j) (lo := 0) (hi := 3) (a := 0) (c := 3) rfl rfl (nI_btw (a := 0) (c := 3) (Nat.zero_le j) hj (by omega)) M2
    have j3 : ¬ (3 : Int32) < nI j := by show ¬ nI 3 < nI j; rw [nI_ltI (by omega) (by omega)]; omega
    by_cases hv : ∃ v, x3 = nI v ∧ okW (yM G) v
    · have cv := c_isA hC.2.2.2.1 hm hv
      have rv := r_isT hA.2.2.2.1 hm hv
      obtain ⟨v, rfl, hv⟩ := hv
      by_cases hj0 : j = 0
      · subst hj0
        by_cases hx : ∃ i, i < 4 ∧ x2 = nI i
        · obtain ⟨sn, hs, rfl⟩ := hx
          rcases h.2.2.2.2.2.1 sn hs with ⟨a, b⟩ | ⟨so, sz, a1, a2, a3, a4, a5, a6, a7, a8⟩
          · refine bad ?_ ?_
            · unfold f_X5_supper
              exact en_f (nI_ltz (by omega)) (en_f j3 (en_bd' cv (en_f (by decide) (en_t rfl (en_bd' (sh_mis hs a) (en_f (by decide) (en_some rfl)))))))
            · unfold f_X6_supper
              refine en_bd' r3 (en_f (by decide) (en_t rfl (en_bd' (sh_is M2 ⟨sn, hs, rfl⟩) (en_f (by decide) (en_gd (bin_nI hs (by omega)) ?_)))))
              rw [cl_nI (by omega)]
              exact en_t b (en_some rfl)
          · obtain ⟨pl, hpl⟩ : ∃ f : Nat → Int32, f = fun k => if k < sz then M1.1 24 (40 * sn + k) else -1 := ⟨_, rfl⟩
            obtain ⟨w, hwd⟩ : ∃ w : Wy, w = (0, fun k => tld (yM G) (pl k)) := ⟨_, rfl⟩
            refine good (r := ansV (runF (tR G 5 0) w 60) v) ?_ ?_
            · unfold f_X5_supper
              refine en_f (nI_ltz (by omega)) (en_f j3 (en_bd' cv (en_f (by decide) (en_t rfl (en_bd' (sh_nmis hs a1 a3) (en_t rfl ?_))))))
              refine en_iter (fun (z : Int32 × Mm) => ∃ k, k ≤ 12 ∧ z.1 = nI k ∧ Sm (fun o _ => !(o == 27)) KA M1 z.2 ∧ ∀ i, i < k → z.2.1 27 i = pl i) (fun z => 13 - z.1.toNatClampNeg) ⟨0, by omega, rfl, Sm.rf, fun i hi => by omega⟩ (by have := fuel_gt; omega) ?_
              rintro ⟨x, A⟩ ⟨k, hk, rfl, g1, g2⟩
              have g1 : Sm (fun o _ => !(o == 27)) KA M1 A := g1
              have g2 : ∀ i, i < k → A.1 27 i = pl i := g2
              show En (f_X5_supper_b44 (nI 0) (nI sn) (nI v) (nI k) A) _
              unfold f_X5_supper_b44
              have hA4 : A.1 23 sn = nI sz := by rw [g1.1 23 sn rfl]; exact a4
              refine en_ite (fun q => en_ex ?_) (fun q => en_bd' (sh_size hs A) ?_)
              · have q : nI 12 ≤ nI k := q
                rw [nI_leI (by omega) (by omega)] at q
                have hCA : AC G A := hC.same (g1.weak (fun o k z => by unfold K7 at z; simp at z ⊢; omega) (fun _ z => z))
                refine en_imp (c_j94 (j := 0) (w := w) hG hCA (fun B hs => Or.inl ⟨rfl, by rw [hwd], fun i hi => ?_⟩) hv) ?_
                · have hi : i < yB G := hi
                  rw [hs.1 27 i rfl, g2 i (by omega), hwd]
                  exact gvr_tld (T := tR G 5 0) (Nat.le_refl 5) hm
                · rintro ⟨r, B⟩ ⟨k1, k2⟩
                  refine ⟨k1, (g1.weak (fun o k z => ?_) (fun _ _ => rfl)).tr (k2.weak (fun o k z => ?_) (fun _ z => z))⟩
                  · simp at z ⊢; exact z.2
                  · simp at z ⊢; exact z.1
              · have q : ¬ nI 12 ≤ nI k := q
                rw [nI_leI (by omega) (by omega)] at q
                have j87 : ∀ x : Int32, x = pl k → En (f_X5_supper_j87 (nI 0) (nI sn) (nI v) (nI k) x (nI k) A) (Lp (fun (z : Int32 × Mm) => ∃ k, k ≤ 12 ∧ z.1 = nI k ∧ Sm (fun o _ => !(o == 27)) KA M1 z.2 ∧ ∀ i, i < k → z.2.1 27 i = pl i) (fun z => 13 - z.1.toNatClampNeg) (nI k, A) (fun q => q.1 = ansV (runF (tR G 5 0) w 60) v ∧ Sm (fun o k => KSc o k && !(o == 27)) KSl M1 q.2)) := by
                  intro x hx
                  unfold f_X5_supper_j87
                  refine en_gd (bin_nI (by omega) (by omega)) (en_bmv fun B e => en_bi (en_some ⟨⟨k + 1, by omega, nI_add k 1, g1.tr (sm_1 e rfl), fun i hi => ?_⟩, ?_⟩))
                  · rw [cl_nI (by omega)] at e
                    show B.1 27 i = _
                    by_cases z : i = k
                    · subst z; rw [ms_at e, hx]
                    · rw [ms_off e (by omega)]; exact g2 i (by omega)
                  · show 13 - (nI k + 1).toNatClampNeg < 13 - (nI k).toNatClampNeg
                    rw [show nI k + 1 = nI (k + 1) from nI_add k 1, nI_clamp (by omega), nI_clamp (by omega)]
                    omega
                rw [hA4]
                refine en_ite (fun z => j87 _ ?_) (fun z => ?_)
                · rw [nI_leI (by omega) (by omega)] at z
                  rw [hpl]
                  dsimp only
                  rw [if_neg (by omega)]
                · rw [nI_leI (by omega) (by omega)] at z
                  refine en_bd' (sh_item hs a2 hA4 (by omega)) (j87 _ ?_)
                  rw [hpl]
                  dsimp only
                  rw [if_pos (by omega), g1.1 24 _ rfl]
            · unfold f_X6_supper f_X6_supper_j32
              refine en_bd' r3 (en_f (by decide) (en_t rfl (en_bd' (sh_is M2 ⟨sn, hs, rfl⟩) (en_f (by decide) (en_gd (bin_nI hs (by omega)) ?_)))))
              rw [cl_nI (by omega), a5]
              refine en_f (by decide) (en_bd' rv (en_f (by decide) (en_bv (en_imp (r_sup (c := 0) (w := w) hA hG h14 (Or.inr ⟨by decide, rfl⟩) ?_) ?_))))
              · refine Or.inr (Or.inr ⟨Nat.le_refl 5, by rw [hwd], Or.inl ⟨rfl, sn, sz, hs, a2, rfl, a7, fun k hk => ?_⟩⟩)
                rw [hwd, hpl]
                show tld (yM G) (if k < sz then M1.1 24 (40 * sn + k) else -1) = tld (yM G) (if k < sz then M2.1 19 (40 * sn + k) else -1)
                by_cases z : k < sz
                · rw [if_pos z, if_pos z, a8 k z]
                · rw [if_neg z, if_neg z]
              · rintro A ⟨g1, g2⟩
                exact en_bd' (r_ans g2 (Nat.le_refl 5) hv) (en_some ⟨rfl, g1⟩)
        · refine bad ?_ ?_
          · unfold f_X5_supper f_X1_isMissing
            exact en_f (nI_ltz (by omega)) (en_f j3 (en_bd' cv (en_f (by decide) (en_t rfl (en_bd (en_bd' (sh_hasn M1 hx) (en_t rfl (en_some (en_f (show ¬ (1 : Int32) = 0 by decide) (en_some rfl))))))))))
          · unfold f_X6_supper
            exact en_bd' r3 (en_f (by decide) (en_t rfl (en_bd' (sh_isn M2 hx) (en_t rfl (en_some rfl)))))
      · have jn0 : ¬ nI j = 0 := nI_ne0 (by omega) (by omega)
        refine good (r := ansV (runF (tR G 5 0) (wyj j (yM G)) 60) v) ?_ ?_
        · unfold f_X5_supper
          refine en_f (nI_ltz (by omega)) (en_f j3 (en_bd' cv (en_f (by decide) (en_f jn0 (en_imp (c_j94 (w := wyj j (yM G)) hG hC (fun A _ => wc_wy (T := tR G 5 0) (Nat.le_refl 5) hm (by omega)) hv) ?_)))))
          rintro ⟨r, B⟩ ⟨k1, k2⟩
          exact ⟨k1, k2.weak (fun o k z => by simp at z; exact z.1) (fun _ z => z)⟩
        · unfold f_X6_supper f_X6_supper_j32
          refine en_bd' r3 (en_f (by decide) (en_f jn0 (en_bd' rv (en_f (by decide) (en_bv (en_imp (r_sup (c := 0) (w := wyj j (yM G)) hA hG h14 (Or.inr ⟨?_, rfl⟩) (rw_wy (T := tR G 5 0) (Nat.le_refl 5) (by omega))) ?_))))))
          · show nI j ≠ nI 5
            exact fun z => by rw [nI_eq (by omega) (by omega)] at z; omega
          · rintro A ⟨g1, g2⟩
            exact en_bd' (r_ans g2 (Nat.le_refl 5) hv) (en_some ⟨rfl, g1⟩)
    · have cv := c_isAn hC.2.2.2.1 hm hv
      have rv := r_isTn hA.2.2.2.1 hm hv
      refine bad ?_ ?_
      · unfold f_X5_supper
        exact en_f (nI_ltz (by omega)) (en_f j3 (en_bd' cv (en_t rfl (en_some rfl))))
      · unfold f_X6_supper f_X6_supper_j32
        have j32 : En (bd (f_X6_isTells x3 M2) fun r4 M3 => if r4 = 0 then some ((-100000 : Int32), M3) else bv (f_X6_sups (nI j) x2 M3) fun M5 => bd (f_X6_tells x3 M5) fun r7 M6 => some (r7, M6)) (fun q => q = (-100000, M2)) := en_bd' rv (en_t rfl (en_some rfl))
        refine en_bd' r3 (en_f (by decide) (en_ite (fun _ => ?_) (fun _ => j32)))
        by_cases hx : ∃ i, i < 4 ∧ x2 = nI i
        · obtain ⟨sn, hs, rfl⟩ := hx
          exact en_bd' (sh_is M2 ⟨sn, hs, rfl⟩) (en_f (by decide) (en_gd (bin_nI hs (by omega)) (en_ite (fun _ => en_some rfl) (fun _ => j32))))
        · exact en_bd' (sh_isn M2 hx) (en_t rfl (en_some rfl))
end SUP
