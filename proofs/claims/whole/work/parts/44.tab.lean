/-! ===== the calls on the table ===== -/
theorem sm_a {K : Nat → Nat → Bool} {M M1 : Mm} {o k : Nat} {v : Int32} (e : M1 = ms M o k v) (hk : K o k = false) : Sm K KA M M1 := sm_1 e hk
section TAB
variable {G G' : Gt} {nt : Nat} {zs : Nat → Txt} {M1 M2 N1 N2 M : Mm}
theorem st_go {α : Type} {R : Mm → Mm → Prop} {x y : Option (α × Mm)} {r : α} (h1 : En x (fun q => q = (r, N1))) (h2 : En y (fun q => q = (r, N2))) (h : R N1 N2) : ∃ r N1 N2, x = some (r, N1) ∧ y = some (r, N2) ∧ R N1 N2 := ⟨r, N1, N2, en_eq h1, en_eq h2, h⟩
/-! the table's rows, one put -/
def gB (G : Gt) (v : Nat) : Gt := ((v, G.1.2), G.2)
def gP (G : Gt) (v : Nat) : Gt := ((G.1.1, v, G.1.2.2), G.2)
def gR (G : Gt) (v : Nat) (z : Txt) : Gt := ((G.1.1, G.1.2.1, G.1.2.2.1, v), G.2.1, z)
def gN (G : Gt) (i v : Nat) : Gt := (G.1, (yK G, upN (yN G) i v, yW G, yA G), yZ G)
def gW (G : Gt) (i v : Nat) : Gt := (G.1, (yK G, yN G, upN (yW G) i v, yA G), yZ G)
def gA (G : Gt) (i v : Nat) : Gt := (G.1, (yK G, yN G, yW G, upN (yA G) i v), yZ G)
theorem up_le {f : Nat → Nat} {i v b : Nat} (h : ∀ e, f e ≤ b) (hv : v ≤ b) (e : Nat) : upN f i v e ≤ b := by
  unfold upN
  split
  · exact hv
  · exact h e
theorem c_B {v : Nat} (h : AC0 G M) : AC0 (gB G v) (ms M 1 0 (nI v)) := by
  obtain ⟨a1, a2, a3, a4, a5⟩ := h
  exact ⟨ms_at rfl, by rw [ms_off rfl (by omega)]; exact a2, by rw [ms_off rfl (by omega)]; exact a3, by rw [ms_off rfl (by omega)]; exact a4, fun e he => by rw [ms_off rfl (by omega), ms_off rfl (by omega), ms_off rfl (by omega), ms_off rfl (by omega)]; exact a5 e he⟩
theorem c_P {v : Nat} (h : AC0 G M) : AC0 (gP G v) (ms M 1 1 (nI v)) := by
  obtain ⟨a1, a2, a3, a4, a5⟩ := h
  exact ⟨by rw [ms_off rfl (by omega)]; exact a1, ms_at rfl, by rw [ms_off rfl (by omega)]; exact a3, by rw [ms_off rfl (by omega)]; exact a4, fun e he => by rw [ms_off rfl (by omega), ms_off rfl (by omega), ms_off rfl (by omega), ms_off rfl (by omega)]; exact a5 e he⟩
theorem c_R {v : Nat} {z : Txt} (h : AC0 G M) : AC0 (gR G v z) (ms M 1 2 (nI v)) := by
  obtain ⟨a1, a2, a3, a4, a5⟩ := h
  exact ⟨by rw [ms_off rfl (by omega)]; exact a1, by rw [ms_off rfl (by omega)]; exact a2, ms_at rfl, by rw [ms_off rfl (by omega)]; exact a4, fun e he => by rw [ms_off rfl (by omega), ms_off rfl (by omega), ms_off rfl (by omega), ms_off rfl (by omega)]; exact a5 e he⟩
theorem r_B {v : Nat} (h : AR0 G M) : AR0 (gB G v) (ms M 0 7 (nI v)) := by
  obtain ⟨a1, a2, a3, a4, a5⟩ := h
  exact ⟨ms_at rfl, by rw [ms_off rfl (by omega)]; exact a2, by rw [ms_off rfl (by omega)]; exact a3, by rw [ms_off rfl (by omega)]; exact a4, fun e he => by rw [ms_off rfl (by omega), ms_off rfl (by omega), ms_off rfl (by omega), ms_off rfl (by omega)]; exact a5 e he⟩
theorem r_P {v : Nat} (h : AR0 G M) : AR0 (gP G v) (ms M 0 8 (nI v)) := by
  obtain ⟨a1, a2, a3, a4, a5⟩ := h
  exact ⟨by rw [ms_off rfl (by omega)]; exact a1, ms_at rfl, by rw [ms_off rfl (by omega)]; exact a3, by rw [ms_off rfl (by omega)]; exact a4, fun e he => by rw [ms_off rfl (by omega), ms_off rfl (by omega), ms_off rfl (by omega), ms_off rfl (by omega)]; exact a5 e he⟩
theorem r_R {v : Nat} {z : Txt} (h : AR0 G M) : AR0 (gR G v z) (ms M 0 4 (nI v)) := by
  obtain ⟨a1, a2, a3, a4, a5⟩ := h
  exact ⟨by rw [ms_off rfl (by omega)]; exact a1, by rw [ms_off rfl (by omega)]; exact a2, ms_at rfl, by rw [ms_off rfl (by omega)]; exact a4, fun e he => by rw [ms_off rfl (by omega), ms_off rfl (by omega), ms_off rfl (by omega), ms_off rfl (by omega)]; exact a5 e he⟩
theorem up_row {f : Nat → Nat} {o i v j : Nat} (h : M.1 o j = nI (f j)) : (ms M o i (nI v)).1 o j = nI (upN f i v j) := by
  by_cases q : j = i
  · subst q; rw [ms_at rfl, upN_s]
  · rw [ms_off rfl (by omega), upN_n q]; exact h
theorem c_N {i v : Nat} (h : AC0 G M) : AC0 (gN G i v) (ms M 8 i (nI v)) := by
  obtain ⟨a1, a2, a3, a4, a5⟩ := h
  refine ⟨by rw [ms_off rfl (by omega)]; exact a1, by rw [ms_off rfl (by omega)]; exact a2, by rw [ms_off rfl (by omega)]; exact a3, by rw [ms_off rfl (by omega)]; exact a4, fun e he => ?_⟩
  obtain ⟨b1, b2, b3, b4⟩ := a5 e he
  exact ⟨by rw [ms_off rfl (by omega)]; exact b1, up_row b2, by rw [ms_off rfl (by omega)]; exact b3, by rw [ms_off rfl (by omega)]; exact b4⟩
theorem c_W {i v : Nat} (h : AC0 G M) : AC0 (gW G i v) (ms M 9 i (nI v)) := by
  obtain ⟨a1, a2, a3, a4, a5⟩ := h
  refine ⟨by rw [ms_off rfl (by omega)]; exact a1, by rw [ms_off rfl (by omega)]; exact a2, by rw [ms_off rfl (by omega)]; exact a3, by rw [ms_off rfl (by omega)]; exact a4, fun e he => ?_⟩
  obtain ⟨b1, b2, b3, b4⟩ := a5 e he
  exact ⟨by rw [ms_off rfl (by omega)]; exact b1, by rw [ms_off rfl (by omega)]; exact b2, up_row b3, by rw [ms_off rfl (by omega)]; exact b4⟩
theorem c_A {i v : Nat} (h : AC0 G M) : AC0 (gA G i v) (ms M 10 i (nI v)) := by
  obtain ⟨a1, a2, a3, a4, a5⟩ := h
  refine ⟨by rw [ms_off rfl (by omega)]; exact a1, by rw [ms_off rfl (by omega)]; exact a2, by rw [ms_off rfl (by omega)]; exact a3, by rw [ms_off rfl (by omega)]; exact a4, fun e he => ?_⟩
  obtain ⟨b1, b2, b3, b4⟩ := a5 e he
  exact ⟨by rw [ms_off rfl (by omega)]; exact b1, by rw [ms_off rfl (by omega)]; exact b2, by rw [ms_off rfl (by omega)]; exact b3, up_row b4⟩
theorem r_N {i v : Nat} (h : AR0 G M) : AR0 (gN G i v) (ms M 5 i (nI v)) := by
  obtain ⟨a1, a2, a3, a4, a5⟩ := h
  refine ⟨by rw [ms_off rfl (by omega)]; exact a1, by rw [ms_off rfl (by omega)]; exact a2, by rw [ms_off rfl (by omega)]; exact a3, by rw [ms_off rfl (by omega)]; exact a4, fun e he => ?_⟩
  obtain ⟨b1, b2, b3, b4⟩ := a5 e he
  exact ⟨by rw [ms_off rfl (by omega)]; exact b1, up_row b2, by rw [ms_off rfl (by omega)]; exact b3, by rw [ms_off rfl (by omega)]; exact b4⟩
theorem r_W {i v : Nat} (h : AR0 G M) : AR0 (gW G i v) (ms M 6 i (nI v)) := by
  obtain ⟨a1, a2, a3, a4, a5⟩ := h
  refine ⟨by rw [ms_off rfl (by omega)]; exact a1, by rw [ms_off rfl (by omega)]; exact a2, by rw [ms_off rfl (by omega)]; exact a3, by rw [ms_off rfl (by omega)]; exact a4, fun e he => ?_⟩
  obtain ⟨b1, b2, b3, b4⟩ := a5 e he
  exact ⟨by rw [ms_off rfl (by omega)]; exact b1, by rw [ms_off rfl (by omega)]; exact b2, up_row b3, by rw [ms_off rfl (by omega)]; exact b4⟩
theorem r_A {i v : Nat} (h : AR0 G M) : AR0 (gA G i v) (ms M 7 i (nI v)) := by
  obtain ⟨a1, a2, a3, a4, a5⟩ := h
  refine ⟨by rw [ms_off rfl (by omega)]; exact a1, by rw [ms_off rfl (by omega)]; exact a2, by rw [ms_off rfl (by omega)]; exact a3, by rw [ms_off rfl (by omega)]; exact a4, fun e he => ?_⟩
  obtain ⟨b1, b2, b3, b4⟩ := a5 e he
  exact ⟨by rw [ms_off rfl (by omega)]; exact b1, by rw [ms_off rfl (by omega)]; exact b2, by rw [ms_off rfl (by omega)]; exact b3, up_row b4⟩
/-! set -/
theorem c_set {j : Nat} (hj : j ≤ 4) (x2 x3 : Int32) (M : Mm) : f_X5_set (nI j) x2 x3 M = if x3 < lowV j then some (-2, M) else if x3 ≤ highV j then f_X3_change_1 (nI j) x2 x3 M else some (-2, M) := by
  unfold f_X5_set
  have q5 : ¬ (5 : Int32) ≤ nI j := by show ¬ nI 5 ≤ nI j; rw [nI_leI (by omega) (by omega)]; omega
  have q6 : nI j < (5 : Int32) := by show nI j < nI 5; rw [nI_ltI (by omega) (by omega)]; omega
  rw [if_neg (nI_ltz (by omega)), if_neg q5, if_pos q6, gd_t (bin_nI (by omega) (by omega)), cl_nI (by omega)]
  split
  · rfl
  · rw [gd_t (bin_nI (by omega) (by omega)), bd_id]
theorem r_set28 {j : Nat} (hj : j ≤ 4) (x2 x3 : Int32) (M : Mm) : f_X6_set_j28 (nI j) x2 x3 M = f_X6_set_j85 (nI j) x2 x3 (highV j).toInt64 (lowV j).toInt64 x3.toInt64 M := by
  unfold f_X6_set_j28 f_X6_set_j40 f_X6_set_j45 f_X6_set_j54
  rcases (by omega : j = 0 ∨ j = 1 ∨ j = 2 ∨ j = 3 ∨ j = 4) with rfl | rfl | rfl | rfl | rfl
  · rw [if_neg (by decide), if_neg (by decide), if_pos (by decide)]; rfl
  · rw [if_pos (by decide), if_neg (by decide), if_neg (by decide), if_pos (by decide)]; rfl
  · rw [if_neg (by decide), if_neg (by decide), if_neg (by decide), if_neg (by decide), if_neg (by decide), if_pos (by decide)]; rfl
  · rw [if_neg (by decide), if_neg (by decide), if_neg (by decide), if_pos (by decide)]; rfl
  · rw [if_neg (by decide), if_pos (by decide), if_neg (by decide), if_neg (by decide), if_neg (by decide), if_neg (by decide)]; rfl
theorem s_set : St3 Rel f_X5_set f_X6_set := by
  rintro x1 x2 x3 M1 M2 ⟨G, nt, zs, h⟩
  obtain ⟨⟨hG, hR, hZ⟩, hC, ⟨hA, h14⟩, hT, hTp, hS, hK⟩ := id h
  have hm := hG.2.2.1
  obtain ⟨g1, g2, g3, g4, g5, g6⟩ := id hG
  have bad : En (f_X5_set x1 x2 x3 M1) (fun q => q = (-2, M1)) → En (f_X6_set x1 x2 x3 M2) (fun q => q = (-2, M2)) → ∃ r N1 N2, f_X5_set x1 x2 x3 M1 = some (r, N1) ∧ f_X6_set x1 x2 x3 M2 = some (r, N2) ∧ Rel N1 N2 := fun e1 e2 => st_go e1 e2 ⟨G, nt, zs, h⟩
  rcases tri x1 (n := 4) (by omega) with q | q | ⟨j, hj, rfl⟩
  · refine bad ?_ ?_
    · unfold f_X5_set; exact en_t q (en_some rfl)
    · unfold f_X6_set; exact en_bd' (rin_no (a := 0) (c := 4) rfl rfl (out_lo q) M2) (en_t rfl (en_some rfl))
  · refine bad ?_ ?_
    · unfold f_X5_set; exact en_f (lt_nz (by omega) q) (en_t (lt_le (by omega) q) (en_some rfl))
    · unfold f_X6_set; exact en_bd' (rin_no (a := 0) (c := 4) rfl rfl (out_hi q) M2) (en_t rfl (en_some rfl))
  · have rin4 := rin_yes (x := nI j) (lo := 0) (hi := 4) (a := 0) (c := 4) rfl rfl (nI_btw (a := 0) (c := 4) (Nat.zero_le j) hj (by omega)) M2
    rw [c_set hj] at bad ⊢
    -- the reference's way in
    have rgo : ∀ {P : Int32 × Mm → Prop}, (j ≤ 1 ∨ ∃ i, i < yM G ∧ x2 = nI i) → En (f_X6_set_j85 (nI j) x2 x3 (highV j).toInt64 (lowV j).toInt64 x3.toInt64 M2) P → En (f_X6_set (nI j) x2 x3 M2) P := by
      intro P hx hP
      unfold f_X6_set
      refine en_bd' rin4 (en_f (by decide) (en_ite (fun q => ?_) (fun q => ?_)))
      · rw [r_set28 hj]; exact hP
      · have q : ¬ nI j ≤ nI 1 := q
        rw [nI_leI (by omega) (by omega)] at q
        refine en_bd' (isE_in hA.2.2.2.1 hm (hx.resolve_left (by omega))) (en_f (by decide) ?_)
        rw [r_set28 hj]; exact hP
    have rno : ¬ (j ≤ 1 ∨ ∃ i, i < yM G ∧ x2 = nI i) → En (f_X6_set (nI j) x2 x3 M2) (fun q => q = (-2, M2)) := by
      intro hx
      unfold f_X6_set
      refine en_bd' rin4 (en_f (by decide) (en_f ?_ (en_bd' (isE_out hA.2.2.2.1 hm (fun z => hx (Or.inr z))) (en_t rfl (en_some rfl)))))
      show ¬ nI j ≤ nI 1
      rw [nI_leI (by omega) (by omega)]
      omega
    by_cases hx : j ≤ 1 ∨ ∃ i, i < yM G ∧ x2 = nI i
    · by_cases hlo : x3 < lowV j
      · refine bad (en_t hlo (en_some rfl)) (rgo hx ?_)
        unfold f_X6_set_j85
        exact en_bd' (rin_no rfl rfl (out_lo hlo) M2) (en_t rfl (en_some rfl))
      · by_cases hhi : x3 ≤ highV j
        · have hin := rin_yes (x := x3) (lo := (lowV j).toInt64) (hi := (highV j).toInt64) rfl rfl ⟨Int32.not_lt.mp hlo, hhi⟩ M2
          rw [if_neg hlo, if_pos hhi]
          have low0 : ∀ j, j ≤ 4 → (0 : Int32) ≤ lowV j := by decide
          obtain ⟨v, hv, rfl⟩ := nI_of (x := x3) (fun z => by
            have h1 := low0 j hj
            have h2 := Int32.not_lt.mp hlo
            rw [Int32.le_iff_toInt_le] at h1 h2
            rw [Int32.lt_iff_toInt_lt] at z
            omega)
          have rg : ∀ a c : Nat, a < 2 ^ 31 → c < 2 ^ 31 → lowV j = nI a → highV j = nI c → a ≤ v ∧ v ≤ c := by
            intro a c ha hc e1 e2
            rw [e1] at hlo
            rw [e2] at hhi
            refine ⟨?_, (nI_leI hv hc).mp hhi⟩
            rcases Nat.lt_or_ge v a with z | z
            · exact absurd (nI_lt z ha) hlo
            · exact z
          rcases (by omega : j = 0 ∨ j = 1 ∨ j = 2 ∨ j = 3 ∨ j = 4) with rfl | rfl | rfl | rfl | rfl
          · have hr := (rg 0 12 (by omega) (by omega) rfl rfl).2
            refine st_go (r := nI (yB G)) (N1 := ms M1 1 0 (nI v)) (N2 := ms M2 0 7 (nI v)) ?_ (rgo hx ?_) ⟨gB G v, nt, zs, h.tab (sm_a rfl rfl) (sm_a rfl rfl) (fun _ _ z => z) (fun _ _ z => z) ⟨⟨hr, g2, g3, g4, g5, g6⟩, hR, hZ⟩ (c_B hC) (r_B hA) (Nat.le_refl _) (fun _ _ => rfl)⟩
            · unfold f_X3_change_1
              exact en_t rfl (en_bi (en_bm (en_some (by rw [hC.1]))))
            · unfold f_X6_set_j85 f_X6_set_j151
              exact en_bd' hin (en_f (by decide) (en_t rfl (en_t rfl (en_bm (en_some (by rw [hA.1]))))))
          · have hr := rg 1 2 (by omega) (by omega) rfl rfl
            refine st_go (r := nI (yP G)) (N1 := ms M1 1 1 (nI v)) (N2 := ms M2 0 8 (nI v)) ?_ (rgo hx ?_) ⟨gP G v, nt, zs, h.tab (sm_a rfl rfl) (sm_a rfl rfl) (fun _ _ z => z) (fun _ _ z => z) ⟨⟨g1, (by show v = 1 ∨ v = 2; omega), g3, g4, g5, g6⟩, hR, hZ⟩ (c_P hC) (r_P hA) (Nat.le_refl _) (fun _ _ => rfl)⟩
            · unfold f_X3_change_1
              exact en_f (by decide) (en_t rfl (en_bi (en_bm (en_some (by rw [hC.2.1])))))
            · unfold f_X6_set_j85 f_X6_set_j151
              exact en_bd' hin (en_f (by decide) (en_f (by decide) (en_t rfl (en_f (by decide) (en_t rfl (en_bm (en_some (by rw [hA.2.1]))))))))
          · have hr := (rg 0 9 (by omega) (by omega) rfl rfl).2
            obtain ⟨i, hi, rfl⟩ := hx.resolve_left (by omega)
            obtain ⟨a1, a2, a3, a4⟩ := hC.2.2.2.2 i hi
            obtain ⟨b1, b2, b3, b4⟩ := hA.2.2.2.2 i hi
            refine st_go (r := nI (yN G i)) (N1 := ms M1 8 i (nI v)) (N2 := ms M2 5 i (nI v)) ?_ (rgo hx ?_) ⟨gN G i v, nt, zs, h.tab (sm_a rfl rfl) (sm_a rfl rfl) (fun _ _ z => z) (fun _ _ z => z) ⟨⟨g1, g2, g3, g4, fun e => ⟨(g5 e).1, up_le (fun e => (g5 e).2.1) hr e, (g5 e).2.2⟩, g6⟩, hR, hZ⟩ (c_N hC) (r_N hA) (Nat.le_refl _) (fun _ _ => rfl)⟩
            · unfold f_X3_change_1 f_X3_change_1_j79_3
              refine en_f (by decide) (en_f (by decide) (en_bd' (has_yes hC.2.2.2.1 hm ⟨i, hi, rfl⟩) (en_f (by decide) (en_t rfl (en_gd (bin_nI (by omega) (by omega)) (en_bi (en_gd (bin_nI (by omega) (by omega)) (en_bm (en_some ?_)))))))))
              rw [cl_nI (by omega), a2]
            · unfold f_X6_set_j85 f_X6_set_j151
              refine en_bd' hin (en_f (by decide) (en_f (by decide) (en_f (by decide) (en_t rfl (en_gd (bin_nI (by omega) (by omega)) (en_f (by decide) (en_f (by decide) (en_t rfl (en_gd (bin_nI (by omega) (by omega)) (en_bm (en_some ?_)))))))))))
              rw [cl_nI (by omega), b2]
          · have hr := (rg 0 12 (by omega) (by omega) rfl rfl).2
            obtain ⟨i, hi, rfl⟩ := hx.resolve_left (by omega)
            obtain ⟨a1, a2, a3, a4⟩ := hC.2.2.2.2 i hi
            obtain ⟨b1, b2, b3, b4⟩ := hA.2.2.2.2 i hi
            refine st_go (r := nI (yW G i)) (N1 := ms M1 9 i (nI v)) (N2 := ms M2 6 i (nI v)) ?_ (rgo hx ?_) ⟨gW G i v, nt, zs, h.tab (sm_a rfl rfl) (sm_a rfl rfl) (fun _ _ z => z) (fun _ _ z => z) ⟨⟨g1, g2, g3, g4, fun e => ⟨(g5 e).1, (g5 e).2.1, up_le (fun e => (g5 e).2.2.1) hr e, (g5 e).2.2.2⟩, g6⟩, hR, hZ⟩ (c_W hC) (r_W hA) (Nat.le_refl _) (fun _ _ => rfl)⟩
            · unfold f_X3_change_1 f_X3_change_1_j79_2
              refine en_f (by decide) (en_f (by decide) (en_bd' (has_yes hC.2.2.2.1 hm ⟨i, hi, rfl⟩) (en_f (by decide) (en_f (by decide) (en_t rfl (en_gd (bin_nI (by omega) (by omega)) (en_bi (en_gd (bin_nI (by omega) (by omega)) (en_bm (en_some ?_))))))))))
              rw [cl_nI (by omega), a3]
            · unfold f_X6_set_j85 f_X6_set_j151
              refine en_bd' hin (en_f (by decide) (en_f (by decide) (en_f (by decide) (en_f (by decide) (en_t rfl (en_gd (bin_nI (by omega) (by omega)) (en_f (by decide) (en_f (by decide) (en_f (by decide) (en_t rfl (en_gd (bin_nI (by omega) (by omega)) (en_bm (en_some ?_)))))))))))))
              rw [cl_nI (by omega), b3]
          · have hr := (rg 1 20 (by omega) (by omega) rfl rfl).2
            obtain ⟨i, hi, rfl⟩ := hx.resolve_left (by omega)
            obtain ⟨a1, a2, a3, a4⟩ := hC.2.2.2.2 i hi
            obtain ⟨b1, b2, b3, b4⟩ := hA.2.2.2.2 i hi
            refine st_go (r := nI (yA G i)) (N1 := ms M1 10 i (nI v)) (N2 := ms M2 7 i (nI v)) ?_ (rgo hx ?_) ⟨gA G i v, nt, zs, h.tab (sm_a rfl rfl) (sm_a rfl rfl) (fun _ _ z => z) (fun _ _ z => z) ⟨⟨g1, g2, g3, g4, fun e => ⟨(g5 e).1, (g5 e).2.1, (g5 e).2.2.1, up_le (fun e => (g5 e).2.2.2) hr e⟩, g6⟩, hR, hZ⟩ (c_A hC) (r_A hA) (Nat.le_refl _) (fun _ _ => rfl)⟩
            · unfold f_X3_change_1 f_X3_change_1_j79
              refine en_f (by decide) (en_f (by decide) (en_bd' (has_yes hC.2.2.2.1 hm ⟨i, hi, rfl⟩) (en_f (by decide) (en_f (by decide) (en_f (by decide) (en_gd (bin_nI (by omega) (by omega)) (en_bi (en_gd (bin_nI (by omega) (by omega)) (en_bm (en_some ?_))))))))))
              rw [cl_nI (by omega), a4]
            · unfold f_X6_set_j85 f_X6_set_j151
              refine en_bd' hin (en_f (by decide) (en_f (by decide) (en_f (by decide) (en_f (by decide) (en_f (by decide) (en_gd (bin_nI (by omega) (by omega)) (en_f (by decide) (en_f (by decide) (en_f (by decide) (en_f (by decide) (en_gd (bin_nI (by omega) (by omega)) (en_bm (en_some ?_)))))))))))))
              rw [cl_nI (by omega), b4]
        · refine bad (en_f hlo (en_f hhi (en_some rfl))) (rgo hx ?_)
          unfold f_X6_set_j85
          exact en_bd' (rin_no rfl rfl (out_hi (Int32.not_le.mp hhi)) M2) (en_t rfl (en_some rfl))
    · have hj2 : 2 ≤ j := by omega
      refine bad (en_ite (fun _ => en_some rfl) (fun _ => en_ite (fun _ => ?_) (fun _ => en_some rfl))) (rno hx)
      unfold f_X3_change_1
      refine en_f ?_ (en_f ?_ (en_bd' (has_no hC.2.2.2.1 hm (fun z => hx (Or.inr z))) (en_t rfl (en_some rfl))))
      · show ¬ nI j = nI 0
        rw [nI_eq (by omega) (by omega)]; omega
      · show ¬ nI j = nI 1
        rw [nI_eq (by omega) (by omega)]; omega
/-! seat -/
def gS (G : Gt) (k n w p : Nat) : Gt := ((G.1.1, G.1.2.1, yM G + 1, yR G), (upN (yK G) (yM G) k, upN (yN G) (yM G) n, upN (yW G) (yM G) w, upN (yA G) (yM G) p), yZ G)
theorem s_seat (h : RG G nt zs M1 M2) (x1 x2 x3 : Int32) : ∃ r N1 N2 G', f_X3_seat_1 x1 x2 x3 M1 = some (r, N1) ∧ f_X6_eater x1 x2 x3 M2 = some (r, N2) ∧ RG G' nt zs N1 N2 ∧ Sm KC2 KA M1 N1 ∧ Sm KR2 KB M2 N2 := by
  obtain ⟨⟨hG, hR, hZ⟩, hC, ⟨hA, h14⟩, hT, hTp, hS, hK⟩ := id h
  have hm := hG.2.2.1
  obtain ⟨g1, g2, g3, g4, g5, g6⟩ := id hG
  have same : ∀ {r : Int32}, En (f_X3_seat_1 x1 x2 x3 M1) (fun q => q = (r, M1)) → En (f_X6_eater x1 x2 x3 M2) (fun q => q = (r, M2)) → ∃ r N1 N2 G', f_X3_seat_1 x1 x2 x3 M1 = some (r, N1) ∧ f_X6_eater x1 x2 x3 M2 = some (r, N2) ∧ RG G' nt zs N1 N2 ∧ Sm KC2 KA M1 N1 ∧ Sm KR2 KB M2 N2 := fun e1 e2 => ⟨_, M1, M2, G, en_eq e1, en_eq e2, h, Sm.rf, Sm.rf⟩
  have h100 : ¬ (100 : Int32) = 0 := by decide
  rcases tri x1 (n := 5) (by omega) with q | q | ⟨k, hk, rfl⟩
  · refine same (r := -2) ?_ ?_
    · unfold f_X3_seat_1; exact en_t q (en_some rfl)
    · unfold f_X6_eater; exact en_bd' (rin_no (a := 0) (c := 5) rfl rfl (out_lo q) M2) (en_t rfl (en_some rfl))
  · refine same (r := -2) ?_ ?_
    · unfold f_X3_seat_1; exact en_f (lt_nz (by omega) q) (en_t (lt_le (by omega) q) (en_some rfl))
    · unfold f_X6_eater; exact en_bd' (rin_no (a := 0) (c := 5) rfl rfl (out_hi q) M2) (en_t rfl (en_some rfl))
  · have r5 := rin_yes (x := nI k) (lo := 0) (hi := 5) (a := 0) (c := 5) rfl rfl (nI_btw (a := 0) (c := 5) (Nat.zero_le k) hk (by omega)) M2
    have k0 : ¬ nI k < 0 := nI_ltz (by omega)
    have k6 : ¬ (6 : Int32) ≤ nI k := by show ¬ nI 6 ≤ nI k; rw [nI_leI (by omega) (by omega)]; omega
    by_cases hx2 : x2 < 0
    · refine same (r := -2) ?_ ?_
      · unfold f_X3_seat_1; exact en_f k0 (en_f k6 (en_t hx2 (en_some rfl)))
      · unfold f_X6_eater
        exact en_bd' r5 (en_f (by decide) (en_bd' (rin_no (a := 0) (c := 912) rfl rfl (out_lo hx2) M2) (en_t rfl (en_some rfl))))
    · obtain ⟨w, hw, rfl⟩ := nI_of hx2
      have ediv : nI w / 100 = nI (w / 100) := pk_div (d := 100) hw (by omega) (by omega)
      have erem : irm (nI w) 100 = nI (w % 100) := pk_rem (d := 100) hw (by omega) (by omega)
      -- the pace, in the class
      have pc : ∀ {P : Int32 × Mm → Prop}, (x3 < 1 → P (-2, M1)) → (¬ x3 < 1 → ¬ x3 ≤ 20 → P (-2, M1)) → (¬ x3 < 1 → x3 ≤ 20 → 9 < w / 100 → P (-2, M1)) → (¬ x3 < 1 → x3 ≤ 20 → ¬ 9 < w / 100 → ¬ w % 100 ≤ 12 → P (-2, M1)) → (¬ x3 < 1 → x3 ≤ 20 → ¬ 9 < w / 100 → w % 100 ≤ 12 → En (if (M1.1 1 3) < 0 then some ((-4 : Int32), M1) else if (M1.1 1 3) < (5 : Int32) then (gd (bin (M1.1 1 3) 5 = true) inferInstance <| bm (ms M1 7 (Int32.toNatClampNeg (M1.1 1 3)) (nI k)) fun M1 => gd (¬ (100 : Int32) = 0) inferInstance <| gd (bin (M1.1 1 3) 5 = true) inferInstance <| bm (ms M1 8 (Int32.toNatClampNeg (M1.1 1 3)) (nI w / (100 : Int32))) fun M2 => gd (¬ (100 : Int32) = 0) inferInstance <| gd (bin (M2.1 1 3) 5 = true) inferInstance <| bm (ms M2 9 (Int32.toNatClampNeg (M2.1 1 3)) (irm (nI w) (100 : Int32))) fun M3 => gd (bin (M3.1 1 3) 5 = true) inferInstance <| bm (ms M3 10 (Int32.toNatClampNeg (M3.1 1 3)) x3) fun M4 => bm (ms M4 1 3 ((M4.1 1 3) + (1 : Int32))) fun M5 => some (((M5.1 1 3) - (1 : Int32)), M5)) else some ((-4 : Int32), M1)) P) → En (f_X3_seat_1 (nI k) (nI w) x3 M1) P := by
        intro P p1 p2 p3 p4 p5
        unfold f_X3_seat_1
        refine en_f k0 (en_f k6 (en_f hx2 (en_ite (fun a => en_some (p1 a)) (fun a => en_ite (fun b => en_gd h100 ?_) (fun b => en_some (p2 a b))))))
        rw [ediv]
        refine en_ite (fun c => en_some (p3 a b ?_)) (fun c => en_gd h100 ?_)
        · have c : nI 9 < nI (w / 100) := c
          rw [nI_ltI (by omega) (by omega)] at c
          exact c
        · have c : ¬ nI 9 < nI (w / 100) := c
          rw [nI_ltI (by omega) (by omega)] at c
          rw [erem]
          refine en_ite (fun d => ?_) (fun d => en_some (p4 a b c ?_))
          · have d : nI (w % 100) ≤ nI 12 := d
            rw [nI_leI (by omega) (by omega)] at d
            have := p5 a b c d
            rw [ediv, erem] at this
            exact this
          · have d : ¬ nI (w % 100) ≤ nI 12 := d
            rw [nI_leI (by omega) (by omega)] at d
            exact d
      by_cases hok : w ≤ 912 ∧ w % 100 ≤ 12
      · have r912 := rin_yes (x := nI w) (lo := 0) (hi := 912) (a := 0) (c := 912) rfl rfl (nI_btw (a := 0) (c := 912) (Nat.zero_le w) hok.1 (by omega)) M2
        have rgo : ∀ {P : Int32 × Mm → Prop}, En (bd (f_X6_in (Int32.toInt64 x3) (1 : Int64) (20 : Int64) M2) fun r6 M5 => if r6 = 0 then some ((-2 : Int32), M5) else if (M5.1 0 13) = (5 : Int32) then some ((-4 : Int32), M5) else gd (bin (M5.1 0 13) 5 = true) inferInstance <| bm (ms M5 4 (Int32.toNatClampNeg (M5.1 0 13)) (nI k)) fun M7 => gd (¬ (100 : Int32) = 0) inferInstance <| gd (bin (M7.1 0 13) 5 = true) inferInstance <| bm (ms M7 5 (Int32.toNatClampNeg (M7.1 0 13)) (nI w / (100 : Int32))) fun M8 => gd (¬ (100 : Int32) = 0) inferInstance <| gd (bin (M8.1 0 13) 5 = true) inferInstance <| bm (ms M8 6 (Int32.toNatClampNeg (M8.1 0 13)) (irm (nI w) (100 : Int32))) fun M9 => gd (bin (M9.1 0 13) 5 = true) inferInstance <| bm (ms M9 7 (Int32.toNatClampNeg (M9.1 0 13)) x3) fun M10 => bm (ms M10 0 13 ((M10.1 0 13) + (1 : Int32))) fun M11 => some (((M11.1 0 13) - (1 : Int32)), M11)) P → En (f_X6_eater (nI k) (nI w) x3 M2) P := by
          intro P hP
          unfold f_X6_eater
          refine en_bd' r5 (en_f (by decide) (en_bd' r912 (en_f (by decide) (en_gd h100 (en_f ?_ hP)))))
          rw [erem]
          show ¬ nI 12 < nI (w % 100)
          rw [nI_ltI (by omega) (by omega)]
          omega
        rcases tri x3 (n := 20) (by omega) with q | q | ⟨p, hp, rfl⟩
        · refine same (r := -2) ?_ (rgo (en_bd' (rin_no (a := 1) (c := 20) rfl rfl (out_lo ?_) M2) (en_t rfl (en_some rfl))))
          · refine pc (fun _ => rfl) (fun _ _ => rfl) (fun _ _ _ => rfl) (fun _ _ _ _ => rfl) (fun a _ _ _ => absurd ?_ a)
            rw [Int32.lt_iff_toInt_lt] at q ⊢
            have h0 : (0 : Int32).toInt = 0 := by decide
            have h1 : (1 : Int32).toInt = 1 := by decide
            omega
          · rw [Int32.lt_iff_toInt_lt] at q ⊢
            have h0 : (0 : Int32).toInt = 0 := by decide
            have h1 : (1 : Int32).toInt = 1 := by decide
            omega
        · refine same (r := -2) ?_ (rgo (en_bd' (rin_no (a := 1) (c := 20) rfl rfl (out_hi q) M2) (en_t rfl (en_some rfl))))
          exact pc (fun _ => rfl) (fun _ _ => rfl) (fun _ _ _ => rfl) (fun _ _ _ _ => rfl) (fun _ b _ _ => absurd b (Int32.not_le.mpr q))
        · by_cases hp1 : 1 ≤ p
          · have r20 := rin_yes (x := nI p) (lo := 1) (hi := 20) (a := 1) (c := 20) rfl rfl (nI_btw (a := 1) (c := 20) hp1 hp (by omega)) M2
            have a1 : ¬ nI p < 1 := by show ¬ nI p < nI 1; rw [nI_ltI (by omega) (by omega)]; omega
            have a2 : nI p ≤ 20 := by show nI p ≤ nI 20; rw [nI_leI (by omega) (by omega)]; omega
            by_cases hf : yM G = 5
            · refine same (r := -4) (pc (fun z => absurd z a1) (fun _ z => absurd a2 z) (fun _ _ z => by omega) (fun _ _ _ z => by omega) (fun _ _ _ _ => ?_)) (rgo (en_bd' r20 (en_f (by decide) (en_t ?_ (en_some rfl)))))
              · rw [hC.2.2.2.1, hf]
                exact en_f (by decide) (en_f (by decide) (en_some rfl))
              · rw [hA.2.2.2.1, hf]; rfl
            · have hm4 : yM G < 5 := by omega
              obtain ⟨m, em⟩ : ∃ m, m = yM G := ⟨_, rfl⟩
              obtain ⟨c1, c2, c3, c4, c5⟩ := hC
              obtain ⟨d1, d2, d3, d4, d5⟩ := hA
              rw [← em] at c4 d4 c5 d5 hm4
              refine ⟨nI m, ms (ms (ms (ms (ms M1 7 m (nI k)) 8 m (nI (w / 100))) 9 m (nI (w % 100))) 10 m (nI p)) 1 3 (nI (m + 1)), ms (ms (ms (ms (ms M2 4 m (nI k)) 5 m (nI (w / 100))) 6 m (nI (w % 100))) 7 m (nI p)) 0 13 (nI (m + 1)), gS G k (w / 100) (w % 100) p, en_eq (pc (fun z => absurd z a1) (fun _ z => absurd a2 z) (fun _ _ z => by omega) (fun _ _ _ z => by omega) (fun _ _ _ _ => ?_)), en_eq (rgo (en_bd' r20 (en_f (by decide) (en_f ?_ ?_)))), ?_, ?_, ?_⟩
              · have hb : bin (nI m) 5 = true := bin_nI hm4 (by omega)
                have hl : nI m < 5 := by show nI m < nI 5; rw [nI_ltI (by omega) (by omega)]; exact hm4
                have hcl : Int32.toNatClampNeg (nI m) = m := cl_nI (by omega)
                have e1 : (ms M1 7 m (nI k)).1 1 3 = nI m := by rw [ms_off rfl (by omega)]; exact c4
                have e2 : (ms (ms M1 7 m (nI k)) 8 m (nI (w / 100))).1 1 3 = nI m := by rw [ms_off rfl (by omega)]; exact e1
                have e3 : (ms (ms (ms M1 7 m (nI k)) 8 m (nI (w / 100))) 9 m (nI (w % 100))).1 1 3 = nI m := by rw [ms_off rfl (by omega)]; exact e2
                have e4 : (ms (ms (ms (ms M1 7 m (nI k)) 8 m (nI (w / 100))) 9 m (nI (w % 100))) 10 m (nI p)).1 1 3 = nI m := by rw [ms_off rfl (by omega)]; exact e3
                rw [c4, ediv, erem]
                refine en_f (nI_ltz (by omega)) (en_t hl (en_gd hb (en_bm (en_gd h100 ?_))))
                rw [hcl, e1]
                refine en_gd hb (en_bm (en_gd h100 ?_))
                rw [hcl, e2]
                refine en_gd hb (en_bm ?_)
                rw [hcl, e3]
                refine en_gd hb (en_bm (en_bm (en_some ?_)))
                rw [hcl, e4, ms_at rfl, show nI m + 1 = nI (m + 1) from nI_add m 1, nI_pred]
              · rw [d4]
                show ¬ nI m = nI 5
                rw [nI_eq (by omega) (by omega)]; omega
              · have hb : bin (nI m) 5 = true := bin_nI hm4 (by omega)
                have hcl : Int32.toNatClampNeg (nI m) = m := cl_nI (by omega)
                have e1 : (ms M2 4 m (nI k)).1 0 13 = nI m := by rw [ms_off rfl (by omega)]; exact d4
                have e2 : (ms (ms M2 4 m (nI k)) 5 m (nI (w / 100))).1 0 13 = nI m := by rw [ms_off rfl (by omega)]; exact e1
                have e3 : (ms (ms (ms M2 4 m (nI k)) 5 m (nI (w / 100))) 6 m (nI (w % 100))).1 0 13 = nI m := by rw [ms_off rfl (by omega)]; exact e2
                have e4 : (ms (ms (ms (ms M2 4 m (nI k)) 5 m (nI (w / 100))) 6 m (nI (w % 100))) 7 m (nI p)).1 0 13 = nI m := by rw [ms_off rfl (by omega)]; exact e3
                rw [d4, ediv, erem]
                refine en_gd hb (en_bm (en_gd h100 ?_))
                rw [hcl, e1]
                refine en_gd hb (en_bm (en_gd h100 ?_))
                rw [hcl, e2]
                refine en_gd hb (en_bm ?_)
                rw [hcl, e3]
                refine en_gd hb (en_bm (en_bm (en_some ?_)))
                rw [hcl, e4, ms_at rfl, show nI m + 1 = nI (m + 1) from nI_add m 1, nI_pred]
              · refine h.tab (((((sm_1 rfl rfl).tr (sm_1 rfl rfl)).tr (sm_1 rfl rfl)).tr (sm_1 rfl rfl)).tr (sm_1 rfl rfl) : Sm KC2 KA M1 _) (((((sm_1 rfl rfl).tr (sm_1 rfl rfl)).tr (sm_1 rfl rfl)).tr (sm_1 rfl rfl)).tr (sm_1 rfl rfl) : Sm KR2 KB M2 _) (fun _ _ z => z) (fun _ _ z => z) ⟨⟨g1, g2, by show yM G + 1 ≤ 5; omega, g4, fun e => ⟨up_le (fun e => (g5 e).1) hk e, up_le (fun e => (g5 e).2.1) (by omega) e, up_le (fun e => (g5 e).2.2.1) hok.2 e, up_le (fun e => (g5 e).2.2.2) hp e⟩, g6⟩, hR, hZ⟩ ⟨?_, ?_, ?_, ?_, fun e he => ?_⟩ ⟨?_, ?_, ?_, ?_, fun e he => ?_⟩ (by show yM G ≤ yM G + 1; omega) (fun e he => upN_n (by omega))
                · rw [ms_off rfl (by omega), ms_off rfl (by omega), ms_off rfl (by omega), ms_off rfl (by omega), ms_off rfl (by omega)]; exact c1
                · rw [ms_off rfl (by omega), ms_off rfl (by omega), ms_off rfl (by omega), ms_off rfl (by omega), ms_off rfl (by omega)]; exact c2
                · rw [ms_off rfl (by omega), ms_off rfl (by omega), ms_off rfl (by omega), ms_off rfl (by omega), ms_off rfl (by omega)]; exact c3
                · rw [ms_at rfl, em]; rfl
                · have he : e < yM G + 1 := he
                  rw [← em] at he
                  show _ = nI (upN (yK G) (yM G) k e) ∧ _ = nI (upN (yN G) (yM G) (w / 100) e) ∧ _ = nI (upN (yW G) (yM G) (w % 100) e) ∧ _ = nI (upN (yA G) (yM G) p e)
                  rw [← em]
                  by_cases q : e = m
                  · subst q
                    rw [upN_s, upN_s, upN_s, upN_s]
                    refine ⟨?_, ?_, ?_, ?_⟩
                    · rw [ms_off rfl (by omega), ms_off rfl (by omega), ms_off rfl (by omega), ms_off rfl (by omega), ms_at rfl]
                    · rw [ms_off rfl (by omega), ms_off rfl (by omega), ms_off rfl (by omega), ms_at rfl]
                    · rw [ms_off rfl (by omega), ms_off rfl (by omega), ms_at rfl]
                    · rw [ms_off rfl (by omega), ms_at rfl]
                  · rw [upN_n q, upN_n q, upN_n q, upN_n q]
                    obtain ⟨b1, b2, b3, b4⟩ := c5 e (by omega)
                    refine ⟨?_, ?_, ?_, ?_⟩
                    · rw [ms_off rfl (by omega), ms_off rfl (by omega), ms_off rfl (by omega), ms_off rfl (by omega), ms_off rfl (by omega)]; exact b1
                    · rw [ms_off rfl (by omega), ms_off rfl (by omega), ms_off rfl (by omega), ms_off rfl (by omega), ms_off rfl (by omega)]; exact b2
                    · rw [ms_off rfl (by omega), ms_off rfl (by omega), ms_off rfl (by omega), ms_off rfl (by omega), ms_off rfl (by omega)]; exact b3
                    · rw [ms_off rfl (by omega), ms_off rfl (by omega), ms_off rfl (by omega), ms_off rfl (by omega), ms_off rfl (by omega)]; exact b4
                · rw [ms_off rfl (by omega), ms_off rfl (by omega), ms_off rfl (by omega), ms_off rfl (by omega), ms_off rfl (by omega)]; exact d1
                · rw [ms_off rfl (by omega), ms_off rfl (by omega), ms_off rfl (by omega), ms_off rfl (by omega), ms_off rfl (by omega)]; exact d2
                · rw [ms_off rfl (by omega), ms_off rfl (by omega), ms_off rfl (by omega), ms_off rfl (by omega), ms_off rfl (by omega)]; exact d3
                · rw [ms_at rfl, em]; rfl
                · have he : e < yM G + 1 := he
                  rw [← em] at he
                  show _ = nI (upN (yK G) (yM G) k e) ∧ _ = nI (upN (yN G) (yM G) (w / 100) e) ∧ _ = nI (upN (yW G) (yM G) (w % 100) e) ∧ _ = nI (upN (yA G) (yM G) p e)
                  rw [← em]
                  by_cases q : e = m
                  · subst q
                    rw [upN_s, upN_s, upN_s, upN_s]
                    refine ⟨?_, ?_, ?_, ?_⟩
                    · rw [ms_off rfl (by omega), ms_off rfl (by omega), ms_off rfl (by omega), ms_off rfl (by omega), ms_at rfl]
                    · rw [ms_off rfl (by omega), ms_off rfl (by omega), ms_off rfl (by omega), ms_at rfl]
                    · rw [ms_off rfl (by omega), ms_off rfl (by omega), ms_at rfl]
                    · rw [ms_off rfl (by omega), ms_at rfl]
                  · rw [upN_n q, upN_n q, upN_n q, upN_n q]
                    obtain ⟨b1, b2, b3, b4⟩ := d5 e (by omega)
                    refine ⟨?_, ?_, ?_, ?_⟩
                    · rw [ms_off rfl (by omega), ms_off rfl (by omega), ms_off rfl (by omega), ms_off rfl (by omega), ms_off rfl (by omega)]; exact b1
                    · rw [ms_off rfl (by omega), ms_off rfl (by omega), ms_off rfl (by omega), ms_off rfl (by omega), ms_off rfl (by omega)]; exact b2
                    · rw [ms_off rfl (by omega), ms_off rfl (by omega), ms_off rfl (by omega), ms_off rfl (by omega), ms_off rfl (by omega)]; exact b3
                    · rw [ms_off rfl (by omega), ms_off rfl (by omega), ms_off rfl (by omega), ms_off rfl (by omega), ms_off rfl (by omega)]; exact b4
              · exact ((((sm_1 rfl rfl).tr (sm_1 rfl rfl)).tr (sm_1 rfl rfl)).tr (sm_1 rfl rfl)).tr (sm_1 rfl rfl)
              · exact ((((sm_1 rfl rfl).tr (sm_1 rfl rfl)).tr (sm_1 rfl rfl)).tr (sm_1 rfl rfl)).tr (sm_1 rfl rfl)
          · have ep : p = 0 := by omega
            subst ep
            refine same (r := -2) (pc (fun _ => rfl) (fun _ _ => rfl) (fun _ _ _ => rfl) (fun _ _ _ _ => rfl) (fun a _ _ _ => absurd (by decide) a)) (rgo (en_bd' (rin_no (a := 1) (c := 20) rfl rfl (by decide) M2) (en_t rfl (en_some rfl))))
      · refine same (r := -2) (pc (fun _ => rfl) (fun _ _ => rfl) (fun _ _ _ => rfl) (fun _ _ _ _ => rfl) (fun _ _ a b => absurd ⟨by omega, b⟩ hok)) ?_
        unfold f_X6_eater
        refine en_bd' r5 (en_f (by decide) ?_)
        by_cases h9 : w ≤ 912
        · have r912 := rin_yes (x := nI w) (lo := 0) (hi := 912) (a := 0) (c := 912) rfl rfl (nI_btw (a := 0) (c := 912) (Nat.zero_le w) h9 (by omega)) M2
          refine en_bd' r912 (en_f (by decide) (en_gd h100 (en_t ?_ (en_some rfl))))
          rw [erem]
          show nI 12 < nI (w % 100)
          rw [nI_ltI (by omega) (by omega)]
          omega
        · exact en_bd' (rin_no (a := 0) (c := 912) rfl rfl (out_hi (nI_lt (a := 912) (by omega) hw)) M2) (en_t rfl (en_some rfl))
theorem s_eater : St3 Rel f_X5_eater f_X6_eater := by
  rintro x1 x2 x3 M1 M2 ⟨G, nt, zs, h⟩
  obtain ⟨r, N1, N2, G', e1, e2, hR, -, -⟩ := s_seat h x1 x2 x3
  refine ⟨r, N1, N2, ?_, e2, G', nt, zs, hR⟩
  unfold f_X5_eater
  rw [bd_id]
  exact e1
end TAB
