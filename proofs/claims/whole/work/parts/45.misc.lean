/-! ===== force, feed, taken, image, back ===== -/
def KC3 : Nat → Nat → Bool := fun o k => KC1 o k && !(o == 15 || (o == 3 && k == 1))
def KR3 : Nat → Nat → Bool := fun o k => KR1 o k && !(o == 3 || (o == 0 && k == 6))
section MISC
variable {G G' : Gt} {nt : Nat} {zs : Nat → Txt} {M1 M2 N1 N2 M : Mm} {Ka Kb : Nat → Nat → Bool} {La Lb : Nat → Bool}
theorem RG.tape (h : RG G nt zs M1 M2) (h1 : Sm Ka La M1 N1) (h2 : Sm Kb Lb M2 N2) (k1 : ∀ o k, KC3 o k = true → Ka o k = true) (k2 : ∀ o k, KR3 o k = true → Kb o k = true) (ht : Tap N1 N2) : RG G nt zs N1 N2 := by
  obtain ⟨a1, a2, ⟨a3, a4⟩, a5, a6, a7, a8⟩ := h
  refine ⟨a1, a2.same h1 (fun o k z => k1 o k ?_), ⟨a3.same h2 (fun o k z => k2 o k ?_), by rw [h2.1 _ _ (k2 _ _ rfl)]; exact a4⟩, a5.same h1 h2 (fun o k z => k1 o k ?_) (fun o k z => k2 o k ?_), ht, fun s hs => (a7 s hs).same h1 h2 (fun o k z => k1 o k ?_) (fun o k z => k2 o k ?_), a8.same h1 h2 (fun o k z => k1 o k ?_) (fun o k z => k2 o k ?_)⟩
  · unfold KC0 at z; unfold KC3 KC1; simp at z ⊢; omega
  · unfold KR0 at z; unfold KR3 KR1; simp at z ⊢; omega
  · unfold KC3 KC1; simp; omega
  · unfold KR3 KR1; simp; omega
  · unfold KC3 KC1; simp; omega
  · unfold KR3 KR1; simp; omega
  · unfold KC3 KC1; simp; omega
  · unfold KR3 KR1; simp; omega
theorem s_force : St1 Rel f_X5_force f_X6_force := by
  rintro x M1 M2 ⟨G, nt, zs, h⟩
  obtain ⟨⟨hG, hR, hZ⟩, hC, ⟨hA, h14⟩, hT, hTp, hS, hK⟩ := id h
  obtain ⟨g1, g2, g3, g4, g5, g6⟩ := id hG
  obtain ⟨t1, t2, t3, t4⟩ := id hT
  have rn : f_X6_in x.toInt64 0 (Int32.toInt64 ((M2.1 0 3) - 1)) M2 = some (if 0 ≤ x ∧ x ≤ nI nt - 1 then 1 else 0, M2) := by
    rw [t3]
    exact rin (a := 0) rfl rfl M2
  by_cases hx : ∃ i, i < nt ∧ x = nI i
  · obtain ⟨i, hi, rfl⟩ := hx
    refine st_go (r := nI (yR G)) (N1 := ms M1 1 2 (nI i)) (N2 := ms M2 0 4 (nI i)) ?_ ?_ ⟨gR G i (zs i), nt, zs, h.tab (sm_a rfl rfl) (sm_a rfl rfl) (fun _ _ z => z) (fun _ _ z => z) ⟨⟨g1, g2, g3, (by show i < 6; omega), g5, (t4 i hi).1⟩, hi, rfl⟩ (c_R hC) (r_R hA) (Nat.le_refl _) (fun _ _ => rfl)⟩
    · unfold f_X5_force
      refine en_f (nI_ltz (by omega)) (en_t ?_ (en_bi (en_bm (en_some ?_))))
      · rw [t2, nI_ltI (by omega) (by omega)]; exact hi
      · rw [hC.2.2.1]
    · unfold f_X6_force
      refine en_bd' rn ?_
      rw [if_pos ((below_iff (by omega)).mpr ⟨i, hi, rfl⟩)]
      refine en_f (by decide) (en_bi (en_bm (en_some ?_)))
      rw [hA.2.2.1]
  · refine st_go (r := -2) (N1 := M1) (N2 := M2) ?_ ?_ ⟨G, nt, zs, h⟩
    · unfold f_X5_force
      refine en_ite (fun _ => en_some rfl) (fun q => en_f ?_ (en_some rfl))
      obtain ⟨j, hj, rfl⟩ := nI_of q
      rw [t2, nI_ltI hj (by omega)]
      exact fun z => hx ⟨j, z, rfl⟩
    · unfold f_X6_force
      refine en_bd' rn ?_
      rw [if_neg (fun z => hx ((below_iff (by omega)).mp z))]
      exact en_t rfl (en_some rfl)
theorem s_feed : St1 Rel f_X5_feed f_X6_feed := by
  rintro x M1 M2 ⟨G, nt, zs, h⟩
  obtain ⟨b, n, p1, ⟨p2, p3, p4⟩, p5, p6⟩ := id h.2.2.2.2.1
  rcases tri x (n := 255) (by omega) with q | q | ⟨j, hj, rfl⟩
  · refine st_go (r := -2) (N1 := M1) (N2 := M2) ?_ ?_ ⟨G, nt, zs, h⟩
    · unfold f_X5_feed; exact en_t q (en_some rfl)
    · unfold f_X6_feed; exact en_bd' (rin_no (a := 0) (c := 255) rfl rfl (out_lo q) M2) (en_t rfl (en_some rfl))
  · refine st_go (r := -2) (N1 := M1) (N2 := M2) ?_ ?_ ⟨G, nt, zs, h⟩
    · unfold f_X5_feed; exact en_f (lt_nz (by omega) q) (en_f (Int32.not_le.mpr q) (en_some rfl))
    · unfold f_X6_feed; exact en_bd' (rin_no (a := 0) (c := 255) rfl rfl (out_hi q) M2) (en_t rfl (en_some rfl))
  · have r255 := rin_yes (x := nI j) (lo := 0) (hi := 255) (a := 0) (c := 255) rfl rfl (nI_btw (a := 0) (c := 255) (Nat.zero_le j) hj (by omega)) M2
    have j255 : nI j ≤ 255 := by show nI j ≤ nI 255; rw [nI_leI (by omega) (by omega)]; exact hj
    by_cases hn : n = 160
    · refine st_go (r := -4) (N1 := M1) (N2 := M2) ?_ ?_ ⟨G, nt, zs, h⟩
      · unfold f_X5_feed
        refine en_f (nI_ltz (by omega)) (en_t j255 (en_bd' (r := 0) (M := M1) ?_ (en_t rfl (en_some rfl))))
        refine en_eq ?_
        unfold f_X0_append
        rw [p2, hn]
        exact en_f (by decide) (en_f (by decide) (en_some rfl))
      · unfold f_X6_feed
        refine en_bd' r255 (en_f (by decide) (en_t ?_ (en_some rfl)))
        rw [p5, hn]; rfl
    · have hn2 : n < 160 := by omega
      have e1 : (ms M1 15 n (nI j)).1 3 1 = nI n := by rw [ms_off rfl (by omega)]; exact p2
      have e2 : (ms M2 3 n (nI j)).1 0 6 = nI n := by rw [ms_off rfl (by omega)]; exact p5
      refine st_go (r := nI (n + 1)) (N1 := ms (ms M1 15 n (nI j)) 3 1 (nI (n + 1))) (N2 := ms (ms M2 3 n (nI j)) 0 6 (nI (n + 1))) ?_ ?_ ⟨G, nt, zs, h.tape (((sm_1 rfl rfl).tr (sm_1 rfl rfl)) : Sm KC3 KA M1 _) (((sm_1 rfl rfl).tr (sm_1 rfl rfl)) : Sm KR3 KA M2 _) (fun _ _ z => z) (fun _ _ z => z) ?_⟩
      · unfold f_X5_feed
        refine en_f (nI_ltz (by omega)) (en_t j255 (en_bd' (r := 1) (M := ms (ms M1 15 n (nI j)) 3 1 (nI (n + 1))) ?_ (en_f (by decide) (en_some ?_))))
        · refine en_eq ?_
          unfold f_X0_append
          rw [p2]
          refine en_f (nI_ltz (by omega)) (en_t ?_ (en_gd (bin_nI hn2 (by omega)) (en_bm (en_bm (en_some ?_)))))
          · show nI n < nI 160
            rw [nI_ltI (by omega) (by omega)]; exact hn2
          · rw [cl_nI (by omega), e1, show nI n + 1 = nI (n + 1) from nI_add n 1]
        · rw [ms_at rfl]
      · unfold f_X6_feed
        refine en_bd' r255 (en_f (by decide) (en_f ?_ ?_))
        · rw [p5]
          show ¬ nI n = nI 160
          rw [nI_eq (by omega) (by omega)]; exact hn
        · rw [p5]
          refine en_gd (bin_nI hn2 (by omega)) (en_bm (en_bm (en_some ?_)))
          rw [cl_nI (by omega), e2, show nI n + 1 = nI (n + 1) from nI_add n 1, ms_at rfl]
      · refine ⟨fun i => if i = n then nI j else b i, n + 1, fun i hi => ?_, ⟨ms_at rfl, by omega, fun i hi => ?_⟩, ms_at rfl, fun i hi => ?_⟩
        · dsimp only
          by_cases q : i = n
          · rw [if_pos q]; exact ⟨j, hj, rfl⟩
          · rw [if_neg q]; exact p1 i (by omega)
        · dsimp only
          rw [ms_off rfl (by omega)]
          by_cases q : i = n
          · rw [if_pos q, q]; exact ms_at rfl
          · rw [if_neg q, ms_off rfl (by omega)]; exact p4 i (by omega)
        · dsimp only
          rw [ms_off rfl (by omega)]
          by_cases q : i = n
          · rw [if_pos q, q]; exact ms_at rfl
          · rw [if_neg q, ms_off rfl (by omega)]; exact p6 i (by omega)
/-! taken -/
def uK (K j : Nat) : Bool := decide (K = j) || (decide (j = 0) || ((decide (K = 3) && decide (j = 1)) || (decide (K = 4) && decide (j = 2))))
theorem it_l {σ ρ : Type} {body : σ → Option (σ ⊕ ρ)} {n : Nat} {s s' : σ} (h : body s = some (.inl s')) : iter body (n + 1) s = iter body n s' := by rw [iter, h]
theorem it_r {σ ρ : Type} {body : σ → Option (σ ⊕ ρ)} {n : Nat} {s : σ} {y : ρ} (h : body s = some (.inr y)) : iter body (n + 1) s = some y := by rw [iter, h]
theorem it_x {σ ρ : Type} {body : σ → Option (σ ⊕ ρ)} {n : Nat} {s : σ} {y : Option ρ} (h : body s = ex y) : iter body (n + 1) s = y := by
  cases y with
  | none => rw [iter, h]; rfl
  | some y => rw [iter, h]; rfl
theorem fuel_7 : ∃ f, fuel = f + 7 := ⟨fuel - 7, by have := fuel_gt; omega⟩
set_option maxRecDepth 20000 in
theorem c_under {K j : Nat} (hK : K ≤ 5) (hj : j ≤ 5) (M : Mm) : f_X5_isUnder (nI K) (nI j) M = some (if uK K j = true then 1 else 0, M) := by
  unfold f_X5_isUnder
  obtain ⟨f, hf⟩ := fuel_7
  rw [hf]
  rcases (by omega : K = 0 ∨ K = 1 ∨ K = 2 ∨ K = 3 ∨ K = 4 ∨ K = 5) with rfl | rfl | rfl | rfl | rfl | rfl <;>
  rcases (by omega : j = 0 ∨ j = 1 ∨ j = 2 ∨ j = 3 ∨ j = 4 ∨ j = 5) with rfl | rfl | rfl | rfl | rfl | rfl <;> rfl
set_option maxRecDepth 20000 in
theorem r_over {K j : Nat} (hK : K ≤ 5) (hj : j ≤ 5) (x1 : Int32) (M : Mm) : iter (fun s => f_X6_taken_b33 x1 (nI j) s.1 s.2) fuel (nI K, M) = f_X6_taken_j51 x1 (nI j) (if uK K j = true then nI j else -1) M := by
  obtain ⟨f, hf⟩ := fuel_7
  rw [hf]
  generalize hy : f_X6_taken_j51 x1 (nI j) (if uK K j = true then nI j else -1) M = y
  have e1 : ∀ {n : Nat} {x x' : Int32}, (¬ x = -1) → (¬ x = nI j) → f_X6_over x M = some (x', M) → iter (fun s => f_X6_taken_b33 x1 (nI j) s.1 s.2) (n + 1) (x, M) = iter (fun s => f_X6_taken_b33 x1 (nI j) s.1 s.2) n (x', M) := by
    intro n x x' h1 h2 h3
    have : f_X6_taken_b33 x1 (nI j) x M = some (.inl (x', M)) := by
      refine en_eq ?_
      unfold f_X6_taken_b33
      exact en_f h1 (en_f h2 (en_bd' h3 (en_some rfl)))
    exact it_l this
  have e2 : ∀ {n : Nat} {x : Int32}, (x = -1 ∨ x = nI j) → f_X6_taken_j51 x1 (nI j) x M = y → iter (fun s => f_X6_taken_b33 x1 (nI j) s.1 s.2) (n + 1) (x, M) = y := by
    intro n x h1 h2
    have : f_X6_taken_b33 x1 (nI j) x M = ex y := by
      unfold f_X6_taken_b33
      by_cases q : x = -1
      · rw [if_pos q, h2]
      · rw [if_neg q, if_pos (h1.resolve_left q), h2]
    exact it_x this
  rcases (by omega : K = 0 ∨ K = 1 ∨ K = 2 ∨ K = 3 ∨ K = 4 ∨ K = 5) with rfl | rfl | rfl | rfl | rfl | rfl <;>
  rcases (by omega : j = 0 ∨ j = 1 ∨ j = 2 ∨ j = 3 ∨ j = 4 ∨ j = 5) with rfl | rfl | rfl | rfl | rfl | rfl <;>
  first
    | exact e2 (by decide) hy
    | exact (e1 (by decide) (by decide) rfl).trans (e2 (by decide) hy)
    | exact (e1 (by decide) (by decide) rfl).trans ((e1 (by decide) (by decide) rfl).trans (e2 (by decide) hy))
    | exact (e1 (by decide) (by decide) rfl).trans ((e1 (by decide) (by decide) rfl).trans ((e1 (by decide) (by decide) rfl).trans (e2 (by decide) hy)))
theorem s_taken : St2 Rel f_X5_taken f_X6_taken := by
  rintro x1 x2 M1 M2 ⟨G, nt, zs, h⟩
  obtain ⟨⟨hG, hR, hZ⟩, hC, ⟨hA, h14⟩, hT, hTp, hS, hK⟩ := id h
  have hm := hG.2.2.1
  have bad : ∀ {r : Int32}, En (f_X5_taken x1 x2 M1) (fun q => q = (r, M1)) → En (f_X6_taken x1 x2 M2) (fun q => q = (r, M2)) → ∃ r N1 N2, f_X5_taken x1 x2 M1 = some (r, N1) ∧ f_X6_taken x1 x2 M2 = some (r, N2) ∧ Rel N1 N2 := fun e1 e2 => st_go e1 e2 ⟨G, nt, zs, h⟩
  rcases tri x2 (n := 5) (by omega) with q | q | ⟨j, hj, rfl⟩
  · refine bad (r := -2) ?_ ?_
    · unfold f_X5_taken; exact en_t q (en_some rfl)
    · unfold f_X6_taken; exact en_bd' (rin_no (a := 0) (c := 5) rfl rfl (out_lo q) M2) (en_t rfl (en_some rfl))
  · refine bad (r := -2) ?_ ?_
    · unfold f_X5_taken; exact en_f (lt_nz (by omega) q) (en_f (Int32.not_lt.mpr (lt_le (n := 5) (by omega) q)) (en_some rfl))
    · unfold f_X6_taken; exact en_bd' (rin_no (a := 0) (c := 5) rfl rfl (out_hi q) M2) (en_t rfl (en_some rfl))
  · have r5 := rin_yes (x := nI j) (lo := 0) (hi := 5) (a := 0) (c := 5) rfl rfl (nI_btw (a := 0) (c := 5) (Nat.zero_le j) hj (by omega)) M2
    have j6 : nI j < 6 := by show nI j < nI 6; rw [nI_ltI (by omega) (by omega)]; omega
    by_cases hx : ∃ i, i < yM G ∧ x1 = nI i
    · obtain ⟨i, hi, rfl⟩ := hx
      obtain ⟨a1, a2, a3, a4⟩ := hC.2.2.2.2 i hi
      obtain ⟨b1, b2, b3, b4⟩ := hA.2.2.2.2 i hi
      have hk5 := (hG.2.2.2.2.1 i).1
      refine bad (r := if uK (yK G i) j = true then nI (yN G i) else -13) ?_ ?_
      · unfold f_X5_taken
        refine en_f (nI_ltz (by omega)) (en_t j6 (en_bd' (has_yes hC.2.2.2.1 hm ⟨i, hi, rfl⟩) (en_f (by decide) (en_gd (bin_nI (by omega) (by omega)) ?_))))
        rw [cl_nI (by omega), a1]
        refine en_bd' (c_under hk5 hj M1) (en_ite (fun z => ?_) (fun z => ?_))
        · have z := if10.mp z
          rw [if_neg z]; exact en_some rfl
        · have z : uK (yK G i) j = true := Classical.not_not.mp (fun y => z (if10.mpr y))
          rw [if_pos z, a2]
          exact en_gd (bin_nI (by omega) (by omega)) (en_some rfl)
      · unfold f_X6_taken
        refine en_bd' r5 (en_f (by decide) (en_bd' (isE_in hA.2.2.2.1 hm ⟨i, hi, rfl⟩) (en_f (by decide) (en_gd (bin_nI (by omega) (by omega)) ?_))))
        rw [cl_nI (by omega), b1]
        refine en_bi ?_
        rw [r_over hk5 hj]
        unfold f_X6_taken_j51
        by_cases z : uK (yK G i) j = true
        · rw [if_pos z, if_pos z]
          refine en_t rfl (en_gd (bin_nI (by omega) (by omega)) (en_some ?_))
          rw [cl_nI (by omega), b2]
        · rw [if_neg z, if_neg z]
          exact en_f (fun e => nI_m1 (c := j) (by omega) e.symm) (en_some rfl)
    · refine bad (r := -11) ?_ ?_
      · unfold f_X5_taken
        exact en_f (nI_ltz (by omega)) (en_t j6 (en_bd' (has_no hC.2.2.2.1 hm hx) (en_t rfl (en_some rfl))))
      · unfold f_X6_taken
        exact en_bd' r5 (en_f (by decide) (en_bd' (isE_out hA.2.2.2.1 hm hx) (en_t rfl (en_some rfl))))
/-! image, back -/
theorem c_img (M : Mm) : En (f_X3_become_2_1 M) (fun N => Sm (fun o _ => !(o == 2 || (decide (11 ≤ o) && decide (o ≤ 14)))) KA M N ∧ N.1 2 0 = M.1 1 0 ∧ N.1 2 1 = M.1 1 1 ∧ N.1 2 2 = M.1 1 2 ∧ N.1 2 3 = M.1 1 3 ∧ ∀ e, e < 5 → N.1 11 e = M.1 7 e ∧ N.1 12 e = M.1 8 e ∧ N.1 13 e = M.1 9 e ∧ N.1 14 e = M.1 10 e) := by
  unfold f_X3_become_2_1
  refine en_bmv fun A1 e1 => en_bmv fun A2 e2 => en_bmv fun A3 e3 => en_bmv fun A4 e4 => ?_
  have hs4 : Sm (fun o _ => !(o == 2)) KA M A4 := (((sm_1 e1 rfl).tr (sm_1 e2 rfl)).tr (sm_1 e3 rfl)).tr (sm_1 e4 rfl)
  refine en_iter (fun (z : Int32 × Mm) => ∃ k, k ≤ 5 ∧ z.1 = nI k ∧ Sm (fun o _ => !(decide (11 ≤ o) && decide (o ≤ 14))) KA A4 z.2 ∧ ∀ e, e < k → z.2.1 11 e = M.1 7 e ∧ z.2.1 12 e = M.1 8 e ∧ z.2.1 13 e = M.1 9 e ∧ z.2.1 14 e = M.1 10 e) (fun z => 6 - z.1.toNatClampNeg) ⟨0, by omega, rfl, Sm.rf, fun e he => by omega⟩ (by have := fuel_gt; omega) ?_
  rintro ⟨x, A⟩ ⟨k, hk, rfl, hs, he⟩
  have hs : Sm (fun o _ => !(decide (11 ≤ o) && decide (o ≤ 14))) KA A4 A := hs
  have he : ∀ e, e < k → A.1 11 e = M.1 7 e ∧ A.1 12 e = M.1 8 e ∧ A.1 13 e = M.1 9 e ∧ A.1 14 e = M.1 10 e := he
  show En (f_X3_become_2_1_b39 (nI k) A) _
  unfold f_X3_become_2_1_b39
  refine en_ite (fun q => en_ex (en_some ?_)) (fun q => ?_)
  · have q : nI 5 ≤ nI k := q
    rw [nI_leI (by omega) (by omega)] at q
    refine ⟨(hs4.weak (fun o k h => ?_) (fun _ z => z)).tr (hs.weak (fun o k h => ?_) (fun _ z => z)), ?_, ?_, ?_, ?_, fun e h => he e (by omega)⟩
    · simp at h ⊢; omega
    · simp at h ⊢; omega
    · rw [hs.1 2 0 rfl, ms_off e4 (by omega), ms_off e3 (by omega), ms_off e2 (by omega), ms_at e1]
    · rw [hs.1 2 1 rfl, ms_off e4 (by omega), ms_off e3 (by omega), ms_at e2, ms_off e1 (by omega)]
    · rw [hs.1 2 2 rfl, ms_off e4 (by omega), ms_at e3, ms_off e2 (by omega), ms_off e1 (by omega)]
    · rw [hs.1 2 3 rfl, ms_at e4, ms_off e3 (by omega), ms_off e2 (by omega), ms_off e1 (by omega)]
  · have q : ¬ nI 5 ≤ nI k := q
    rw [nI_leI (by omega) (by omega)] at q
    have hb : bin (nI k) 5 = true := bin_nI (by omega) (by omega)
    refine en_gd hb (en_gd hb (en_bmv fun B1 f1 => en_gd hb (en_gd hb (en_bmv fun B2 f2 => en_gd hb (en_gd hb (en_bmv fun B3 f3 => en_gd hb (en_gd hb (en_bmv fun B4 f4 => en_bi (en_some ⟨⟨k + 1, by omega, nI_add k 1, hs.tr ((((sm_1 f1 rfl).tr (sm_1 f2 rfl)).tr (sm_1 f3 rfl)).tr (sm_1 f4 rfl)), fun e hek => ?_⟩, ?_⟩)))))))))
    · rw [cl_nI (by omega)] at f1 f2 f3 f4
      show B4.1 11 e = _ ∧ B4.1 12 e = _ ∧ B4.1 13 e = _ ∧ B4.1 14 e = _
      have o7 : A.1 7 e = M.1 7 e := by rw [hs.1 7 e rfl, hs4.1 7 e rfl]
      have o8 : A.1 8 e = M.1 8 e := by rw [hs.1 8 e rfl, hs4.1 8 e rfl]
      have o9 : A.1 9 e = M.1 9 e := by rw [hs.1 9 e rfl, hs4.1 9 e rfl]
      have o10 : A.1 10 e = M.1 10 e := by rw [hs.1 10 e rfl, hs4.1 10 e rfl]
      by_cases z : e = k
      · subst z
        refine ⟨?_, ?_, ?_, ?_⟩
        · rw [ms_off f4 (by omega), ms_off f3 (by omega), ms_off f2 (by omega), ms_at f1, o7]
        · rw [ms_off f4 (by omega), ms_off f3 (by omega), ms_at f2, ms_off f1 (by omega), o8]
        · rw [ms_off f4 (by omega), ms_at f3, ms_off f2 (by omega), ms_off f1 (by omega), o9]
        · rw [ms_at f4, ms_off f3 (by omega), ms_off f2 (by omega), ms_off f1 (by omega), o10]
      · obtain ⟨b1, b2, b3, b4⟩ := he e (by omega)
        refine ⟨?_, ?_, ?_, ?_⟩
        · rw [ms_off f4 (by omega), ms_off f3 (by omega), ms_off f2 (by omega), ms_off f1 (by omega), b1]
        · rw [ms_off f4 (by omega), ms_off f3 (by omega), ms_off f2 (by omega), ms_off f1 (by omega), b2]
        · rw [ms_off f4 (by omega), ms_off f3 (by omega), ms_off f2 (by omega), ms_off f1 (by omega), b3]
        · rw [ms_off f4 (by omega), ms_off f3 (by omega), ms_off f2 (by omega), ms_off f1 (by omega), b4]
    · show 6 - (nI k + 1).toNatClampNeg < 6 - (nI k).toNatClampNeg
      rw [show nI k + 1 = nI (k + 1) from nI_add k 1, nI_clamp (by omega), nI_clamp (by omega)]
      omega
theorem c_bck (M : Mm) : En (f_X3_become_1_2 M) (fun N => Sm KC2 KA M N ∧ N.1 1 0 = M.1 2 0 ∧ N.1 1 1 = M.1 2 1 ∧ N.1 1 2 = M.1 2 2 ∧ N.1 1 3 = M.1 2 3 ∧ ∀ e, e < 5 → N.1 7 e = M.1 11 e ∧ N.1 8 e = M.1 12 e ∧ N.1 9 e = M.1 13 e ∧ N.1 10 e = M.1 14 e) := by
  unfold f_X3_become_1_2
  refine en_bmv fun A1 e1 => en_bmv fun A2 e2 => en_bmv fun A3 e3 => en_bmv fun A4 e4 => ?_
  have hs4 : Sm (fun o _ => !(o == 1)) KA M A4 := (((sm_1 e1 rfl).tr (sm_1 e2 rfl)).tr (sm_1 e3 rfl)).tr (sm_1 e4 rfl)
  refine en_iter (fun (z : Int32 × Mm) => ∃ k, k ≤ 5 ∧ z.1 = nI k ∧ Sm (fun o _ => !(decide (7 ≤ o) && decide (o ≤ 10))) KA A4 z.2 ∧ ∀ e, e < k → z.2.1 7 e = M.1 11 e ∧ z.2.1 8 e = M.1 12 e ∧ z.2.1 9 e = M.1 13 e ∧ z.2.1 10 e = M.1 14 e) (fun z => 6 - z.1.toNatClampNeg) ⟨0, by omega, rfl, Sm.rf, fun e he => by omega⟩ (by have := fuel_gt; omega) ?_
  rintro ⟨x, A⟩ ⟨k, hk, rfl, hs, he⟩
  have hs : Sm (fun o _ => !(decide (7 ≤ o) && decide (o ≤ 10))) KA A4 A := hs
  have he : ∀ e, e < k → A.1 7 e = M.1 11 e ∧ A.1 8 e = M.1 12 e ∧ A.1 9 e = M.1 13 e ∧ A.1 10 e = M.1 14 e := he
  show En (f_X3_become_1_2_b39 (nI k) A) _
  unfold f_X3_become_1_2_b39
  refine en_ite (fun q => en_ex (en_some ?_)) (fun q => ?_)
  · have q : nI 5 ≤ nI k := q
    rw [nI_leI (by omega) (by omega)] at q
    refine ⟨(hs4.weak (fun o k h => ?_) (fun _ z => z)).tr (hs.weak (fun o k h => ?_) (fun _ z => z)), ?_, ?_, ?_, ?_, fun e h => he e (by omega)⟩
    · unfold KC2 at h; simp at h ⊢; omega
    · unfold KC2 at h; simp at h ⊢; omega
    · rw [hs.1 1 0 rfl, ms_off e4 (by omega), ms_off e3 (by omega), ms_off e2 (by omega), ms_at e1]
    · rw [hs.1 1 1 rfl, ms_off e4 (by omega), ms_off e3 (by omega), ms_at e2, ms_off e1 (by omega)]
    · rw [hs.1 1 2 rfl, ms_off e4 (by omega), ms_at e3, ms_off e2 (by omega), ms_off e1 (by omega)]
    · rw [hs.1 1 3 rfl, ms_at e4, ms_off e3 (by omega), ms_off e2 (by omega), ms_off e1 (by omega)]
  · have q : ¬ nI 5 ≤ nI k := q
    rw [nI_leI (by omega) (by omega)] at q
    have hb : bin (nI k) 5 = true := bin_nI (by omega) (by omega)
    refine en_gd hb (en_gd hb (en_bmv fun B1 f1 => en_gd hb (en_gd hb (en_bmv fun B2 f2 => en_gd hb (en_gd hb (en_bmv fun B3 f3 => en_gd hb (en_gd hb (en_bmv fun B4 f4 => en_bi (en_some ⟨⟨k + 1, by omega, nI_add k 1, hs.tr ((((sm_1 f1 rfl).tr (sm_1 f2 rfl)).tr (sm_1 f3 rfl)).tr (sm_1 f4 rfl)), fun e hek => ?_⟩, ?_⟩)))))))))
    · rw [cl_nI (by omega)] at f1 f2 f3 f4
      show B4.1 7 e = _ ∧ B4.1 8 e = _ ∧ B4.1 9 e = _ ∧ B4.1 10 e = _
      have o7 : A.1 11 e = M.1 11 e := by rw [hs.1 11 e rfl, hs4.1 11 e rfl]
      have o8 : A.1 12 e = M.1 12 e := by rw [hs.1 12 e rfl, hs4.1 12 e rfl]
      have o9 : A.1 13 e = M.1 13 e := by rw [hs.1 13 e rfl, hs4.1 13 e rfl]
      have o10 : A.1 14 e = M.1 14 e := by rw [hs.1 14 e rfl, hs4.1 14 e rfl]
      by_cases z : e = k
      · subst z
        refine ⟨?_, ?_, ?_, ?_⟩
        · rw [ms_off f4 (by omega), ms_off f3 (by omega), ms_off f2 (by omega), ms_at f1, o7]
        · rw [ms_off f4 (by omega), ms_off f3 (by omega), ms_at f2, ms_off f1 (by omega), o8]
        · rw [ms_off f4 (by omega), ms_at f3, ms_off f2 (by omega), ms_off f1 (by omega), o9]
        · rw [ms_at f4, ms_off f3 (by omega), ms_off f2 (by omega), ms_off f1 (by omega), o10]
      · obtain ⟨b1, b2, b3, b4⟩ := he e (by omega)
        refine ⟨?_, ?_, ?_, ?_⟩
        · rw [ms_off f4 (by omega), ms_off f3 (by omega), ms_off f2 (by omega), ms_off f1 (by omega), b1]
        · rw [ms_off f4 (by omega), ms_off f3 (by omega), ms_off f2 (by omega), ms_off f1 (by omega), b2]
        · rw [ms_off f4 (by omega), ms_off f3 (by omega), ms_off f2 (by omega), ms_off f1 (by omega), b3]
        · rw [ms_off f4 (by omega), ms_off f3 (by omega), ms_off f2 (by omega), ms_off f1 (by omega), b4]
    · show 6 - (nI k + 1).toNatClampNeg < 6 - (nI k).toNatClampNeg
      rw [show nI k + 1 = nI (k + 1) from nI_add k 1, nI_clamp (by omega), nI_clamp (by omega)]
      omega
theorem r_img (M : Mm) : En (f_X6_image M) (fun q => q.1 = M.1 0 13 ∧ Sm (fun o k => !(o == 0 && (decide (44 ≤ k) && decide (k ≤ 47))) && !(o == 15)) KA M q.2 ∧ q.2.1 0 44 = M.1 0 13 ∧ q.2.1 0 45 = M.1 0 7 ∧ q.2.1 0 46 = M.1 0 8 ∧ q.2.1 0 47 = M.1 0 4 ∧ ∀ e, e < 5 → q.2.1 15 e = M.1 5 e ∧ q.2.1 15 (5 + e) = M.1 6 e ∧ q.2.1 15 (10 + e) = M.1 7 e) := by
  unfold f_X6_image
  refine en_iter (fun (z : Int32 × Mm) => ∃ k, k ≤ 5 ∧ z.1 = nI k ∧ Sm (fun o _ => !(o == 15)) KA M z.2 ∧ ∀ e, e < k → z.2.1 15 e = M.1 5 e ∧ z.2.1 15 (5 + e) = M.1 6 e ∧ z.2.1 15 (10 + e) = M.1 7 e) (fun z => 6 - z.1.toNatClampNeg) ⟨0, by omega, rfl, Sm.rf, fun e he => by omega⟩ (by have := fuel_gt; omega) ?_
  rintro ⟨x, A⟩ ⟨k, hk, rfl, hs, he⟩
  have hs : Sm (fun o _ => !(o == 15)) KA M A := hs
  have he : ∀ e, e < k → A.1 15 e = M.1 5 e ∧ A.1 15 (5 + e) = M.1 6 e ∧ A.1 15 (10 + e) = M.1 7 e := he
  show En (f_X6_image_b2 (nI k) A) _
  unfold f_X6_image_b2
  refine en_ite (fun q => en_ex ?_) (fun q => ?_)
  · have q : nI 5 ≤ nI k := q
    rw [nI_leI (by omega) (by omega)] at q
    refine en_bmv fun B1 f1 => en_bmv fun B2 f2 => en_bmv fun B3 f3 => en_bmv fun B4 f4 => en_some ⟨?_, (hs.weak (fun o k h => ?_) (fun _ z => z)).tr ((((sm_1 f1 rfl).tr (sm_1 f2 rfl)).tr (sm_1 f3 rfl)).tr (sm_1 f4 rfl)), ?_, ?_, ?_, ?_, fun e h => ?_⟩
    · show B4.1 0 13 = _
      rw [ms_off f4 (by omega), ms_off f3 (by omega), ms_off f2 (by omega), ms_off f1 (by omega), hs.1 0 13 rfl]
    · simp at h ⊢; omega
    · rw [ms_off f4 (by omega), ms_off f3 (by omega), ms_off f2 (by omega), ms_at f1, hs.1 0 13 rfl]
    · rw [ms_off f4 (by omega), ms_off f3 (by omega), ms_at f2, ms_off f1 (by omega), hs.1 0 7 rfl]
    · rw [ms_off f4 (by omega), ms_at f3, ms_off f2 (by omega), ms_off f1 (by omega), hs.1 0 8 rfl]
    · rw [ms_at f4, ms_off f3 (by omega), ms_off f2 (by omega), ms_off f1 (by omega), hs.1 0 4 rfl]
    · obtain ⟨b1, b2, b3⟩ := he e (by omega)
      refine ⟨?_, ?_, ?_⟩
      · rw [ms_off f4 (by omega), ms_off f3 (by omega), ms_off f2 (by omega), ms_off f1 (by omega), b1]
      · rw [ms_off f4 (by omega), ms_off f3 (by omega), ms_off f2 (by omega), ms_off f1 (by omega), b2]
      · rw [ms_off f4 (by omega), ms_off f3 (by omega), ms_off f2 (by omega), ms_off f1 (by omega), b3]
  · have q : ¬ nI 5 ≤ nI k := q
    rw [nI_leI (by omega) (by omega)] at q
    have hb : bin (nI k) 5 = true := bin_nI (by omega) (by omega)
    rw [show (5 : Int32) + nI k = nI (5 + k) from nI_add 5 k, show (10 : Int32) + nI k = nI (10 + k) from nI_add 10 k]
    refine en_gd hb (en_gd (bin_nI (by omega) (by omega)) (en_bmv fun B1 f1 => en_gd hb (en_gd (bin_nI (by omega) (by omega)) (en_bmv fun B2 f2 => en_gd hb (en_gd (bin_nI (by omega) (by omega)) (en_bmv fun B3 f3 => en_bi (en_some ⟨⟨k + 1, by omega, nI_add k 1, hs.tr (((sm_1 f1 rfl).tr (sm_1 f2 rfl)).tr (sm_1 f3 rfl)), fun e hek => ?_⟩, ?_⟩)))))))
    · rw [cl_nI (by omega)] at f1
      rw [cl_nI (by omega), cl_nI (by omega)] at f2 f3
      show B3.1 15 e = _ ∧ B3.1 15 (5 + e) = _ ∧ B3.1 15 (10 + e) = _
      have o5 : A.1 5 e = M.1 5 e := hs.1 5 e rfl
      have o6 : A.1 6 e = M.1 6 e := hs.1 6 e rfl
      have o7 : A.1 7 e = M.1 7 e := hs.1 7 e rfl
      by_cases z : e = k
      · subst z
        refine ⟨?_, ?_, ?_⟩
        · rw [ms_off f3 (by omega), ms_off f2 (by omega), ms_at f1, o5]
        · rw [ms_off f3 (by omega), ms_at f2, ms_off f1 (by omega), o6]
        · rw [ms_at f3, ms_off f2 (by omega), ms_off f1 (by omega), o7]
      · obtain ⟨b1, b2, b3⟩ := he e (by omega)
        refine ⟨?_, ?_, ?_⟩
        · rw [ms_off f3 (by omega), ms_off f2 (by omega), ms_off f1 (by omega), b1]
        · rw [ms_off f3 (by omega), ms_off f2 (by omega), ms_off f1 (by omega), b2]
        · rw [ms_off f3 (by omega), ms_off f2 (by omega), ms_off f1 (by omega), b3]
    · show 6 - (nI k + 1).toNatClampNeg < 6 - (nI k).toNatClampNeg
      rw [show nI k + 1 = nI (k + 1) from nI_add k 1, nI_clamp (by omega), nI_clamp (by omega)]
      omega
theorem r_bck (M : Mm) (h44 : ¬ M.1 0 44 = -1) : En (f_X6_back M) (fun q => q.1 = M.1 0 44 ∧ Sm (fun o k => !(o == 0 && (k == 7 || (k == 8 || (k == 4 || k == 13)))) && !(decide (5 ≤ o) && decide (o ≤ 7))) KA M q.2 ∧ q.2.1 0 13 = M.1 0 44 ∧ q.2.1 0 7 = M.1 0 45 ∧ q.2.1 0 8 = M.1 0 46 ∧ q.2.1 0 4 = M.1 0 47 ∧ ∀ e, e < 5 → q.2.1 5 e = M.1 15 e ∧ q.2.1 6 e = M.1 15 (5 + e) ∧ q.2.1 7 e = M.1 15 (10 + e)) := by
  unfold f_X6_back
  refine en_f h44 ?_
  refine en_iter (fun (z : Int32 × Mm) => ∃ k, k ≤ 5 ∧ z.1 = nI k ∧ Sm (fun o _ => !(decide (5 ≤ o) && decide (o ≤ 7))) KA M z.2 ∧ ∀ e, e < k → z.2.1 5 e = M.1 15 e ∧ z.2.1 6 e = M.1 15 (5 + e) ∧ z.2.1 7 e = M.1 15 (10 + e)) (fun z => 6 - z.1.toNatClampNeg) ⟨0, by omega, rfl, Sm.rf, fun e he => by omega⟩ (by have := fuel_gt; omega) ?_
  rintro ⟨x, A⟩ ⟨k, hk, rfl, hs, he⟩
  have hs : Sm (fun o _ => !(decide (5 ≤ o) && decide (o ≤ 7))) KA M A := hs
  have he : ∀ e, e < k → A.1 5 e = M.1 15 e ∧ A.1 6 e = M.1 15 (5 + e) ∧ A.1 7 e = M.1 15 (10 + e) := he
  show En (f_X6_back_b13 (nI k) A) _
  unfold f_X6_back_b13
  refine en_ite (fun q => en_ex ?_) (fun q => ?_)
  · have q : nI 5 ≤ nI k := q
    rw [nI_leI (by omega) (by omega)] at q
    refine en_bmv fun B1 f1 => en_bmv fun B2 f2 => en_bmv fun B3 f3 => en_bmv fun B4 f4 => en_some ⟨?_, (hs.weak (fun o k h => ?_) (fun _ z => z)).tr ((((sm_1 f1 rfl).tr (sm_1 f2 rfl)).tr (sm_1 f3 rfl)).tr (sm_1 f4 rfl)), ?_, ?_, ?_, ?_, fun e h => ?_⟩
    · show B4.1 0 13 = _
      rw [ms_off f4 (by omega), ms_off f3 (by omega), ms_off f2 (by omega), ms_at f1, hs.1 0 44 rfl]
    · simp at h ⊢; omega
    · rw [ms_off f4 (by omega), ms_off f3 (by omega), ms_off f2 (by omega), ms_at f1, hs.1 0 44 rfl]
    · rw [ms_off f4 (by omega), ms_off f3 (by omega), ms_at f2, ms_off f1 (by omega), hs.1 0 45 rfl]
    · rw [ms_off f4 (by omega), ms_at f3, ms_off f2 (by omega), ms_off f1 (by omega), hs.1 0 46 rfl]
    · rw [ms_at f4, ms_off f3 (by omega), ms_off f2 (by omega), ms_off f1 (by omega), hs.1 0 47 rfl]
    · obtain ⟨b1, b2, b3⟩ := he e (by omega)
      refine ⟨?_, ?_, ?_⟩
      · rw [ms_off f4 (by omega), ms_off f3 (by omega), ms_off f2 (by omega), ms_off f1 (by omega), b1]
      · rw [ms_off f4 (by omega), ms_off f3 (by omega), ms_off f2 (by omega), ms_off f1 (by omega), b2]
      · rw [ms_off f4 (by omega), ms_off f3 (by omega), ms_off f2 (by omega), ms_off f1 (by omega), b3]
  · have q : ¬ nI 5 ≤ nI k := q
    rw [nI_leI (by omega) (by omega)] at q
    have hb : bin (nI k) 5 = true := bin_nI (by omega) (by omega)
    rw [show (5 : Int32) + nI k = nI (5 + k) from nI_add 5 k, show (10 : Int32) + nI k = nI (10 + k) from nI_add 10 k]
    refine en_gd (bin_nI (by omega) (by omega)) (en_gd hb (en_bmv fun B1 f1 => en_gd (bin_nI (by omega) (by omega)) (en_gd hb (en_bmv fun B2 f2 => en_gd (bin_nI (by omega) (by omega)) (en_gd hb (en_bmv fun B3 f3 => en_bi (en_some ⟨⟨k + 1, by omega, nI_add k 1, hs.tr (((sm_1 f1 rfl).tr (sm_1 f2 rfl)).tr (sm_1 f3 rfl)), fun e hek => ?_⟩, ?_⟩)))))))
    · rw [cl_nI (by omega)] at f1
      rw [cl_nI (by omega), cl_nI (by omega)] at f2 f3
      show B3.1 5 e = _ ∧ B3.1 6 e = _ ∧ B3.1 7 e = _
      have o15 : ∀ j, A.1 15 j = M.1 15 j := fun j => hs.1 15 j rfl
      by_cases z : e = k
      · subst z
        refine ⟨?_, ?_, ?_⟩
        · rw [ms_off f3 (by omega), ms_off f2 (by omega), ms_at f1, o15]
        · rw [ms_off f3 (by omega), ms_at f2, ms_off f1 (by omega), o15]
        · rw [ms_at f3, ms_off f2 (by omega), ms_off f1 (by omega), o15]
      · obtain ⟨b1, b2, b3⟩ := he e (by omega)
        refine ⟨?_, ?_, ?_⟩
        · rw [ms_off f3 (by omega), ms_off f2 (by omega), ms_off f1 (by omega), b1]
        · rw [ms_off f3 (by omega), ms_off f2 (by omega), ms_off f1 (by omega), b2]
        · rw [ms_off f3 (by omega), ms_off f2 (by omega), ms_off f1 (by omega), b3]
    · show 6 - (nI k + 1).toNatClampNeg < 6 - (nI k).toNatClampNeg
      rw [show nI k + 1 = nI (k + 1) from nI_add k 1, nI_clamp (by omega), nI_clamp (by omega)]
      omega
theorem s_image : St0 Rel f_X5_image f_X6_image := by
  rintro M1 M2 ⟨G, nt, zs, h⟩
  obtain ⟨⟨hG, hR, hZ⟩, hC, ⟨hA, h14⟩, hT, hTp, hS, hK⟩ := id h
  have hm := hG.2.2.1
  obtain ⟨c1, c2, c3, c4, c5⟩ := id hC
  obtain ⟨d1, d2, d3, d4, d5⟩ := id hA
  refine st_of (P := fun q => q.1 = nI (yM G) ∧ Sm (fun o k => !(o == 2 || (decide (11 ≤ o) && decide (o ≤ 14))) && !(o == 0 && k == 2)) KA M1 q.2 ∧ ¬ q.2.1 0 2 = 0 ∧ KpC G q.2) (Q := fun q => q.1 = nI (yM G) ∧ Sm (fun o k => !(o == 0 && (decide (44 ≤ k) && decide (k ≤ 47))) && !(o == 15)) KA M2 q.2 ∧ KpR G q.2) ?_ ?_ ?_
  · unfold f_X5_image
    refine en_bv (en_imp (c_img M1) ?_)
    rintro N ⟨k1, k2, k3, k4, k5, k6⟩
    refine en_bmv fun N2 e2 => en_some ⟨?_, (k1.weak (fun o k h => by simp at h ⊢; omega) (fun _ z => z)).tr (sm_1 e2 rfl), ?_, ?_, ?_, ?_, ?_, fun e he => ?_⟩
    · show N2.1 1 3 = _
      rw [ms_off e2 (by omega), k1.1 1 3 rfl, c4]
    · show ¬ N2.1 0 2 = 0
      rw [ms_at e2]; decide
    · rw [ms_off e2 (by omega), k2, c1]
    · rw [ms_off e2 (by omega), k3, c2]
    · rw [ms_off e2 (by omega), k4, c3]
    · rw [ms_off e2 (by omega), k5, c4]
    · obtain ⟨a1, a2, a3, a4⟩ := k6 e (by omega)
      obtain ⟨b1, b2, b3, b4⟩ := c5 e he
      rw [ms_off e2 (by omega), ms_off e2 (by omega), ms_off e2 (by omega), ms_off e2 (by omega), a1, a2, a3, a4]
      exact ⟨b1, b2, b3, b4⟩
  · refine en_imp (r_img M2) ?_
    rintro q ⟨k0, k1, k2, k3, k4, k5, k6⟩
    refine ⟨by rw [k0, d4], k1, by rw [k3, d1], by rw [k4, d2], by rw [k5, d3], by rw [k2, d4], fun e he => ?_⟩
    obtain ⟨a1, a2, a3⟩ := k6 e (by omega)
    obtain ⟨b1, b2, b3, b4⟩ := d5 e he
    rw [a1, a2, a3]
    exact ⟨b2, b3, b4⟩
  · rintro ⟨a, N1⟩ ⟨b, N2⟩ ⟨p1, p2, p3, p4⟩ ⟨q1, q2, q3⟩
    have p2 : Sm (fun o k => !(o == 2 || (decide (11 ≤ o) && decide (o ≤ 14))) && !(o == 0 && k == 2)) KA M1 N1 := p2
    have q2 : Sm (fun o k => !(o == 0 && (decide (44 ≤ k) && decide (k ≤ 47))) && !(o == 15)) KA M2 N2 := q2
    refine ⟨p1.trans q1.symm, G, nt, zs, ⟨hG, hR, hZ⟩, hC.same p2 (fun o k z => ?_), ⟨hA.same q2 (fun o k z => ?_), by rw [q2.1 0 14 rfl]; exact h14⟩, hT.same p2 q2 (fun o k z => ?_) (fun o k z => ?_), hTp.same p2 q2 (fun o k z => ?_) (fun o k z => ?_), fun s hs => (hS s hs).same p2 q2 (fun o k z => ?_) (fun o k z => ?_), Or.inr ⟨p3, G, hG, Nat.le_refl _, fun _ _ => rfl, hR, hZ, p4, q3⟩⟩
    · unfold KC0 at z; simp at z ⊢; omega
    · unfold KR0 at z; simp at z ⊢; omega
    all_goals (simp; omega)
theorem s_back : St0 Rel f_X5_back f_X6_back := by
  rintro M1 M2 ⟨G, nt, zs, h⟩
  obtain ⟨⟨hG, hR, hZ⟩, hC, ⟨hA, h14⟩, hT, hTp, hS, hK⟩ := id h
  have hm := hG.2.2.1
  rcases id hK with ⟨k0, k1⟩ | ⟨k0, Gk, hGk, hmk, hkk, hRk, hZk, ⟨c1, c2, c3, c4, c5⟩, ⟨d1, d2, d3, d4, d5⟩⟩
  · refine st_go (r := -3) (N1 := M1) (N2 := M2) ?_ ?_ ⟨G, nt, zs, h⟩
    · unfold f_X5_back; exact en_t k0 (en_some rfl)
    · unfold f_X6_back; exact en_t k1 (en_some rfl)
  · have hmk5 := hGk.2.2.1
    refine st_of (P := fun q => q.1 = nI (yM Gk) ∧ Sm KC2 KA M1 q.2 ∧ AC0 Gk q.2) (Q := fun q => q.1 = nI (yM Gk) ∧ Sm (fun o k => !(o == 0 && (k == 7 || (k == 8 || (k == 4 || k == 13)))) && !(decide (5 ≤ o) && decide (o ≤ 7))) KA M2 q.2 ∧ AR0 Gk q.2) ?_ ?_ ?_
    · unfold f_X5_back
      refine en_f k0 (en_bv (en_imp (c_bck M1) ?_))
      rintro N ⟨e1, e2, e3, e4, e5, e6⟩
      refine en_some ⟨?_, e1, by rw [e2, c1], by rw [e3, c2], by rw [e4, c3], by rw [e5, c4], fun e he => ?_⟩
      · show N.1 1 3 = _
        rw [e5, c4]
      · obtain ⟨a1, a2, a3, a4⟩ := e6 e (by omega)
        obtain ⟨b1, b2, b3, b4⟩ := c5 e he
        rw [a1, a2, a3, a4]
        exact ⟨b1, b2, b3, b4⟩
    · refine en_imp (r_bck M2 (by rw [d4]; exact nI_m1 (by omega))) ?_
      rintro q ⟨e0, e1, e2, e3, e4, e5, e6⟩
      refine ⟨by rw [e0, d4], e1, by rw [e3, d1], by rw [e4, d2], by rw [e5, d3], by rw [e2, d4], fun e he => ?_⟩
      obtain ⟨a1, a2, a3⟩ := e6 e (by omega)
      obtain ⟨b1, b2, b3⟩ := d5 e he
      rw [a1, a2, a3, e1.1 4 e rfl, (hA.2.2.2.2 e (by omega)).1, hkk e he]
      exact ⟨rfl, b1, b2, b3⟩
    · rintro ⟨a, N1⟩ ⟨b, N2⟩ ⟨p1, p2, p3⟩ ⟨q1, q2, q3⟩
      have p2 : Sm KC2 KA M1 N1 := p2
      have q2 : Sm (fun o k => !(o == 0 && (k == 7 || (k == 8 || (k == 4 || k == 13)))) && !(decide (5 ≤ o) && decide (o ≤ 7))) KA M2 N2 := q2
      have q4 : ∀ o k, KR2 o k = true → (!(o == 0 && (k == 7 || (k == 8 || (k == 4 || k == 13)))) && !(decide (5 ≤ o) && decide (o ≤ 7))) = true := by
        intro o k z
        unfold KR2 at z
        simp at z ⊢
        omega
      refine ⟨p1.trans q1.symm, Gk, nt, zs, ⟨hGk, hRk, hZk⟩, p3, ⟨q3, by rw [q2.1 0 14 rfl]; exact h14⟩, hT.same p2 q2 (fun o k z => ?_) (fun o k z => q4 o k ?_), hTp.same p2 q2 (fun o k z => ?_) (fun o k z => q4 o k ?_), fun s hs => (hS s hs).same p2 q2 (fun o k z => ?_) (fun o k z => q4 o k ?_), ?_⟩
      · unfold KC2; simp; omega
      · unfold KR2; simp; omega
      · unfold KC2; simp; omega
      · unfold KR2; simp; omega
      · unfold KC2; simp; omega
      · unfold KR2; simp; omega
      · have h8 : Kpt G nt zs N1 N2 := hK.same p2 q2 (fun o k z => by unfold KC2; simp; omega) (fun o k z => q4 o k (by unfold KR2; simp; omega))
        have k44 : ¬ N2.1 0 44 = -1 := by rw [q2.1 0 44 rfl, d4]; exact nI_m1 (by omega)
        rcases h8 with h8 | ⟨z0, -⟩
        · exact absurd h8.2 k44
        · exact Or.inr ⟨z0, Gk, hGk, Nat.le_refl _, fun _ _ => rfl, hRk, hZk, ⟨by rw [p2.1 2 0 rfl, c1], by rw [p2.1 2 1 rfl, c2], by rw [p2.1 2 2 rfl, c3], by rw [p2.1 2 3 rfl, c4], fun e he => by rw [p2.1 11 e rfl, p2.1 12 e rfl, p2.1 13 e rfl, p2.1 14 e rfl]; exact c5 e he⟩, ⟨by rw [q2.1 0 45 rfl, d1], by rw [q2.1 0 46 rfl, d2], by rw [q2.1 0 47 rfl, d3], by rw [q2.1 0 44 rfl, d4], fun e he => by rw [q2.1 15 e rfl, q2.1 15 (5 + e) rfl, q2.1 15 (10 + e) rfl]; exact d5 e he⟩⟩
end MISC
