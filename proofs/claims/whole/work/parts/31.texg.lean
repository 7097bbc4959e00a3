/-! ===== both read a text alike ===== -/
section TEXG
variable {b : Nat → Int32} {n t p op q : Nat} {cs : List Int32} {M : Mm}
theorem nmR_kt {M1 : Mm} (hs : Sm KRt KB M M1) : ∀ w, w < 6 → nmR M1 w = nmR M w := by
  intro w hw
  unfold nmR
  refine hs.1 0 (15 + w) ?_
  unfold KRt
  simp
  omega
theorem Pc.put17 (h : Pc b n p cs M) (i : Nat) (v : Int32) : Pc b n p cs (ms M 17 i v) := by
  obtain ⟨hB, hp, hT, hL, h6, hc⟩ := h
  refine ⟨hB, hp, ⟨?_, hT.2.1, fun j hj => ?_⟩, ⟨?_, ?_, ?_, fun h => ?_⟩, ?_, ?_, fun j hj => ?_⟩
  · rw [ms_off rfl (by omega)]; exact hT.1
  · rw [ms_off rfl (by omega)]; exact hT.2.2 j hj
  · rw [ms_off rfl (by omega)]; exact hL.1
  · rw [ms_off rfl (by omega)]; exact hL.2.1
  · rw [ms_off rfl (by omega)]; exact hL.2.2.1
  · rw [ms_off rfl (by omega)]; exact hL.2.2.2 h
  · rw [ms_off rfl (by omega)]; exact h6
  · rw [ms_off rfl (by omega)]; exact hc.1
  · rw [ms_off rfl (by omega)]; exact hc.2 j hj
theorem Fc.put17 (h : Fc q M) (i : Nat) (v : Int32) : Fc q (ms M 17 i v) := by
  refine ⟨?_, ?_, h.2.2⟩
  · rw [ms_off rfl (by omega)]; exact h.1
  · rw [ms_off rfl (by omega)]; exact h.2.1
theorem rd_go {i f : Nat} {P : Int32 × Mm → Prop} (hi : i < 3) (h : En (cpart i M) (fun M9 => En (iter (fun s => f_X0_reads_b21 s.1 s.2) f (nI (i + 1), ms M9 17 i (M9.1 3 8))) P)) : En (iter (fun s => f_X0_reads_b21 s.1 s.2) (f + 1) (nI i, M)) P := by
  refine rl_go ?_
  show En (f_X0_reads_b21 (nI i) M) _
  unfold f_X0_reads_b21
  refine en_f (by show ¬ nI 3 ≤ nI i; rw [nI_leI (by omega) (by omega)]; omega) ?_
  obtain ⟨M9, e9, h9⟩ := h
  unfold cpart at e9
  cases e1 : f_X0_demand (100 + nI i) M with
  | none => rw [e1] at e9; cases e9
  | some M7 =>
    rw [e1] at e9
    refine en_bv' rfl ?_
    have e9 : (bv (r_X0_reckon 0 0 M7) fun M8 => bv (f_X0_demand 59 M8) fun M9 => some M9) = some M9 := e9
    cases e2 : r_X0_reckon 0 0 M7 with
    | none => rw [e2] at e9; cases e9
    | some M8 =>
      rw [e2] at e9
      refine en_bv' rfl ?_
      have e9 : (bv (f_X0_demand 59 M8) fun M9 => some M9) = some M9 := e9
      cases e3 : f_X0_demand 59 M8 with
      | none => rw [e3] at e9; cases e9
      | some M9' =>
        rw [e3] at e9
        have e9 : M9' = M9 := Option.some.inj e9
        subst e9
        refine en_bv' rfl (en_gd (bin_nI hi (by omega)) (en_bm (en_bi (en_some ⟨_, rfl, ?_⟩))))
        rw [cl_nI (by omega), show nI i + 1 = nI (i + 1) from nI_add i 1]
        exact h9
theorem rd_bad : ∀ (j i f : Nat), i + j = 3 → j < f → ∀ M, Fc q M → En (iter (fun s => f_X0_reads_b21 s.1 s.2) f (nI i, M)) (fun r => Sm KPt KA M r.2 ∧ r.2.1 3 1 = 0 ∧ r.1 = 0 ∧ r.2.1 3 6 = nI q ∧ q ≤ 160) := by
  intro j
  induction j with
  | zero =>
    intro i f hi hf M h
    obtain ⟨f, rfl⟩ : ∃ j, f = j + 1 := ⟨f - 1, by omega⟩
    have e : i = 3 := by omega
    subst e
    have hb : En (f_X0_reads_b21 (nI 3) M) (fun z => ∃ y, z = .inr y ∧ (Sm KPt KA M y.2 ∧ y.2.1 3 1 = 0 ∧ y.1 = 0 ∧ y.2.1 3 6 = nI q ∧ q ≤ 160)) := by
      unfold f_X0_reads_b21
      refine en_t (by decide) (en_ex (en_bv (en_imp (cf_dem h (by decide)) ?_)))
      rintro M1 ⟨g1, g2⟩
      refine en_bmv fun M6 e6 => ?_
      have h36 : M6.1 3 6 = nI q := by rw [ms_off e6 (by omega)]; exact g2.2.1
      refine en_f (by rw [h36]; exact nI_m1 (by have := g2.2.2; omega)) (en_some ⟨_, rfl, (g1.weak kp_kt (fun _ h => h)).tr (sm_1 e6 rfl), ms_at e6, rfl, h36, g2.2.2⟩)
    obtain ⟨z, e, y, rfl, hy⟩ := hb
    exact en_of (rl_end (body := fun s => f_X0_reads_b21 s.1 s.2) e) hy
  | succ j ih =>
    intro i f hi hf M h
    obtain ⟨f, rfl⟩ : ∃ j, f = j + 1 := ⟨f - 1, by omega⟩
    refine rd_go (by omega) ?_
    unfold cpart
    have hx0 : (100 : Int32) + nI i ≠ 1 := by
      rw [show (100 : Int32) + nI i = nI (100 + i) from nI_add 100 i]
      show ¬ nI (100 + i) = nI 1
      rw [nI_eq (by omega) (by omega)]; omega
    refine en_bv (en_imp (cf_dem h hx0) ?_)
    rintro M1 ⟨g1, g2⟩
    refine en_bv (en_imp (cf_sum g2) ?_)
    rintro M2 ⟨g3, g4⟩
    refine en_bv (en_imp (cf_dem g4 (by decide)) ?_)
    rintro M3 ⟨g5, g6⟩
    refine en_some (en_imp (ih (i + 1) f (by omega) (by omega) _ (g6.put17 i _)) ?_)
    rintro r ⟨k1, k2, k3, k4, k5⟩
    exact ⟨((((g1.tr g3).tr g5).weak kp_kt (fun _ h => h)).tr (sm_1 rfl (by simp [KPt]))).tr k1, k2, k3, k4, k5⟩
theorem en_rpart {i : Nat} {K : Int32 → Mm → Option (Int32 × Mm)} {P : Int32 × Mm → Prop} (h : En (rpart i M) (fun q => En (K q.1 q.2) P)) : En (bd (f_X6_isWord ((sByt.getD (6 + i + 1) []).getD 0 0) ((sByt.getD (6 + i + 1) []).getD 1 0) ((sByt.getD (6 + i + 1) []).getD 2 0) ((sByt.getD (6 + i + 1) []).getD 3 0) ((sByt.getD (6 + i + 1) []).getD 4 0) ((sByt.getD (6 + i + 1) []).getD 5 0) ((sByt.getD (6 + i + 1) []).getD 6 0) ((sByt.getD (6 + i + 1) []).getD 7 0) M) fun r M1 => bd (f_X6_part r M1) K) P := by
  unfold rpart at h
  cases e : f_X6_isWord ((sByt.getD (6 + i + 1) []).getD 0 0) ((sByt.getD (6 + i + 1) []).getD 1 0) ((sByt.getD (6 + i + 1) []).getD 2 0) ((sByt.getD (6 + i + 1) []).getD 3 0) ((sByt.getD (6 + i + 1) []).getD 4 0) ((sByt.getD (6 + i + 1) []).getD 5 0) ((sByt.getD (6 + i + 1) []).getD 6 0) ((sByt.getD (6 + i + 1) []).getD 7 0) M with
  | none => rw [e] at h; obtain ⟨a, ha, -⟩ := h; cases ha
  | some z =>
    rw [e] at h
    obtain ⟨a, ha, h⟩ := h
    exact en_bd' rfl (en_bd ⟨a, ha, h⟩)
theorem j147_en {w : Nat} (hw : w < 3) {x3 x4 x5 : Int32} {P : Int32 × Mm → Prop} (h : P (if w = 0 then x3 else if w = 1 then x4 else x5, M)) : En (f_X6_read_j147 (nI w) x3 x4 x5 M) P := by
  unfold f_X6_read_j147
  refine en_ite (fun a => en_some ?_) (fun a => en_ite (fun c => en_some ?_) (fun c => en_some ?_))
  · have a : nI w = nI 0 := a
    rw [nI_eq (by omega) (by omega)] at a
    rw [if_pos a] at h; exact h
  · have a : ¬ nI w = nI 0 := a
    have c : nI w = nI 1 := c
    rw [nI_eq (by omega) (by omega)] at a c
    rw [if_neg a, if_pos c] at h; exact h
  · have a : ¬ nI w = nI 0 := a
    have c : ¬ nI w = nI 1 := c
    rw [nI_eq (by omega) (by omega)] at a c
    rw [if_neg a, if_neg c] at h; exact h
theorem j127_bad {w : Nat} (hw : w < 3) (h : Fr q M) (x3 x4 x5 : Int32) : En (f_X6_read_j127 (nI w) x3 x4 x5 M) (fun r => r.2 = M) := by
  unfold f_X6_read_j127
  exact en_f (rf_bad h) (j147_en hw rfl)
theorem j93_bad {w : Nat} (hw : w < 3) (h : Fr q M) (x3 x4 : Int32) : En (f_X6_read_j93 (nI w) x3 x4 M) (fun r => r.2 = M) := by
  unfold f_X6_read_j93
  exact en_f (rf_bad h) (j127_bad hw h _ _ _)
theorem text_good (hB : Byt b n) (hn : n ≤ 160) : ∃ res, TC b n res ∧ TD b n res := by
  -- the class's start
  have cstart : ∀ (M : Mm) (P : Int32 × Mm → Prop), Tp b n M → (∀ M4, Sm KP KA M M4 → Pc b n 0 [] M4 → En (iter (fun s => f_X0_reads_b21 s.1 s.2) fuel (nI 0, M4)) P) → En (f_X0_reads M) P := by
    intro M P hT hgo
    unfold f_X0_reads
    refine en_bmv fun M1 e1 => en_bmv fun M2 e2 => en_bmv fun M3 e3 => ?_
    have hs : Sm KP KA M M3 := ((sm_1 e1 rfl).tr (sm_1 e2 rfl)).tr (sm_1 e3 rfl)
    have hT3 := hT.kp hs
    refine en_bv (en_imp (step_ok (p := 0) hB hT3 (by rw [ms_off e3 (by omega), ms_off e2 (by omega), ms_at e1]; rfl) (Nat.zero_le n)) ?_)
    rintro M4 ⟨g1, g2⟩
    refine hgo M4 (hs.tr (g1.weak ks_kp (fun _ h => h))) ⟨hB, Nat.zero_le n, hT3.ks g1, g2, ?_, ?_, fun i hi => absurd hi (Nat.not_lt_zero i)⟩
    · rw [g1.1 3 6 rfl, ms_at e3]
    · rw [g1.1 3 8 rfl, ms_off e3 (by omega), ms_at e2]; rfl
  -- the reference's start
  have rstart : ∀ (t w : Nat) (M : Mm) (P : Int32 × Mm → Prop), t < 6 → w < 3 → M.1 2 t = nI n → (∀ i, i < n → M.1 1 (160 * t + i) = b i) → (∀ M6, Sm KRt KB M M6 → Pr b n t 0 0 M6 → En (rpart 0 M6) (fun q => En (if (q.2.1 0 28) = 0 then bd (f_X6_isWord (104 : Int32) (117 : Int32) (110 : Int32) (103 : Int32) (101 : Int32) (114 : Int32) (0 : Int32) (0 : Int32) q.2) fun r12 M11 => bd (f_X6_part r12 M11) fun r14 M13 => f_X6_read_j93 (nI w) q.1 r14 M13 else f_X6_read_j93 (nI w) q.1 (0 : Int32) q.2) P)) → En (f_X6_read (nI t) (nI w) M) P := by
    intro t w M P ht hw h2 h1 hgo
    unfold f_X6_read
    refine en_bmv fun M1 e1 => en_gd (bin_nI ht (by omega)) (en_bmv fun M2 e2 => en_bmv fun M3 e3 => en_bmv fun M4 e4 => en_bmv fun M5 e5 => ?_)
    rw [cl_nI (by omega)] at e2
    have hs1 : Sm KRt KB M M2 := (sm_1 e1 rfl).tr (sm_1 e2 rfl)
    have hs2 : Sm KRt KB M2 M5 := ((sm_1 e3 rfl).tr (sm_1 e4 rfl)).tr (sm_1 e5 rfl)
    have hT5 : Tr b n t M5 := by
      refine ⟨?_, ?_, hn, ht, fun i hi => ?_⟩
      · rw [ms_off e5 (by omega), ms_off e4 (by omega), ms_off e3 (by omega), ms_off e2 (by omega), ms_at e1]
        exact pk_mul 160 t
      · rw [ms_off e5 (by omega), ms_off e4 (by omega), ms_off e3 (by omega), ms_at e2, ms_off e1 (by omega), h2]
      · rw [(hs1.tr hs2).1 1 _ rfl, h1 i hi]
    refine en_bv (en_imp (next_ok (p := 0) hB hT5 (by rw [ms_off e5 (by omega), ms_off e4 (by omega), ms_at e3]; rfl) (Nat.zero_le n)) ?_)
    rintro M6 ⟨g1, g2⟩
    refine en_rpart (i := 0) (hgo M6 ((hs1.tr hs2).tr (g1.weak (fun o k h => kn_kr o k (kr_kt o k h)) (fun _ h => h))) ⟨hB, Nat.zero_le n, hT5.kn g1, g2, ?_, ?_⟩)
    · rw [g1.1 0 28 rfl, ms_at e5]
    · rw [g1.1 0 27 rfl, ms_off e5 (by omega), ms_at e4]; rfl
  obtain ⟨res0, f0, c0, r0⟩ := part_good hB hn (Nat.zero_le n) (show 0 < 3 by omega)
  have hff : 4 < fuel := by decide
  cases res0 with
  | inl q =>
    refine ⟨.inl q, fun M hT => ?_, fun t w M ht hw h2 h1 => ?_⟩
    · refine cstart M _ hT fun M4 g1 g2 => ?_
      obtain ⟨f, hfe⟩ : ∃ j, fuel = j + 1 := ⟨fuel - 1, by omega⟩
      rw [hfe]
      refine rd_go (by omega) (en_imp (c0 M4 [] (Nat.zero_le _) g2) ?_)
      rintro M5 ⟨g3, g4⟩
      refine en_imp (rd_bad 2 1 f (by omega) (by omega) _ (g4.put17 0 _)) ?_
      rintro r ⟨k1, k2, k3, k4, k5⟩
      exact ⟨(((g1.tr g3).weak kp_kt (fun _ h => h)).tr (sm_1 rfl rfl)).tr k1, k2, k3, k4, k5⟩
    · refine rstart t w M _ ht hw h2 h1 fun M6 g1 g2 => en_imp (r0 t M6 g2) ?_
      rintro r ⟨g3, g4⟩
      refine en_f (rf_bad g4) (en_imp (j93_bad hw g4 _ _) ?_)
      intro r2 e
      exact ⟨by rw [e]; exact g1.tr (g3.weak kr_kt (fun _ h => h)), by show Fr q r2.2; rw [e]; exact g4⟩
  | inr z =>
    obtain ⟨p1, c1⟩ := z
    obtain ⟨a1, a2, a3⟩ := f0
    have a1 : 0 < p1 := a1
    have a2 : p1 ≤ n := a2
    have a3 : c1.length + 0 ≤ p1 := a3
    obtain ⟨res1, f1, c1', r1⟩ := part_good hB hn a2 (show 1 < 3 by omega)
    -- both behind the first part
    have cone : ∀ (M : Mm) (P : Int32 × Mm → Prop), Tp b n M → (∀ M4 f, 3 < f → Sm KPt KA M M4 → Pc b n p1 c1 M4 → M4.1 17 0 = nI c1.length → En (iter (fun s => f_X0_reads_b21 s.1 s.2) f (nI 1, M4)) P) → En (f_X0_reads M) P := by
      intro M P hT hgo
      refine cstart M _ hT fun M4 g1 g2 => ?_
      obtain ⟨f, hfe⟩ : ∃ j, fuel = j + 1 := ⟨fuel - 1, by omega⟩
      rw [hfe]
      refine rd_go (by omega) (en_imp (c0 M4 [] (Nat.zero_le _) g2) ?_)
      rintro M5 ⟨g3, g4⟩
      have g4 : Pc b n p1 c1 M5 := g4
      exact hgo _ f (by omega) (((g1.tr g3).weak kp_kt (fun _ h => h)).tr (sm_1 rfl rfl)) (g4.put17 0 _) (by rw [ms_at rfl]; exact g4.2.2.2.2.2.1)
    have rone : ∀ (t w : Nat) (M : Mm) (P : Int32 × Mm → Prop), t < 6 → w < 3 → M.1 2 t = nI n → (∀ i, i < n → M.1 1 (160 * t + i) = b i) → (∀ M6 x, Sm KRt KB M M6 → Pr b n t p1 0 M6 → (∀ st, run (nmR M) c1 st = x :: st) → En (rpart 1 M6) (fun q => En (f_X6_read_j93 (nI w) x q.1 q.2) P)) → En (f_X6_read (nI t) (nI w) M) P := by
      intro t w M P ht hw h2 h1 hgo
      refine rstart t w M _ ht hw h2 h1 fun M6 g1 g2 => en_imp (r0 t M6 g2) ?_
      rintro ⟨x, M7⟩ ⟨g3, g4, g5⟩
      have g4 : Pr b n t p1 0 M7 := g4
      refine en_t g4.2.2.2.2.1 (en_rpart (i := 1) (hgo M7 x (g1.tr (g3.weak kr_kt (fun _ h => h))) g4 fun st => ?_))
      have h4 := g5 st
      rw [run_congr (nmR_kt g1)] at h4
      exact h4
    cases res1 with
    | inl q =>
      refine ⟨.inl q, fun M hT => ?_, fun t w M ht hw h2 h1 => ?_⟩
      · refine cone M _ hT fun M4 f hf g1 g2 _ => ?_
        obtain ⟨f, rfl⟩ : ∃ j, f = j + 1 := ⟨f - 1, by omega⟩
        refine rd_go (by omega) (en_imp (c1' M4 c1 (by omega) g2) ?_)
        rintro M5 ⟨g3, g4⟩
        refine en_imp (rd_bad 1 2 f (by omega) (by omega) _ (g4.put17 1 _)) ?_
        rintro r ⟨k1, k2, k3, k4, k5⟩
        exact ⟨((g1.tr (g3.weak kp_kt (fun _ h => h))).tr (sm_1 rfl rfl)).tr k1, k2, k3, k4, k5⟩
      · refine rone t w M _ ht hw h2 h1 fun M6 x g1 g2 gx => en_imp (r1 t M6 g2) ?_
        rintro r ⟨g3, g4⟩
        refine en_imp (j93_bad hw g4 _ _) ?_
        intro r2 e
        exact ⟨by rw [e]; exact g1.tr (g3.weak kr_kt (fun _ h => h)), by show Fr q r2.2; rw [e]; exact g4⟩
    | inr z =>
      obtain ⟨p2, c2⟩ := z
      obtain ⟨b1, b2, b3⟩ := f1
      have b1 : p1 < p2 := b1
      have b2 : p2 ≤ n := b2
      have b3 : c2.length + p1 ≤ p2 := b3
      obtain ⟨res2, f2, c2', r2⟩ := part_good hB hn b2 (show 2 < 3 by omega)
      have hl2 : (c1 ++ c2).length ≤ p2 := by rw [List.length_append]; omega
      have ctwo : ∀ (M : Mm) (P : Int32 × Mm → Prop), Tp b n M → (∀ M4 f, 2 < f → Sm KPt KA M M4 → Pc b n p2 (c1 ++ c2) M4 → M4.1 17 0 = nI c1.length → M4.1 17 1 = nI (c1 ++ c2).length → En (iter (fun s => f_X0_reads_b21 s.1 s.2) f (nI 2, M4)) P) → En (f_X0_reads M) P := by
        intro M P hT hgo
        refine cone M _ hT fun M4 f hf g1 g2 h170 => ?_
        obtain ⟨f, rfl⟩ : ∃ j, f = j + 1 := ⟨f - 1, by omega⟩
        refine rd_go (by omega) (en_imp (c1' M4 c1 (by omega) g2) ?_)
        rintro M5 ⟨g3, g4⟩
        have g4 : Pc b n p2 (c1 ++ c2) M5 := g4
        refine hgo _ f (by omega) ((g1.tr (g3.weak kp_kt (fun _ h => h))).tr (sm_1 rfl rfl)) (g4.put17 1 _) ?_ (by rw [ms_at rfl]; exact g4.2.2.2.2.2.1)
        rw [ms_off rfl (by omega), g3.1 17 0 rfl, h170]
      have rtwo : ∀ (t w : Nat) (M : Mm) (P : Int32 × Mm → Prop), t < 6 → w < 3 → M.1 2 t = nI n → (∀ i, i < n → M.1 1 (160 * t + i) = b i) → (∀ M6 x y, Sm KRt KB M M6 → Pr b n t p2 0 M6 → (∀ st, run (nmR M) c1 st = x :: st) → (∀ st, run (nmR M) c2 st = y :: st) → En (rpart 2 M6) (fun q => En (f_X6_read_j127 (nI w) x y q.1 q.2) P)) → En (f_X6_read (nI t) (nI w) M) P := by
        intro t w M P ht hw h2 h1 hgo
        refine rone t w M _ ht hw h2 h1 fun M6 x g1 g2 gx => en_imp (r1 t M6 g2) ?_
        rintro ⟨y, M7⟩ ⟨g3, g4, g5⟩
        have g4 : Pr b n t p2 0 M7 := g4
        unfold f_X6_read_j93
        refine en_t g4.2.2.2.2.1 (en_rpart (i := 2) (hgo M7 x y (g1.tr (g3.weak kr_kt (fun _ h => h))) g4 gx fun st => ?_))
        have h4 := g5 st
        rw [run_congr (nmR_kt g1)] at h4
        exact h4
      cases res2 with
      | inl q =>
        refine ⟨.inl q, fun M hT => ?_, fun t w M ht hw h2 h1 => ?_⟩
        · refine ctwo M _ hT fun M4 f hf g1 g2 _ _ => ?_
          obtain ⟨f, rfl⟩ : ∃ j, f = j + 1 := ⟨f - 1, by omega⟩
          refine rd_go (by omega) (en_imp (c2' M4 _ hl2 g2) ?_)
          rintro M5 ⟨g3, g4⟩
          refine en_imp (rd_bad 0 3 f (by omega) (by omega) _ (g4.put17 2 _)) ?_
          rintro r ⟨k1, k2, k3, k4, k5⟩
          exact ⟨((g1.tr (g3.weak kp_kt (fun _ h => h))).tr (sm_1 rfl rfl)).tr k1, k2, k3, k4, k5⟩
        · refine rtwo t w M _ ht hw h2 h1 fun M6 x y g1 g2 gx gy => en_imp (r2 t M6 g2) ?_
          rintro r ⟨g3, g4⟩
          refine en_imp (j127_bad hw g4 _ _ _) ?_
          intro r2 e
          exact ⟨by rw [e]; exact g1.tr (g3.weak kr_kt (fun _ h => h)), by show Fr q r2.2; rw [e]; exact g4⟩
      | inr z =>
        obtain ⟨p3, c3⟩ := z
        obtain ⟨d1, d2, d3⟩ := f2
        have d1 : p2 < p3 := d1
        have d2 : p3 ≤ n := d2
        have d3 : c3.length + p2 ≤ p3 := d3
        have hl3 : (c1 ++ c2 ++ c3).length ≤ p3 := by rw [List.length_append]; omega
        have cthr : ∀ (M : Mm) (P : Int32 × Mm → Prop), Tp b n M → (∀ M4, Sm KPt KA M M4 → Pc b n p3 (c1 ++ c2 ++ c3) M4 → M4.1 17 0 = nI c1.length → M4.1 17 1 = nI (c1 ++ c2).length → M4.1 17 2 = nI (c1 ++ c2 ++ c3).length → En (bv (f_X0_demand (0 : Int32) M4) fun M5 => bm (ms M5 3 1 (0 : Int32)) fun M6 => if (M6.1 3 6) = (-1 : Int32) then some ((1 : Int32), M6) else some (0, M6)) P) → En (f_X0_reads M) P := by
          intro M P hT hgo
          refine ctwo M _ hT fun M4 f hf g1 g2 h170 h171 => ?_
          obtain ⟨f, rfl⟩ : ∃ j, f = j + 2 := ⟨f - 2, by omega⟩
          refine rd_go (by omega) (en_imp (c2' M4 _ hl2 g2) ?_)
          rintro M5 ⟨g3, g4⟩
          have g4 : Pc b n p3 (c1 ++ c2 ++ c3) M5 := g4
          have h9 := hgo (ms M5 17 2 (M5.1 3 8)) ((g1.tr (g3.weak kp_kt (fun _ h => h))).tr (sm_1 rfl rfl)) (g4.put17 2 _) (by rw [ms_off rfl (by omega), g3.1 17 0 rfl, h170]) (by rw [ms_off rfl (by omega), g3.1 17 1 rfl, h171]) (by rw [ms_at rfl]; exact g4.2.2.2.2.2.1)
          obtain ⟨y, ey, hy⟩ := h9
          refine en_of (rl_end (body := fun s => f_X0_reads_b21 s.1 s.2) (y := y) ?_) hy
          refine en_eq ?_
          show En (f_X0_reads_b21 (nI 3) _) _
          unfold f_X0_reads_b21
          exact en_t (by decide) (en_ex (en_of ey rfl))
        have rthr : ∀ (t w : Nat) (M : Mm) (P : Int32 × Mm → Prop), t < 6 → w < 3 → M.1 2 t = nI n → (∀ i, i < n → M.1 1 (160 * t + i) = b i) → (∀ M6 x y z, Sm KRt KB M M6 → Pr b n t p3 0 M6 → (∀ st, run (nmR M) c1 st = x :: st) → (∀ st, run (nmR M) c2 st = y :: st) → (∀ st, run (nmR M) c3 st = z :: st) → En (f_X6_read_j127 (nI w) x y z M6) P) → En (f_X6_read (nI t) (nI w) M) P := by
          intro t w M P ht hw h2 h1 hgo
          refine rtwo t w M _ ht hw h2 h1 fun M6 x y g1 g2 gx gy => en_imp (r2 t M6 g2) ?_
          rintro ⟨z, M7⟩ ⟨g3, g4, g5⟩
          have g4 : Pr b n t p3 0 M7 := g4
          refine hgo M7 x y z (g1.tr (g3.weak kr_kt (fun _ h => h))) g4 gx gy fun st => ?_
          have h4 := g5 st
          rw [run_congr (nmR_kt g1)] at h4
          exact h4
        by_cases he : ltk b n p3 = 0
        · refine ⟨.inr (c1, c2, c3), fun M hT => ?_, fun t w M ht hw h2 h1 => ?_⟩
          · refine cthr M _ hT fun M4 g1 g2 h170 h171 h172 => ?_
            obtain ⟨hB, hp, hT4, hL, h6, hc⟩ := g2
            have hm : bat b n (lat b n p3) = -1 := by
              refine Classical.not_not.mp fun z => ?_
              have hlt : lat b n p3 < n := by
                rcases Nat.lt_or_ge (lat b n p3) n with q | q
                · exact q
                · exact absurd (bat_out q) z
              by_cases hl : Le (bat b n (lat b n p3)) = true
              · exact ltk_nsg hl (Or.inr (Or.inl rfl)) he
              · rw [ltk, if_neg z, if_neg hl] at he
                split at he
                · split at he <;> exact absurd he (by decide)
                · split at he
                  · next q => rw [he] at q; exact absurd q (by decide)
                  · exact absurd he (by decide)
            have hx : lnx b n p3 ≤ n := by rw [lnx, if_pos hm]; exact lat_le hp
            unfold f_X0_demand
            refine en_bv (en_t (by rw [hL.1]; exact he) (en_bv (en_imp (step_ok hB hT4 hL.2.2.1 hx) ?_)))
            rintro M5 ⟨g3, g4⟩
            refine en_some (en_bmv fun M6 e6 => ?_)
            have h66 : M6.1 3 6 = -1 := by rw [ms_off e6 (by omega), g3.1 3 6 rfl, h6]
            refine en_t h66 (en_some ⟨(g1.tr (g3.weak (fun o k h => ks_kp o k (kp_kt o k h)) (fun _ h => h))).tr (sm_1 e6 rfl), ms_at e6, rfl, ?_, fun i hi => ?_, ?_, ?_, ?_⟩)
            · show (c1 ++ (c2, c3).1 ++ (c2, c3).2).length ≤ 160
              exact Nat.le_trans hl3 (by omega)
            · show M6.1 16 i = _
              rw [ms_off e6 (by omega), g3.1 16 i rfl]
              exact hc.2 i hi
            · show M6.1 17 0 = _
              rw [ms_off e6 (by omega), g3.1 17 0 rfl, h170]
            · show M6.1 17 1 = _
              rw [ms_off e6 (by omega), g3.1 17 1 rfl, h171]
            · show M6.1 17 2 = _
              rw [ms_off e6 (by omega), g3.1 17 2 rfl, h172]
          · refine rthr t w M _ ht hw h2 h1 fun M6 x y z g1 g2 gx gy gz => ?_
            unfold f_X6_read_j127
            refine en_t g2.2.2.2.2.1 (en_t (g2.2.2.2.1.end.mpr he) (j147_en hw ⟨g1, g2.2.2.2.2.1, fun st => ?_⟩))
            show run (nmR M) (cwh w (c1, c2, c3)) st = (if w = 0 then x else if w = 1 then y else z) :: st
            unfold cwh
            by_cases w0 : w = 0
            · rw [if_pos w0, if_pos w0]; exact gx st
            · rw [if_neg w0, if_neg w0]
              by_cases w1 : w = 1
              · rw [if_pos w1, if_pos w1]; exact gy st
              · rw [if_neg w1, if_neg w1]; exact gz st
        · refine ⟨.inl (lat b n p3), fun M hT => ?_, fun t w M ht hw h2 h1 => ?_⟩
          · refine cthr M _ hT fun M4 g1 g2 h170 h171 h172 => ?_
            refine en_bv (en_imp (p_demno g2 he) ?_)
            rintro M5 ⟨g3, g4⟩
            refine en_bmv fun M6 e6 => ?_
            have h66 : M6.1 3 6 = nI (lat b n p3) := by rw [ms_off e6 (by omega), g4.2.1]
            have h160 := g4.2.2
            exact en_f (by rw [h66]; exact nI_m1 (by omega)) (en_some ⟨(g1.tr (g3.weak kp_kt (fun _ h => h))).tr (sm_1 e6 rfl), ms_at e6, rfl, h66, h160⟩)
          · refine rthr t w M _ ht hw h2 h1 fun M6 x y z g1 g2 gx gy gz => ?_
            unfold f_X6_read_j127
            refine en_t g2.2.2.2.2.1 (en_f (fun h => he (g2.2.2.2.1.end.mp h)) (en_bv (en_imp (r_fail g2) ?_)))
            rintro M7 ⟨g3, g4⟩
            exact j147_en hw ⟨g1.tr (g3.weak kr_kt (fun _ h => h)), g4⟩
end TEXG
