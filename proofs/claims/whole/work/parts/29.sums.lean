/-! ===== whole sums ===== -/
section SUMS
variable {b : Nat → Int32} {n t p op q : Nat} {cs : List Int32} {M : Mm}
theorem level_good {lv : Nat} (hv : lvs lv) (hB : Byt b n) (hn : n ≤ 160) (hp : p ≤ n) (h1 : GL b n (lv + 1) op p) (ih : ∀ p', p < p' → p' ≤ n → GL b n (lv + 1) op p') : GL b n lv op p := by
  have hlv : lv ≤ 4 := by rcases hv with rfl | rfl | rfl | rfl <;> omega
  have hl2 : lv ≠ 2 := by rcases hv with rfl | rfl | rfl | rfl <;> omega
  have hfu := fuel_gt
  obtain ⟨res, hf, hc, hr⟩ := h1
  have cstart : ∀ (k : Nat), 7 * (5 - op) + (7 - (lv + 1)) ≤ k → ∀ (M : Mm) (cs : List Int32) (P : Mm → Prop), cs.length ≤ p → Pc b n p cs M → (∀ M1, CPo b n cs M res M1 → En (iter (fun s => f_X0_reckon_b79 (R_X0_reckon k).1 (R_X0_reckon k).2 (nI lv) (nI op) 160 s.1 s.2) fuel (nI 0, M1)) P) → En (f_X0_reckon (R_X0_reckon k).1 (R_X0_reckon k).2 (nI lv) (nI op) M) P := by
    intro k hk M cs P hl hP hgo
    have hj : En (f_X0_reckon_j55 (R_X0_reckon k).1 (R_X0_reckon k).2 (nI lv) (nI op) M) P := by
      unfold f_X0_reckon_j55
      rw [show nI lv + 1 = nI (lv + 1) from nI_add lv 1]
      refine en_bv (en_imp (hc k hk M cs hl hP) ?_)
      intro M1 h
      refine en_f (by show ¬ nI lv = nI 2; rw [nI_eq (by omega) (by omega)]; exact hl2) ?_
      exact hgo M1 h
    unfold f_X0_reckon
    refine en_t (by show nI lv < nI 5; rw [nI_ltI (by omega) (by omega)]; omega) (en_f (by show ¬ nI lv = nI 2; rw [nI_eq (by omega) (by omega)]; exact hl2) hj)
  have rstart : ∀ (k : Nat), 7 * (5 - op) + (7 - (lv + 1)) ≤ k → ∀ (t : Nat) (M : Mm) (P : Int32 × Mm → Prop), Pr b n t p op M → (∀ r, RPo b n t op M [] res r → En (iter (fun s => rB lv k s.1 s.2) fuel (r.1, r.2)) P) → En (rF lv (k + 1) M) P := by
    intro k hk t M P hP hgo
    have e : rF lv (k + 1) M = bd (rF (lv + 1) k M) fun r M1 => iter (fun s => rB lv k s.1 s.2) fuel (r, M1) := by
      rcases hv with rfl | rfl | rfl | rfl <;> rfl
    rw [e]
    exact en_bd (en_imp (hr k hk t M hP) fun r h => hgo r h)
  cases res with
  | inl q =>
    refine ⟨.inl q, trivial, fun k hk M cs hl hP => ?_, fun k hk t M hP => ?_⟩
    · obtain ⟨k, rfl⟩ : ∃ j, k = j + 1 := ⟨k - 1, by omega⟩
      refine cstart k (by omega) M cs _ hl hP ?_
      rintro M1 ⟨g1, g2⟩
      obtain ⟨f, hfe⟩ : ∃ j, fuel = j + 1 := ⟨fuel - 1, by omega⟩
      rw [hfe]
      refine en_of (cl_end (Or.inr ?_)) ⟨g1, g2⟩
      rw [g2.1]
      intro z
      exact (lv_tok hlv z).2 rfl
    · obtain ⟨k, rfl⟩ : ∃ j, k = j + 1 := ⟨k - 1, by omega⟩
      refine rstart k (by omega) t M _ hP ?_
      rintro r ⟨g1, g2⟩
      obtain ⟨f, hfe⟩ : ∃ j, fuel = j + 1 := ⟨fuel - 1, by omega⟩
      rw [hfe]
      exact en_of (rl_end (rB_bad hv g2 _)) ⟨g1, g2⟩
  | inr z =>
    obtain ⟨p1, c1⟩ := z
    obtain ⟨f1, f2, f3⟩ := hf
    have f1 : p < p1 := f1
    have f2 : p1 ≤ n := f2
    have f3 : c1.length + p ≤ p1 := f3
    obtain ⟨res2, h21, h22, h23⟩ := loop_good (op := op) hv hB hn _ p1 (Nat.le_refl _) f2 (fun p' q1 q2 => ih p' (by omega) q2)
    have cgo : ∀ (R : Res), (∀ cs M0 M1, Sm KP KA M0 M1 → ∀ M2, CPo b n (cs ++ c1) M1 res2 M2 → CPo b n cs M0 R M2) → ∀ k, 7 * (5 - op) + (7 - lv) ≤ k → CD b n p R ((fun k => (R_X0_reckon k).1 (nI lv) (nI op)) k) := by
      intro R hR k hk M cs hl hP
      obtain ⟨k, rfl⟩ : ∃ j, k = j + 1 := ⟨k - 1, by omega⟩
      refine cstart k (by omega) M cs _ hl hP ?_
      rintro M1 ⟨g1, g2⟩
      refine en_imp (h22 k (by omega) fuel 0 (by omega) (by omega) M1 _ ?_ g2) (hR cs M M1 g1)
      rw [List.length_append]
      show cs.length + c1.length ≤ p1
      omega
    have rgo : ∀ (R : Res), (∀ t M0 M1 M2 v, Sm KR KB M0 M1 → (∀ st, run (nmR M0) c1 st = v :: st) → RPo b n t op M1 [v] res2 M2 → RPo b n t op M0 [] R M2) → ∀ k, 7 * (5 - op) + (7 - lv) ≤ k → RD b n p op R (rF lv k) := by
      intro R hR k hk t M hP
      obtain ⟨k, rfl⟩ : ∃ j, k = j + 1 := ⟨k - 1, by omega⟩
      refine rstart k (by omega) t M _ hP ?_
      rintro r ⟨g1, g2, g3⟩
      exact en_imp (h23 k (by omega) fuel (by omega) t r.2 r.1 g2) fun r2 h2 => hR t M r.2 r2 r.1 g1 g3 h2
    cases res2 with
    | inl q =>
      refine ⟨.inl q, trivial, cgo _ ?_, rgo _ ?_⟩
      · rintro cs M0 M1 h1 M2 ⟨g1, g2⟩
        exact ⟨h1.tr g1, g2⟩
      · rintro t M0 M1 r v h1 h2 ⟨g1, g2⟩
        exact ⟨h1.tr g1, g2⟩
    | inr z =>
      obtain ⟨p3, c3⟩ := z
      obtain ⟨e1, e2, e3⟩ := h21 _ rfl
      have e1 : p1 ≤ p3 := e1
      have e2 : p3 ≤ n := e2
      have e3 : c3.length + p1 ≤ p3 := e3
      refine ⟨.inr (p3, c1 ++ c3), ⟨by show p < p3; omega, e2, ?_⟩, cgo _ ?_, rgo _ ?_⟩
      · show (c1 ++ c3).length + p ≤ p3
        rw [List.length_append]
        omega
      · rintro cs M0 M1 h1 M2 ⟨g1, g2⟩
        refine ⟨h1.tr g1, ?_⟩
        show Pc b n p3 (cs ++ (c1 ++ c3)) M2
        rw [← List.append_assoc]
        exact g2
      · rintro t M0 M1 r v h1 h2 ⟨g1, g2, g3⟩
        refine ⟨h1.tr g1, g2, fun st => ?_⟩
        show run (nmR M0) (c1 ++ c3) ([] ++ st) = r.1 :: st
        rw [run_app]
        have h3 := h2 st
        show run (nmR M0) c3 (run (nmR M0) c1 st) = r.1 :: st
        rw [h3]
        have h4 := g3 st
        rw [run_congr (nmR_kr h1)] at h4
        exact h4
theorem five_good (h : GA b n op p) : GL b n 5 op p := by
  obtain ⟨res, hf, hc, hr⟩ := h
  refine ⟨res, hf, fun k hk M cs hl hP => ?_, fun k hk => hr k (by omega)⟩
  obtain ⟨k, rfl⟩ : ∃ j, k = j + 1 := ⟨k - 1, by omega⟩
  show En (f_X0_reckon (R_X0_reckon k).1 (R_X0_reckon k).2 (nI 5) (nI op) M) _
  unfold f_X0_reckon
  exact en_f (by decide) (en_bv (en_imp (hc k (by omega) M cs hl hP) fun M1 h => en_some h))
/-- comparing, and not -/
theorem two_good (hB : Byt b n) (hn : n ≤ 160) (hp : p ≤ n) (hop : op ≤ 5) (h1 : GL b n 3 op p) (ih3 : ∀ p', p < p' → p' ≤ n → GL b n 3 op p') (ih2 : ∀ p', p < p' → p' ≤ n → op < 5 → GL b n 2 (op + 1) p') : GL b n 2 op p := by
  have hfu := fuel_gt
  by_cases hnot : ltk b n p = 105
  · have h0 : ltk b n p ≠ 0 := by rw [hnot]; decide
    have h1 : ltk b n p ≠ 1 := by rw [hnot]; decide
    have hx := lnx_gt hp h0
    have hnot' : ltk b n p = nI (94 + 11) := hnot
    by_cases h5 : op < 5
    · obtain ⟨res, hf, hc, hr⟩ := ih2 _ hx.1 hx.2 h5
      have cpart : ∀ (k : Nat), 7 * (5 - op) + (7 - 2) ≤ k + 1 → ∀ (M : Mm) (cs : List Int32) (R : Res), cs.length ≤ p → Pc b n p cs M → (∀ M1 M2, Sm KP KA M M1 → CPo b n cs M1 res M2 → En (f_X0_put 20105 M2) (CPo b n cs M R)) → En (f_X0_reckon (R_X0_reckon k).1 (R_X0_reckon k).2 (nI 2) (nI op) M) (CPo b n cs M R) := by
        intro k hk M cs R hl hP hgo
        unfold f_X0_reckon
        have hL := hP.2.2.2.1
        refine en_t (by decide) (en_t rfl (en_t (by rw [hL.1, hnot]) (en_t (by show nI op < nI 5; rw [nI_ltI (by omega) (by omega)]; omega) ?_)))
        refine en_bv (en_imp (p_step hP h0) ?_)
        rintro M1 ⟨g1, g2⟩
        refine en_bv ?_
        rw [show nI op + 1 = nI (op + 1) from nI_add op 1]
        refine en_imp (hc k (by omega) M1 cs (by omega) g2) ?_
        intro M2 h
        exact en_bv (en_imp (hgo M1 M2 g1 h) fun M3 h3 => en_some h3)
      have rpart : ∀ (k : Nat), 7 * (5 - op) + (7 - 2) ≤ k + 1 → ∀ (t : Nat) (M : Mm) (P : Int32 × Mm → Prop), Pr b n t p op M → (∀ M1 r, Sm KR KB M M1 → RPo b n t (op + 1) M1 [] res r → P (tn 20105 r.1, ms r.2 0 27 ((r.2.1 0 27) - 1))) → En (f_X6_not (R_X6_either k).1 (R_X6_either k).2.1 (R_X6_either k).2.2.1 (R_X6_either k).2.2.2.1 (R_X6_either k).2.2.2.2.1 (R_X6_either k).2.2.2.2.2 M) P := by
        intro k hk t M P hP hgo
        unfold f_X6_not
        obtain ⟨hB, hp, hT, hL, h28, h27⟩ := hP
        have hP : Pr b n t p op M := ⟨hB, hp, hT, hL, h28, h27⟩
        refine en_bd' (rkey_eq hB hT hp hL h28 (w := 11) (by omega) (by omega)) (en_f (fun z => if10.mp z hnot') (en_bd (en_imp (r_opens hP h5 h0 h1) ?_)))
        rintro ⟨r1, M1⟩ ⟨g1, g2, g3⟩
        have g1 : r1 = 1 := g1
        subst g1
        refine en_f (show ¬ (1 : Int32) = 0 by decide) (en_bd ?_)
        refine en_imp (hr k (by omega) t M1 g3) ?_
        rintro ⟨r2, M2⟩ h
        have h9 := hgo M1 (r2, M2) g2 h
        refine en_bm (en_ite (fun a => en_some ?_) (fun a => en_some ?_))
        · have a : r2 = 0 := a
          have e : tn 20105 r2 = 1 := by rw [tn, if_neg (by decide), if_pos a]
          have h9 : P (tn 20105 r2, _) := h9
          rw [e] at h9; exact h9
        · have a : ¬ r2 = 0 := a
          have e : tn 20105 r2 = 0 := by rw [tn, if_neg (by decide), if_neg a]
          have h9 : P (tn 20105 r2, _) := h9
          rw [e] at h9; exact h9
      cases res with
      | inl q =>
        refine ⟨.inl q, trivial, fun k hk M cs hl hP => ?_, fun k hk t M hP => ?_⟩
        · obtain ⟨k, rfl⟩ : ∃ j, k = j + 1 := ⟨k - 1, by omega⟩
          refine cpart k hk M cs _ hl hP fun M1 M2 h1 h2 => en_imp (cf_put h2.2 _) ?_
          rintro M3 ⟨g1, g2⟩
          exact ⟨(h1.tr h2.1).tr g1, g2⟩
        · obtain ⟨k, rfl⟩ : ∃ j, k = j + 1 := ⟨k - 1, by omega⟩
          refine rpart k hk t M _ hP fun M1 r h1 h2 => ?_
          have h3 := rf_close h2.2
          exact ⟨(h1.tr h2.1).tr h3.1, h3.2⟩
      | inr z =>
        obtain ⟨p2, c⟩ := z
        obtain ⟨f1, f2, f3⟩ := hf
        have f1 : lnx b n p < p2 := f1
        have f2 : p2 ≤ n := f2
        have f3 : c.length + lnx b n p ≤ p2 := f3
        refine ⟨.inr (p2, c ++ [20105]), ⟨by show p < p2; omega, f2, ?_⟩, fun k hk M cs hl hP => ?_, fun k hk t M hP => ?_⟩
        · show (c ++ [20105]).length + p ≤ p2
          rw [List.length_append]
          show c.length + 1 + p ≤ p2
          omega
        · obtain ⟨k, rfl⟩ : ∃ j, k = j + 1 := ⟨k - 1, by omega⟩
          refine cpart k hk M cs _ hl hP fun M1 M2 h1 h2 => en_imp (p_put h2.2 ?_ _) ?_
          · show (cs ++ c).length < 160
            rw [List.length_append]; omega
          rintro M3 ⟨g1, g2⟩
          refine ⟨(h1.tr h2.1).tr g1, ?_⟩
          show Pc b n p2 (cs ++ (c ++ [20105])) M3
          rw [← List.append_assoc]; exact g2
        · obtain ⟨k, rfl⟩ : ∃ j, k = j + 1 := ⟨k - 1, by omega⟩
          refine rpart k hk t M _ hP fun M1 r h1 h2 => ?_
          have h3 := r_close h2.2.1
          refine ⟨(h1.tr h2.1).tr h3.1, h3.2, fun st => ?_⟩
          show run (nmR M) (c ++ [20105]) ([] ++ st) = tn 20105 r.1 :: st
          rw [run_app]
          have h4 := h2.2.2 st
          rw [run_congr (nmR_kr h1)] at h4
          have h4 : run (nmR M) c ([] ++ st) = r.1 :: st := h4
          rw [h4]
          exact run_un (Or.inr rfl) r.1 st
    · have e5 : op = 5 := by omega
      subst e5
      refine ⟨.inl (lat b n p), trivial, fun k hk M cs hl hP => ?_, fun k hk t M hP => ?_⟩
      · obtain ⟨k, rfl⟩ : ∃ j, k = j + 1 := ⟨k - 1, by omega⟩
        show En (f_X0_reckon (R_X0_reckon k).1 (R_X0_reckon k).2 (nI 2) (nI 5) M) _
        unfold f_X0_reckon
        have hL := hP.2.2.2.1
        exact en_t (by decide) (en_t rfl (en_t (by rw [hL.1, hnot]) (en_f (by decide) (en_bv (en_imp (p_brk hP) fun M1 h => en_some h)))))
      · obtain ⟨k, rfl⟩ : ∃ j, k = j + 1 := ⟨k - 1, by omega⟩
        show En (f_X6_not (R_X6_either k).1 (R_X6_either k).2.1 (R_X6_either k).2.2.1 (R_X6_either k).2.2.2.1 (R_X6_either k).2.2.2.2.1 (R_X6_either k).2.2.2.2.2 M) _
        unfold f_X6_not
        obtain ⟨hB, hp, hT, hL, h28, h27⟩ := hP
        have hP : Pr b n t p 5 M := ⟨hB, hp, hT, hL, h28, h27⟩
        refine en_bd' (rkey_eq hB hT hp hL h28 (w := 11) (by omega) (by omega)) (en_f (fun z => if10.mp z hnot') (en_bd (en_imp (r_opens5 hP) ?_)))
        rintro ⟨r1, M1⟩ ⟨g1, g2, g3⟩
        exact en_t g1 (en_some ⟨g2, g3⟩)
  · have hnot' : ¬ ltk b n p = nI (94 + 11) := hnot
    obtain ⟨res, hf, hc, hr⟩ := h1
    have cstart : ∀ (k : Nat), 7 * (5 - op) + (7 - 3) ≤ k → ∀ (M : Mm) (cs : List Int32) (P : Mm → Prop), cs.length ≤ p → Pc b n p cs M → (∀ M1, CPo b n cs M res M1 → En (iter (fun s => f_X0_reckon_b79 (R_X0_reckon k).1 (R_X0_reckon k).2 (nI 2) (nI op) 1 s.1 s.2) fuel (nI 0, M1)) P) → En (f_X0_reckon (R_X0_reckon k).1 (R_X0_reckon k).2 (nI 2) (nI op) M) P := by
      intro k hk M cs P hl hP hgo
      unfold f_X0_reckon f_X0_reckon_j55 f_X0_reckon_j75
      refine en_t (by decide) (en_t rfl (en_f (by rw [hP.2.2.2.1.1]; exact hnot) ?_))
      rw [show nI 2 + 1 = nI 3 from rfl]
      refine en_bv (en_imp (hc k hk M cs hl hP) ?_)
      intro M1 h
      exact en_t rfl (hgo M1 h)
    have rstart : ∀ (k : Nat), 7 * (5 - op) + (7 - 3) ≤ k → ∀ (t : Nat) (M : Mm) (P : Int32 × Mm → Prop), Pr b n t p op M → (∀ r, RPo b n t op M [] res r → En (bd (f_X6_isSign (60 : Int32) r.2) fun r6 M5 => if r6 = 0 then bd (f_X6_isSign (61 : Int32) M5) fun r11 M10 => if r11 = 0 then some (r.1, M10) else f_X6_not_j77 (R_X6_either k).1 (R_X6_either k).2.1 (R_X6_either k).2.2.1 (R_X6_either k).2.2.2.1 (R_X6_either k).2.2.2.2.1 (R_X6_either k).2.2.2.2.2 r.1 M10 else f_X6_not_j77 (R_X6_either k).1 (R_X6_either k).2.1 (R_X6_either k).2.2.1 (R_X6_either k).2.2.2.1 (R_X6_either k).2.2.2.2.1 (R_X6_either k).2.2.2.2.2 r.1 M5) P) → En (f_X6_not (R_X6_either k).1 (R_X6_either k).2.1 (R_X6_either k).2.2.1 (R_X6_either k).2.2.2.1 (R_X6_either k).2.2.2.2.1 (R_X6_either k).2.2.2.2.2 M) P := by
      intro k hk t M P hP hgo
      unfold f_X6_not
      obtain ⟨hB, hp, hT, hL, h28, h27⟩ := hP
      have hP : Pr b n t p op M := ⟨hB, hp, hT, hL, h28, h27⟩
      refine en_bd' (rkey_eq hB hT hp hL h28 (w := 11) (by omega) (by omega)) (en_t (if10.mpr hnot') ?_)
      exact en_bd (en_imp (hr k hk t M hP) fun r h => hgo r h)
    cases res with
    | inl q =>
      refine ⟨.inl q, trivial, fun k hk M cs hl hP => ?_, fun k hk t M hP => ?_⟩
      · obtain ⟨k, rfl⟩ : ∃ j, k = j + 1 := ⟨k - 1, by omega⟩
        refine cstart k (by omega) M cs _ hl hP ?_
        rintro M1 ⟨g1, g2⟩
        obtain ⟨f, hfe⟩ : ∃ j, fuel = j + 1 := ⟨fuel - 1, by omega⟩
        rw [hfe]
        refine en_of (cl_end (Or.inr ?_)) ⟨g1, g2⟩
        rw [g2.1]
        decide
      · obtain ⟨k, rfl⟩ : ∃ j, k = j + 1 := ⟨k - 1, by omega⟩
        refine rstart k (by omega) t M _ hP ?_
        rintro r ⟨g1, g2⟩
        exact en_bd' (rf_sign g2 _) (en_t rfl (en_bd' (rf_sign g2 _) (en_t rfl (en_some ⟨g1, g2⟩))))
    | inr z =>
      obtain ⟨p1, c1⟩ := z
      obtain ⟨f1, f2, f3⟩ := hf
      have f1 : p < p1 := f1
      have f2 : p1 ≤ n := f2
      have f3 : c1.length + p ≤ p1 := f3
      by_cases ho : lvI (ltk b n p1) = nI 2
      · obtain ⟨h0, h1⟩ := lv_tok (by omega) ho
        have hx := lnx_gt f2 h0
        obtain ⟨res2, hf2, hc2, hr2⟩ := ih3 _ (by omega : p < lnx b n p1) hx.2
        have cgo : ∀ (R : Res), (∀ cs M0 M1, Sm KP KA M0 M1 → ∀ M2, (cs ++ c1).length ≤ p1 → CPo b n (cs ++ c1) M1 res2 M2 → En (f_X0_put (20000 + ltk b n p1) M2) (CPo b n cs M0 R)) → ∀ k, 7 * (5 - op) + (7 - 2) ≤ k → CD b n p R ((fun k => (R_X0_reckon k).1 (nI 2) (nI op)) k) := by
          intro R hR k hk M cs hl hP
          obtain ⟨k, rfl⟩ : ∃ j, k = j + 1 := ⟨k - 1, by omega⟩
          refine cstart k (by omega) M cs _ hl hP ?_
          rintro M1 ⟨g1, g2⟩
          have g2 : Pc b n p1 (cs ++ c1) M1 := g2
          obtain ⟨f, hfe⟩ : ∃ j, fuel = j + 1 := ⟨fuel - 1, by omega⟩
          rw [hfe]
          have hlen : (cs ++ c1).length ≤ p1 := by rw [List.length_append]; omega
          refine cl_go (by decide) (by rw [g2.2.2.2.1.1]; exact ho) ?_
          refine en_imp (p_step g2 h0) ?_
          rintro M5 ⟨g3, g4⟩
          rw [show nI 2 + 1 = nI 3 from rfl]
          refine en_imp (hc2 k (by omega) M5 _ (by omega) g4) ?_
          intro M6 h6
          rw [g2.2.2.2.1.1]
          refine en_imp (hR cs M M5 (g1.tr g3) M6 hlen h6) ?_
          intro M7 h7
          obtain ⟨f2, hfe2⟩ : ∃ j, f = j + 1 := ⟨f - 1, by omega⟩
          rw [hfe2]
          exact en_of (cl_end (Or.inl (by decide))) h7
        have rgo : ∀ (R : Res), (∀ t M0 M1 r2 v, Sm KR KB M0 M1 → (∀ st, run (nmR M0) c1 st = v :: st) → RPo b n t op M1 [] res2 r2 → RPo b n t op M0 [] R (jn (ltk b n p1) v r2.1, r2.2)) → ∀ k, 7 * (5 - op) + (7 - 2) ≤ k → RD b n p op R (rF 2 k) := by
          intro R hR k hk t M hP
          obtain ⟨k, rfl⟩ : ∃ j, k = j + 1 := ⟨k - 1, by omega⟩
          refine rstart k (by omega) t M _ hP ?_
          rintro ⟨v, M1⟩ ⟨g1, g2, g3⟩
          have g1 : Sm KR KB M M1 := g1
          have g2 : Pr b n t p1 op M1 := g2
          have hL := g2.2.2.2.1
          have h28 := g2.2.2.2.2.1
          have fin : ∀ (s0 : Int32), (∀ r : Int32, jn (ltk b n p1) v r = if s0 = 0 then (if v = r then 1 else 0) else (if r ≤ v then 0 else 1)) → En (f_X6_not_j93 (R_X6_either k).1 (R_X6_either k).2.1 (R_X6_either k).2.2.1 (R_X6_either k).2.2.2.1 (R_X6_either k).2.2.2.2.1 (R_X6_either k).2.2.2.2.2 v s0 M1) (RPo b n t op M [] R) := by
            intro s0 hj
            unfold f_X6_not_j93
            refine en_bv (en_imp (r_next g2 h0 h1) ?_)
            rintro M5 ⟨g3', g4⟩
            refine en_bd (en_imp (hr2 k (by omega) t M5 g4) ?_)
            intro r2 h2
            have h9 := hR t M M5 r2 v (g1.tr g3') g3 h2
            rw [hj] at h9
            refine en_ite (fun a => en_ite (fun c => en_some ?_) (fun c => en_some ?_)) (fun a => en_ite (fun c => en_some ?_) (fun c => en_some ?_))
            · rw [if_pos a, if_pos c] at h9; exact h9
            · rw [if_pos a, if_neg c] at h9; exact h9
            · rw [if_neg a, if_pos c] at h9; exact h9
            · rw [if_neg a, if_neg c] at h9; exact h9
          rcases lv_2.mp ho with e | e
          · refine en_bd' (rsg_eq hL h28 rfl) (en_f (fun z => if10.mp z e) ?_)
            unfold f_X6_not_j77
            have hlg := g2.long (s := 60) rfl e
            refine en_t (by rw [hlg]; decide) (fin 1 fun r => ?_)
            rw [e, if_neg (by decide)]; rfl
          · refine en_bd' (rsg_eq hL h28 rfl) (en_t (if10.mpr (by rw [e]; decide)) (en_bd' (rsg_eq hL h28 rfl) (en_f (fun z => if10.mp z e) ?_)))
            unfold f_X6_not_j77
            have hlg := g2.long (s := 61) rfl e
            refine en_f (by rw [hlg]; decide) (fin 0 fun r => ?_)
            rw [e, if_pos rfl]; rfl
        cases res2 with
        | inl q =>
          refine ⟨.inl q, trivial, cgo _ ?_, rgo _ ?_⟩
          · rintro cs M0 M1 h1 M2 - ⟨g1, g2⟩
            refine en_imp (cf_put g2 _) ?_
            rintro M3 ⟨g3, g4⟩
            exact ⟨(h1.tr g1).tr g3, g4⟩
          · rintro t M0 M1 r v h1 h2 ⟨g1, g2⟩
            exact ⟨h1.tr g1, g2⟩
        | inr z =>
          obtain ⟨p3, c3⟩ := z
          obtain ⟨e1, e2, e3⟩ := hf2
          have e1 : lnx b n p1 < p3 := e1
          have e2 : p3 ≤ n := e2
          have e3 : c3.length + lnx b n p1 ≤ p3 := e3
          refine ⟨.inr (p3, c1 ++ (c3 ++ [20000 + ltk b n p1])), ⟨by show p < p3; omega, e2, ?_⟩, cgo _ ?_, rgo _ ?_⟩
          · show (c1 ++ (c3 ++ [20000 + ltk b n p1])).length + p ≤ p3
            rw [List.length_append, List.length_append]
            show c1.length + (c3.length + 1) + p ≤ p3
            omega
          · rintro cs M0 M1 h1 M2 hlen ⟨g1, g2⟩
            refine en_imp (p_put g2 ?_ _) ?_
            · show (cs ++ c1 ++ c3).length < 160
              rw [List.length_append]
              omega
            rintro M3 ⟨g3, g4⟩
            refine ⟨(h1.tr g1).tr g3, ?_⟩
            show Pc b n p3 (cs ++ (c1 ++ (c3 ++ [20000 + ltk b n p1]))) M3
            rw [← List.append_assoc, ← List.append_assoc]
            exact g4
          · rintro t M0 M1 r v h1 h2 ⟨g1, g2, g3⟩
            refine ⟨h1.tr g1, g2, fun st => ?_⟩
            show run (nmR M0) (c1 ++ (c3 ++ [20000 + ltk b n p1])) st = jn (ltk b n p1) v r.1 :: st
            rw [run_app, h2 st, run_app]
            have h4 := g3 (v :: st)
            rw [run_congr (nmR_kr h1)] at h4
            have h4 : run (nmR M0) c3 (v :: st) = r.1 :: v :: st := h4
            rw [h4]
            exact run_op (by omega) ho v r.1 st
      · refine ⟨.inr (p1, c1), ⟨f1, f2, f3⟩, fun k hk M cs hl hP => ?_, fun k hk t M hP => ?_⟩
        · obtain ⟨k, rfl⟩ : ∃ j, k = j + 1 := ⟨k - 1, by omega⟩
          refine cstart k (by omega) M cs _ hl hP ?_
          rintro M1 ⟨g1, g2⟩
          have g2 : Pc b n p1 (cs ++ c1) M1 := g2
          obtain ⟨f, hfe⟩ : ∃ j, fuel = j + 1 := ⟨fuel - 1, by omega⟩
          rw [hfe]
          exact en_of (cl_end (Or.inr (by rw [g2.2.2.2.1.1]; exact ho))) ⟨g1, g2⟩
        · obtain ⟨k, rfl⟩ : ∃ j, k = j + 1 := ⟨k - 1, by omega⟩
          refine rstart k (by omega) t M _ hP ?_
          rintro ⟨v, M1⟩ ⟨g1, g2, g3⟩
          have g2 : Pr b n t p1 op M1 := g2
          have hL := g2.2.2.2.1
          have h28 := g2.2.2.2.2.1
          exact en_bd' (rsg_eq hL h28 rfl) (en_t (if10.mpr fun z => ho (lv_2.mpr (Or.inl z))) (en_bd' (rsg_eq hL h28 rfl) (en_t (if10.mpr fun z => ho (lv_2.mpr (Or.inr z))) (en_some ⟨g1, g2, g3⟩))))
theorem sum_all (hB : Byt b n) (hn : n ≤ 160) : ∀ (m p : Nat), n - p ≤ m → p ≤ n → ∀ op, op ≤ 5 → GA b n op p ∧ ∀ lv, lv ≤ 5 → GL b n lv op p := by
  intro m
  induction m using Nat.strongRecOn with
  | ind m im =>
    intro p hm hp
    have ih : ∀ p', p < p' → p' ≤ n → ∀ op, op ≤ 5 → GA b n op p' ∧ ∀ lv, lv ≤ 5 → GL b n lv op p' := fun p' h1 h2 => im (n - p') (by omega) p' (Nat.le_refl _) h2
    intro op hop
    have g6 : GA b n op p := good_one hB hp hop (fun p' h1 h2 op' h3 => ⟨(ih p' h1 h2 op' h3).1, (ih p' h1 h2 op' h3).2 0 (by omega)⟩)
    have g5 := five_good g6
    have g4 : GL b n 4 op p := level_good (Or.inr (Or.inr (Or.inr rfl))) hB hn hp g5 (fun p' h1 h2 => (ih p' h1 h2 op hop).2 5 (by omega))
    have g3 : GL b n 3 op p := level_good (Or.inr (Or.inr (Or.inl rfl))) hB hn hp g4 (fun p' h1 h2 => (ih p' h1 h2 op hop).2 4 (by omega))
    have g2 : GL b n 2 op p := two_good hB hn hp hop g3 (fun p' h1 h2 => (ih p' h1 h2 op hop).2 3 (by omega)) (fun p' h1 h2 h3 => (ih p' h1 h2 (op + 1) (by omega)).2 2 (by omega))
    have g1 : GL b n 1 op p := level_good (Or.inr (Or.inl rfl)) hB hn hp g2 (fun p' h1 h2 => (ih p' h1 h2 op hop).2 2 (by omega))
    have g0 : GL b n 0 op p := level_good (Or.inl rfl) hB hn hp g1 (fun p' h1 h2 => (ih p' h1 h2 op hop).2 1 (by omega))
    refine ⟨g6, fun lv hlv => ?_⟩
    rcases (by omega : lv = 0 ∨ lv = 1 ∨ lv = 2 ∨ lv = 3 ∨ lv = 4 ∨ lv = 5) with rfl | rfl | rfl | rfl | rfl | rfl <;> assumption
/-- a whole sum at p, no bracket open -/
theorem sum_good (hB : Byt b n) (hn : n ≤ 160) (hp : p ≤ n) : ∃ res, Fin' n p res ∧ CD b n p res (r_X0_reckon 0 0) ∧ RD b n p 0 res r_X6_either := by
  obtain ⟨res, h1, h2, h3⟩ := (sum_all hB hn _ p (Nat.le_refl _) hp 0 (by omega)).2 0 (by omega)
  exact ⟨res, h1, h2 recs (by decide), h3 recs (by decide)⟩
end SUMS
