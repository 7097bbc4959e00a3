/-! ===== a whole text ===== -/
section TEXT
variable {b : Nat → Int32} {n t p op q : Nat} {cs : List Int32} {M : Mm}
theorem cf_reckon (h : Fc q M) (x : Int32) : ∀ (j k lv : Nat), lv + j = 5 → j + 2 ≤ k → En ((R_X0_reckon k).1 (nI lv) x M) (fun M1 => Sm KP KA M M1 ∧ Fc q M1) := by
  intro j
  induction j with
  | zero =>
    intro k lv hj hk
    obtain ⟨k, rfl⟩ : ∃ j, k = j + 2 := ⟨k - 2, by omega⟩
    have e : lv = 5 := by omega
    subst e
    show En (f_X0_reckon (R_X0_reckon (k + 1)).1 (R_X0_reckon (k + 1)).2 (nI 5) x M) _
    unfold f_X0_reckon
    refine en_f (by decide) (en_bv ?_)
    show En (f_X0_one (R_X0_reckon k).1 (R_X0_reckon k).2 x M) _
    unfold f_X0_one f_X0_one_j45
    rw [h.1]
    refine en_bi (en_f (by decide) (en_f (by decide) (en_f (by decide) (en_f (by decide) ?_))))
    exact en_bv (en_imp (cf_brk h) fun M1 h1 => en_some (en_some h1))
  | succ j ih =>
    intro k lv hj hk
    obtain ⟨k, rfl⟩ : ∃ j, k = j + 1 := ⟨k - 1, by omega⟩
    show En (f_X0_reckon (R_X0_reckon k).1 (R_X0_reckon k).2 (nI lv) x M) _
    have hloop : ∀ lim : Int32, ∀ M1, Sm KP KA M M1 ∧ Fc q M1 → En (f_X0_reckon_j75 (R_X0_reckon k).1 (R_X0_reckon k).2 (nI lv) x lim M1) (fun M1 => Sm KP KA M M1 ∧ Fc q M1) := by
      intro lim M1 h1
      unfold f_X0_reckon_j75
      obtain ⟨f, hfe⟩ : ∃ j, fuel = j + 1 := ⟨fuel - 1, by have := fuel_gt; omega⟩
      rw [hfe]
      refine en_of (cl_end (Or.inr ?_)) h1
      rw [h1.2.1]
      intro z
      exact (lv_tok (by omega) z).2 rfl
    have hj55 : En (f_X0_reckon_j55 (R_X0_reckon k).1 (R_X0_reckon k).2 (nI lv) x M) (fun M1 => Sm KP KA M M1 ∧ Fc q M1) := by
      unfold f_X0_reckon_j55
      rw [show nI lv + 1 = nI (lv + 1) from nI_add lv 1]
      refine en_bv (en_imp (ih k (lv + 1) (by omega) (by omega)) ?_)
      intro M1 h1
      exact en_ite (fun _ => hloop _ M1 h1) (fun _ => hloop _ M1 h1)
    unfold f_X0_reckon
    refine en_t (by show nI lv < nI 5; rw [nI_ltI (by omega) (by omega)]; omega) (en_ite (fun _ => en_f (by rw [h.1]; decide) hj55) (fun _ => hj55))
theorem cf_sum (h : Fc q M) : En (r_X0_reckon 0 0 M) (fun M1 => Sm KP KA M M1 ∧ Fc q M1) := cf_reckon h 0 5 recs 0 (by omega) (by decide)
theorem cf_dem (h : Fc q M) {x : Int32} (hx : x ≠ 1) : En (f_X0_demand x M) (fun M1 => Sm KP KA M M1 ∧ Fc q M1) := by
  unfold f_X0_demand
  exact en_f (by rw [h.1]; exact fun z => hx z.symm) (en_bv (en_imp (cf_brk h) fun M1 h1 => en_some h1))
theorem p_dem (h : Pc b n p cs M) {x : Int32} (hx : x ≠ 0) (e : ltk b n p = x) : En (f_X0_demand x M) (fun M1 => Sm KP KA M M1 ∧ Pc b n (lnx b n p) cs M1) := by
  unfold f_X0_demand
  exact en_t (by rw [h.2.2.2.1.1]; exact e) (en_bv (en_imp (p_step h (by rw [e]; exact hx)) fun M1 h1 => en_some h1))
theorem p_demno (h : Pc b n p cs M) {x : Int32} (e : ltk b n p ≠ x) : En (f_X0_demand x M) (fun M1 => Sm KP KA M M1 ∧ Fc (lat b n p) M1) := by
  unfold f_X0_demand
  exact en_f (by rw [h.2.2.2.1.1]; exact e) (en_bv (en_imp (p_brk h) fun M1 h1 => en_some h1))
/-- a part: the class's -/
def cpart (i : Nat) (M : Mm) : Option Mm := bv (f_X0_demand (100 + nI i) M) fun M7 => bv (r_X0_reckon 0 0 M7) fun M8 => bv (f_X0_demand 59 M8) fun M9 => some M9
def rpart (i : Nat) (M : Mm) : Option (Int32 × Mm) :=
  bd (f_X6_isWord ((sByt.getD (6 + i + 1) []).getD 0 0) ((sByt.getD (6 + i + 1) []).getD 1 0) ((sByt.getD (6 + i + 1) []).getD 2 0) ((sByt.getD (6 + i + 1) []).getD 3 0) ((sByt.getD (6 + i + 1) []).getD 4 0) ((sByt.getD (6 + i + 1) []).getD 5 0) ((sByt.getD (6 + i + 1) []).getD 6 0) ((sByt.getD (6 + i + 1) []).getD 7 0) M) fun r M1 => f_X6_part r M1
theorem rf_part (h : Fr q M) (x : Int32) : f_X6_part x M = some (0, M) := by
  refine en_eq ?_
  unfold f_X6_part f_X6_part_j8 f_X6_part_j19 f_X6_part_j34 f_X6_part_j48
  have hb := rf_bad h
  have k1 : En (if (M.1 0 28) = 0 then bv (f_X6_next M) fun M7 => if (M7.1 0 28) = 0 then bd (r_X6_either M7) fun r2 M1 => bd (f_X6_isSign (59 : Int32) M1) fun r4 M3 => if r4 = 0 then bv (f_X6_fail M3) fun M6 => if (M6.1 0 28) = 0 then bv (f_X6_next M6) fun M5 => some (r2, M5) else some (r2, M6) else if (M3.1 0 28) = 0 then bv (f_X6_next M3) fun M5 => some (r2, M5) else some (r2, M3) else bd (f_X6_isSign (59 : Int32) M7) fun r4 M3 => if r4 = 0 then bv (f_X6_fail M3) fun M6 => if (M6.1 0 28) = 0 then bv (f_X6_next M6) fun M5 => some ((0 : Int32), M5) else some (0, M6) else if (M3.1 0 28) = 0 then bv (f_X6_next M3) fun M5 => some (0, M5) else some (0, M3) else if (M.1 0 28) = 0 then bd (r_X6_either M) fun r2 M1 => bd (f_X6_isSign (59 : Int32) M1) fun r4 M3 => if r4 = 0 then bv (f_X6_fail M3) fun M6 => if (M6.1 0 28) = 0 then bv (f_X6_next M6) fun M5 => some (r2, M5) else some (r2, M6) else if (M3.1 0 28) = 0 then bv (f_X6_next M3) fun M5 => some (r2, M5) else some (r2, M3) else bd (f_X6_isSign (59 : Int32) M) fun r4 M3 => if r4 = 0 then bv (f_X6_fail M3) fun M6 => if (M6.1 0 28) = 0 then bv (f_X6_next M6) fun M5 => some ((0 : Int32), M5) else some (0, M6) else if (M3.1 0 28) = 0 then bv (f_X6_next M3) fun M5 => some (0, M5) else some (0, M3)) (fun r => r = (0, M)) :=
    en_f hb (en_f hb (en_bd' (rf_sign h _) (en_t rfl (en_bv' (rf_fail h) (en_f hb (en_some rfl))))))
  exact en_ite (fun _ => en_bv' (rf_fail h) k1) (fun _ => k1)
theorem part_good (hB : Byt b n) (hn : n ≤ 160) (hp : p ≤ n) {i : Nat} (hi : i < 3) : ∃ res, Fin' n p res ∧ CD b n p res (cpart i) ∧ RD b n p 0 res (rpart i) := by
  have hx0 : (100 : Int32) + nI i = nI (94 + (6 + i)) := by
    rw [show 94 + (6 + i) = 100 + i by omega]
    exact nI_add 100 i
  have hne0 : nI (94 + (6 + i)) ≠ 0 := keyw _ (by omega) (by omega) 0 (Or.inr (Or.inl rfl))
  have hne1 : nI (94 + (6 + i)) ≠ 1 := keyw _ (by omega) (by omega) 1 (Or.inr (Or.inr (Or.inl rfl)))
  by_cases e : ltk b n p = nI (94 + (6 + i))
  · have h0 : ltk b n p ≠ 0 := by rw [e]; exact hne0
    have h1 : ltk b n p ≠ 1 := by rw [e]; exact hne1
    have hx := lnx_gt hp h0
    obtain ⟨res, hf, hc, hr⟩ := sum_good hB hn hx.2
    have cgo : ∀ (R : Res), (∀ cs M0 M1, Sm KP KA M0 M1 → ∀ M2, CPo b n cs M1 res M2 → En (f_X0_demand 59 M2) (CPo b n cs M0 R)) → CD b n p R (cpart i) := by
      intro R hR M cs hl hP
      unfold cpart
      rw [hx0]
      refine en_bv (en_imp (p_dem hP hne0 e) ?_)
      rintro M1 ⟨g1, g2⟩
      refine en_bv (en_imp (hc M1 cs (by omega) g2) ?_)
      intro M2 h2
      exact en_bv (en_imp (hR cs M M1 g1 M2 h2) fun M3 h3 => en_some h3)
    have rgo : ∀ (R : Res), (∀ t M0 M1, Sm KR KB M0 M1 → ∀ r, RPo b n t 0 M1 [] res r → En (f_X6_part_j34 r.1 r.2) (RPo b n t 0 M0 [] R)) → RD b n p 0 R (rpart i) := by
      intro R hR t M hP
      unfold rpart
      obtain ⟨hB, hp, hT, hL, h28, h27⟩ := hP
      have hP : Pr b n t p 0 M := ⟨hB, hp, hT, hL, h28, h27⟩
      refine en_bd' (rkey_eq hB hT hp hL h28 (w := 6 + i) (by omega) (by omega)) ?_
      unfold f_X6_part f_X6_part_j8
      refine en_f (fun z => if10.mp z e) (en_t h28 (en_bv (en_imp (r_next hP h0 h1) ?_)))
      rintro M1 ⟨g1, g2⟩
      unfold f_X6_part_j19
      refine en_t g2.2.2.2.2.1 (en_bd (en_imp (hr t M1 g2) ?_))
      intro r h2
      exact hR t M M1 g1 r h2
    cases res with
    | inl q =>
      refine ⟨.inl q, trivial, cgo _ ?_, rgo _ ?_⟩
      · rintro cs M0 M1 h1 M2 ⟨g1, g2⟩
        refine en_imp (cf_dem g2 (by decide)) ?_
        rintro M3 ⟨g3, g4⟩
        exact ⟨(h1.tr g1).tr g3, g4⟩
      · rintro t M0 M1 h1 r ⟨g1, g2⟩
        unfold f_X6_part_j34 f_X6_part_j48
        exact en_bd' (rf_sign g2 _) (en_t rfl (en_bv' (rf_fail g2) (en_f (rf_bad g2) (en_some ⟨h1.tr g1, g2⟩))))
    | inr z =>
      obtain ⟨p2, c⟩ := z
      obtain ⟨f1, f2, f3⟩ := hf
      have f1 : lnx b n p < p2 := f1
      have f2 : p2 ≤ n := f2
      have f3 : c.length + lnx b n p ≤ p2 := f3
      by_cases e2 : ltk b n p2 = 59
      · have k0 : ltk b n p2 ≠ 0 := by rw [e2]; decide
        have k1 : ltk b n p2 ≠ 1 := by rw [e2]; decide
        have hy := lnx_gt f2 k0
        refine ⟨.inr (lnx b n p2, c), ⟨by show p < lnx b n p2; omega, hy.2, by show c.length + p ≤ lnx b n p2; omega⟩, cgo _ ?_, rgo _ ?_⟩
        · rintro cs M0 M1 h1 M2 ⟨g1, g2⟩
          have g2 : Pc b n p2 (cs ++ c) M2 := g2
          refine en_imp (p_dem g2 (by decide) e2) ?_
          rintro M3 ⟨g3, g4⟩
          exact ⟨(h1.tr g1).tr g3, g4⟩
        · rintro t M0 M1 h1 r ⟨g1, g2, g3⟩
          have g2 : Pr b n t p2 0 r.2 := g2
          unfold f_X6_part_j34 f_X6_part_j48
          refine en_bd' (rsg_eq g2.2.2.2.1 g2.2.2.2.2.1 rfl) (en_f (fun z => if10.mp z e2) (en_t g2.2.2.2.2.1 (en_bv (en_imp (r_next g2 k0 k1) ?_))))
          rintro M3 ⟨g4, g5⟩
          refine en_some ⟨(h1.tr g1).tr g4, g5, fun st => ?_⟩
          have h4 := g3 st
          rw [run_congr (nmR_kr h1)] at h4
          exact h4
      · refine ⟨.inl (lat b n p2), trivial, cgo _ ?_, rgo _ ?_⟩
        · rintro cs M0 M1 h1 M2 ⟨g1, g2⟩
          have g2 : Pc b n p2 (cs ++ c) M2 := g2
          refine en_imp (p_demno g2 e2) ?_
          rintro M3 ⟨g3, g4⟩
          exact ⟨(h1.tr g1).tr g3, g4⟩
        · rintro t M0 M1 h1 r ⟨g1, g2, g3⟩
          have g2 : Pr b n t p2 0 r.2 := g2
          unfold f_X6_part_j34 f_X6_part_j48
          refine en_bd' (rsg_eq g2.2.2.2.1 g2.2.2.2.2.1 rfl) (en_t (if10.mpr e2) (en_bv (en_imp (r_fail g2) ?_)))
          rintro M3 ⟨g4, g5⟩
          exact en_f (rf_bad g5) (en_some ⟨(h1.tr g1).tr g4, g5⟩)
  · refine ⟨.inl (lat b n p), trivial, fun M cs hl hP => ?_, fun t M hP => ?_⟩
    · unfold cpart
      rw [hx0]
      refine en_bv (en_imp (p_demno hP e) ?_)
      rintro M1 ⟨g1, g2⟩
      refine en_bv (en_imp (cf_sum g2) ?_)
      rintro M2 ⟨g3, g4⟩
      refine en_bv (en_imp (cf_dem g4 (by decide)) ?_)
      rintro M3 ⟨g5, g6⟩
      exact en_some ⟨(g1.tr g3).tr g5, g6⟩
    · unfold rpart
      obtain ⟨hB, hp, hT, hL, h28, h27⟩ := hP
      have hP : Pr b n t p 0 M := ⟨hB, hp, hT, hL, h28, h27⟩
      refine en_bd' (rkey_eq hB hT hp hL h28 (w := 6 + i) (by omega) (by omega)) ?_
      unfold f_X6_part f_X6_part_j8 f_X6_part_j19 f_X6_part_j34 f_X6_part_j48
      refine en_t (if10.mpr e) (en_bv (en_imp (r_fail hP) ?_))
      rintro M1 ⟨g1, g2⟩
      have hb := rf_bad g2
      exact en_f hb (en_f hb (en_bd' (rf_sign g2 _) (en_t rfl (en_bv' (rf_fail g2) (en_f hb (en_some ⟨g1, g2⟩))))))
/-! the text -/
abbrev TRes : Type := Nat ⊕ (List Int32 × List Int32 × List Int32)
def KPt : Nat → Nat → Bool := fun o k => !(o == 3 && (k == 1 || (k == 2 || (k == 3 || (k == 4 || (k == 5 || (k == 6 || k == 8))))))) && !(o == 16) && !(o == 17)
def KRt : Nat → Nat → Bool := fun o k => !(o == 0 && (k == 21 || (k == 22 || (k == 23 || (k == 24 || (k == 25 || (k == 27 || (k == 28 || k == 29))))))))
def CTo : TRes → Int32 × Mm → Prop
  | .inl q, r => r.1 = 0 ∧ r.2.1 3 6 = nI q ∧ q ≤ 160
  | .inr z, r => r.1 = 1 ∧ (z.1 ++ z.2.1 ++ z.2.2).length ≤ 160 ∧ (∀ i, i < (z.1 ++ z.2.1 ++ z.2.2).length → r.2.1 16 i = (z.1 ++ z.2.1 ++ z.2.2).getD i 0) ∧ r.2.1 17 0 = nI z.1.length ∧ r.2.1 17 1 = nI (z.1 ++ z.2.1).length ∧ r.2.1 17 2 = nI (z.1 ++ z.2.1 ++ z.2.2).length
def cwh (w : Nat) (z : List Int32 × List Int32 × List Int32) : List Int32 := if w = 0 then z.1 else if w = 1 then z.2.1 else z.2.2
def RTo (w : Nat) (M0 : Mm) : TRes → Int32 × Mm → Prop
  | .inl q, r => Fr q r.2
  | .inr z, r => r.2.1 0 28 = 0 ∧ ∀ st, run (nmR M0) (cwh w z) st = r.1 :: st
/-- the class reads the tape so -/
def TC (b : Nat → Int32) (n : Nat) (res : TRes) : Prop := ∀ M, Tp b n M → En (f_X0_reads M) (fun r => Sm KPt KA M r.2 ∧ r.2.1 3 1 = 0 ∧ CTo res r)
/-- the reference reads the tape so -/
def TD (b : Nat → Int32) (n : Nat) (res : TRes) : Prop := ∀ t w M, t < 6 → w < 3 → M.1 2 t = nI n → (∀ i, i < n → M.1 1 (160 * t + i) = b i) → En (f_X6_read (nI t) (nI w) M) (fun r => Sm KRt KB M r.2 ∧ RTo w M res r)
theorem kp_kt : ∀ o k, KPt o k = true → KP o k = true := by
  intro o k h
  unfold KPt at h
  unfold KP
  by_cases h3 : o = 3
  · subst h3
    simp at h ⊢
    omega
  · simp [h3] at h ⊢
    exact h.1
theorem kr_kt : ∀ o k, KRt o k = true → KR o k = true := by
  intro o k h
  unfold KRt at h
  unfold KR
  by_cases h3 : o = 0
  · subst h3
    simp at h ⊢
    omega
  · simp [h3]
theorem Lr.end (h : Lr b n p M) : M.1 0 24 = 0 ↔ ltk b n p = 0 := by
  obtain ⟨-, ⟨-, z, q⟩ | ⟨hl, q, -⟩ | ⟨z, q, -⟩ | ⟨z, q, -⟩ | ⟨z, q, hx⟩⟩ := h
  · rw [q, z]
  · rw [q]; exact ⟨fun z => absurd z (by decide), fun z => absurd z (ltk_nsg hl (Or.inr (Or.inl rfl)))⟩
  · rw [q, z]
  · rw [q]; exact ⟨fun z => absurd z (by decide), fun y => absurd (y ▸ z) (by decide)⟩
  · rw [q, z]; exact ⟨fun z => absurd z (by decide), fun z => absurd z (by decide)⟩
end TEXT
