/-! ===== the two parsers, side by side ===== -/
abbrev Res : Type := Nat ⊕ (Nat × List Int32)
def Fin' (n p : Nat) : Res → Prop
  | .inl _ => True
  | .inr z => p < z.1 ∧ z.1 ≤ n ∧ z.2.length + p ≤ z.1
def CPo (b : Nat → Int32) (n : Nat) (cs : List Int32) (M0 : Mm) : Res → Mm → Prop
  | .inl q, M1 => Sm KP KA M0 M1 ∧ Fc q M1
  | .inr z, M1 => Sm KP KA M0 M1 ∧ Pc b n z.1 (cs ++ z.2) M1
def RPo (b : Nat → Int32) (n t op : Nat) (M0 : Mm) (pre : List Int32) : Res → Int32 × Mm → Prop
  | .inl q, r => Sm KR KB M0 r.2 ∧ Fr q r.2
  | .inr z, r => Sm KR KB M0 r.2 ∧ Pr b n t z.1 op r.2 ∧ ∀ st, run (nmR M0) z.2 (pre ++ st) = r.1 :: st
def CD (b : Nat → Int32) (n p : Nat) (res : Res) (F : Mm → Option Mm) : Prop := ∀ M cs, cs.length ≤ p → Pc b n p cs M → En (F M) (CPo b n cs M res)
def RD (b : Nat → Int32) (n p op : Nat) (res : Res) (G : Mm → Option (Int32 × Mm)) : Prop := ∀ t M, Pr b n t p op M → En (G M) (RPo b n t op M [] res)
def Gd (b : Nat → Int32) (n : Nat) (F : Nat → Mm → Option Mm) (G : Nat → Mm → Option (Int32 × Mm)) (d op p : Nat) : Prop := ∃ res, Fin' n p res ∧ (∀ k, d ≤ k → CD b n p res (F k)) ∧ ∀ k, d ≤ k → RD b n p op res (G k)
def GA (b : Nat → Int32) (n op p : Nat) : Prop := Gd b n (fun k => (R_X0_reckon k).2 (nI op)) (fun k => (R_X6_either k).2.2.2.2.2) (7 * (5 - op) + 1) op p
def rF (lv k : Nat) : Mm → Option (Int32 × Mm) := match lv with
  | 0 => (R_X6_either k).1
  | 1 => (R_X6_either k).2.1
  | 2 => (R_X6_either k).2.2.1
  | 3 => (R_X6_either k).2.2.2.1
  | 4 => (R_X6_either k).2.2.2.2.1
  | _ => (R_X6_either k).2.2.2.2.2
def GL (b : Nat → Int32) (n lv op p : Nat) : Prop := Gd b n (fun k => (R_X0_reckon k).1 (nI lv) (nI op)) (rF lv) (7 * (5 - op) + (7 - lv)) op p
section ATOM
variable {b : Nat → Int32} {n t p op q : Nat} {cs : List Int32} {M : Mm}
theorem rname_ok (h : Pr b n t p op M) (h3 : ltk b n p = 3) : f_X6_name M = some (nmR M (lwd b n p), M) := by
  obtain ⟨hB, hp, hT, hL, h28, h27⟩ := h
  obtain ⟨hl, hw⟩ := ltk_name.mp h3
  have W : ∀ w, w < 12 → f_X6_isWord ((sByt.getD (w + 1) []).getD 0 0) ((sByt.getD (w + 1) []).getD 1 0) ((sByt.getD (w + 1) []).getD 2 0) ((sByt.getD (w + 1) []).getD 3 0) ((sByt.getD (w + 1) []).getD 4 0) ((sByt.getD (w + 1) []).getD 5 0) ((sByt.getD (w + 1) []).getD 6 0) ((sByt.getD (w + 1) []).getD 7 0) M = some (if lwd b n p = w then 1 else 0, M) := by
    intro w hw
    rw [rwd_eq hB hT hp hL h28 hw]
    by_cases e : lwd b n p = w
    · rw [if_pos ⟨hl, e⟩, if_pos e]
    · rw [if_neg (fun z => e z.2), if_neg e]
  refine en_eq ?_
  unfold f_X6_name
  refine en_bd' (W 0 (by omega)) (en_ite (fun e => ?_) (fun e => ?_))
  rotate_left
  · have e := Classical.not_not.mp (fun z => e (if10.mpr z))
    rw [e]; exact en_some rfl
  refine en_bd' (W 1 (by omega)) (en_ite (fun e => ?_) (fun e => ?_))
  rotate_left
  · have e := Classical.not_not.mp (fun z => e (if10.mpr z))
    rw [e]; exact en_some rfl
  refine en_bd' (W 2 (by omega)) (en_ite (fun e => ?_) (fun e => ?_))
  rotate_left
  · have e := Classical.not_not.mp (fun z => e (if10.mpr z))
    rw [e]; exact en_some rfl
  refine en_bd' (W 3 (by omega)) (en_ite (fun e => ?_) (fun e => ?_))
  rotate_left
  · have e := Classical.not_not.mp (fun z => e (if10.mpr z))
    rw [e]; exact en_some rfl
  refine en_bd' (W 4 (by omega)) (en_ite (fun e => ?_) (fun e => ?_))
  rotate_left
  · have e := Classical.not_not.mp (fun z => e (if10.mpr z))
    rw [e]; exact en_some rfl
  refine en_bd' (W 5 (by omega)) (en_ite (fun e => ?_) (fun e => ?_))
  rotate_left
  · have e := Classical.not_not.mp (fun z => e (if10.mpr z))
    rw [e]; exact en_some rfl
  exfalso
  have a0 := if10.mp ‹(if lwd b n p = 0 then (1 : Int32) else 0) = 0›
  have a1 := if10.mp ‹(if lwd b n p = 1 then (1 : Int32) else 0) = 0›
  have a2 := if10.mp ‹(if lwd b n p = 2 then (1 : Int32) else 0) = 0›
  have a3 := if10.mp ‹(if lwd b n p = 3 then (1 : Int32) else 0) = 0›
  have a4 := if10.mp ‹(if lwd b n p = 4 then (1 : Int32) else 0) = 0›
  have a5 := if10.mp ‹(if lwd b n p = 5 then (1 : Int32) else 0) = 0›
  omega
theorem rname_no (h : Pr b n t p op M) (h3 : ltk b n p ≠ 3) : En (f_X6_name M) (fun r => Sm KR KB M r.2 ∧ Fr (lat b n p) r.2) := by
  have hP := h
  obtain ⟨hB, hp, hT, hL, h28, h27⟩ := h
  have W : ∀ w, w < 6 → f_X6_isWord ((sByt.getD (w + 1) []).getD 0 0) ((sByt.getD (w + 1) []).getD 1 0) ((sByt.getD (w + 1) []).getD 2 0) ((sByt.getD (w + 1) []).getD 3 0) ((sByt.getD (w + 1) []).getD 4 0) ((sByt.getD (w + 1) []).getD 5 0) ((sByt.getD (w + 1) []).getD 6 0) ((sByt.getD (w + 1) []).getD 7 0) M = some (0, M) := by
    intro w hw
    rw [rwd_eq hB hT hp hL h28 (by omega), if_neg]
    rintro ⟨z1, z2⟩
    exact h3 (ltk_name.mpr ⟨z1, by omega⟩)
  unfold f_X6_name
  refine en_bd' (W 0 (by omega)) (en_t rfl (en_bd' (W 1 (by omega)) (en_t rfl (en_bd' (W 2 (by omega)) (en_t rfl (en_bd' (W 3 (by omega)) (en_t rfl (en_bd' (W 4 (by omega)) (en_t rfl (en_bd' (W 5 (by omega)) (en_t rfl ?_)))))))))))
  exact en_bv (en_imp (r_fail hP) fun M1 h1 => en_some h1)
/-- one number, name, turned one or one in brackets -/
theorem good_one (hB : Byt b n) (hp : p ≤ n) (hop : op ≤ 5) (ih : ∀ p', p < p' → p' ≤ n → ∀ op', op' ≤ 5 → GA b n op' p' ∧ GL b n 0 op' p') : GA b n op p := by
  -- the class's broken one
  have cbrk : ∀ (k : Nat) (M : Mm) (cs : List Int32), Pc b n p cs M → En (f_X0_one_j45 (R_X0_reckon k).1 (R_X0_reckon k).2 M) (CPo b n cs M (.inl (lat b n p))) := by
    intro k M cs hP
    unfold f_X0_one_j45
    exact en_bv (en_imp (p_brk hP) fun M1 h1 => en_some h1)
  by_cases h2 : ltk b n p = 2
  · -- a number
    have h0 : ltk b n p ≠ 0 := by rw [h2]; decide
    have h1 : ltk b n p ≠ 1 := by rw [h2]; decide
    have hx := lnx_gt hp h0
    refine ⟨.inr (lnx b n p, [lcd b n p]), ⟨hx.1, hx.2, ?_⟩, fun k hk M cs hl hP => ?_, fun k hk t M hP => ?_⟩
    · show 1 + p ≤ _
      omega
    · obtain ⟨k, rfl⟩ : ∃ j, k = j + 1 := ⟨k - 1, by omega⟩
      show En (f_X0_one _ _ _ M) _
      unfold f_X0_one f_X0_one_j15
      have hL := hP.2.2.2.1
      have hn := hP.2.2.1.2.1
      rw [hL.1, h2]
      refine en_bi (en_t rfl ?_)
      rw [hL.2.2.2 (Or.inl h2)]
      refine en_bv (en_imp (p_put hP (by omega) _) ?_)
      rintro M1 ⟨g1, g2⟩
      refine en_bv (en_imp (p_step g2 h0) ?_)
      rintro M2 ⟨g3, g4⟩
      exact en_some ⟨g1.tr g3, g4⟩
    · obtain ⟨k, rfl⟩ : ∃ j, k = j + 1 := ⟨k - 1, by omega⟩
      show En (f_X6_atom _ _ _ _ _ _ M) _
      unfold f_X6_atom
      have hL := hP.2.2.2.1
      have h28 := hP.2.2.2.2.1
      refine en_bd' (rsg_eq hL h28 rfl) (en_t (if10.mpr (by rw [h2]; decide)) (en_bd' (rsg_eq hL h28 rfl) (en_t (if10.mpr (by rw [h2]; decide)) (en_t h28 (en_t (hL.num.mpr h2) ?_)))))
      rw [hL.numv h2]
      refine en_bi (en_bv (en_imp (r_next hP h0 h1) ?_))
      rintro M1 ⟨g1, g2⟩
      refine en_some ⟨g1, g2, fun st => ?_⟩
      have hl : ¬ Le (bat b n (lat b n p)) = true := fun z => ltk_nsg z (Or.inr (Or.inr rfl)) h2
      have hd : Di (bat b n (lat b n p)) = true ∧ sk Di b n (lat b n p) - lat b n p ≤ 4 := by
        rw [ltk] at h2
        split at h2
        · exact absurd h2 (by decide)
        · split at h2
          · next hd =>
            refine ⟨hd, ?_⟩
            by_cases q : sk Di b n (lat b n p) - lat b n p ≤ 4
            · exact q
            · rw [if_neg q] at h2
              exact absurd h2 (by decide)
          · split at h2
            · next q => rw [h2] at q; exact absurd q (by decide)
            · exact absurd h2 (by decide)
      show run _ [lcd b n p] _ = lcd b n p :: st
      rw [lcd, if_neg hl]
      refine run_num ?_ st
      have h9 := dv_lt (b := b) (n := n) (s := lat b n p) (sk Di b n (lat b n p) - lat b n p) (fun j hj => sk_in (p := lat b n p) Di_m (lat b n p + j) (by omega) (by omega))
      exact Nat.lt_of_lt_of_le h9 (Nat.pow_le_pow_right (by omega) hd.2)
  by_cases h3 : ltk b n p = 3
  · -- a name
    have h0 : ltk b n p ≠ 0 := by rw [h3]; decide
    have h1 : ltk b n p ≠ 1 := by rw [h3]; decide
    have hx := lnx_gt hp h0
    obtain ⟨hl, hw⟩ := ltk_name.mp h3
    refine ⟨.inr (lnx b n p, [nI (10000 + lwd b n p)]), ⟨hx.1, hx.2, ?_⟩, fun k hk M cs hlen hP => ?_, fun k hk t M hP => ?_⟩
    · show 1 + p ≤ _
      omega
    · obtain ⟨k, rfl⟩ : ∃ j, k = j + 1 := ⟨k - 1, by omega⟩
      show En (f_X0_one _ _ _ M) _
      unfold f_X0_one f_X0_one_j15
      have hL := hP.2.2.2.1
      have hn := hP.2.2.1.2.1
      rw [hL.1, h3]
      refine en_bi (en_f (by decide) (en_t rfl ?_))
      rw [hL.2.2.2 (Or.inr h3), lcd, if_pos hl]
      refine en_bv (en_imp (p_put hP (by omega) _) ?_)
      rintro M1 ⟨g1, g2⟩
      refine en_bv (en_imp (p_step g2 h0) ?_)
      rintro M2 ⟨g3, g4⟩
      exact en_some ⟨g1.tr g3, g4⟩
    · obtain ⟨k, rfl⟩ : ∃ j, k = j + 1 := ⟨k - 1, by omega⟩
      show En (f_X6_atom _ _ _ _ _ _ M) _
      unfold f_X6_atom f_X6_atom_j123
      have hL := hP.2.2.2.1
      have h28 := hP.2.2.2.2.1
      refine en_bd' (rsg_eq hL h28 rfl) (en_t (if10.mpr (by rw [h3]; decide)) (en_bd' (rsg_eq hL h28 rfl) (en_t (if10.mpr (by rw [h3]; decide)) (en_t h28 (en_f (fun z => h2 (hL.num.mp z)) (en_t h28 (en_t (hL.word.mpr hl) (en_bd' (rname_ok hP h3) (en_t h28 ?_)))))))))
      refine en_bv (en_imp (r_next hP h0 h1) ?_)
      rintro M1 ⟨g1, g2⟩
      exact en_some ⟨g1, g2, fun st => run_name hw st⟩
  by_cases h45 : ltk b n p = 45
  · -- a turned one
    have h0 : ltk b n p ≠ 0 := by rw [h45]; decide
    have h1 : ltk b n p ≠ 1 := by rw [h45]; decide
    have hx := lnx_gt hp h0
    by_cases h5 : op < 5
    · obtain ⟨res, hf, hc, hr⟩ := (ih _ hx.1 hx.2 (op + 1) (by omega)).1
      have cpart : ∀ (k : Nat), 7 * (5 - op) + 1 ≤ k + 1 → ∀ (M : Mm) (cs : List Int32) (R : Res), cs.length ≤ p → Pc b n p cs M → (∀ M1 M2, Sm KP KA M M1 → CPo b n cs M1 res M2 → En (f_X0_put 20000 M2) (CPo b n cs M R)) → En (f_X0_one (R_X0_reckon k).1 (R_X0_reckon k).2 (nI op) M) (CPo b n cs M R) := by
        intro k hk M cs R hl hP hgo
        unfold f_X0_one f_X0_one_j40
        have hL := hP.2.2.2.1
        rw [hL.1, h45]
        refine en_bi (en_f (by decide) (en_f (by decide) (en_t rfl (en_t (by show nI op < nI 5; rw [nI_ltI (by omega) (by omega)]; omega) ?_))))
        refine en_bv (en_imp (p_step hP h0) ?_)
        rintro M1 ⟨g1, g2⟩
        refine en_t rfl (en_bv ?_)
        rw [show nI op + 1 = nI (op + 1) from nI_add op 1]
        refine en_imp (hc k (by omega) M1 cs (by omega) g2) ?_
        intro M2 h
        exact en_bv (en_imp (hgo M1 M2 g1 h) fun M3 h3 => en_some h3)
      have rpart : ∀ (k : Nat), 7 * (5 - op) + 1 ≤ k + 1 → ∀ (t : Nat) (M : Mm) (P : Int32 × Mm → Prop), Pr b n t p op M → (∀ M1 r, Sm KR KB M M1 → RPo b n t (op + 1) M1 [] res r → P (-r.1, ms r.2 0 27 ((r.2.1 0 27) - 1))) → En (f_X6_atom (R_X6_either k).1 (R_X6_either k).2.1 (R_X6_either k).2.2.1 (R_X6_either k).2.2.2.1 (R_X6_either k).2.2.2.2.1 (R_X6_either k).2.2.2.2.2 M) P := by
        intro k hk t M P hP hgo
        unfold f_X6_atom
        have hL := hP.2.2.2.1
        have h28 := hP.2.2.2.2.1
        refine en_bd' (rsg_eq hL h28 rfl) (en_f (fun z => if10.mp z h45) (en_bd (en_imp (r_opens hP h5 h0 h1) ?_)))
        rintro ⟨r1, M1⟩ ⟨g1, g2, g3⟩
        have g1 : r1 = 1 := g1
        subst g1
        refine en_f (show ¬ (1 : Int32) = 0 by decide) (en_bd ?_)
        refine en_imp (hr k (by omega) t M1 g3) ?_
        rintro ⟨r2, M2⟩ h
        exact en_bi (en_bm (en_some (hgo M1 (r2, M2) g2 h)))
      cases res with
      | inl q =>
        refine ⟨.inl q, trivial, fun k hk M cs hl hP => ?_, fun k hk t M hP => ?_⟩
        · obtain ⟨k, rfl⟩ : ∃ j, k = j + 1 := ⟨k - 1, by omega⟩
          refine cpart k hk M cs _ hl hP fun M1 M2 h1 h2 => en_imp (cf_put h2.2 _) ?_
          rintro M3 ⟨g1, g2⟩
          exact ⟨(h1.tr h2.1).tr g1, g2⟩
        · obtain ⟨k, rfl⟩ : ∃ j, k = j + 1 := ⟨k - 1, by omega⟩
          refine rpart k hk t M _ hP fun M1 r h1 h2 => ?_
          have h3 := rf_close h2.2
          exact ⟨(h1.tr h2.1).tr h3.1, h3.2⟩
      | inr z =>
        obtain ⟨p2, c⟩ := z
        obtain ⟨f1, f2, f3⟩ := hf
        have f1 : lnx b n p < p2 := f1
        have f2 : p2 ≤ n := f2
        have f3 : c.length + lnx b n p ≤ p2 := f3
        refine ⟨.inr (p2, c ++ [20000]), ⟨by show p < p2; omega, f2, ?_⟩, fun k hk M cs hl hP => ?_, fun k hk t M hP => ?_⟩
        · show (c ++ [20000]).length + p ≤ p2
          rw [List.length_append]
          show c.length + 1 + p ≤ p2
          omega
        · obtain ⟨k, rfl⟩ : ∃ j, k = j + 1 := ⟨k - 1, by omega⟩
          have hn := hP.2.2.1.2.1
          refine cpart k hk M cs _ hl hP fun M1 M2 h1 h2 => en_imp (p_put h2.2 ?_ _) ?_
          · show (cs ++ c).length < 160
            rw [List.length_append]; omega
          rintro M3 ⟨g1, g2⟩
          refine ⟨(h1.tr h2.1).tr g1, ?_⟩
          show Pc b n p2 (cs ++ (c ++ [20000])) M3
          rw [← List.append_assoc]; exact g2
        · obtain ⟨k, rfl⟩ : ∃ j, k = j + 1 := ⟨k - 1, by omega⟩
          refine rpart k hk t M _ hP fun M1 r h1 h2 => ?_
          have h3 := r_close h2.2.1
          refine ⟨(h1.tr h2.1).tr h3.1, h3.2, fun st => ?_⟩
          show run (nmR M) (c ++ [20000]) ([] ++ st) = -r.1 :: st
          rw [run_app]
          have h4 := h2.2.2 st
          rw [run_congr (nmR_kr h1)] at h4
          have h4 : run (nmR M) c ([] ++ st) = r.1 :: st := h4
          rw [h4]
          exact run_un (Or.inl rfl) r.1 st
    · have e5 : op = 5 := by omega
      subst e5
      refine ⟨.inl (lat b n p), trivial, fun k hk M cs hl hP => ?_, fun k hk t M hP => ?_⟩
      · obtain ⟨k, rfl⟩ : ∃ j, k = j + 1 := ⟨k - 1, by omega⟩
        show En (f_X0_one _ _ _ M) _
        unfold f_X0_one f_X0_one_j40
        have hL := hP.2.2.2.1
        rw [hL.1, h45]
        exact en_bi (en_f (by decide) (en_f (by decide) (en_t rfl (en_f (by decide) (cbrk k M cs hP)))))
      · obtain ⟨k, rfl⟩ : ∃ j, k = j + 1 := ⟨k - 1, by omega⟩
        show En (f_X6_atom _ _ _ _ _ _ M) _
        unfold f_X6_atom
        have hL := hP.2.2.2.1
        have h28 := hP.2.2.2.2.1
        refine en_bd' (rsg_eq hL h28 rfl) (en_f (fun z => if10.mp z h45) (en_bd (en_imp (r_opens5 hP) ?_)))
        rintro ⟨r1, M1⟩ ⟨g1, g2, g3⟩
        exact en_t g1 (en_some ⟨g2, g3⟩)
  by_cases h40 : ltk b n p = 40
  · -- one in brackets
    have h0 : ltk b n p ≠ 0 := by rw [h40]; decide
    have h1 : ltk b n p ≠ 1 := by rw [h40]; decide
    have hx := lnx_gt hp h0
    by_cases h5 : op < 5
    · obtain ⟨res, hf, hc, hr⟩ := (ih _ hx.1 hx.2 (op + 1) (by omega)).2
      have cpart : ∀ (k : Nat), 7 * (5 - op) + 1 ≤ k + 1 → ∀ (M : Mm) (cs : List Int32) (R : Res), cs.length ≤ p → Pc b n p cs M → (∀ M1 M2, Sm KP KA M M1 → CPo b n cs M1 res M2 → En (if (M2.1 3 3) = (41 : Int32) then bv (f_X0_step M2) fun M7 => some M7 else bv (f_X0_breakOff M2) fun M6 => some M6) (CPo b n cs M R)) → En (f_X0_one (R_X0_reckon k).1 (R_X0_reckon k).2 (nI op) M) (CPo b n cs M R) := by
        intro k hk M cs R hl hP hgo
        unfold f_X0_one f_X0_one_j40
        have hL := hP.2.2.2.1
        rw [hL.1, h40]
        refine en_bi (en_f (by decide) (en_f (by decide) (en_f (by decide) (en_t rfl (en_t (by show nI op < nI 5; rw [nI_ltI (by omega) (by omega)]; omega) ?_)))))
        refine en_bv (en_imp (p_step hP h0) ?_)
        rintro M1 ⟨g1, g2⟩
        refine en_f (by decide) (en_bv ?_)
        rw [show nI op + 1 = nI (op + 1) from nI_add op 1]
        refine en_imp (hc k (by omega) M1 cs (by omega) g2) ?_
        intro M2 h
        exact hgo M1 M2 g1 h
      have rpart : ∀ (k : Nat), 7 * (5 - op) + 1 ≤ k + 1 → ∀ (t : Nat) (M : Mm) (P : Int32 × Mm → Prop), Pr b n t p op M → (∀ M1 r, Sm KR KB M M1 → RPo b n t (op + 1) M1 [] res r → En (bd (f_X6_isSign (41 : Int32) r.2) fun r16 M15 => if r16 = 0 then bv (f_X6_fail M15) fun M19 => f_X6_atom_j71 (R_X6_either k).1 (R_X6_either k).2.1 (R_X6_either k).2.2.1 (R_X6_either k).2.2.2.1 (R_X6_either k).2.2.2.2.1 (R_X6_either k).2.2.2.2.2 r.1 M19 else f_X6_atom_j71 (R_X6_either k).1 (R_X6_either k).2.1 (R_X6_either k).2.2.1 (R_X6_either k).2.2.2.1 (R_X6_either k).2.2.2.2.1 (R_X6_either k).2.2.2.2.2 r.1 M15) P) → En (f_X6_atom (R_X6_either k).1 (R_X6_either k).2.1 (R_X6_either k).2.2.1 (R_X6_either k).2.2.2.1 (R_X6_either k).2.2.2.2.1 (R_X6_either k).2.2.2.2.2 M) P := by
        intro k hk t M P hP hgo
        unfold f_X6_atom
        have hL := hP.2.2.2.1
        have h28 := hP.2.2.2.2.1
        refine en_bd' (rsg_eq hL h28 rfl) (en_t (if10.mpr (by rw [h40]; decide)) (en_bd' (rsg_eq hL h28 rfl) (en_f (fun z => if10.mp z h40) (en_bd (en_imp (r_opens hP h5 h0 h1) ?_)))))
        rintro ⟨r1, M1⟩ ⟨g1, g2, g3⟩
        have g1 : r1 = 1 := g1
        subst g1
        refine en_f (show ¬ (1 : Int32) = 0 by decide) (en_bd ?_)
        refine en_imp (hr k (by omega) t M1 g3) ?_
        rintro ⟨r2, M2⟩ h
        exact hgo M1 (r2, M2) g2 h
      -- behind a fault of the reference
      have rbad : ∀ (k t : Nat) (M M2 : Mm) (x : Int32) (q : Nat), Sm KR KB M M2 → Fr q M2 → En (f_X6_atom_j71 (R_X6_either k).1 (R_X6_either k).2.1 (R_X6_either k).2.2.1 (R_X6_either k).2.2.2.1 (R_X6_either k).2.2.2.2.1 (R_X6_either k).2.2.2.2.2 x M2) (RPo b n t op M [] (.inl q)) := by
        intro k t M M2 x q h1 h2
        unfold f_X6_atom_j71
        have h3 := rf_close h2
        exact en_bm (en_f (rf_bad h3.2) (en_some ⟨h1.tr h3.1, h3.2⟩))
      cases res with
      | inl q =>
        refine ⟨.inl q, trivial, fun k hk M cs hl hP => ?_, fun k hk t M hP => ?_⟩
        · obtain ⟨k, rfl⟩ : ∃ j, k = j + 1 := ⟨k - 1, by omega⟩
          refine cpart k hk M cs _ hl hP fun M1 M2 h1 h2 => ?_
          refine en_f (by rw [h2.2.1]; decide) (en_bv (en_imp (cf_brk h2.2) ?_))
          rintro M3 ⟨g1, g2⟩
          exact en_some ⟨(h1.tr h2.1).tr g1, g2⟩
        · obtain ⟨k, rfl⟩ : ∃ j, k = j + 1 := ⟨k - 1, by omega⟩
          refine rpart k hk t M _ hP fun M1 r h1 h2 => ?_
          refine en_bd' (rf_sign h2.2 _) (en_t rfl (en_bv' (rf_fail h2.2) ?_))
          exact rbad k t M r.2 r.1 q (h1.tr h2.1) h2.2
      | inr z =>
        obtain ⟨p2, c⟩ := z
        obtain ⟨f1, f2, f3⟩ := hf
        have f1 : lnx b n p < p2 := f1
        have f2 : p2 ≤ n := f2
        have f3 : c.length + lnx b n p ≤ p2 := f3
        by_cases h41 : ltk b n p2 = 41
        · have k0 : ltk b n p2 ≠ 0 := by rw [h41]; decide
          have k1 : ltk b n p2 ≠ 1 := by rw [h41]; decide
          have hy := lnx_gt f2 k0
          refine ⟨.inr (lnx b n p2, c), ⟨by show p < lnx b n p2; omega, hy.2, ?_⟩, fun k hk M cs hl hP => ?_, fun k hk t M hP => ?_⟩
          · show c.length + p ≤ lnx b n p2
            omega
          · obtain ⟨k, rfl⟩ : ∃ j, k = j + 1 := ⟨k - 1, by omega⟩
            refine cpart k hk M cs _ hl hP fun M1 M2 h1 h2 => ?_
            have h2' : Pc b n p2 (cs ++ c) M2 := h2.2
            refine en_t (by rw [h2'.2.2.2.1.1, h41]) (en_bv (en_imp (p_step h2' k0) ?_))
            rintro M3 ⟨g1, g2⟩
            exact en_some ⟨(h1.tr h2.1).tr g1, g2⟩
          · obtain ⟨k, rfl⟩ : ∃ j, k = j + 1 := ⟨k - 1, by omega⟩
            refine rpart k hk t M _ hP fun M1 r h1 h2 => ?_
            have h2' : Pr b n t p2 (op + 1) r.2 := h2.2.1
            refine en_bd' (rsg_eq h2'.2.2.2.1 h2'.2.2.2.2.1 rfl) (en_f (fun z => if10.mp z h41) ?_)
            unfold f_X6_atom_j71
            have h3 := r_close h2'
            refine en_bm (en_t h3.2.2.2.2.2.1 (en_bv (en_imp (r_next h3.2 k0 k1) ?_)))
            rintro M3 ⟨g1, g2⟩
            refine en_some ⟨((h1.tr h2.1).tr h3.1).tr g1, g2, fun st => ?_⟩
            have h4 := h2.2.2 st
            rw [run_congr (nmR_kr h1)] at h4
            exact h4
        · refine ⟨.inl (lat b n p2), trivial, fun k hk M cs hl hP => ?_, fun k hk t M hP => ?_⟩
          · obtain ⟨k, rfl⟩ : ∃ j, k = j + 1 := ⟨k - 1, by omega⟩
            refine cpart k hk M cs _ hl hP fun M1 M2 h1 h2 => ?_
            have h2' : Pc b n p2 (cs ++ c) M2 := h2.2
            refine en_f (by rw [h2'.2.2.2.1.1]; exact h41) (en_bv (en_imp (p_brk h2') ?_))
            rintro M3 ⟨g1, g2⟩
            exact en_some ⟨(h1.tr h2.1).tr g1, g2⟩
          · obtain ⟨k, rfl⟩ : ∃ j, k = j + 1 := ⟨k - 1, by omega⟩
            refine rpart k hk t M _ hP fun M1 r h1 h2 => ?_
            have h2' : Pr b n t p2 (op + 1) r.2 := h2.2.1
            refine en_bd' (rsg_eq h2'.2.2.2.1 h2'.2.2.2.2.1 rfl) (en_t (if10.mpr h41) (en_bv (en_imp (r_fail h2') ?_)))
            rintro M3 ⟨g1, g2⟩
            exact rbad k t M M3 r.1 _ ((h1.tr h2.1).tr g1) g2
    · have e5 : op = 5 := by omega
      subst e5
      refine ⟨.inl (lat b n p), trivial, fun k hk M cs hl hP => ?_, fun k hk t M hP => ?_⟩
      · obtain ⟨k, rfl⟩ : ∃ j, k = j + 1 := ⟨k - 1, by omega⟩
        show En (f_X0_one _ _ _ M) _
        unfold f_X0_one f_X0_one_j40
        have hL := hP.2.2.2.1
        rw [hL.1, h40]
        exact en_bi (en_f (by decide) (en_f (by decide) (en_f (by decide) (en_t rfl (en_f (by decide) (cbrk k M cs hP))))))
      · obtain ⟨k, rfl⟩ : ∃ j, k = j + 1 := ⟨k - 1, by omega⟩
        show En (f_X6_atom _ _ _ _ _ _ M) _
        unfold f_X6_atom
        have hL := hP.2.2.2.1
        have h28 := hP.2.2.2.2.1
        refine en_bd' (rsg_eq hL h28 rfl) (en_t (if10.mpr (by rw [h40]; decide)) (en_bd' (rsg_eq hL h28 rfl) (en_f (fun z => if10.mp z h40) (en_bd (en_imp (r_opens5 hP) ?_)))))
        rintro ⟨r1, M1⟩ ⟨g1, g2, g3⟩
        exact en_t g1 (en_some ⟨g2, g3⟩)
  -- anything else
  refine ⟨.inl (lat b n p), trivial, fun k hk M cs hl hP => ?_, fun k hk t M hP => ?_⟩
  · obtain ⟨k, rfl⟩ : ∃ j, k = j + 1 := ⟨k - 1, by omega⟩
    show En (f_X0_one _ _ _ M) _
    unfold f_X0_one
    have hL := hP.2.2.2.1
    rw [hL.1]
    exact en_bi (en_f h2 (en_f h3 (en_f h45 (en_f h40 (cbrk k M cs hP)))))
  · obtain ⟨k, rfl⟩ : ∃ j, k = j + 1 := ⟨k - 1, by omega⟩
    show En (f_X6_atom _ _ _ _ _ _ M) _
    unfold f_X6_atom f_X6_atom_j123
    have hL := hP.2.2.2.1
    have h28 := hP.2.2.2.2.1
    refine en_bd' (rsg_eq hL h28 rfl) (en_t (if10.mpr h45) (en_bd' (rsg_eq hL h28 rfl) (en_t (if10.mpr h40) (en_t h28 (en_f (fun z => h2 (hL.num.mp z)) (en_t h28 (en_ite (fun h1 => ?_) (fun h1 => ?_))))))))
    · refine en_bd (en_imp (rname_no hP h3) ?_)
      rintro ⟨r1, M1⟩ ⟨g1, g2⟩
      exact en_f (rf_bad g2) (en_some ⟨g1, g2⟩)
    · unfold f_X6_atom_j157
      exact en_bv (en_imp (r_fail hP) fun M1 h => en_some h)
end ATOM
