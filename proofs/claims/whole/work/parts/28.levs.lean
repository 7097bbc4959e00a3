/-! ===== the levels of the two parsers ===== -/
def lvI (c : Int32) : Int32 := if c = 42 then 4 else if c = 43 then 3 else if c = 45 then 3 else if c = 60 then 2 else if c = 61 then 2 else if c = 103 then 0 else if c = 104 then 1 else -1
theorem levelOf_eq (c : Int32) (M : Mm) : f_X0_levelOf c M = some (lvI c, M) := by
  unfold f_X0_levelOf lvI
  simp only [bi, swc]
  repeat' split
  all_goals rfl
theorem lvI_cases (c : Int32) : c = 42 ∧ lvI c = 4 ∨ c = 43 ∧ lvI c = 3 ∨ c = 45 ∧ lvI c = 3 ∨ c = 60 ∧ lvI c = 2 ∨ c = 61 ∧ lvI c = 2 ∨ c = 103 ∧ lvI c = 0 ∨ c = 104 ∧ lvI c = 1 ∨ (c ≠ 42 ∧ c ≠ 43 ∧ c ≠ 45 ∧ c ≠ 60 ∧ c ≠ 61 ∧ c ≠ 103 ∧ c ≠ 104) ∧ lvI c = -1 := by
  unfold lvI
  repeat' split
  all_goals simp_all
theorem lv_0 {c : Int32} : lvI c = nI 0 ↔ c = 103 := by
  rcases lvI_cases c with ⟨h, g⟩ | ⟨h, g⟩ | ⟨h, g⟩ | ⟨h, g⟩ | ⟨h, g⟩ | ⟨h, g⟩ | ⟨h, g⟩ | ⟨h, g⟩ <;> rw [g]
  all_goals first | (subst h; decide) | exact ⟨fun z => absurd z (by decide), fun z => absurd z h.2.2.2.2.2.1⟩
theorem lv_1 {c : Int32} : lvI c = nI 1 ↔ c = 104 := by
  rcases lvI_cases c with ⟨h, g⟩ | ⟨h, g⟩ | ⟨h, g⟩ | ⟨h, g⟩ | ⟨h, g⟩ | ⟨h, g⟩ | ⟨h, g⟩ | ⟨h, g⟩ <;> rw [g]
  all_goals first | (subst h; decide) | exact ⟨fun z => absurd z (by decide), fun z => absurd z h.2.2.2.2.2.2⟩
theorem lv_2 {c : Int32} : lvI c = nI 2 ↔ c = 60 ∨ c = 61 := by
  rcases lvI_cases c with ⟨h, g⟩ | ⟨h, g⟩ | ⟨h, g⟩ | ⟨h, g⟩ | ⟨h, g⟩ | ⟨h, g⟩ | ⟨h, g⟩ | ⟨h, g⟩ <;> rw [g]
  all_goals first | (subst h; decide) | exact ⟨fun z => absurd z (by decide), fun z => by rcases z with z | z; exact absurd z h.2.2.2.1; exact absurd z h.2.2.2.2.1⟩
theorem lv_3 {c : Int32} : lvI c = nI 3 ↔ c = 43 ∨ c = 45 := by
  rcases lvI_cases c with ⟨h, g⟩ | ⟨h, g⟩ | ⟨h, g⟩ | ⟨h, g⟩ | ⟨h, g⟩ | ⟨h, g⟩ | ⟨h, g⟩ | ⟨h, g⟩ <;> rw [g]
  all_goals first | (subst h; decide) | exact ⟨fun z => absurd z (by decide), fun z => by rcases z with z | z; exact absurd z h.2.1; exact absurd z h.2.2.1⟩
theorem lv_4 {c : Int32} : lvI c = nI 4 ↔ c = 42 := by
  rcases lvI_cases c with ⟨h, g⟩ | ⟨h, g⟩ | ⟨h, g⟩ | ⟨h, g⟩ | ⟨h, g⟩ | ⟨h, g⟩ | ⟨h, g⟩ | ⟨h, g⟩ <;> rw [g]
  all_goals first | (subst h; decide) | exact ⟨fun z => absurd z (by decide), fun z => absurd z h.1⟩
theorem lv_any {c : Int32} {lv : Nat} (hl : lv ≤ 4) (h : lvI c = nI lv) : c = 42 ∨ c = 43 ∨ c = 45 ∨ c = 60 ∨ c = 61 ∨ c = 103 ∨ c = 104 := by
  rcases (by omega : lv = 0 ∨ lv = 1 ∨ lv = 2 ∨ lv = 3 ∨ lv = 4) with rfl | rfl | rfl | rfl | rfl
  · have := lv_0.mp h; simp [this]
  · have := lv_1.mp h; simp [this]
  · rcases lv_2.mp h with h | h <;> simp [h]
  · rcases lv_3.mp h with h | h <;> simp [h]
  · have := lv_4.mp h; simp [this]
theorem lv_tok {c : Int32} {lv : Nat} (hl : lv ≤ 4) (h : lvI c = nI lv) : c ≠ 0 ∧ c ≠ 1 := by
  rcases lv_any hl h with rfl | rfl | rfl | rfl | rfl | rfl | rfl <;> decide
theorem run_op {nm : Nat → Int32} {c : Int32} {lv : Nat} (hl : lv ≤ 4) (h : lvI c = nI lv) (x y : Int32) (st : List Int32) : run nm [20000 + c] (y :: x :: st) = jn c x y :: st := by
  rcases lv_any hl h with rfl | rfl | rfl | rfl | rfl | rfl | rfl <;> exact run_bin (by decide) (by decide) (by decide) (by decide) x y st
/-- the reference's loops -/
def rB (lv k : Nat) : Int32 → Mm → Option ((Int32 × Mm) ⊕ (Int32 × Mm)) := match lv with
  | 0 => f_X6_either_b5 (R_X6_either k).1 (R_X6_either k).2.1 (R_X6_either k).2.2.1 (R_X6_either k).2.2.2.1 (R_X6_either k).2.2.2.2.1 (R_X6_either k).2.2.2.2.2
  | 1 => f_X6_both_b5 (R_X6_either k).1 (R_X6_either k).2.1 (R_X6_either k).2.2.1 (R_X6_either k).2.2.2.1 (R_X6_either k).2.2.2.2.1 (R_X6_either k).2.2.2.2.2
  | 3 => f_X6_added_b5 (R_X6_either k).1 (R_X6_either k).2.1 (R_X6_either k).2.2.1 (R_X6_either k).2.2.2.1 (R_X6_either k).2.2.2.2.1 (R_X6_either k).2.2.2.2.2
  | _ => f_X6_term_b5 (R_X6_either k).1 (R_X6_either k).2.1 (R_X6_either k).2.2.1 (R_X6_either k).2.2.2.1 (R_X6_either k).2.2.2.2.1 (R_X6_either k).2.2.2.2.2
def lvs (lv : Nat) : Prop := lv = 0 ∨ lv = 1 ∨ lv = 3 ∨ lv = 4
section LEV
variable {b : Nat → Int32} {n t p op q : Nat} {cs : List Int32} {M : Mm}
theorem Pr.long (h : Pr b n t p op M) {s : Int32} (hs : Sg s = true) (hk : ltk b n p = s) : M.2 0 = s.toInt64 := by
  obtain ⟨-, -, -, hL, -, -⟩ := h
  obtain ⟨-, ⟨-, z, q⟩ | ⟨hl, q, -⟩ | ⟨z, q, -⟩ | ⟨-, q, -, g⟩ | ⟨z, q, hx⟩⟩ := hL
  · rw [hk] at z; subst z; exact absurd hs (by decide)
  · exact absurd hk (ltk_nsg hl (Or.inl hs))
  · rw [hk] at z; subst z; exact absurd hs (by decide)
  · rw [g, hk]
  · rw [hk] at z; subst z; exact absurd hs (by decide)
theorem rB_no {lv k : Nat} (hv : lvs lv) (h : Pr b n t p op M) (ho : ¬ lvI (ltk b n p) = nI lv) (x : Int32) : rB lv k x M = some (.inr (x, M)) := by
  obtain ⟨hB, hp, hT, hL, h28, h27⟩ := h
  refine en_eq ?_
  rcases hv with rfl | rfl | rfl | rfl
  · have ho : ¬ ltk b n p = nI (94 + 9) := fun z => ho (lv_0.mpr z)
    unfold rB
    unfold f_X6_either_b5
    exact en_bd' (rkey_eq hB hT hp hL h28 (w := 9) (by omega) (by omega)) (en_t (if10.mpr ho) (en_ex (en_some rfl)))
  · have ho : ¬ ltk b n p = nI (94 + 10) := fun z => ho (lv_1.mpr z)
    unfold rB
    unfold f_X6_both_b5
    exact en_bd' (rkey_eq hB hT hp hL h28 (w := 10) (by omega) (by omega)) (en_t (if10.mpr ho) (en_ex (en_some rfl)))
  · unfold rB
    unfold f_X6_added_b5
    exact en_bd' (rsg_eq hL h28 rfl) (en_t (if10.mpr fun z => ho (lv_3.mpr (Or.inl z))) (en_bd' (rsg_eq hL h28 rfl) (en_t (if10.mpr fun z => ho (lv_3.mpr (Or.inr z))) (en_ex (en_some rfl)))))
  · unfold rB
    unfold f_X6_term_b5
    exact en_bd' (rsg_eq hL h28 rfl) (en_t (if10.mpr fun z => ho (lv_4.mpr z)) (en_ex (en_some rfl)))
theorem rB_bad {lv k : Nat} (hv : lvs lv) (h : Fr q M) (x : Int32) : rB lv k x M = some (.inr (x, M)) := by
  refine en_eq ?_
  rcases hv with rfl | rfl | rfl | rfl
  · unfold rB
    unfold f_X6_either_b5
    exact en_bd' (rf_word h _ _ _ _ _ _ _ _) (en_t rfl (en_ex (en_some rfl)))
  · unfold rB
    unfold f_X6_both_b5
    exact en_bd' (rf_word h _ _ _ _ _ _ _ _) (en_t rfl (en_ex (en_some rfl)))
  · unfold rB
    unfold f_X6_added_b5
    exact en_bd' (rf_sign h _) (en_t rfl (en_bd' (rf_sign h _) (en_t rfl (en_ex (en_some rfl)))))
  · unfold rB
    unfold f_X6_term_b5
    exact en_bd' (rf_sign h _) (en_t rfl (en_ex (en_some rfl)))
theorem rB_op {lv k : Nat} (hv : lvs lv) (h : Pr b n t p op M) (ho : lvI (ltk b n p) = nI lv) (x : Int32) {P : (Int32 × Mm) ⊕ (Int32 × Mm) → Prop}
    (hgo : En (f_X6_next M) (fun M5 => En (rF (lv + 1) k M5) (fun r => P (.inl (jn (ltk b n p) x r.1, r.2))))) : En (rB lv k x M) P := by
  have hP := h
  obtain ⟨hB, hp, hT, hL, h28, h27⟩ := h
  rcases hv with rfl | rfl | rfl | rfl
  · have ho : ltk b n p = nI (94 + 9) := lv_0.mp ho
    unfold rB
    unfold f_X6_either_b5
    refine en_bd' (rkey_eq hB hT hp hL h28 (w := 9) (by omega) (by omega)) (en_f (fun z => if10.mp z ho) (en_bv (en_imp hgo fun M5 h5 => en_bd (en_imp h5 fun r hr => ?_))))
    have e : jn (ltk b n p) x r.1 = if x = 0 then (if r.1 = 0 then 0 else 1) else 1 := by rw [ho]; rfl
    rw [e] at hr
    refine en_ite (fun a => en_ite (fun c => en_some ?_) (fun c => en_some ?_)) (fun a => en_some ?_)
    · rw [if_pos a, if_pos c] at hr; exact hr
    · rw [if_pos a, if_neg c] at hr; exact hr
    · rw [if_neg a] at hr; exact hr
  · have ho : ltk b n p = nI (94 + 10) := lv_1.mp ho
    unfold rB
    unfold f_X6_both_b5
    refine en_bd' (rkey_eq hB hT hp hL h28 (w := 10) (by omega) (by omega)) (en_f (fun z => if10.mp z ho) (en_bv (en_imp hgo fun M5 h5 => en_bd (en_imp h5 fun r hr => ?_))))
    have e : jn (ltk b n p) x r.1 = if x = 0 then 0 else if r.1 = 0 then 0 else 1 := by rw [ho]; rfl
    rw [e] at hr
    refine en_ite (fun a => en_some ?_) (fun a => en_ite (fun c => en_some ?_) (fun c => en_some ?_))
    · rw [if_pos a] at hr; exact hr
    · rw [if_neg a, if_pos c] at hr; exact hr
    · rw [if_neg a, if_neg c] at hr; exact hr
  · unfold rB
    unfold f_X6_added_b5 f_X6_added_j23 f_X6_added_j39
    rcases lv_3.mp ho with e | e
    · have hlg := hP.long (s := 43) rfl e
      refine en_bd' (rsg_eq hL h28 rfl) (en_f (fun z => if10.mp z e) (en_t (by rw [hlg]; decide) (en_bv (en_imp hgo fun M5 h5 => en_bd (en_imp h5 fun r hr => ?_)))))
      rw [e] at hr
      exact en_f (by decide) (en_bi (en_some hr))
    · have hlg := hP.long (s := 45) rfl e
      refine en_bd' (rsg_eq hL h28 rfl) (en_t (if10.mpr (by rw [e]; decide)) (en_bd' (rsg_eq hL h28 rfl) (en_f (fun z => if10.mp z e) (en_f (by rw [hlg]; decide) (en_bv (en_imp hgo fun M5 h5 => en_bd (en_imp h5 fun r hr => ?_)))))))
      rw [e] at hr
      exact en_t rfl (en_bi (en_some hr))
  · unfold rB
    unfold f_X6_term_b5
    have e := lv_4.mp ho
    refine en_bd' (rsg_eq hL h28 rfl) (en_f (fun z => if10.mp z e) (en_bv (en_imp hgo fun M5 h5 => en_bd (en_imp h5 fun r hr => ?_))))
    rw [e] at hr
    exact en_bi (en_some hr)
/-! the class's loop -/
theorem rl_end {ρ : Type} {body : Int32 × Mm → Option ((Int32 × Mm) ⊕ ρ)} {f : Nat} {s : Int32 × Mm} {y : ρ} (h : body s = some (.inr y)) : iter body (f + 1) s = some y := by
  unfold iter
  rw [h]
theorem rl_go {ρ : Type} {body : Int32 × Mm → Option ((Int32 × Mm) ⊕ ρ)} {f : Nat} {s : Int32 × Mm} {P : ρ → Prop} (h : En (body s) (fun z => ∃ s', z = .inl s' ∧ En (iter body f s') P)) : En (iter body (f + 1) s) P := by
  obtain ⟨z, e, s', rfl, h⟩ := h
  unfold iter
  rw [e]
  exact h
theorem cl_end {F : Int32 → Int32 → Mm → Option Mm} {G : Int32 → Mm → Option Mm} {x1 x2 x3 : Int32} {f : Nat} {i : Int32} {M : Mm} (h : x3 ≤ i ∨ ¬ lvI (M.1 3 3) = x1) : iter (fun s => f_X0_reckon_b79 F G x1 x2 x3 s.1 s.2) (f + 1) (i, M) = some M := by
  have : f_X0_reckon_b79 F G x1 x2 x3 i M = some (.inr M) := by
    refine en_eq ?_
    unfold f_X0_reckon_b79
    by_cases h1 : x3 ≤ i
    · exact en_t h1 (en_ex (en_some rfl))
    · have h2 := h.resolve_left h1
      exact en_f h1 (en_bd' (levelOf_eq _ _) (en_f h2 (en_ex (en_some rfl))))
  exact rl_end this
theorem cl_go {F : Int32 → Int32 → Mm → Option Mm} {G : Int32 → Mm → Option Mm} {x1 x2 x3 : Int32} {f : Nat} {i : Int32} {M : Mm} {P : Mm → Prop} (h : ¬ x3 ≤ i) (h2 : lvI (M.1 3 3) = x1)
    (hgo : En (f_X0_step M) (fun M5 => En (F (x1 + 1) x2 M5) (fun M6 => En (f_X0_put (20000 + M.1 3 3) M6) (fun M7 => En (iter (fun s => f_X0_reckon_b79 F G x1 x2 x3 s.1 s.2) f (i + 1, M7)) P)))) : En (iter (fun s => f_X0_reckon_b79 F G x1 x2 x3 s.1 s.2) (f + 1) (i, M)) P := by
  obtain ⟨M5, e5, M6, e6, M7, e7, hP⟩ := hgo
  have : f_X0_reckon_b79 F G x1 x2 x3 i M = some (.inl (i + 1, M7)) := by
    refine en_eq ?_
    unfold f_X0_reckon_b79
    exact en_f h (en_bd' (levelOf_eq _ _) (en_t h2 (en_bi (en_bv' e5 (en_bv' e6 (en_bv' e7 (en_bi (en_some rfl))))))))
  exact rl_go (en_of this ⟨_, rfl, hP⟩)
def LG (b : Nat → Int32) (n lv op p : Nat) : Prop := ∃ res, (∀ z, res = .inr z → p ≤ z.1 ∧ z.1 ≤ n ∧ z.2.length + p ≤ z.1) ∧
  (∀ k, 7 * (5 - op) + (7 - (lv + 1)) ≤ k → ∀ f i, n - p < f → i ≤ p → CD b n p res (fun M => iter (fun s => f_X0_reckon_b79 (R_X0_reckon k).1 (R_X0_reckon k).2 (nI lv) (nI op) 160 s.1 s.2) f (nI i, M))) ∧
  (∀ k, 7 * (5 - op) + (7 - (lv + 1)) ≤ k → ∀ f, n - p < f → ∀ t M x, Pr b n t p op M → En (iter (fun s => rB lv k s.1 s.2) f (x, M)) (RPo b n t op M [x] res))
theorem loop_good {lv : Nat} (hv : lvs lv) (hB : Byt b n) (hn : n ≤ 160) : ∀ (m p : Nat), n - p ≤ m → p ≤ n → (∀ p', p < p' → p' ≤ n → GL b n (lv + 1) op p') → LG b n lv op p := by
  have hlv : lv ≤ 4 := by rcases hv with rfl | rfl | rfl | rfl <;> omega
  intro m
  induction m with
  | zero =>
    intro p hm hp ih
    -- the end of the tape: no sign is left
    have hpn : p = n := by omega
    have htk : ltk b n p = 0 := by
      subst hpn
      refine ltk_0 ?_
      exact bat_out (by exact lat_ge)
    have ho : ¬ lvI (ltk b n p) = nI lv := fun z => (lv_tok hlv z).1 htk
    refine ⟨.inr (p, []), ?_, ?_, ?_⟩
    · rintro z hz
      cases hz
      exact ⟨Nat.le_refl _, hp, by show 0 + p ≤ p; omega⟩
    · intro k hk f i hf hi M cs hl hP
      obtain ⟨f, rfl⟩ : ∃ j, f = j + 1 := ⟨f - 1, by omega⟩
      refine en_of (cl_end (Or.inr (by rw [hP.2.2.2.1.1]; exact ho))) ⟨Sm.rf, ?_⟩
      show Pc b n p (cs ++ []) M
      rw [List.append_nil]; exact hP
    · intro k hk f hf t M x hP
      obtain ⟨f, rfl⟩ : ∃ j, f = j + 1 := ⟨f - 1, by omega⟩
      exact en_of (rl_end (rB_no hv hP ho x)) ⟨Sm.rf, hP, fun st => rfl⟩
  | succ m im =>
    intro p hm hp ih
    by_cases ho : lvI (ltk b n p) = nI lv
    · obtain ⟨h0, h1⟩ := lv_tok hlv ho
      have hx := lnx_gt hp h0
      obtain ⟨res, hf, hc, hr⟩ := ih _ hx.1 hx.2
      cases res with
      | inl q =>
        refine ⟨.inl q, fun z hz => (by cases hz), ?_, ?_⟩
        · intro k hk f i hf hi M cs hl hP
          obtain ⟨f, rfl⟩ : ∃ j, f = j + 1 := ⟨f - 1, by omega⟩
          refine cl_go (by show ¬ nI 160 ≤ nI i; rw [nI_leI (by omega) (by omega)]; omega) (by rw [hP.2.2.2.1.1]; exact ho) ?_
          refine en_imp (p_step hP h0) ?_
          rintro M5 ⟨g1, g2⟩
          rw [show nI lv + 1 = nI (lv + 1) from nI_add lv 1]
          refine en_imp (hc k hk M5 cs (by omega) g2) ?_
          rintro M6 ⟨g3, g4⟩
          refine en_imp (cf_put g4 _) ?_
          rintro M7 ⟨g5, g6⟩
          obtain ⟨f, rfl⟩ : ∃ j, f = j + 1 := ⟨f - 1, by omega⟩
          refine en_of (cl_end (Or.inr ?_)) ⟨(g1.tr g3).tr g5, g6⟩
          rw [g6.1]
          intro z
          exact (lv_tok hlv z).2 rfl
        · intro k hk f hf t M x hP
          obtain ⟨f, rfl⟩ : ∃ j, f = j + 1 := ⟨f - 1, by omega⟩
          refine rl_go (rB_op hv hP ho x ?_)
          refine en_imp (r_next hP h0 h1) ?_
          rintro M5 ⟨g1, g2⟩
          refine en_imp (hr k hk t M5 g2) ?_
          rintro r ⟨g3, g4⟩
          obtain ⟨f, rfl⟩ : ∃ j, f = j + 1 := ⟨f - 1, by omega⟩
          exact ⟨_, rfl, en_of (rl_end (rB_bad hv g4 _)) ⟨g1.tr g3, g4⟩⟩
      | inr z =>
        obtain ⟨p2, c2⟩ := z
        obtain ⟨f1, f2, f3⟩ := hf
        have f1 : lnx b n p < p2 := f1
        have f2 : p2 ≤ n := f2
        have f3 : c2.length + lnx b n p ≤ p2 := f3
        obtain ⟨res3, h31, h32, h33⟩ := im p2 (by omega) f2 (fun p' q1 q2 => ih p' (by omega) q2)
        have cgo : ∀ (R : Res), (∀ cs M0 M1, Sm KP KA M0 M1 → ∀ M2, CPo b n (cs ++ (c2 ++ [20000 + ltk b n p])) M1 res3 M2 → CPo b n cs M0 R M2) → ∀ k, 7 * (5 - op) + (7 - (lv + 1)) ≤ k → ∀ f i, n - p < f → i ≤ p → CD b n p R (fun M => iter (fun s => f_X0_reckon_b79 (R_X0_reckon k).1 (R_X0_reckon k).2 (nI lv) (nI op) 160 s.1 s.2) f (nI i, M)) := by
          intro R hR k hk f i hf hi M cs hl hP
          obtain ⟨f, rfl⟩ : ∃ j, f = j + 1 := ⟨f - 1, by omega⟩
          refine cl_go (by show ¬ nI 160 ≤ nI i; rw [nI_leI (by omega) (by omega)]; omega) (by rw [hP.2.2.2.1.1]; exact ho) ?_
          refine en_imp (p_step hP h0) ?_
          rintro M5 ⟨g1, g2⟩
          rw [show nI lv + 1 = nI (lv + 1) from nI_add lv 1]
          refine en_imp (hc k hk M5 cs (by omega) g2) ?_
          rintro M6 ⟨g3, g4⟩
          have g4 : Pc b n p2 (cs ++ c2) M6 := g4
          rw [hP.2.2.2.1.1]
          refine en_imp (p_put g4 (by rw [List.length_append]; omega) _) ?_
          rintro M7 ⟨g5, g6⟩
          rw [List.append_assoc] at g6
          rw [show nI i + 1 = nI (i + 1) from nI_add i 1]
          refine en_imp (h32 k hk f (i + 1) (by omega) (by omega) M7 _ ?_ g6) (hR cs M M7 ((g1.tr g3).tr g5))
          rw [List.length_append, List.length_append]
          show cs.length + (c2.length + 1) ≤ p2
          omega
        have rgo : ∀ (R : Res), (∀ t M0 M1 M2 v x, Sm KR KB M0 M1 → (∀ st, run (nmR M0) (c2 ++ [20000 + ltk b n p]) (x :: st) = v :: st) → RPo b n t op M1 [v] res3 M2 → RPo b n t op M0 [x] R M2) → ∀ k, 7 * (5 - op) + (7 - (lv + 1)) ≤ k → ∀ f, n - p < f → ∀ t M x, Pr b n t p op M → En (iter (fun s => rB lv k s.1 s.2) f (x, M)) (RPo b n t op M [x] R) := by
          intro R hR k hk f hf t M x hP
          obtain ⟨f, rfl⟩ : ∃ j, f = j + 1 := ⟨f - 1, by omega⟩
          refine rl_go (rB_op hv hP ho x ?_)
          refine en_imp (r_next hP h0 h1) ?_
          rintro M5 ⟨g1, g2⟩
          refine en_imp (hr k hk t M5 g2) ?_
          rintro r ⟨g3, g4, g5⟩
          refine ⟨_, rfl, en_imp (h33 k hk f (by omega) t r.2 (jn (ltk b n p) x r.1) g4) ?_⟩
          intro r2 h2
          refine hR t M r.2 r2 _ x (g1.tr g3) (fun st => ?_) h2
          have h6 := g5 (x :: st)
          rw [run_congr (nmR_kr g1)] at h6
          have h6 : run (nmR M) c2 (x :: st) = r.1 :: x :: st := h6
          rw [run_app, h6]
          exact run_op hlv ho x r.1 st
        cases res3 with
        | inl q =>
          refine ⟨.inl q, fun z hz => (by cases hz), cgo _ ?_, rgo _ ?_⟩
          · rintro cs M0 M1 h1 M2 ⟨g1, g2⟩
            exact ⟨h1.tr g1, g2⟩
          · rintro t M0 M1 r v x h1 h2 ⟨g1, g2⟩
            exact ⟨h1.tr g1, g2⟩
        | inr z =>
          obtain ⟨p3, c3⟩ := z
          have h31 := h31 _ rfl
          obtain ⟨e1, e2, e3⟩ := h31
          have e1 : p2 ≤ p3 := e1
          have e2 : p3 ≤ n := e2
          have e3 : c3.length + p2 ≤ p3 := e3
          refine ⟨.inr (p3, c2 ++ [20000 + ltk b n p] ++ c3), ?_, cgo _ ?_, rgo _ ?_⟩
          · intro z hz
            cases hz
            refine ⟨by show p ≤ p3; omega, e2, ?_⟩
            show (c2 ++ [20000 + ltk b n p] ++ c3).length + p ≤ p3
            rw [List.length_append, List.length_append]
            show c2.length + 1 + c3.length + p ≤ p3
            omega
          · rintro cs M0 M1 h1 M2 ⟨g1, g2⟩
            refine ⟨h1.tr g1, ?_⟩
            show Pc b n p3 (cs ++ (c2 ++ [20000 + ltk b n p] ++ c3)) M2
            rw [← List.append_assoc]
            exact g2
          · rintro t M0 M1 r v x h1 h2 ⟨g1, g2, g3⟩
            refine ⟨h1.tr g1, g2, fun st => ?_⟩
            show run (nmR M0) (c2 ++ [20000 + ltk b n p] ++ c3) (x :: st) = r.1 :: st
            rw [run_app, h2 st]
            have h4 := g3 st
            rw [run_congr (nmR_kr h1)] at h4
            exact h4
    · refine ⟨.inr (p, []), ?_, ?_, ?_⟩
      · rintro z hz
        cases hz
        exact ⟨Nat.le_refl _, hp, by show 0 + p ≤ p; omega⟩
      · intro k hk f i hf hi M cs hl hP
        obtain ⟨f, rfl⟩ : ∃ j, f = j + 1 := ⟨f - 1, by omega⟩
        refine en_of (cl_end (Or.inr (by rw [hP.2.2.2.1.1]; exact ho))) ⟨Sm.rf, ?_⟩
        show Pc b n p (cs ++ []) M
        rw [List.append_nil]; exact hP
      · intro k hk f hf t M x hP
        obtain ⟨f, rfl⟩ : ∃ j, f = j + 1 := ⟨f - 1, by omega⟩
        exact en_of (rl_end (rB_no hv hP ho x)) ⟨Sm.rf, hP, fun st => rfl⟩
end LEV
