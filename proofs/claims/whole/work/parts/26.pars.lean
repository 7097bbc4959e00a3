/-! ===== codes, and what they come to ===== -/
def jn (k x y : Int32) : Int32 :=
  if k = 43 then x + y else if k = 45 then x - y else if k = 60 then (if y ≤ x then 0 else 1) else if k = 61 then (if x = y then 1 else 0) else if k = 103 then (if x = 0 then (if y = 0 then 0 else 1) else 1) else if k = 104 then (if x = 0 then 0 else if y = 0 then 0 else 1) else x * y
def tn (c x : Int32) : Int32 := if c = 20000 then -x else if x = 0 then 1 else 0
def opd (nm : Nat → Int32) (c : Int32) : Int32 := if 0 ≤ c - 10000 then (if 6 ≤ c - 10000 then 0 else nm (c - 10000).toNatClampNeg) else c
def one (nm : Nat → Int32) (c : Int32) (st : List Int32) : List Int32 :=
  if 20000 ≤ c then
    if c = 20000 ∨ c = 20105 then (match st with
      | [] => []
      | x :: r => tn c x :: r)
    else (match st with
      | [] => []
      | [x] => [x]
      | y :: x :: r => jn (c - 20000) x y :: r)
  else opd nm c :: st
def run (nm : Nat → Int32) : List Int32 → List Int32 → List Int32
  | [], st => st
  | c :: cs, st => run nm cs (one nm c st)
theorem run_app (nm : Nat → Int32) (c d : List Int32) (st : List Int32) : run nm (c ++ d) st = run nm d (run nm c st) := by
  induction c generalizing st with
  | nil => rfl
  | cons a c ih => exact ih _
theorem run_bin {nm : Nat → Int32} {k : Int32} (h1 : (20000 : Int32) ≤ 20000 + k) (h2 : ¬ (20000 + k = (20000 : Int32))) (h3 : ¬ (20000 + k = (20105 : Int32))) (h4 : (20000 : Int32) + k - 20000 = k) (x y : Int32) (st : List Int32) : run nm [20000 + k] (y :: x :: st) = jn k x y :: st := by
  show one nm (20000 + k) (y :: x :: st) = _
  rw [one, if_pos h1, if_neg (by rintro (h | h); exact h2 h; exact h3 h), h4]
theorem run_un {nm : Nat → Int32} {k : Int32} (h : k = 20000 ∨ k = 20105) (x : Int32) (st : List Int32) : run nm [k] (x :: st) = tn k x :: st := by
  show one nm k (x :: st) = _
  rw [one, if_pos (by rcases h with rfl | rfl <;> decide), if_pos h]
theorem run_num {nm : Nat → Int32} {v : Nat} (h : v < 10000) (st : List Int32) : run nm [nI v] st = nI v :: st := by
  have h1 : ¬ (20000 : Int32) ≤ nI v := by
    show ¬ nI 20000 ≤ nI v
    rw [nI_leI (by omega) (by omega)]; omega
  have h2 : ¬ (0 : Int32) ≤ nI v - 10000 := by
    have := pk_sneg (a := v) (b := 10000) (by omega) h
    exact Int32.not_le.mpr this
  show one nm (nI v) st = _
  unfold one opd
  rw [if_neg h1, if_neg h2]
theorem run_name {nm : Nat → Int32} {w : Nat} (h : w < 6) (st : List Int32) : run nm [nI (10000 + w)] st = nm w :: st := by
  have h1 : ¬ (20000 : Int32) ≤ nI (10000 + w) := by
    show ¬ nI 20000 ≤ nI (10000 + w)
    rw [nI_leI (by omega) (by omega)]; omega
  have h2 : nI (10000 + w) - 10000 = nI w := by
    show nI (10000 + w) - nI 10000 = _
    rw [pk_sub (by omega), Nat.add_sub_cancel_left]
  have h3 : ¬ (6 : Int32) ≤ nI w := by
    show ¬ nI 6 ≤ nI w
    rw [nI_leI (by omega) (by omega)]; omega
  show one nm (nI (10000 + w)) st = _
  unfold one opd
  rw [if_neg h1, h2, if_pos (nI_pos' (by omega)), if_neg h3, nI_clamp (by omega)]
theorem dv_lt {b : Nat → Int32} {n s : Nat} : ∀ k, (∀ j, j < k → Di (bat b n (s + j)) = true) → dv b s k < 10 ^ k
  | 0, _ => Nat.one_pos
  | k + 1, h => by
    have ih := dv_lt k (fun j hj => h j (by omega))
    have hd := h k (by omega)
    obtain ⟨j, hj, ej, dj⟩ := dig_val hd
    rw [bat_in (bat_lt Di_m hd)] at dj
    rw [dv, dj, Nat.pow_succ]
    omega
/-! ===== states of the two readers ===== -/
def Cd (cs : List Int32) (M : Mm) : Prop := M.1 3 8 = nI cs.length ∧ ∀ i, i < cs.length → M.1 16 i = cs.getD i 0
def KP : Nat → Nat → Bool := fun o k => !(o == 3 && (k == 2 || (k == 3 || (k == 4 || (k == 5 || (k == 6 || k == 8)))))) && !(o == 16)
def KR : Nat → Nat → Bool := fun o k => !(o == 0 && (k == 23 || (k == 24 || (k == 25 || (k == 27 || (k == 28 || k == 29))))))
/-- the class before its token that begins at p, codes cs in hand -/
def Pc (b : Nat → Int32) (n p : Nat) (cs : List Int32) (M : Mm) : Prop := Byt b n ∧ p ≤ n ∧ Tp b n M ∧ Lx b n p M ∧ M.1 3 6 = -1 ∧ Cd cs M
/-- the class broken off at q -/
def Fc (q : Nat) (M : Mm) : Prop := M.1 3 3 = 1 ∧ M.1 3 6 = nI q ∧ q ≤ 160
/-- the reference before its token that begins at p -/
def Pr (b : Nat → Int32) (n t p op : Nat) (M : Mm) : Prop := Byt b n ∧ p ≤ n ∧ Tr b n t M ∧ Lr b n p M ∧ M.1 0 28 = 0 ∧ M.1 0 27 = nI op
def Fr (q : Nat) (M : Mm) : Prop := M.1 0 28 = 1 ∧ M.1 0 29 = nI q
def nmR (M : Mm) : Nat → Int32 := fun w => M.1 0 (15 + w)
section ST
variable {b : Nat → Int32} {n t p op q : Nat} {cs : List Int32} {M : Mm}
theorem ks_kp : ∀ o k, KP o k = true → KS o k = true := by
  intro o k h
  unfold KP at h
  unfold KS
  by_cases h3 : o = 3
  · subst h3
    simp at h ⊢
    omega
  · simp [h3]
theorem kn_kr : ∀ o k, KR o k = true → KN o k = true := by
  intro o k h
  unfold KR at h
  unfold KN
  by_cases h3 : o = 0
  · subst h3
    simp at h ⊢
    omega
  · simp [h3]
theorem Tp.kp {M1 : Mm} (h : Tp b n M) (hs : Sm KP KA M M1) : Tp b n M1 := h.same hs rfl (fun _ => rfl)
theorem Tr.kr {M1 : Mm} (h : Tr b n t M) (hs : Sm KR KB M M1) : Tr b n t M1 := h.same hs rfl rfl (fun _ => rfl)
theorem nmR_kr {M1 : Mm} (hs : Sm KR KB M M1) : ∀ w, w < 6 → nmR M1 w = nmR M w := by
  intro w hw
  unfold nmR
  refine hs.1 0 (15 + w) ?_
  unfold KR
  simp
  omega
theorem opd_congr {nm nm' : Nat → Int32} (h : ∀ w, w < 6 → nm' w = nm w) (c : Int32) : opd nm' c = opd nm c := by
  unfold opd
  split
  · split
    · rfl
    · next h0 h6 =>
      obtain ⟨j, hj, e⟩ := nI_of (fun z => absurd h0 (Int32.not_le.mpr z))
      rw [e] at h6 ⊢
      have h6 : ¬ nI 6 ≤ nI j := h6
      rw [nI_leI (by omega) hj] at h6
      rw [nI_clamp hj]
      exact h _ (by omega)
  · rfl
theorem run_congr {nm nm' : Nat → Int32} (h : ∀ w, w < 6 → nm' w = nm w) (c : List Int32) : ∀ st, run nm' c st = run nm c st := by
  induction c with
  | nil => exact fun _ => rfl
  | cons a c ih =>
    intro st
    show run nm' c (one nm' a st) = run nm c (one nm a st)
    rw [ih]
    congr 1
    unfold one
    rw [opd_congr h]
/-! the class's moves -/
theorem p_step (h : Pc b n p cs M) (h0 : ltk b n p ≠ 0) : En (f_X0_step M) (fun M1 => Sm KP KA M M1 ∧ Pc b n (lnx b n p) cs M1) := by
  obtain ⟨hB, hp, hT, hL, h6, hc⟩ := h
  have hx := lnx_gt hp h0
  refine en_imp (step_ok hB hT hL.2.2.1 hx.2) ?_
  rintro M1 ⟨g1, g2⟩
  exact ⟨g1.weak ks_kp (fun _ h => h), hB, hx.2, hT.ks g1, g2, by rw [g1.1 3 6 rfl, h6], by rw [g1.1 3 8 rfl, hc.1], fun i hi => by rw [g1.1 16 i rfl, hc.2 i hi]⟩
theorem p_put (h : Pc b n p cs M) (hl : cs.length < 160) (x : Int32) : En (f_X0_put x M) (fun M1 => Sm KP KA M M1 ∧ Pc b n p (cs ++ [x]) M1) := by
  obtain ⟨hB, hp, hT, hL, h6, hc⟩ := h
  unfold f_X0_put
  rw [hc.1]
  refine en_f (nI_ltz (by omega)) (en_f (by show ¬ nI 160 ≤ nI _; rw [nI_leI (by omega) (by omega)]; omega) (en_gd (bin_nI hl (by omega)) ?_))
  rw [cl_nI (by omega)]
  refine en_bmv fun M1 e1 => en_bmv fun M2 e2 => ?_
  have hs : Sm KP KA M M2 := (sm_1 e1 rfl).tr (sm_1 e2 rfl)
  refine en_some ⟨hs, hB, hp, hT.kp hs, ⟨?_, ?_, ?_, ?_⟩, ?_, ?_, ?_⟩
  · rw [ms_off e2 (by omega), ms_off e1 (by omega)]; exact hL.1
  · rw [ms_off e2 (by omega), ms_off e1 (by omega)]; exact hL.2.1
  · rw [ms_off e2 (by omega), ms_off e1 (by omega)]; exact hL.2.2.1
  · intro h
    rw [ms_off e2 (by omega), ms_off e1 (by omega)]; exact hL.2.2.2 h
  · rw [ms_off e2 (by omega), ms_off e1 (by omega)]; exact h6
  · rw [ms_at e2, ms_off e1 (by omega), hc.1, List.length_append]
    exact nI_add _ 1
  · intro i hi
    rw [ms_off e2 (by omega)]
    rw [List.length_append] at hi
    have hi : i < cs.length + 1 := hi
    rcases Nat.lt_or_ge i cs.length with q | q
    · rw [ms_off e1 (by omega), hc.2 i q]
      simp [List.getD_eq_getElem?_getD, List.getElem?_append_left q]
    · have : i = cs.length := by omega
      subst this
      rw [ms_at e1]
      simp [List.getD_eq_getElem?_getD]
theorem p_brk (h : Pc b n p cs M) : En (f_X0_breakOff M) (fun M1 => Sm KP KA M M1 ∧ Fc (lat b n p) M1) := by
  obtain ⟨hB, hp, hT, hL, h6, hc⟩ := h
  have hn := hT.2.1
  have := lat_le (b := b) hp
  unfold f_X0_breakOff f_X0_breakOff_j16
  refine en_t h6 (en_bmv fun M1 e1 => en_bmv fun M2 e2 => en_some ⟨(sm_1 e1 rfl).tr (sm_1 e2 rfl), ms_at e2, ?_, by omega⟩)
  rw [ms_off e2 (by omega), ms_at e1, hL.2.1]
theorem cf_put (h : Fc q M) (x : Int32) : En (f_X0_put x M) (fun M1 => Sm KP KA M M1 ∧ Fc q M1) := by
  unfold f_X0_put
  refine en_ite (fun _ => en_some ⟨Sm.rf, h⟩) (fun h0 => en_ite (fun _ => en_some ⟨Sm.rf, h⟩) (fun h1 => ?_))
  obtain ⟨j, hj, e⟩ := nI_of h0
  rw [e] at h1 ⊢
  have h1 : ¬ nI 160 ≤ nI j := h1
  rw [nI_leI (by omega) hj] at h1
  refine en_gd (bin_nI (by omega) (by omega)) (en_bmv fun M1 e1 => en_bmv fun M2 e2 => en_some ⟨(sm_1 e1 rfl).tr (sm_1 e2 rfl), ?_, ?_, h.2.2⟩)
  · rw [ms_off e2 (by omega), ms_off e1 (by omega)]; exact h.1
  · rw [ms_off e2 (by omega), ms_off e1 (by omega)]; exact h.2.1
theorem cf_brk (h : Fc q M) : En (f_X0_breakOff M) (fun M1 => Sm KP KA M M1 ∧ Fc q M1) := by
  unfold f_X0_breakOff f_X0_breakOff_j16
  have h2 := h.2.2
  refine en_f (by rw [h.2.1]; exact nI_m1 (by omega)) (en_bmv fun M2 e2 => en_some ⟨sm_1 e2 rfl, ms_at e2, ?_, h.2.2⟩)
  rw [ms_off e2 (by omega)]; exact h.2.1
/-! the reference's moves -/
theorem r_next (h : Pr b n t p op M) (h0 : ltk b n p ≠ 0) (h1 : ltk b n p ≠ 1) : En (f_X6_next M) (fun M1 => Sm KR KB M M1 ∧ Pr b n t (lnx b n p) op M1) := by
  obtain ⟨hB, hp, hT, hL, h28, h27⟩ := h
  have hx := lnx_gt hp h0
  refine en_imp (next_ok hB hT (hL.here h0 h1) hx.2) ?_
  rintro M1 ⟨g1, g2⟩
  exact ⟨g1.weak kn_kr (fun _ h => h), hB, hx.2, hT.kn g1, g2, by rw [g1.1 0 28 rfl, h28], by rw [g1.1 0 27 rfl, h27]⟩
theorem r_fail (h : Pr b n t p op M) : En (f_X6_fail M) (fun M1 => Sm KR KB M M1 ∧ Fr (lat b n p) M1) := by
  obtain ⟨hB, hp, hT, hL, h28, h27⟩ := h
  unfold f_X6_fail
  refine en_t h28 (en_bmv fun M1 e1 => en_bmv fun M2 e2 => en_some ⟨(sm_1 e1 rfl).tr (sm_1 e2 rfl), ?_, ?_⟩)
  · rw [ms_off e2 (by omega), ms_at e1]
  · rw [ms_at e2, ms_off e1 (by omega), hL.1]
theorem rf_bad (h : Fr q M) : ¬ M.1 0 28 = 0 := by rw [h.1]; decide
theorem rf_fail (h : Fr q M) : f_X6_fail M = some M := by
  unfold f_X6_fail
  rw [if_neg (rf_bad h)]
theorem rf_sign (h : Fr q M) (s : Int32) : f_X6_isSign s M = some (0, M) := by
  unfold f_X6_isSign
  rw [if_neg (rf_bad h)]
theorem rf_word (h : Fr q M) (x1 x2 x3 x4 x5 x6 x7 x8 : Int32) : f_X6_isWord x1 x2 x3 x4 x5 x6 x7 x8 M = some (0, M) := by
  unfold f_X6_isWord
  rw [if_neg (rf_bad h)]
theorem r_opens5 (h : Pr b n t p 5 M) : En (f_X6_opens M) (fun r => r.1 = 0 ∧ Sm KR KB M r.2 ∧ Fr (lat b n p) r.2) := by
  unfold f_X6_opens
  refine en_t h.2.2.2.2.2 (en_bv (en_imp (r_fail h) ?_))
  rintro M1 ⟨g1, g2⟩
  exact en_some ⟨rfl, g1, g2⟩
theorem r_opens (h : Pr b n t p op M) (h5 : op < 5) (h0 : ltk b n p ≠ 0) (h1 : ltk b n p ≠ 1) : En (f_X6_opens M) (fun r => r.1 = 1 ∧ Sm KR KB M r.2 ∧ Pr b n t (lnx b n p) (op + 1) r.2) := by
  obtain ⟨hB, hp, hT, hL, h28, h27⟩ := h
  unfold f_X6_opens
  rw [h27]
  refine en_f (by show ¬ nI op = nI 5; rw [nI_eq (by omega) (by omega)]; omega) (en_bmv fun M1 e1 => ?_)
  have hs : Sm KR KB M M1 := sm_1 e1 rfl
  have hP : Pr b n t p (op + 1) M1 := by
    refine ⟨hB, hp, hT.kr hs, ?_, by rw [ms_off e1 (by omega), h28], by rw [ms_at e1]; exact nI_add op 1⟩
    unfold Lr
    rw [ms_off e1 (by omega), ms_off e1 (by omega), ms_off e1 (by omega), ms_offl e1]
    exact hL
  refine en_bv (en_imp (r_next hP h0 h1) ?_)
  rintro M2 ⟨g1, g2⟩
  exact en_some ⟨rfl, hs.tr g1, g2⟩
theorem r_close (h : Pr b n t p (op + 1) M) : Sm KR KB M (ms M 0 27 ((M.1 0 27) - 1)) ∧ Pr b n t p op (ms M 0 27 ((M.1 0 27) - 1)) := by
  obtain ⟨hB, hp, hT, hL, h28, h27⟩ := h
  have hs : Sm KR KB M (ms M 0 27 ((M.1 0 27) - 1)) := sm_1 rfl rfl
  refine ⟨hs, hB, hp, hT.kr hs, ?_, ?_, ?_⟩
  · unfold Lr
    rw [ms_off rfl (by omega), ms_off rfl (by omega), ms_off rfl (by omega), ms_offl rfl]
    exact hL
  · rw [ms_off rfl (by omega), h28]
  · rw [ms_at rfl, h27]
    exact nI_pred op
theorem rf_close (h : Fr q M) : Sm KR KB M (ms M 0 27 ((M.1 0 27) - 1)) ∧ Fr q (ms M 0 27 ((M.1 0 27) - 1)) := by
  refine ⟨sm_1 rfl rfl, ?_, ?_⟩
  · rw [ms_off rfl (by omega)]; exact h.1
  · rw [ms_off rfl (by omega)]; exact h.2
end ST
