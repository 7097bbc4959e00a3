/-! ===== the class's reckoning of its codes ===== -/
theorem turned_eq (c x : Int32) (M : Mm) : f_X4_turned c x M = some (tn c x, M) := by
  unfold f_X4_turned tn
  split
  · rfl
  · split <;> rfl
theorem joined_eq (c x y : Int32) (M : Mm) : f_X4_joined c x y M = some (jn c x y, M) := by
  unfold f_X4_joined jn
  simp only [bi, swc]
  split
  · rfl
  split
  · rfl
  split
  · split <;> rfl
  split
  · split <;> rfl
  split
  · split
    · split <;> rfl
    · rfl
  split
  · split
    · rfl
    · split <;> rfl
  rfl
def nmC (M : Mm) : Nat → Int32 := fun w => M.1 20 w
theorem operand_eq (c : Int32) (M : Mm) : f_X4_operand c M = some (opd (nmC M) c, M) := by
  refine en_eq ?_
  unfold f_X4_operand opd
  refine en_bi (en_ite (fun h0 => ?_) (fun h0 => ?_))
  · rw [if_pos h0]
    refine en_ite (fun h6 => ?_) (fun h6 => ?_)
    · rw [if_pos h6]; exact en_some rfl
    · rw [if_neg h6]
      obtain ⟨j, hj, e⟩ := nI_of (fun z => absurd h0 (Int32.not_le.mpr z))
      rw [e] at h6 ⊢
      have h6 : ¬ nI 6 ≤ nI j := h6
      rw [nI_leI (by omega) hj] at h6
      exact en_gd (bin_nI (by omega) (by omega)) (en_some rfl)
  · rw [if_neg h0]; exact en_some rfl
/-- the class's store of text t -/
def TXc (t : Nat) (z : List Int32 × List Int32 × List Int32) (M : Mm) : Prop :=
  (z.1 ++ z.2.1 ++ z.2.2).length ≤ 160 ∧ (∀ i, i < (z.1 ++ z.2.1 ++ z.2.2).length → M.1 18 (160 * t + i) = (z.1 ++ z.2.1 ++ z.2.2).getD i 0) ∧
  M.1 19 (3 * t) = nI z.1.length ∧ M.1 19 (3 * t + 1) = nI (z.1 ++ z.2.1).length ∧ M.1 19 (3 * t + 2) = nI (z.1 ++ z.2.1 ++ z.2.2).length
def Stk (st : List Int32) (M : Mm) : Prop := ∀ j, j < st.length → M.1 21 j = st.getD (st.length - 1 - j) 0
def KV : Nat → Nat → Bool := fun o _ => !(o == 21)
section STACK
variable {nm : Nat → Int32} {c : List Int32} {M : Mm}
theorem one_len (nm : Nat → Int32) (a : Int32) (st : List Int32) : (one nm a st).length ≤ st.length + 1 := by
  unfold one
  split
  · split
    · cases st <;> simp
    · match st with
      | [] => simp
      | [x] => simp
      | y :: x :: r => simp
  · simp
theorem run_len (nm : Nat → Int32) : ∀ (c st : List Int32), (run nm c st).length ≤ st.length + c.length
  | [], st => Nat.le_refl _
  | a :: c, st => by
    have h1 := run_len nm c (one nm a st)
    have h2 := one_len nm a st
    show (run nm c (one nm a st)).length ≤ st.length + (c.length + 1)
    omega
theorem run_take {k : Nat} (hk : k < c.length) (st : List Int32) : run nm (c.take (k + 1)) st = one nm (c.getD k 0) (run nm (c.take k) st) := by
  rw [List.take_add_one, List.getElem?_eq_getElem hk, run_app, List.getD_eq_getElem?_getD, List.getElem?_eq_getElem hk]
  rfl
theorem stk_push {st : List Int32} (h : Stk st M) (v : Int32) : Stk (v :: st) (ms M 21 st.length v) := by
  intro j hj
  have hj : j < st.length + 1 := hj
  rcases Nat.lt_or_ge j st.length with q | q
  · rw [ms_off rfl (by omega), h j q]
    show _ = (v :: st).getD (st.length + 1 - 1 - j) 0
    rw [show st.length + 1 - 1 - j = (st.length - 1 - j) + 1 by omega]
    rfl
  · have : j = st.length := by omega
    subst this
    rw [ms_at rfl]
    show _ = (v :: st).getD (st.length + 1 - 1 - st.length) 0
    rw [show st.length + 1 - 1 - st.length = 0 by omega]
    rfl
theorem stk_pop {x : Int32} {st : List Int32} (h : Stk (x :: st) M) : Stk st M ∧ M.1 21 st.length = x := by
  constructor
  · intro j hj
    rw [h j (by show j < st.length + 1; omega)]
    show (x :: st).getD (st.length + 1 - 1 - j) 0 = _
    rw [show st.length + 1 - 1 - j = (st.length - 1 - j) + 1 by omega]
    rfl
  · rw [h st.length (by show st.length < st.length + 1; omega)]
    show (x :: st).getD (st.length + 1 - 1 - st.length) 0 = x
    rw [show st.length + 1 - 1 - st.length = 0 by omega]
    rfl
theorem valueOf_ok {t w : Nat} {z : List Int32 × List Int32 × List Int32} {v : Int32} (ht : t < 6) (hw : w < 3) (hz : TXc t z M) (hv : run (nmC M) (cwh w z) [] = [v]) : En (f_X4_valueOf (nI t) (nI w) M) (fun r => r.1 = v ∧ Sm KV KA M r.2) := by
  obtain ⟨z1, z2, z3, z4, z5⟩ := hz
  -- the part's codes: c, from s on
  have hsplit : ∃ s, s + (cwh w z).length ≤ 160 ∧ (∀ i, i < (cwh w z).length → M.1 18 (160 * t + (s + i)) = (cwh w z).getD i 0) ∧ M.1 19 (3 * t + w) = nI (s + (cwh w z).length) ∧ (if w = 0 then s = 0 else M.1 19 (3 * t + w - 1) = nI s) := by
    rcases (by omega : w = 0 ∨ w = 1 ∨ w = 2) with rfl | rfl | rfl
    · refine ⟨0, ?_, fun i hi => ?_, ?_, rfl⟩
      · show 0 + z.1.length ≤ 160
        rw [List.length_append, List.length_append] at z1; omega
      · have hi : i < z.1.length := hi
        rw [Nat.zero_add, z2 i (by rw [List.length_append, List.length_append]; omega)]
        show _ = z.1.getD i 0
        rw [List.getD_eq_getElem?_getD, List.getD_eq_getElem?_getD, List.append_assoc, List.getElem?_append_left hi]
      · show M.1 19 (3 * t + 0) = nI (0 + z.1.length)
        rw [Nat.add_zero, Nat.zero_add, z3]
    · refine ⟨z.1.length, ?_, fun i hi => ?_, ?_, ?_⟩
      · show z.1.length + z.2.1.length ≤ 160
        rw [List.length_append, List.length_append] at z1; omega
      · have hi : i < z.2.1.length := hi
        rw [z2 _ (by rw [List.length_append, List.length_append]; omega)]
        show _ = z.2.1.getD i 0
        rw [List.getD_eq_getElem?_getD, List.getD_eq_getElem?_getD, List.append_assoc, List.getElem?_append_right (by omega), Nat.add_sub_cancel_left, List.getElem?_append_left hi]
      · show M.1 19 (3 * t + 1) = nI (z.1.length + z.2.1.length)
        rw [z4, List.length_append]
      · show M.1 19 (3 * t + 1 - 1) = _
        rw [Nat.add_sub_cancel, z3]
    · refine ⟨(z.1 ++ z.2.1).length, ?_, fun i hi => ?_, ?_, ?_⟩
      · show (z.1 ++ z.2.1).length + z.2.2.length ≤ 160
        rw [List.length_append] at z1; omega
      · have hi : i < z.2.2.length := hi
        rw [z2 _ (by simp only [List.length_append] at hi ⊢; omega)]
        show _ = z.2.2.getD i 0
        rw [List.getD_eq_getElem?_getD, List.getD_eq_getElem?_getD, List.getElem?_append_right (by omega), Nat.add_sub_cancel_left]
      · show M.1 19 (3 * t + 2) = nI ((z.1 ++ z.2.1).length + z.2.2.length)
        rw [z5, List.length_append]
      · show M.1 19 (3 * t + 2 - 1) = _
        exact z4
  obtain ⟨s, s1, s2, s3, s4⟩ := hsplit
  generalize hcw : cwh w z = c at *
  have loop : En (f_X4_valueOf_j41 (nI t) (nI w) (nI s) M) (fun r => r.1 = v ∧ Sm KV KA M r.2) := by
    unfold f_X4_valueOf_j41
    have hix : (nI t * 3 + nI w) = nI (3 * t + w) := by
      rw [show (3 : Int32) = nI 3 from rfl, pk_mul, nI_add, Nat.mul_comm]
    rw [hix]
    refine en_gd (bin_nI (by omega) (by omega)) ?_
    rw [cl_nI (by omega), s3]
    have hmx : imx 0 (nI s) = nI s := by
      unfold imx
      split
      · rfl
      · next h =>
        have h : ¬ nI 0 < nI s := h
        rw [nI_ltI (by omega) (by omega)] at h
        rw [show s = 0 by omega]; rfl
    rw [hmx]
    refine en_bi (en_bi ?_)
    refine en_iter (fun q => ∃ k, k ≤ c.length ∧ q.1 = nI (run (nmC M) (c.take k) []).length ∧ q.2.1 = nI (s + k) ∧ Sm KV KA M q.2.2 ∧ Stk (run (nmC M) (c.take k) []) q.2.2) (fun q => 161 - q.2.1.toNatClampNeg) ⟨0, Nat.zero_le _, rfl, rfl, Sm.rf, fun j hj => absurd hj (Nat.not_lt_zero j)⟩ (by have := fuel_gt; omega) ?_
    rintro ⟨x5, x6, M2⟩ ⟨k, hk, rfl, rfl, hsm, hst⟩
    show En (f_X4_valueOf_b64 (nI t) (nI (s + c.length)) _ _ _) _
    have hlen := run_len (nmC M) (c.take k) []
    rw [List.length_take, Nat.min_eq_left hk] at hlen
    have hlen : (run (nmC M) (c.take k) []).length ≤ 0 + k := hlen
    have hnm : nmC M2 = nmC M := by
      funext i
      exact hsm.1 20 i rfl
    unfold f_X4_valueOf_b64
    refine en_ite (fun h => en_ex ?_) (fun h => ?_)
    · rw [nI_leI (by omega) (by omega)] at h
      have e : k = c.length := by omega
      subst e
      rw [List.take_length, hv] at hst ⊢
      unfold f_X4_valueOf_j225
      refine en_f (show ¬ nI 1 ≤ 0 by decide) (en_gd (by decide) (en_some ⟨?_, hsm⟩))
      exact hst 0 (by show 0 < 1; omega)
    · rw [nI_leI (by omega) (by omega)] at h
      have hkc : k < c.length := by omega
      refine en_f (by show ¬ nI 160 ≤ nI _; rw [nI_leI (by omega) (by omega)]; omega) (en_f (by show ¬ nI 160 ≤ nI _; rw [nI_leI (by omega) (by omega)]; omega) ?_)
      have hix2 : (nI t * 160 + nI (s + k)) = nI (160 * t + (s + k)) := by
        rw [show (160 : Int32) = nI 160 from rfl, pk_mul, nI_add, Nat.mul_comm]
      rw [hix2]
      refine en_gd (bin_nI (by omega) (by omega)) ?_
      rw [cl_nI (by omega), hsm.1 18 _ rfl, s2 k hkc]
      have hrt : run (nmC M) (c.take (k + 1)) [] = one (nmC M) (c.getD k 0) (run (nmC M) (c.take k) []) := run_take hkc []
      generalize hst0 : run (nmC M) (c.take k) [] = st at *
      have go : ∀ (x5 : Int32) (M3 : Mm), x5 = nI (one (nmC M) (c.getD k 0) st).length → Sm KV KA M M3 → Stk (one (nmC M) (c.getD k 0) st) M3 → Lp (fun q => ∃ k, k ≤ c.length ∧ q.1 = nI (run (nmC M) (c.take k) []).length ∧ q.2.1 = nI (s + k) ∧ Sm KV KA M q.2.2 ∧ Stk (run (nmC M) (c.take k) []) q.2.2) (fun q => 161 - q.2.1.toNatClampNeg) (nI st.length, nI (s + k), M2) (fun (r : Int32 × Mm) => r.1 = v ∧ Sm KV KA M r.2) (.inl (x5, nI (s + k) + 1, M3)) := by
        intro x5 M3 e1 e2 e3
        refine ⟨⟨k + 1, by omega, by rw [hrt]; exact e1, ?_, e2, by rw [hrt]; exact e3⟩, ?_⟩
        · exact nI_add (s + k) 1
        · show 161 - (nI (s + k) + 1).toNatClampNeg < 161 - (nI (s + k)).toNatClampNeg
          rw [show nI (s + k) + 1 = nI (s + k + 1) from nI_add (s + k) 1, nI_clamp (by omega), nI_clamp (by omega)]
          omega
      generalize hc : c.getD k 0 = a at *
      refine en_bi (en_ite (fun h2 => ?_) (fun h2 => ?_))
      · -- a sign
        have un : (a = 20000 ∨ a = 20105) → En (f_X4_valueOf_j145 (nI t) (nI (s + c.length)) (nI st.length) (nI (s + k)) a M2) (Lp (fun q => ∃ k, k ≤ c.length ∧ q.1 = nI (run (nmC M) (c.take k) []).length ∧ q.2.1 = nI (s + k) ∧ Sm KV KA M q.2.2 ∧ Stk (run (nmC M) (c.take k) []) q.2.2) (fun q => 161 - q.2.1.toNatClampNeg) (nI st.length, nI (s + k), M2) (fun r => r.1 = v ∧ Sm KV KA M r.2)) := by
          intro ha
          unfold f_X4_valueOf_j145
          cases st with
          | nil =>
            refine en_t (by decide) (en_bi (en_some (go _ _ ?_ hsm ?_)))
            · rw [one, if_pos h2, if_pos ha]
            · rw [one, if_pos h2, if_pos ha]; exact hst
          | cons x st =>
            have hp := stk_pop hst
            have hm1 : nI (x :: st).length - 1 = nI st.length := nI_pred st.length
            have hlen : st.length + 1 ≤ 0 + k := hlen
            rw [hm1]
            refine en_f (by show ¬ nI (st.length + 1) ≤ nI 0; rw [nI_leI (by omega) (by omega)]; omega) (en_gd (bin_nI (by omega) (by omega)) ?_)
            rw [cl_nI (by omega), hp.2]
            refine en_bd' (turned_eq a x M2) (en_gd (bin_nI (by omega) (by omega)) (en_bm (en_bi (en_some (go _ _ ?_ (hsm.tr (sm_1 rfl rfl)) ?_)))))
            · rw [one, if_pos h2, if_pos ha]; rfl
            · rw [one, if_pos h2, if_pos ha]
              exact stk_push hp.1 _
        refine en_ite (fun h3 => un (Or.inl h3)) (fun h3 => en_ite (fun h4 => un (Or.inr h4)) (fun h4 => ?_))
        have ha : ¬ (a = 20000 ∨ a = 20105) := by rintro (q | q); exact h3 q; exact h4 q
        match st, hst, hlen, go with
        | [], hst, hlen, go =>
          refine en_t (by show nI 0 ≤ nI 1; decide) (en_bi (en_some (go _ _ ?_ hsm ?_)))
          · rw [one, if_pos h2, if_neg ha]
          · rw [one, if_pos h2, if_neg ha]; exact hst
        | [x], hst, hlen, go =>
          refine en_t (by show nI 1 ≤ nI 1; decide) (en_bi (en_some (go _ _ ?_ hsm ?_)))
          · rw [one, if_pos h2, if_neg ha]
          · rw [one, if_pos h2, if_neg ha]; exact hst
        | y :: x :: st, hst, hlen, go =>
          have hp := stk_pop hst
          have hp2 := stk_pop hp.1
          have hlen : st.length + 1 + 1 ≤ 0 + k := hlen
          have hy1 : M2.1 21 (st.length + 1) = y := hp.2
          refine en_f (by show ¬ nI (st.length + 1 + 1) ≤ nI 1; rw [nI_leI (by omega) (by omega)]; omega) ?_
          rw [show nI (y :: x :: st).length + -1 = nI (st.length + 1) from pk_m1 (st.length + 1)]
          refine en_bi ?_
          rw [show nI (st.length + 1) - 1 = nI st.length from nI_pred st.length]
          refine en_gd (bin_nI (by omega) (by omega)) (en_gd (bin_nI (by omega) (by omega)) ?_)
          rw [cl_nI (by omega), cl_nI (by omega), hp2.2, hy1]
          refine en_bd' (joined_eq (a - 20000) x y M2) (en_gd (bin_nI (by omega) (by omega)) (en_bm (en_bi (en_some (go _ _ ?_ (hsm.tr (sm_1 rfl rfl)) ?_)))))
          · rw [one, if_pos h2, if_neg ha]; rfl
          · rw [one, if_pos h2, if_neg ha]
            exact stk_push hp2.1 _
      · refine en_bd' (operand_eq a M2) (en_gd (bin_nI (by omega) (by omega)) ?_)
        rw [cl_nI (by omega), hnm]
        refine en_bm (en_bi (en_bi (en_some (go _ _ ?_ (hsm.tr (sm_1 rfl rfl)) ?_))))
        · unfold one
          rw [if_neg h2]
          exact nI_add st.length 1
        · unfold one
          rw [if_neg h2]
          exact stk_push hst _
  unfold f_X4_valueOf
  refine en_f (nI_ltz (by omega)) (en_f (by show ¬ nI 6 ≤ nI t; rw [nI_leI (by omega) (by omega)]; omega) (en_f (nI_ltz (by omega)) (en_t (by show nI w < nI 3; rw [nI_ltI (by omega) (by omega)]; omega) ?_)))
  by_cases w0 : w = 0
  · rw [if_pos w0] at s4
    subst w0
    subst s4
    exact en_t rfl loop
  · rw [if_neg w0] at s4
    have hix : (nI t * 3 + nI w - 1) = nI (3 * t + w - 1) := by
      rw [show (3 : Int32) = nI 3 from rfl, show (1 : Int32) = nI 1 from rfl, pk_mul, nI_add, Nat.mul_comm, pk_sub (by omega)]
    refine en_f (by show ¬ nI w = nI 0; rw [nI_eq (by omega) (by omega)]; exact w0) ?_
    rw [hix]
    refine en_gd (bin_nI (by omega) (by omega)) ?_
    rw [cl_nI (by omega), s4]
    exact loop
end STACK
