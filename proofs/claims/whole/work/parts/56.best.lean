/-! ===== best ===== -/
def bst (f : Nat → Int32) : Nat → Option (Nat × Int32)
  | 0 => none
  | k + 1 => match bst f k with
    | none => some (k, f k)
    | some q => if q.2 ≤ f k then some q else some (k, f k)
/-- digit k of i, of n digits -/
def pd (m n i k : Nat) : Nat := i / m ^ (n - 1 - k) % m
def wB (m n i : Nat) : Wy := (0, fun k => if k < n then some (pd m n i k) else tns m k)
def pm1 (t : Nat) : Int32 := if t = 0 then -1 else nI (t - 1)
theorem bst_some (f : Nat → Int32) : ∀ k, 0 < k → ∃ q, bst f k = some q ∧ q.1 < k
  | 0, h => by omega
  | k + 1, _ => by
    by_cases h0 : k = 0
    · subst h0
      exact ⟨(0, f 0), rfl, Nat.lt_succ_self _⟩
    · obtain ⟨q, h1, h2⟩ := bst_some f k (by omega)
      by_cases h3 : q.2 ≤ f k
      · exact ⟨q, by rw [bst, h1]; exact if_pos h3, by omega⟩
      · exact ⟨(k, f k), by rw [bst, h1]; exact if_neg h3, Nat.lt_succ_self _⟩
theorem pd_lt {m n i k : Nat} (h : 0 < m) : pd m n i k < m := Nat.mod_lt _ h
theorem pd_last {m k q e : Nat} (he : e < m) : pd m (k + 1) (q * m + e) k = e := by
  unfold pd
  rw [show k + 1 - 1 - k = 0 by omega, Nat.pow_zero, Nat.div_one, Nat.add_comm, Nat.add_mul_mod_self_right, Nat.mod_eq_of_lt he]
theorem pd_prev {m k q e j : Nat} (he : e < m) (hj : j < k) : pd m (k + 1) (q * m + e) j = pd m k q j := by
  unfold pd
  rw [show k + 1 - 1 - j = (k - 1 - j) + 1 by omega, Nat.pow_succ, Nat.mul_comm (m ^ (k - 1 - j)) m, ← Nat.div_div_eq_div_mul, Nat.add_comm (q * m) e, Nat.add_mul_div_right _ _ (by omega), Nat.div_eq_of_lt he, Nat.zero_add]
section BEST
variable {G G' : Gt} {nt : Nat} {zs : Nat → Txt} {M1 M2 N1 N2 M N A B : Mm} {T : Tb} {s : Sx} {w : Wy} {m n v c c0 a mi i : Nat} {z : Int32}
theorem c_turns (h0 : 0 < m) (hm : m ≤ 5) (h3 : M.1 1 3 = nI m) : En (f_X2_planTurns M) (fun N => Sm (fun o _ => !(o == 27)) KA M N ∧ ∀ k, k < 12 → N.1 27 k = nI (k % m)) := by
  unfold f_X2_planTurns
  rw [h3, show imx 1 (nI m) = nI (max 1 m) from imx_nI (a := 1) (by omega) (by omega), Nat.max_eq_right (by omega)]
  refine en_bi ?_
  refine en_iter (fun (u : Int32 × Mm) => ∃ k, k ≤ 12 ∧ u.1 = nI k ∧ Sm (fun o _ => !(o == 27)) KA M u.2 ∧ ∀ j, j < k → u.2.1 27 j = nI (j % m)) (fun u => 13 - u.1.toNatClampNeg) ⟨0, by omega, rfl, Sm.rf, fun j hj => by omega⟩ (by have := fuel_gt; omega) ?_
  rintro ⟨x2, A⟩ ⟨k, hk, rfl, g1, g2⟩
  have g1 : Sm (fun o _ => !(o == 27)) KA M A := g1
  have g2 : ∀ j, j < k → A.1 27 j = nI (j % m) := g2
  show En (f_X2_planTurns_b14 (nI m) (nI k) A) _
  unfold f_X2_planTurns_b14
  refine en_ite (fun q => en_ex (en_some ?_)) (fun q => ?_)
  · have q : nI 12 ≤ nI k := q
    rw [nI_leI (by omega) (by omega)] at q
    exact ⟨g1, fun j hj => g2 j (by omega)⟩
  · have q : ¬ nI 12 ≤ nI k := q
    rw [nI_leI (by omega) (by omega)] at q
    rw [irm_nI (by omega) h0 (by omega)]
    refine en_gd (nI_ne0 h0 (by omega)) (en_gd (bin_nI (by omega) (by omega)) (en_bmv fun B e => en_bi (en_some ⟨⟨k + 1, by omega, nI_add k 1, g1.tr (sm_1 e rfl), fun j hj => ?_⟩, ?_⟩)))
    · rw [cl_nI (by omega)] at e
      show B.1 27 j = _
      by_cases y : j = k
      · subst y; rw [ms_at e]
      · rw [ms_off e (by omega)]; exact g2 j (by omega)
    · show 13 - (nI k + 1).toNatClampNeg < 13 - (nI k).toNatClampNeg
      rw [show nI k + 1 = nI (k + 1) from nI_add k 1, nI_clamp (by omega), nI_clamp (by omega)]
      omega
theorem pm1_next (t : Nat) : nI t + (-1) = pm1 t := by
  unfold pm1
  by_cases h : t = 0
  · rw [if_pos h, h]; rfl
  · rw [if_neg h]
    obtain ⟨s, rfl⟩ : ∃ s, t = s + 1 := ⟨t - 1, by omega⟩
    exact pk_m1 s
theorem c_first (h0 : 0 < m) (hm : m ≤ 5) (hn : n ≤ 4) (hi : i < 2 ^ 30) (h3 : M.1 1 3 = nI m) : En (f_X2_planFirst (nI n) (nI i) M) (fun N => Sm (fun o _ => !(o == 27)) KA M N ∧ (∀ k, k < n → N.1 27 k = nI (pd m n i k)) ∧ ∀ k, n ≤ k → N.1 27 k = M.1 27 k) := by
  unfold f_X2_planFirst
  rw [h3, show imx 1 (nI m) = nI (max 1 m) from imx_nI (a := 1) (by omega) (by omega), Nat.max_eq_right (by omega), show imn (nI n) 12 = nI (min n 12) from imn_nI (b := 12) (by omega) (by omega), Nat.min_eq_left (by omega), show nI n - 1 = pm1 n by
    unfold pm1
    by_cases h : n = 0
    · rw [if_pos h, h]; rfl
    · rw [if_neg h]; exact pk_sub (b := 1) (by omega)]
  refine en_bi (en_bi ?_)
  refine en_iter (fun (u : Int32 × Int32 × Mm) => ∃ t, t ≤ n ∧ u.1 = nI (i / m ^ (n - t)) ∧ u.2.1 = pm1 t ∧ Sm (fun o _ => !(o == 27)) KA M u.2.2 ∧ (∀ k, t ≤ k → k < n → u.2.2.1 27 k = nI (pd m n i k)) ∧ ∀ k, n ≤ k → u.2.2.1 27 k = M.1 27 k) (fun u => if u.2.1 = -1 then 0 else u.2.1.toNatClampNeg + 1) ⟨n, Nat.le_refl _, by rw [Nat.sub_self, Nat.pow_zero, Nat.div_one], rfl, Sm.rf, fun k h1 h2 => by omega, fun k _ => rfl⟩ ?_ ?_
  · show (if pm1 n = -1 then 0 else (pm1 n).toNatClampNeg + 1) < fuel
    have := fuel_gt
    unfold pm1
    by_cases h : n = 0
    · rw [if_pos h, if_pos rfl]; omega
    · rw [if_neg h, if_neg (nI_m1 (by omega)), nI_clamp (by omega)]; omega
  rintro ⟨x4, x5, A⟩ ⟨t, ht, rfl, rfl, g1, g2, g3⟩
  have g1 : Sm (fun o _ => !(o == 27)) KA M A := g1
  have g2 : ∀ k, t ≤ k → k < n → A.1 27 k = nI (pd m n i k) := g2
  have g3 : ∀ k, n ≤ k → A.1 27 k = M.1 27 k := g3
  show En (f_X2_planFirst_b25 (nI m) (nI (i / m ^ (n - t))) (pm1 t) A) _
  unfold f_X2_planFirst_b25
  by_cases h : t = 0
  · subst h
    refine en_t (by decide) (en_ex (en_some ⟨g1, fun k hk => g2 k (Nat.zero_le _) hk, g3⟩))
  · obtain ⟨t, rfl⟩ : ∃ s, t = s + 1 := ⟨t - 1, by omega⟩
    have hp : pm1 (t + 1) = nI t := if_neg (by omega)
    have hdl : i / m ^ (n - (t + 1)) ≤ i := Nat.div_le_self _ _
    rw [hp, irm_nI (by omega) h0 (by omega), pk_div (by omega) h0 (by omega), Nat.div_div_eq_div_mul, ← Nat.pow_succ, show (n - (t + 1)).succ = n - t by omega]
    refine en_f (nI_ltz (by omega)) (en_gd (nI_ne0 h0 (by omega)) (en_gd (bin_nI (by omega) (by omega)) (en_bmv fun B e => en_gd (nI_ne0 h0 (by omega)) (en_bi (en_bi (en_some ⟨⟨t, by omega, rfl, pm1_next t, g1.tr (sm_1 e rfl), fun k h1 h2 => ?_, fun k h1 => ?_⟩, ?_⟩))))))
    · rw [cl_nI (by omega)] at e
      show B.1 27 k = _
      by_cases y : k = t
      · subst y
        rw [ms_at e]
        unfold pd
        rw [show n - (k + 1) = n - 1 - k by omega]
      · rw [ms_off e (by omega)]; exact g2 k (by omega) h2
    · rw [cl_nI (by omega)] at e
      show B.1 27 k = _
      rw [ms_off e (by omega)]; exact g3 k h1
    · show (if nI t + (-1) = -1 then 0 else (nI t + (-1)).toNatClampNeg + 1) < (if nI t = -1 then 0 else (nI t).toNatClampNeg + 1)
      rw [if_neg (nI_m1 (c := t) (by omega)), nI_clamp (by omega), pm1_next]
      unfold pm1
      by_cases y : t = 0
      · rw [if_pos y, if_pos rfl]; omega
      · rw [if_neg y, if_neg (nI_m1 (by omega)), nI_clamp (by omega)]; omega
theorem wc_B (h0 : 0 < tm T) (hm : tm T ≤ 5) (h5 : 5 ≤ ta T) (hB : tB T ≤ 12) (h1 : ∀ k, k < n → M.1 27 k = nI (pd (tm T) n i k)) (h2 : ∀ k, n ≤ k → k < 12 → M.1 27 k = nI (k % tm T)) : WC T (wB (tm T) n i) 0 M := by
  refine Or.inl ⟨rfl, rfl, fun k hk => ?_⟩
  show gvr T (if k < n then some (pd (tm T) n i k) else tns (tm T) k) (M.1 27 k)
  by_cases q : k < n
  · rw [if_pos q]
    have := pd_lt (m := tm T) (n := n) (i := i) (k := k) h0
    exact ⟨sit_iff.mpr ⟨this, by omega⟩, h1 k q⟩
  · rw [if_neg q, h2 k (by omega) (by omega)]
    have := gvr_tns (T := T) (k := k) h5 hm
    rw [Nat.max_eq_right (by omega)] at this
    exact this
def fB (G : Gt) (n i : Nat) : Int32 := xc (runF (tR G 5 0) (wB (yM G) n i) 60)
def enc : Option (Nat × Int32) → Int32 × Int32
  | none => (-1, 0)
  | some q => (nI q.1, q.2)
theorem pow_625 {m n : Nat} (hm : m ≤ 5) (hn : n ≤ 4) : m ^ n ≤ 625 := by
  have h1 : m ^ n ≤ 5 ^ n := Nat.pow_le_pow_left hm n
  have h2 : 5 ^ n ≤ 5 ^ 4 := Nat.pow_le_pow_right (by omega) hn
  have h3 : 5 ^ 4 = 625 := rfl
  omega
/-- the class's best -/
theorem c_best {x2 : Int32} {P : Int32 × Mm → Prop} (hL : CL G 5 0 M) (h0 : 0 < yM G) (hn : n ≤ 4) (h27 : ∀ k, k < 12 → M.1 27 k = nI (k % yM G)) (hx : x2 = -1 ∨ ∃ k, k < n ∧ x2 = nI k) (hgo : ∀ N q, bst (fB G n) (yM G ^ n) = some q → Sm (fun o k => KSc o k && !(o == 27)) KSl M N → P (if x2 = -1 then q.2 else nI (pd (yM G) n q.1 x2.toNatClampNeg), N)) : En (iter (fun s => f_X5_best_b73 (nI n) x2 s.1 s.2.1 s.2.2) fuel ((1 : Int32), (0 : Int32), M)) P := by
  have hG := hL.1.2.1
  have hm := hG.2.2.1
  have hB := hG.1
  have hAC := hL.1.2.2.1
  have hW := pow_625 hm hn
  have hWp : 0 < yM G ^ n := Nat.pow_pos h0
  refine en_iter (fun (u : Int32 × Int32 × Mm) => ∃ k, k ≤ n ∧ u.1 = nI (yM G ^ k) ∧ u.2.1 = nI k ∧ u.2.2 = M) (fun u => 5 - u.2.1.toNatClampNeg) ⟨0, by omega, rfl, rfl, rfl⟩ (by have := fuel_gt; omega) ?_
  rintro ⟨x3, x4, M'⟩ ⟨k, hk, rfl, rfl, hM0⟩
  have hM : M = M' := (show M' = M from hM0).symm
  subst hM
  show En (f_X5_best_b73 (nI n) x2 (nI (yM G ^ k)) (nI k) M) _
  unfold f_X5_best_b73
  refine en_ite (fun q => en_ex ?_) (fun q => ?_)
  · rw [nI_leI (by omega) (by omega)] at q
    have e : k = n := by omega
    subst e
    refine en_iter (fun (u : Int32 × Int32 × Int32 × Mm) => ∃ i, i ≤ yM G ^ k ∧ (u.1, u.2.1) = enc (bst (fB G k) i) ∧ u.2.2.1 = nI i ∧ CL G 5 0 u.2.2.2 ∧ (∀ j, k ≤ j → j < 12 → u.2.2.2.1 27 j = nI (j % yM G)) ∧ Sm (fun o k => KSc o k && !(o == 27)) KSl M u.2.2.2) (fun u => 626 - u.2.2.1.toNatClampNeg) ⟨0, by omega, rfl, rfl, hL, fun j _ hj => h27 j hj, Sm.rf⟩ (by have := fuel_gt; omega) ?_
    rintro ⟨y4, y5, y6, A⟩ ⟨i, hi, he, rfl, hLA, h27A, hsA⟩
    have he : (y4, y5) = enc (bst (fB G k) i) := he
    have hLA : CL G 5 0 A := hLA
    have h27A : ∀ j, k ≤ j → j < 12 → A.1 27 j = nI (j % yM G) := h27A
    have hsA : Sm (fun o k => KSc o k && !(o == 27)) KSl M A := hsA
    have hACA := hLA.1.2.2.1
    have fin : i = yM G ^ k → En (f_X5_best_j173 (nI k) x2 y4 y5 A) P := by
      intro e
      subst e
      obtain ⟨q, h1, h2⟩ := bst_some (fB G k) (yM G ^ k) hWp
      rw [h1] at he
      have e4 : y4 = nI q.1 := congrArg Prod.fst he
      have e5 : y5 = q.2 := congrArg Prod.snd he
      subst e4 e5
      unfold f_X5_best_j173
      rcases hx with rfl | ⟨j, hj, rfl⟩
      · have := hgo A q h1 hsA
        rw [if_pos rfl] at this
        exact en_t rfl (en_some this)
      · refine en_f (nI_m1 (by omega)) (en_bv (en_imp (c_first h0 hm hn (by omega) hACA.2.2.2.1) ?_))
        rintro B ⟨k1, k2, k3⟩
        refine en_gd (bin_nI (by omega) (by omega)) (en_some ?_)
        have := hgo B q h1 (hsA.tr (s27_27 k1))
        rw [if_neg (nI_m1 (by omega)), cl_nI (by omega)] at this
        rw [cl_nI (by omega), k2 j hj]
        exact this
    show En (f_X5_best_b104 (nI k) x2 (nI (yM G ^ k)) y4 y5 (nI i) A) _
    unfold f_X5_best_b104
    refine en_ite (fun q => en_ex (fin ?_)) (fun q => en_ite (fun q2 => en_ex (fin ?_)) (fun q2 => ?_))
    · rw [nI_leI (by omega) (by omega)] at q
      omega
    · have q2 : nI 625 ≤ nI i := q2
      rw [nI_leI (by omega) (by omega)] at q2
      omega
    · rw [nI_leI (by omega) (by omega)] at q
      have hiW : i < yM G ^ k := by omega
      refine en_bv (en_imp (c_first h0 hm hn (by omega) hACA.2.2.2.1) ?_)
      rintro B ⟨k1, k2, k3⟩
      have h27B : ∀ j, k ≤ j → j < 12 → B.1 27 j = nI (j % yM G) := fun j h1 h2 => by rw [k3 j h1]; exact h27A j h1 h2
      refine en_bv (en_imp (cl_run (x1 := 0) (w := wB (yM G) k i) (hLA.s27 k1) (wc_B (T := tR G 5 0) h0 hm (Nat.le_refl 5) hB k2 h27B)) ?_)
      rintro C ⟨k4, k5, k6⟩
      have ec : C.1 6 12 = fB G k i := k6.2.2.2.1
      have hsC : Sm (fun o k => KSc o k && !(o == 27)) KSl M C := (hsA.tr (s27_27 k1)).tr (x_27 k4)
      have h27C : ∀ j, k ≤ j → j < 12 → C.1 27 j = nI (j % yM G) := fun j h1 h2 => by rw [k4.1 27 j rfl]; exact h27B j h1 h2
      have hnx : 626 - (nI i + 1).toNatClampNeg < 626 - (nI i).toNatClampNeg := by
        rw [show nI i + 1 = nI (i + 1) from nI_add i 1, nI_clamp (by omega), nI_clamp (by omega)]
        omega
      have go : ∀ a b : Int32, (a, b) = enc (bst (fB G k) (i + 1)) → Lp (fun (u : Int32 × Int32 × Int32 × Mm) => ∃ i, i ≤ yM G ^ k ∧ (u.1, u.2.1) = enc (bst (fB G k) i) ∧ u.2.2.1 = nI i ∧ CL G 5 0 u.2.2.2 ∧ (∀ j, k ≤ j → j < 12 → u.2.2.2.1 27 j = nI (j % yM G)) ∧ Sm (fun o k => KSc o k && !(o == 27)) KSl M u.2.2.2) (fun u => 626 - u.2.2.1.toNatClampNeg) (y4, y5, nI i, A) P (.inl (a, b, nI i + 1, C)) := fun a b hab => ⟨⟨i + 1, by omega, hab, nI_add i 1, k5, h27C, hsC⟩, hnx⟩
      rw [ec]
      cases hb : bst (fB G k) i with
      | none =>
        rw [hb] at he
        have e4 : y4 = -1 := congrArg Prod.fst he
        refine en_t e4 (en_bi (en_bi (en_some (go _ _ ?_))))
        rw [bst, hb]
        rfl
      | some q =>
        rw [hb] at he
        have e4 : y4 = nI q.1 := congrArg Prod.fst he
        have e5 : y5 = q.2 := congrArg Prod.snd he
        have hq : q.1 < i := by
          have hi0 : 0 < i := by
            rcases Nat.eq_zero_or_pos i with y | y
            · subst y; cases hb
            · exact y
          obtain ⟨q', h1, h2⟩ := bst_some (fB G k) i hi0
          rw [hb] at h1
          cases h1
          exact h2
        refine en_f (by rw [e4]; exact nI_m1 (by omega)) (en_ite (fun y => en_bi (en_some (go _ _ ?_))) (fun y => en_bi (en_bi (en_some (go _ _ ?_)))))
        · rw [e5] at y
          rw [bst, hb, e4, e5]
          dsimp only
          rw [if_pos y]
          rfl
        · rw [e5] at y
          rw [bst, hb]
          dsimp only
          rw [if_neg y]
          rfl
  · rw [nI_leI (by omega) (by omega)] at q
    rw [hAC.2.2.2.1, pk_mul, ← Nat.pow_succ]
    refine en_bi (en_bi (en_some ⟨⟨k + 1, by omega, rfl, nI_add k 1, rfl⟩, ?_⟩))
    show 5 - (nI k + 1).toNatClampNeg < 5 - (nI k).toNatClampNeg
    rw [show nI k + 1 = nI (k + 1) from nI_add k 1, nI_clamp (by omega), nI_clamp (by omega)]
    omega
/-! the reference tries -/
def KT : Nat → Nat → Bool := fun o k => KU o k && !(o == 13 || (o == 14 || (o == 0 && (k == 41 || k == 42))))
theorem k6_t : ∀ o k, KR6 o k = true → KT o k = true := by
  intro o k z
  have := k6_u o k z
  unfold KR6 at z
  unfold KT
  simp at z ⊢
  exact ⟨this, by omega⟩
theorem k1_t : ∀ o k, KR1 o k = true → KT o k = true := by
  intro o k z
  have := k1_u o k z
  unfold KR1 at z
  unfold KT
  simp at z ⊢
  exact ⟨this, by omega⟩
theorem kt_u : ∀ o k, KT o k = true → KU o k = true := by
  intro o k z
  unfold KT at z
  simp at z
  exact z.1
/-- the best so far -/
def RB (G : Gt) (n N : Nat) (B : Mm) : Prop := match bst (fB G n) N with
  | none => B.1 0 42 = 0
  | some q => B.1 0 42 = 1 ∧ B.1 0 41 = q.2 ∧ ∀ j, j < n → B.1 14 j = nI (pd (yM G) n q.1 j)
theorem RB.same {K : Nat → Nat → Bool} {KL : Nat → Bool} {p : Nat} (h : RB G n p A) (hs : Sm K KL A B) (k1 : K 0 42 = true) (k2 : K 0 41 = true) (k3 : ∀ j, K 14 j = true) : RB G n p B := by
  unfold RB at h ⊢
  cases hb : bst (fB G n) p with
  | none =>
    rw [hb] at h
    have h : A.1 0 42 = 0 := h
    show B.1 0 42 = 0
    rw [hs.1 _ _ k1]; exact h
  | some q =>
    rw [hb] at h
    obtain ⟨h1, h2, h3⟩ := h
    exact ⟨by rw [hs.1 _ _ k1]; exact h1, by rw [hs.1 _ _ k2]; exact h2, fun j hj => by rw [hs.1 _ _ (k3 j)]; exact h3 j hj⟩
theorem r_j29 {p : Nat} (g : Int32 → Int32 → Mm → Option Mm) (hn : n ≤ 4) (hb : bst (fB G n) (p + 1) = some (p, fB G n p)) (h36 : B.1 0 36 = fB G n p) (h13 : ∀ j, j < n → B.1 13 j = nI (pd (yM G) n p j)) : En (f_X6_tries_j29 g (nI n) B) (fun C => Sm (fun o k => !(o == 14 || (o == 0 && (k == 41 || k == 42)))) KA B C ∧ RB G n (p + 1) C) := by
  unfold f_X6_tries_j29
  refine en_bmv fun B1 e1 => en_bmv fun B2 e2 => ?_
  refine en_iter (fun (u : Int32 × Mm) => ∃ k, k ≤ n ∧ u.1 = nI k ∧ Sm (fun o _ => !(o == 14)) KA B2 u.2 ∧ ∀ j, j < k → u.2.1 14 j = nI (pd (yM G) n p j)) (fun u => 5 - u.1.toNatClampNeg) ⟨0, by omega, rfl, Sm.rf, fun j hj => by omega⟩ (by have := fuel_gt; omega) ?_
  rintro ⟨x3, C⟩ ⟨k, hk, rfl, g1, g2⟩
  have g1 : Sm (fun o _ => !(o == 14)) KA B2 C := g1
  have g2 : ∀ j, j < k → C.1 14 j = nI (pd (yM G) n p j) := g2
  have hs2 : Sm (fun o k => !(o == 14 || (o == 0 && (k == 41 || k == 42)))) KA B B2 := (sm_1 e1 rfl).tr (sm_1 e2 rfl)
  have hsC : Sm (fun o k => !(o == 14 || (o == 0 && (k == 41 || k == 42)))) KA B C := hs2.tr (g1.weak (fun o k z => by simp at z ⊢; exact z.1) (fun _ z => z))
  show En (f_X6_tries_b44 g (nI n) (nI k) C) _
  unfold f_X6_tries_b44
  refine en_ite (fun q => en_ex (en_some ?_)) (fun q => ?_)
  · rw [nI_leI (by omega) (by omega)] at q
    have e : k = n := by omega
    subst e
    refine ⟨hsC, ?_⟩
    unfold RB
    rw [hb]
    refine ⟨?_, ?_, g2⟩
    · rw [g1.1 0 42 rfl, ms_off e2 (by omega), ms_at e1]
    · rw [g1.1 0 41 rfl, ms_at e2, ms_off e1 (by omega)]
      exact h36
  · rw [nI_leI (by omega) (by omega)] at q
    refine en_gd (bin_nI (by omega) (by omega)) (en_gd (bin_nI (by omega) (by omega)) (en_bmv fun D e => en_bi (en_some ⟨⟨k + 1, by omega, nI_add k 1, g1.tr (sm_1 e rfl), fun j hj => ?_⟩, ?_⟩)))
    · rw [cl_nI (by omega)] at e
      show D.1 14 j = _
      by_cases y : j = k
      · subst y; rw [ms_at e, hsC.1 13 j rfl]; exact h13 j (by omega)
      · rw [ms_off e (by omega)]; exact g2 j (by omega)
    · show 5 - (nI k + 1).toNatClampNeg < 5 - (nI k).toNatClampNeg
      rw [show nI k + 1 = nI (k + 1) from nI_add k 1, nI_clamp (by omega), nI_clamp (by omega)]
      omega
theorem r_tries (hG : Gok G) (h0 : 0 < yM G) (hn : n ≤ 4) : ∀ (d k r p : Nat) (B : Mm), k + d = n → d < r → AR G B → B.1 0 14 = -1 → (∀ j, j < k → B.1 13 j = nI (pd (yM G) k p j)) → RB G n (p * yM G ^ d) B → En (R_X6_tries r (nI k) (nI n) B) (fun C => Sm KT KB B C ∧ (∀ j, j < k → C.1 13 j = B.1 13 j) ∧ RB G n ((p + 1) * yM G ^ d) C) := by
  have hm := hG.2.2.1
  have hB12 := hG.1
  intro d
  induction d with
  | zero =>
    intro k r p B hk hr hA h14 h13 hRB
    obtain ⟨r, rfl⟩ : ∃ j, r = j + 1 := ⟨r - 1, by omega⟩
    have e : k = n := by omega
    subst e
    rw [Nat.pow_zero, Nat.mul_one] at hRB ⊢
    show En (f_X6_tries (R_X6_tries r) (nI k) (nI k) B) _
    unfold f_X6_tries
    refine en_t rfl (en_bv (en_imp (r_sup (c := 0) (x1 := 4) (x2 := nI k) (w := wB (yM G) k p) hA hG h14 (Or.inr ⟨by decide, rfl⟩) (Or.inr (Or.inr ⟨Nat.le_refl 5, rfl, Or.inr (Or.inl ⟨rfl, k, by omega, rfl, fun j hj => ⟨fun hjk => ⟨pd (yM G) k p j, pd_lt h0, h13 j hjk, if_pos hjk⟩, fun hjk => if_neg (by omega)⟩⟩)⟩))) ?_))
    rintro B4 ⟨g1, g2⟩
    have h36 : B4.1 0 36 = fB G k p := g2.2.2.1
    have hRB4 : RB G k p B4 := hRB.same g1 rfl rfl (fun _ => rfl)
    have h13' : ∀ j, j < k → B4.1 13 j = nI (pd (yM G) k p j) := fun j hj => by rw [g1.1 13 j rfl]; exact h13 j hj
    have hsT : Sm KT KB B B4 := g1.weak kt_u (fun _ z => z)
    have new : bst (fB G k) (p + 1) = some (p, fB G k p) → En (f_X6_tries_j29 (R_X6_tries r) (nI k) B4) (fun C => Sm KT KB B C ∧ (∀ j, j < k → C.1 13 j = B.1 13 j) ∧ RB G k (p + 1) C) := by
      intro hb
      refine en_imp (r_j29 (R_X6_tries r) hn hb h36 h13') ?_
      rintro C ⟨k1, k2⟩
      refine ⟨hsT.tr (k1.weak (fun o k z => ?_) (fun _ _ => rfl)), fun j hj => by rw [k1.1 13 j rfl, g1.1 13 j rfl], k2⟩
      unfold KT at z
      simp at z ⊢
      omega
    unfold RB at hRB4
    cases hb : bst (fB G k) p with
    | none =>
      rw [hb] at hRB4
      have hRB4 : B4.1 0 42 = 0 := hRB4
      refine en_t hRB4 (new ?_)
      rw [bst, hb]
    | some q =>
      rw [hb] at hRB4
      obtain ⟨h1, h2, h3⟩ := hRB4
      refine en_f (by rw [h1]; decide) ?_
      rw [h2, h36]
      refine en_ite (fun y => en_some ⟨hsT, fun j hj => g1.1 13 j rfl, ?_⟩) (fun y => new ?_)
      · unfold RB
        rw [bst, hb]
        dsimp only
        rw [if_pos y]
        exact ⟨h1, h2, h3⟩
      · rw [bst, hb]
        exact if_neg y
  | succ d ih =>
    intro k r p B hk hr hA h14 h13 hRB
    obtain ⟨r, rfl⟩ : ∃ j, r = j + 1 := ⟨r - 1, by omega⟩
    show En (f_X6_tries (R_X6_tries r) (nI k) (nI n) B) _
    unfold f_X6_tries
    refine en_f (by rw [nI_eq (by omega) (by omega)]; omega) ?_
    have hp1 : p * yM G ^ (d + 1) = (p * yM G + 0) * yM G ^ d := by rw [Nat.pow_succ, Nat.mul_comm (yM G ^ d), ← Nat.mul_assoc]; rfl
    have hp2 : (p + 1) * yM G ^ (d + 1) = (p * yM G + yM G) * yM G ^ d := by rw [Nat.pow_succ, Nat.mul_comm (yM G ^ d), ← Nat.mul_assoc, Nat.add_mul, Nat.one_mul]
    rw [hp1] at hRB
    refine en_iter (fun (u : Int32 × Mm) => ∃ e, e ≤ yM G ∧ u.1 = nI e ∧ Sm KT KB B u.2 ∧ (∀ j, j < k → u.2.1 13 j = B.1 13 j) ∧ RB G n ((p * yM G + e) * yM G ^ d) u.2) (fun u => 6 - u.1.toNatClampNeg) ⟨0, by omega, rfl, Sm.rf, fun j _ => rfl, hRB⟩ (by have := fuel_gt; omega) ?_
    rintro ⟨x3, C⟩ ⟨e, he, rfl, g1, g2, g3⟩
    have g1 : Sm KT KB B C := g1
    have g2 : ∀ j, j < k → C.1 13 j = B.1 13 j := g2
    have g3 : RB G n ((p * yM G + e) * yM G ^ d) C := g3
    have hAC : AR G C := hA.same g1 k6_t
    show En (f_X6_tries_b70 (R_X6_tries r) (nI k) (nI n) (nI e) C) _
    unfold f_X6_tries_b70
    rw [hAC.2.2.2.1]
    refine en_ite (fun q => en_ex (en_some ?_)) (fun q => ?_)
    · rw [nI_leI (by omega) (by omega)] at q
      have e1 : e = yM G := by omega
      rw [hp2]
      rw [e1] at g3
      exact ⟨g1, g2, g3⟩
    · rw [nI_leI (by omega) (by omega)] at q
      have hem : e < yM G := by omega
      rw [show nI k + 1 = nI (k + 1) from nI_add k 1]
      refine en_gd (bin_nI (by omega) (by omega)) (en_bmv fun D f => ?_)
      rw [cl_nI (by omega)] at f
      have hsD : Sm KT KB B D := g1.tr (sm_1 f rfl)
      refine en_bv (en_imp (ih (k + 1) r (p * yM G + e) D (by omega) (by omega) (hA.same hsD k6_t) (by rw [hsD.1 0 14 rfl]; exact h14) (fun j hj => ?_) (g3.same (K := fun o _ => !(o == 13)) (KL := KA) (sm_1 f rfl) rfl rfl (fun _ => rfl))) ?_)
      · by_cases y : j = k
        · subst y
          rw [ms_at f, pd_last hem]
        · rw [ms_off f (by omega), g2 j (by omega), h13 j (by omega), pd_prev hem (by omega)]
      · rintro E ⟨k1, k2, k3⟩
        refine en_bi (en_some ⟨⟨e + 1, by omega, nI_add e 1, hsD.tr k1, fun j hj => ?_, k3⟩, ?_⟩)
        · show E.1 13 j = _
          rw [k2 j (by omega), ms_off f (by omega)]
          exact g2 j hj
        · show 6 - (nI e + 1).toNatClampNeg < 6 - (nI e).toNatClampNeg
          rw [show nI e + 1 = nI (e + 1) from nI_add e 1, nI_clamp (by omega), nI_clamp (by omega)]
          omega
theorem s_best : St2 Rel f_X5_best f_X6_best := by
  rintro x1 x2 M1 M2 ⟨G, nt, zs, h⟩
  have hC := h.ac
  have hA := h.ar
  have hG := h.1.1
  have hB := hG.1
  have hm := hG.2.2.1
  have h14 := h.2.2.1.2
  have m1 : (-1 : Int32).toInt = -1 := by decide
  have z0 : (0 : Int32).toInt = 0 := by decide
  have bad : En (f_X5_best x1 x2 M1) (fun q => q = (-100000, M1)) → En (f_X6_best x1 x2 M2) (fun q => q = (-100000, M2)) → ∃ r N1 N2, f_X5_best x1 x2 M1 = some (r, N1) ∧ f_X6_best x1 x2 M2 = some (r, N2) ∧ Rel N1 N2 := fun e1 e2 => st_go e1 e2 ⟨G, nt, zs, h⟩
  rcases tri x1 (n := 4) (by omega) with q | q | ⟨n, hn, rfl⟩
  · refine bad ?_ ?_
    · unfold f_X5_best; exact en_t q (en_some rfl)
    · unfold f_X6_best; exact en_bd' (rin_no (a := 0) (c := 4) rfl rfl (out_lo q) M2) (en_t rfl (en_some rfl))
  · refine bad ?_ ?_
    · unfold f_X5_best; exact en_f (lt_nz (by omega) q) (en_t q (en_some rfl))
    · unfold f_X6_best; exact en_bd' (rin_no (a := 0) (c := 4) rfl rfl (out_hi q) M2) (en_t rfl (en_some rfl))
  · have r4 := rin_yes (x := nI n) (lo := 0) (hi := 4) (a := 0) (c := 4) rfl rfl (nI_btw (a := 0) (c := 4) (Nat.zero_le n) hn (by omega)) M2
    have n4 : ¬ (4 : Int32) < nI n := by show ¬ nI 4 < nI n; rw [nI_ltI (by omega) (by omega)]; omega
    have n0 := nI_ltz (n := n) (by omega)
    by_cases hnB : yB G < n
    · refine bad ?_ ?_
      · unfold f_X5_best
        refine en_f n0 (en_f n4 (en_t ?_ (en_some rfl)))
        rw [hC.1, nI_ltI (by omega) (by omega)]; exact hnB
      · unfold f_X6_best
        refine en_bd' r4 (en_f (by decide) (en_t ?_ (en_some rfl)))
        rw [hA.1, nI_ltI (by omega) (by omega)]; exact hnB
    · have cB' : ¬ M1.1 1 0 < nI n := by rw [hC.1, nI_ltI (by omega) (by omega)]; exact hnB
      have rB' : ¬ M2.1 0 7 < nI n := by rw [hA.1, nI_ltI (by omega) (by omega)]; exact hnB
      by_cases hx : x2 = -1 ∨ ∃ k, k < n ∧ x2 = nI k
      · have rj : ∀ {P : Int32 × Mm → Prop}, En (f_X6_best_j38 (nI n) x2 M2) P → En (f_X6_best (nI n) x2 M2) P := by
          intro P hP
          unfold f_X6_best
          exact en_bd' r4 (en_f (by decide) (en_f rB' (en_ite (fun _ => hP) (fun y => en_bd' (rin_yes (a := 0) rfl rfl ((below_iff (by omega)).mpr (hx.resolve_left y)) M2) (en_f (by decide) hP)))))
        by_cases h0 : yM G = 0
        · refine bad ?_ (rj ?_)
          · unfold f_X5_best
            refine en_f n0 (en_f n4 (en_f cB' (en_f ?_ (en_some rfl))))
            rw [hC.2.2.2.1, h0]
            decide
          · unfold f_X6_best_j38
            refine en_t ?_ (en_some rfl)
            rw [hA.2.2.2.1, h0]
            rfl
        · have h0 : 0 < yM G := by omega
          obtain ⟨q, hq, -⟩ := bst_some (fB G n) (yM G ^ n) (Nat.pow_pos h0)
          refine st_of (P := fun u => u.1 = (if x2 = -1 then q.2 else nI (pd (yM G) n q.1 x2.toNatClampNeg)) ∧ Sm (fun o k => KSc o k && !(o == 27)) KSl M1 u.2) (Q := fun u => u.1 = (if x2 = -1 then q.2 else nI (pd (yM G) n q.1 x2.toNatClampNeg)) ∧ Sm KT KB M2 u.2) ?_ (rj ?_) ?_
          · unfold f_X5_best
            refine en_f n0 (en_f n4 (en_f cB' (en_t ?_ (en_f ?_ (en_t ?_ (en_bv (en_imp (c_lay hG hC) ?_)))))))
            · rw [hC.2.2.2.1]
              show nI 1 ≤ nI (yM G)
              rw [nI_leI (by omega) (by omega)]; omega
            · rcases hx with rfl | ⟨k, hk, rfl⟩
              · decide
              · rw [Int32.lt_iff_toInt_lt, nI_toInt (by omega)]; omega
            · rcases hx with rfl | ⟨k, hk, rfl⟩
              · rw [Int32.lt_iff_toInt_lt, nI_toInt (by omega)]; omega
              · rw [nI_ltI (by omega) (by omega)]; exact hk
            · rintro A ⟨g1, g2⟩
              refine en_bv (en_imp (c_turns h0 hm g2.1.2.2.1.2.2.2.1) ?_)
              rintro A2 ⟨g3, g4⟩
              refine c_best (g2.s27 g3) h0 hn g4 hx fun N q' hq' hs => ?_
              rw [hq] at hq'
              cases hq'
              exact ⟨rfl, ((sc_27 g1).tr (s27_27 g3)).tr hs⟩
          · unfold f_X6_best_j38
            refine en_f ?_ (en_bmv fun B f => en_bv (en_imp (r_tries (G := G) (n := n) hG h0 hn n 0 recs 0 B (by omega) (by unfold recs; omega) (hA.same (K := KT) (KL := KA) (sm_1 f rfl) k6_t) (by rw [ms_off f (by omega)]; exact h14) (fun j hj => by omega) ?_) ?_))
            · rw [hA.2.2.2.1]
              exact nI_ne0 h0 (by omega)
            · rw [Nat.zero_mul]
              exact ms_at f
            · rintro C ⟨k1, k2, k3⟩
              rw [Nat.zero_add, Nat.one_mul] at k3
              unfold RB at k3
              rw [hq] at k3
              obtain ⟨c1, c2, c3⟩ := k3
              have hsC : Sm KT KB M2 C := (sm_1 f rfl).tr k1
              rcases hx with rfl | ⟨k, hk, rfl⟩
              · exact en_t rfl (en_some ⟨by rw [if_pos rfl]; exact c2, hsC⟩)
              · refine en_f (nI_m1 (by omega)) (en_gd (bin_nI (by omega) (by omega)) (en_some ⟨?_, hsC⟩))
                rw [if_neg (nI_m1 (by omega)), cl_nI (by omega)]
                exact c3 k hk
          · rintro ⟨a, N1⟩ ⟨b, N2⟩ ⟨p1, p2⟩ ⟨q1, q2⟩
            exact ⟨p1.trans q1.symm, G, nt, zs, h.same p2 q2 k1_27 k1_t⟩
      · have hx1 : ¬ x2 = -1 := fun y => hx (Or.inl y)
        have hx2 : ¬ ∃ k, k < n ∧ x2 = nI k := fun y => hx (Or.inr y)
        refine bad ?_ ?_
        · unfold f_X5_best
          refine en_f n0 (en_f n4 (en_f cB' (en_ite (fun _ => en_ite (fun _ => en_some rfl) (fun y => en_f ?_ (en_some rfl))) (fun _ => en_some rfl))))
          intro y2
          have h02 : ¬ x2 < 0 := by
            intro y3
            refine hx1 ?_
            rw [Int32.lt_iff_toInt_lt] at y y3
            rw [← Int32.toInt_inj]
            omega
          obtain ⟨k, hk, rfl⟩ := nI_of h02
          rw [nI_ltI hk (by omega)] at y2
          exact hx2 ⟨k, y2, rfl⟩
        · unfold f_X6_best
          exact en_bd' r4 (en_f (by decide) (en_f rB' (en_f hx1 (en_bd' (rin_no (a := 0) rfl rfl (fun y => hx2 ((below_iff (by omega)).mp y)) M2) (en_t rfl (en_some rfl))))))
end BEST
