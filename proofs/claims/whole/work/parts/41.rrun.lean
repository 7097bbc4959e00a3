/-! ===== the reference's supper: who had least, most, who is hungriest, towards whom, giving ===== -/
def lsI (T : Tb) (had : Nat → Nat) (k : Nat) : Int32 := match fl T had k with
  | none => -1
  | some j => nI (had j)
/-- the reference's table in the supper -/
def RT (G : Gt) (T : Tb) (M : Mm) : Prop := Tgh G T ∧ Gok G ∧ AR G M ∧ M.1 0 14 = abI T ∧ (∀ e, tea T e = eaN G e) ∧ ∀ k, k < yB G → M.1 11 k = nI (trd T k) ∧ M.1 12 k = nI (tsv T k)
def RDy (T : Tb) (s : Sx) (M : Mm) : Prop := (∀ e, e < 5 → M.1 8 e = nI (xh s e) ∧ M.1 10 e = nI (xw s e) ∧ M.1 9 e = lasI s e) ∧ M.1 0 36 = xc s ∧ (5 ≤ ta T → M.1 0 37 = nI (xf s)) ∧ M.1 0 38 = nI (xg s) ∧ M.1 0 39 = nI (xs s)
def RR (G : Gt) (T : Tb) (s : Sx) (M : Mm) : Prop := RT G T M ∧ RDy T s M
/-- kept by the reference's run, behind the baking -/
def KZ : Nat → Nat → Bool := fun o k => !(o == 0 && ((decide (15 ≤ k) && decide (k ≤ 29)) || (decide (36 ≤ k) && decide (k ≤ 39)))) && !(o == 8 || (o == 9 || o == 10))
/-- .. by all of it -/
def KU : Nat → Nat → Bool := fun o k => !(o == 0 && ((decide (15 ≤ k) && decide (k ≤ 29)) || (decide (36 ≤ k) && decide (k ≤ 39)))) && !(o == 8 || (o == 9 || (o == 10 || (o == 11 || o == 12))))
theorem kz_q : ∀ o k, KZ o k = true → KQ o k = true := by
  intro o k h
  unfold KZ at h
  unfold KQ
  simp at h ⊢
  omega
theorem ku_z : ∀ o k, KU o k = true → KZ o k = true := by
  intro o k h
  unfold KU at h
  unfold KZ
  simp at h ⊢
  omega
theorem k6_u : ∀ o k, KR6 o k = true → KU o k = true := by
  intro o k h
  unfold KR6 at h
  unfold KU
  simp at h ⊢
  omega
theorem k6_z : ∀ o k, KR6 o k = true → KZ o k = true := fun o k h => ku_z o k (k6_u o k h)
section RRUN
variable {G : Gt} {T : Tb} {s : Sx} {M M1 : Mm} {N mi k : Nat} {w : Wy} {had : Nat → Nat}
theorem sit_iff {e : Nat} : sit T e = true ↔ e < tm T ∧ e ≠ ta T := by
  unfold sit
  simp
theorem ab_eq {e : Nat} (he : e < 5) : nI e = abI T ↔ e = ta T := by
  unfold abI
  by_cases h : ta T < 5
  · rw [if_pos h, nI_eq (by omega) (by omega)]
  · rw [if_neg h]
    constructor
    · intro z; exact absurd z (nI_m1 (by omega))
    · intro z; omega
theorem fl_ge : ∀ d : Nat, fl T had (tm T + d) = fl T had (tm T)
  | 0 => rfl
  | d + 1 => by
    show fl T had (tm T + d + 1) = _
    rw [fl, if_neg (fun z => by have := (sit_iff.mp z).1; omega)]
    exact fl_ge d
theorem fl_tm (h : tm T ≤ 5) : fl T had (tm T) = fl T had 5 := by
  have := fl_ge (T := T) (had := had) (5 - tm T)
  rw [show tm T + (5 - tm T) = 5 by omega] at this
  exact this.symm
theorem mo_geq : ∀ d : Nat, mo T had (tm T + d) = mo T had (tm T)
  | 0 => rfl
  | d + 1 => by
    show mo T had (tm T + d + 1) = _
    rw [mo, if_neg (fun z => by have := (sit_iff.mp z).1; omega)]
    exact mo_geq d
theorem mo_tm (h : tm T ≤ 5) : mo T had (tm T) = mo T had 5 := by
  have := mo_geq (T := T) (had := had) (5 - tm T)
  rw [show tm T + (5 - tm T) = 5 by omega] at this
  exact this.symm
theorem hg_geq : ∀ d : Nat, hg T mi had (tm T + d) = hg T mi had (tm T)
  | 0 => rfl
  | d + 1 => by
    show hg T mi had (tm T + d + 1) = _
    rw [hg, if_neg (fun z => by have := (sit_iff.mp z.1).1; omega)]
    exact hg_geq d
theorem hg_tm (h : tm T ≤ 5) : hg T mi had (tm T) = hg T mi had 5 := by
  have := hg_geq (T := T) (mi := mi) (had := had) (5 - tm T)
  rw [show tm T + (5 - tm T) = 5 by omega] at this
  exact this.symm
theorem pass_geq : ∀ d : Nat, passF T mi (tm T + d) s = passF T mi (tm T) s
  | 0 => rfl
  | d + 1 => by
    show passF T mi (tm T + d + 1) s = _
    rw [passF, pass_no (fun z => by have := (sit_iff.mp z.1).1; omega)]
    exact pass_geq d
theorem pass_tm (h : tm T ≤ 5) : passF T mi (tm T) s = passF T mi 5 s := by
  have := pass_geq (T := T) (mi := mi) (s := s) (5 - tm T)
  rw [show tm T + (5 - tm T) = 5 by omega] at this
  exact this.symm
theorem lsI_lea (h : ∃ e, sit T e = true) (hm : tm T ≤ 5) : lsI T had 5 = nI (lea T had) := by
  unfold lsI lea
  cases hf : fl T had 5 with
  | none =>
    obtain ⟨e, he⟩ := h
    have h1 := fl_none hf e (sit_5 hm he)
    rw [he] at h1
    cases h1
  | some j => rfl
theorem r_least (h13 : M.1 0 13 = nI (tm T)) (hm : tm T ≤ 5) (ha : M.1 0 14 = abI T) (hh : ∀ e, e < 5 → M.1 8 e = nI (had e) ∧ had e < 2 ^ 31) : f_X6_leastHad M = some (lsI T had 5, M) := by
  refine en_eq ?_
  unfold f_X6_leastHad
  refine en_iter (fun (z : Int32 × Int32 × Mm) => ∃ k, k ≤ tm T ∧ z.1 = lsI T had k ∧ z.2.1 = nI k ∧ z.2.2 = M) (fun z => 6 - z.2.1.toNatClampNeg) ⟨0, by omega, rfl, rfl, rfl⟩ (by have := fuel_gt; omega) ?_
  rintro ⟨x1, x2, M'⟩ ⟨k, hk, rfl, rfl, rfl⟩
  show En (f_X6_leastHad_b4 (lsI T had k) (nI k) M') _
  have hnx : 6 - (nI k + 1).toNatClampNeg < 6 - (nI k).toNatClampNeg := by
    rw [show nI k + 1 = nI (k + 1) from nI_add k 1, nI_clamp (by omega), nI_clamp (by omega)]
    omega
  unfold f_X6_leastHad_b4
  rw [h13]
  refine en_ite (fun hc => en_ex (en_some ?_)) (fun hc => ?_)
  · rw [nI_leI (by omega) (by omega)] at hc
    have e : k = tm T := by omega
    rw [e]
    unfold lsI
    rw [fl_tm hm]
    exact rfl
  · rw [nI_leI (by omega) (by omega)] at hc
    have hk5 : k < 5 := by omega
    rw [ha]
    refine en_ite (fun q => ?_) (fun q => ?_)
    · have q := (ab_eq hk5).mp q
      refine en_bi (en_some ⟨⟨k + 1, by omega, ?_, nI_add k 1, rfl⟩, hnx⟩)
      show lsI T had k = lsI T had (k + 1)
      unfold lsI
      rw [fl, if_neg (fun z => (sit_iff.mp z).2 q)]
    · have q := (not_congr (ab_eq hk5)).mp q
      have hs : sit T k = true := sit_iff.mpr ⟨by omega, q⟩
      have take : fl T had (k + 1) = some k → En (f_X6_leastHad_j35 (nI k) M') (Lp (fun (z : Int32 × Int32 × Mm) => ∃ k, k ≤ tm T ∧ z.1 = lsI T had k ∧ z.2.1 = nI k ∧ z.2.2 = M') (fun z => 6 - z.2.1.toNatClampNeg) (lsI T had k, nI k, M') (fun a => a = (lsI T had 5, M'))) := by
        intro hf
        unfold f_X6_leastHad_j35
        refine en_gd (bin_nI hk5 (by omega)) ?_
        rw [cl_nI (by omega), (hh k hk5).1]
        refine en_bi (en_bi (en_some ⟨⟨k + 1, by omega, ?_, nI_add k 1, rfl⟩, hnx⟩))
        unfold lsI
        rw [hf]
      cases hf : fl T had k with
      | none =>
        refine en_t (by unfold lsI; rw [hf]) (take ?_)
        rw [fl, if_pos hs, hf]
      | some j =>
        have hj := (fl_some hf).2
        have hl : lsI T had k = nI (had j) := by unfold lsI; rw [hf]
        rw [hl]
        refine en_f (nI_m1 (hh j (by omega)).2) (en_gd (bin_nI hk5 (by omega)) ?_)
        rw [cl_nI (by omega), (hh k hk5).1]
        refine en_ite (fun hle => ?_) (fun hle => ?_)
        · rw [nI_leI (hh j (by omega)).2 (hh k hk5).2] at hle
          refine en_bi (en_some ⟨⟨k + 1, by omega, ?_, nI_add k 1, rfl⟩, ?_⟩)
          · show nI (had j) = lsI T had (k + 1)
            unfold lsI
            rw [fl, if_pos hs, hf]
            dsimp only
            rw [if_pos hle]
          · exact hnx
        · rw [nI_leI (hh j (by omega)).2 (hh k hk5).2] at hle
          have := take (by rw [fl, if_pos hs, hf]; exact if_neg hle)
          rw [hl] at this
          exact this
theorem r_most (h13 : M.1 0 13 = nI (tm T)) (hm : tm T ≤ 5) (ha : M.1 0 14 = abI T) (hN : ∀ e, had e ≤ N) (hN2 : N < 2 ^ 30) (hh : ∀ e, e < 5 → M.1 8 e = nI (had e)) : f_X6_mostHad M = some (nI (mo T had 5), M) := by
  refine en_eq ?_
  unfold f_X6_mostHad
  refine en_iter (fun (z : Int32 × Int32 × Mm) => ∃ k, k ≤ tm T ∧ z.1 = nI (mo T had k) ∧ z.2.1 = nI k ∧ z.2.2 = M) (fun z => 6 - z.2.1.toNatClampNeg) ⟨0, by omega, rfl, rfl, rfl⟩ (by have := fuel_gt; omega) ?_
  rintro ⟨x1, x2, M'⟩ ⟨k, hk, rfl, rfl, rfl⟩
  show En (f_X6_mostHad_b4 (nI (mo T had k)) (nI k) M') _
  have hnx : 6 - (nI k + 1).toNatClampNeg < 6 - (nI k).toNatClampNeg := by
    rw [show nI k + 1 = nI (k + 1) from nI_add k 1, nI_clamp (by omega), nI_clamp (by omega)]
    omega
  have hmk := mo_le (T := T) hN k
  have hkk := hN k
  unfold f_X6_mostHad_b4
  rw [h13]
  refine en_ite (fun hc => en_ex (en_some ?_)) (fun hc => ?_)
  · rw [nI_leI (by omega) (by omega)] at hc
    have e : k = tm T := by omega
    rw [e, mo_tm hm]
    exact rfl
  · rw [nI_leI (by omega) (by omega)] at hc
    have hk5 : k < 5 := by omega
    rw [ha]
    refine en_ite (fun q => ?_) (fun q => ?_)
    · have q := (ab_eq hk5).mp q
      refine en_bi (en_some ⟨⟨k + 1, by omega, ?_, nI_add k 1, rfl⟩, hnx⟩)
      show nI (mo T had k) = nI (mo T had (k + 1))
      rw [mo, if_neg (fun z => (sit_iff.mp z).2 q)]
    · have q := (not_congr (ab_eq hk5)).mp q
      have hs : sit T k = true := sit_iff.mpr ⟨by omega, q⟩
      refine en_gd (bin_nI hk5 (by omega)) ?_
      rw [cl_nI (by omega), hh k hk5]
      refine en_ite (fun hle => ?_) (fun hle => ?_)
      · rw [nI_leI (by omega) (by omega)] at hle
        refine en_bi (en_some ⟨⟨k + 1, by omega, ?_, nI_add k 1, rfl⟩, hnx⟩)
        show nI (mo T had k) = nI (mo T had (k + 1))
        rw [mo, if_pos hs, Nat.max_eq_left hle]
      · rw [nI_leI (by omega) (by omega)] at hle
        refine en_gd (bin_nI hk5 (by omega)) (en_bi (en_bi (en_some ⟨⟨k + 1, by omega, ?_, nI_add k 1, rfl⟩, hnx⟩)))
        show nI (had k) = nI (mo T had (k + 1))
        rw [mo, if_pos hs, Nat.max_eq_right (by omega)]
theorem r_who (h13 : M.1 0 13 = nI (tm T)) (hm : tm T ≤ 5) (ha : M.1 0 14 = abI T) (hh : ∀ e, e < 5 → M.1 8 e = nI (had e) ∧ had e < 2 ^ 31) : f_X6_whoHas M = some (oI (fl T had 5), M) := by
  refine en_eq ?_
  unfold f_X6_whoHas
  refine en_iter (fun (z : Int32 × Mm) => ∃ k, k ≤ tm T ∧ (∀ j, fl T had 5 = some j → k ≤ j) ∧ z.1 = nI k ∧ z.2 = M) (fun z => 6 - z.1.toNatClampNeg) ⟨0, by omega, fun j _ => Nat.zero_le j, rfl, rfl⟩ (by have := fuel_gt; omega) ?_
  rintro ⟨x1, M'⟩ ⟨k, hk, hj, rfl, rfl⟩
  show En (f_X6_whoHas_b2 (nI k) M') _
  have hnx : 6 - (nI k + 1).toNatClampNeg < 6 - (nI k).toNatClampNeg := by
    rw [show nI k + 1 = nI (k + 1) from nI_add k 1, nI_clamp (by omega), nI_clamp (by omega)]
    omega
  unfold f_X6_whoHas_b2
  rw [h13]
  refine en_ite (fun hc => en_ex (en_some ?_)) (fun hc => ?_)
  · rw [nI_leI (by omega) (by omega)] at hc
    cases hf : fl T had 5 with
    | none => rfl
    | some j =>
      have h1 := hj j hf
      have h2 := sit_m (fl_some hf).1
      omega
  · rw [nI_leI (by omega) (by omega)] at hc
    have hk5 : k < 5 := by omega
    rw [ha]
    refine en_ite (fun q => ?_) (fun q => ?_)
    · have q := (ab_eq hk5).mp q
      refine en_bi (en_some ⟨⟨k + 1, by omega, fun j hf => ?_, nI_add k 1, rfl⟩, hnx⟩)
      have h1 := hj j hf
      have h2 := (sit_iff.mp (fl_some hf).1).2
      omega
    · have q := (not_congr (ab_eq hk5)).mp q
      have hs : sit T k = true := sit_iff.mpr ⟨by omega, q⟩
      refine en_gd (bin_nI hk5 (by omega)) (en_bd' (r_least h13 hm ha hh) ?_)
      rw [cl_nI (by omega), (hh k hk5).1]
      cases hf : fl T had 5 with
      | none =>
        have := fl_none hf k hk5
        rw [hs] at this
        cases this
      | some j =>
        have hj5 := (fl_some hf).2
        have h1 := hj j hf
        have h2 := fl_min hf
        rw [show lsI T had 5 = nI (had j) by unfold lsI; rw [hf]]
        refine en_ite (fun e => en_ex (en_some ?_)) (fun e => ?_)
        · rw [nI_eq (hh k hk5).2 (hh j hj5).2] at e
          have : k = j := by
            rcases Nat.lt_or_ge k j with z | z
            · have := h2.2 k z hs; omega
            · omega
          rw [this]
          rfl
        · rw [nI_eq (hh k hk5).2 (hh j hj5).2] at e
          refine en_bi (en_some ⟨⟨k + 1, by omega, fun j' hf' => ?_, nI_add k 1, rfl⟩, hnx⟩)
          cases hf'
          rcases Nat.lt_or_ge k j with z | z
          · exact z
          · have : k = j := by omega
            rw [this] at e
            exact absurd rfl e
theorem RT.same {K : Nat → Nat → Bool} {KL : Nat → Bool} (h : RT G T M) (hs : Sm K KL M M1) (hk : ∀ o k, KZ o k = true → K o k = true) : RT G T M1 := by
  obtain ⟨h1, h2, h3, h4, h5, h6⟩ := h
  refine ⟨h1, h2, h3.same hs (fun o k z => hk o k (k6_z o k z)), by rw [hs.1 0 14 (hk _ _ rfl), h4], h5, fun k hk' => ?_⟩
  obtain ⟨a, b⟩ := h6 k hk'
  exact ⟨by rw [hs.1 11 k (hk _ _ rfl), a], by rw [hs.1 12 k (hk _ _ rfl), b]⟩
theorem RDy.same {K : Nat → Nat → Bool} {KL : Nat → Bool} (h : RDy T s M) (hs : Sm K KL M M1) (hk : ∀ o k, KQ o k = true → K o k = true) : RDy T s M1 := by
  obtain ⟨h1, h2, h3, h4, h5⟩ := h
  refine ⟨fun e he => ?_, by rw [hs.1 0 36 (hk _ _ rfl), h2], fun z => by rw [hs.1 0 37 (hk _ _ rfl), h3 z], by rw [hs.1 0 38 (hk _ _ rfl), h4], by rw [hs.1 0 39 (hk _ _ rfl), h5]⟩
  obtain ⟨a, b, c⟩ := h1 e he
  exact ⟨by rw [hs.1 8 e (hk _ _ rfl), a], by rw [hs.1 10 e (hk _ _ rfl), b], by rw [hs.1 9 e (hk _ _ rfl), c]⟩
theorem RR.q {KL : Nat → Bool} (h : RR G T s M) (hs : Sm KQ KL M M1) : RR G T s M1 := ⟨h.1.same hs kz_q, h.2.same hs (fun _ _ z => z)⟩
theorem RT.cap (h : RT G T M) : M.1 0 13 = nI (tm T) ∧ tm T ≤ 5 ∧ M.1 0 14 = abI T ∧ M.1 0 7 = nI (tB T) ∧ tB T ≤ 12 ∧ tm T = yM G := by
  obtain ⟨hT, hG, hA, h14, hea, h11⟩ := h
  exact ⟨by rw [hT.2.1]; exact hA.2.2.2.1, by rw [hT.2.1]; exact hG.2.2.1, h14, by rw [hT.1]; exact hA.1, by rw [hT.1]; exact hG.1, hT.2.1⟩
theorem thu_lt (hT : Tgh G T) (hG : Gok G) (e mi h l : Nat) : thu T e mi h l < 2 ^ 31 := by
  rw [hT.2.2.2.1]
  have h1 := (hG.2.2.2.2.1 e).2.1
  have h2 : hvz (yZ G) e mi h (yW G e) ≤ 99 := (cl_in (lo := 0) (hi := 99) (by omega) (by omega) _).2
  unfold hunN
  repeat' split
  all_goals omega
theorem r_hunT {e h l : Nat} (hR : RT G T M) (he : e < tm T) (hh : h < 2 ^ 31) (hl : l < 2 ^ 31) : En (f_X6_hungersOf (nI e) (nI mi) (nI h) (nI l) M) (fun r => r.1 = nI (thu T e mi h l) ∧ Sm KQ KB M r.2) := by
  obtain ⟨hT, hG, hA, h14, hea, h11⟩ := hR
  rw [hT.2.2.2.1]
  exact r_hung hG hA (by rw [← hT.2.1]; exact he) hh hl
theorem r_hg (h : RR G T s M) (hb : Bd N s) (hN : N < 2 ^ 20) : En (f_X6_hungriest (nI mi) M) (fun r => r.1 = oI ((hg T mi (xh s) 5).map (fun q => q.1)) ∧ Sm KQ KB M r.2) := by
  obtain ⟨h13, hm5, h14, h7, hB, hmG⟩ := h.1.cap
  have hT := h.1.1
  have hG := h.1.2.1
  unfold f_X6_hungriest
  refine en_bd' (r_least h13 hm5 h14 (fun e he => ⟨(h.2.1 e he).1, by have := hb.1 e; omega⟩)) ?_
  refine en_iter (fun (z : Int32 × Int32 × Int32 × Mm) => ∃ k, k ≤ tm T ∧ z.1 = oI ((hg T mi (xh s) k).map (fun q => q.1)) ∧ z.2.1 = (match hg T mi (xh s) k with | none => 0 | some q => nI q.2) ∧ z.2.2.1 = nI k ∧ Sm KQ KB M z.2.2.2) (fun z => 6 - z.2.2.1.toNatClampNeg) ⟨0, by omega, rfl, rfl, rfl, Sm.rf⟩ (by have := fuel_gt; omega) ?_
  rintro ⟨x3, x4, x5, M'⟩ ⟨k, hk, rfl, rfl, rfl, hs'⟩
  have hs' : Sm KQ KB M M' := hs'
  have hR' : RR G T s M' := h.q hs'
  obtain ⟨k13, -, k14, k7, -, -⟩ := hR'.1.cap
  show En (f_X6_hungriest_b13 _ _ _ _ (nI k) M') _
  have hnx : 6 - (nI k + 1).toNatClampNeg < 6 - (nI k).toNatClampNeg := by
    rw [show nI k + 1 = nI (k + 1) from nI_add k 1, nI_clamp (by omega), nI_clamp (by omega)]
    omega
  unfold f_X6_hungriest_b13
  rw [k13]
  refine en_ite (fun hc => en_ex (en_some ?_)) (fun hc => ?_)
  · rw [nI_leI (by omega) (by omega)] at hc
    have e : k = tm T := by omega
    rw [e, hg_tm hm5]
    exact ⟨rfl, hs'⟩
  · rw [nI_leI (by omega) (by omega)] at hc
    have hk5 : k < 5 := by omega
    have skip : ∀ (M2 : Mm), Sm KQ KB M M2 → hg T mi (xh s) (k + 1) = hg T mi (xh s) k → Lp (fun (z : Int32 × Int32 × Int32 × Mm) => ∃ k, k ≤ tm T ∧ z.1 = oI ((hg T mi (xh s) k).map (fun q => q.1)) ∧ z.2.1 = (match hg T mi (xh s) k with | none => 0 | some q => nI q.2) ∧ z.2.2.1 = nI k ∧ Sm KQ KB M z.2.2.2) (fun z => 6 - z.2.2.1.toNatClampNeg) (oI ((hg T mi (xh s) k).map (fun q => q.1)), (match hg T mi (xh s) k with | none => 0 | some q => nI q.2), nI k, M') (fun (r : Int32 × Mm) => r.1 = oI ((hg T mi (xh s) 5).map (fun q => q.1)) ∧ Sm KQ KB M r.2) (.inl (oI ((hg T mi (xh s) k).map (fun q => q.1)), (match hg T mi (xh s) k with | none => 0 | some q => nI q.2), nI k + 1, M2)) := by
      intro M2 q1 q3
      exact ⟨⟨k + 1, by omega, by rw [q3], by rw [q3], nI_add k 1, q1⟩, hnx⟩
    rw [k14]
    refine en_ite (fun q => ?_) (fun q => ?_)
    · have q := (ab_eq hk5).mp q
      exact en_bi (en_some (skip M' hs' (by rw [hg, if_neg (fun z => (sit_iff.mp z.1).2 q)])))
    · have q := (not_congr (ab_eq hk5)).mp q
      have hs : sit T k = true := sit_iff.mpr ⟨by omega, q⟩
      have hkm : k < tm T := by omega
      have hkm' : k < yM G := by omega
      refine en_gd (bin_nI hk5 (by omega)) (en_gd (bin_nI hk5 (by omega)) ?_)
      have hw12 := (hG.2.2.2.2.1 k).2.2.1
      have hhk := hb.1 k
      rw [cl_nI (by omega), (hR'.1.2.2.1.2.2.2.2.1 k hkm').2.2.1, (hR'.2.1 k hk5).1]
      have hwa : twa T k = yW G k := by rw [hT.2.2.1]
      refine en_ite (fun hle => ?_) (fun hle => ?_)
      · rw [nI_leI (by omega) (by omega)] at hle
        exact en_bi (en_some (skip M' hs' (by rw [hg, if_neg (fun z => by rw [hwa] at z; omega)])))
      · rw [nI_leI (by omega) (by omega)] at hle
        have hcond : sit T k = true ∧ xh s k < twa T k := ⟨hs, by rw [hwa]; omega⟩
        have hlb := lea_le (T := T) hb.1
        rw [lsI_lea ⟨k, hs⟩ hm5]
        refine en_gd (bin_nI hk5 (by omega)) (en_bd (en_imp (r_hunT hR'.1 hkm (by omega) (by omega)) ?_))
        rintro ⟨r6, M5⟩ ⟨g1, g2⟩
        have g1 : r6 = nI (thu T k mi (xh s k) (lea T (xh s))) := g1
        have g2 : Sm KQ KB M' M5 := g2
        subst g1
        have take : hg T mi (xh s) (k + 1) = some (k, thu T k mi (xh s k) (lea T (xh s))) → Lp (fun (z : Int32 × Int32 × Int32 × Mm) => ∃ k, k ≤ tm T ∧ z.1 = oI ((hg T mi (xh s) k).map (fun q => q.1)) ∧ z.2.1 = (match hg T mi (xh s) k with | none => 0 | some q => nI q.2) ∧ z.2.2.1 = nI k ∧ Sm KQ KB M z.2.2.2) (fun z => 6 - z.2.2.1.toNatClampNeg) (oI ((hg T mi (xh s) k).map (fun q => q.1)), (match hg T mi (xh s) k with | none => 0 | some q => nI q.2), nI k, M') (fun (r : Int32 × Mm) => r.1 = oI ((hg T mi (xh s) 5).map (fun q => q.1)) ∧ Sm KQ KB M r.2) (.inl (nI k, nI (thu T k mi (xh s k) (lea T (xh s))), nI k + 1, M5)) := by
          intro q3
          exact ⟨⟨k + 1, by omega, by rw [q3]; rfl, by rw [q3], nI_add k 1, hs'.tr g2⟩, hnx⟩
        cases hq : hg T mi (xh s) k with
        | none =>
          refine en_t rfl (en_bi (en_some ?_))
          have := take (by rw [hg, if_pos hcond, hq])
          rw [hq] at this
          exact this
        | some q =>
          have hq5 := (hg_some hq).2.1
          refine en_f (by show ¬ nI q.1 = -1; exact nI_m1 (by omega)) ?_
          have hq2 : q.2 < 2 ^ 31 := by rw [(hg_some hq).2.2.2]; exact thu_lt hT hG _ _ _ _
          refine en_ite (fun hle2 => ?_) (fun hle2 => ?_)
          · have hle2 : nI (thu T k mi (xh s k) (lea T (xh s))) ≤ nI q.2 := hle2
            rw [nI_leI (thu_lt hT hG _ _ _ _) hq2] at hle2
            have hsame : hg T mi (xh s) (k + 1) = hg T mi (xh s) k := by
              rw [hg, if_pos hcond, hq]; exact if_pos hle2
            have := skip M5 (hs'.tr g2) hsame
            rw [hq] at this
            exact en_bi (en_some this)
          · have hle2 : ¬ nI (thu T k mi (xh s k) (lea T (xh s))) ≤ nI q.2 := hle2
            rw [nI_leI (thu_lt hT hG _ _ _ _) hq2] at hle2
            have := take (by rw [hg, if_pos hcond, hq]; exact if_neg hle2)
            rw [hq] at this
            exact en_bi (en_some this)
/-- a number told by a sheet, as an eater -/
def tld (m : Nat) (x : Int32) : Option Nat := if x < 0 then none else if x.toNatClampNeg < m then some x.toNatClampNeg else none
/-- by turns -/
def tns (m k : Nat) : Option Nat := if m = 0 then none else some (k % m)
/-- the reference's number of a way, and the way -/
def RW (T : Tb) (w : Wy) (x1 x2 : Int32) (M : Mm) : Prop :=
  (x1 = 2 ∧ w.1 = 2) ∨ (x1 = 3 ∧ w.1 = 3) ∨ (5 ≤ ta T ∧ w.1 = 0 ∧
    ((x1 = 0 ∧ ∃ sn sz, sn < 4 ∧ sz ≤ 40 ∧ x2 = nI sn ∧ M.1 18 sn = nI sz ∧ ∀ k, k < tB T → w.2 k = tld (tm T) (if k < sz then M.1 19 (40 * sn + k) else -1)) ∨
     (x1 = 4 ∧ ∃ n, n ≤ 12 ∧ x2 = nI n ∧ ∀ k, k < tB T → (k < n → ∃ e, e < tm T ∧ M.1 13 k = nI e ∧ w.2 k = some e) ∧ (n ≤ k → w.2 k = tns (tm T) k)) ∨
     ((x1 = 1 ∨ x1 = 5) ∧ ∀ k, k < tB T → w.2 k = tns (tm T) k)))
theorem RW.same {x1 x2 : Int32} {K : Nat → Nat → Bool} {KL : Nat → Bool} (h : RW T w x1 x2 M) (hs : Sm K KL M M1) (hk : ∀ o k, KU o k = true → K o k = true) : RW T w x1 x2 M1 := by
  rcases h with h | h | ⟨h1, h2, ⟨h3, sn, sz, a, b, c, d, f⟩ | ⟨h3, n, a, b, c⟩ | h⟩
  · exact Or.inl h
  · exact Or.inr (Or.inl h)
  · exact Or.inr (Or.inr ⟨h1, h2, Or.inl ⟨h3, sn, sz, a, b, c, by rw [hs.1 18 _ (hk _ _ rfl), d], fun k hk' => by rw [hs.1 19 _ (hk _ _ rfl)]; exact f k hk'⟩⟩)
  · exact Or.inr (Or.inr ⟨h1, h2, Or.inr (Or.inl ⟨h3, n, a, b, fun k hk' => by rw [hs.1 13 _ (hk _ _ rfl)]; exact c k hk'⟩)⟩)
  · exact Or.inr (Or.inr ⟨h1, h2, Or.inr (Or.inr h)⟩)
theorem tld_some {m e : Nat} {x : Int32} (h : tld m x = some e) : e < m ∧ x = nI e := by
  unfold tld at h
  by_cases h0 : x < 0
  · rw [if_pos h0] at h; cases h
  · rw [if_neg h0] at h
    obtain ⟨j, hj, rfl⟩ := nI_of h0
    rw [nI_clamp hj] at h
    by_cases q : j < m
    · rw [if_pos q] at h; cases h; exact ⟨q, rfl⟩
    · rw [if_neg q] at h; cases h
theorem tld_none {m : Nat} {x : Int32} (h : tld m x = none) : ¬ ∃ i, i < m ∧ x = nI i ∧ i < 2 ^ 31 := by
  rintro ⟨i, hi, rfl, hl⟩
  unfold tld at h
  rw [if_neg (nI_ltz hl), nI_clamp hl, if_pos hi] at h
  cases h
theorem tns_some {m k e : Nat} (h : tns m k = some e) : e < m ∧ e = k % m := by
  unfold tns at h
  split at h
  · cases h
  · next q => cases h; exact ⟨Nat.mod_lt _ (by omega), rfl⟩
/-- what a way says sits -/
theorem rw_sit {x1 x2 : Int32} (h : RW T w x1 x2 M) {e : Nat} (hk : k < tB T) (hm : tm T ≤ 5) (hw : who T w s mi k = some e) : sit T e = true := by
  unfold who at hw
  rcases h with ⟨-, h⟩ | ⟨-, h⟩ | ⟨h1, h2, h3⟩
  · rw [if_neg (by omega), if_pos h] at hw
    cases hq : hg T mi (xh s) 5 with
    | none => rw [hq] at hw; cases hw
    | some q => rw [hq] at hw; cases hw; exact (hg_some hq).1
  · rw [if_neg (by omega), if_neg (by omega)] at hw
    exact (fl_some hw).1
  · rw [if_pos h2] at hw
    have : e < tm T := by
      rcases h3 with ⟨-, sn, sz, a, b, c, d, f⟩ | ⟨-, n, a, b, c⟩ | ⟨-, c⟩
      · rw [f k hk] at hw
        exact (tld_some hw).1
      · rcases Nat.lt_or_ge k n with q | q
        · obtain ⟨e', h4, -, h5⟩ := (c k hk).1 q
          rw [h5] at hw; cases hw; exact h4
        · rw [(c k hk).2 q] at hw
          exact (tns_some hw).1
      · rw [c k hk] at hw
        exact (tns_some hw).1
    exact sit_iff.mpr ⟨this, by omega⟩
theorem r_towards {x1 x2 : Int32} (h : RR G T s M) (hb : Bd N s) (hN : N < 2 ^ 20) (hk : k < tB T) (hW : RW T w x1 x2 M) : En (f_X6_towards (nI k) x1 x2 (nI mi) M) (fun r => r.1 = oI (who T w s mi k) ∧ Sm KQ KB M r.2) := by
  obtain ⟨h13, hm5, h14, h7, hB, hmG⟩ := h.1.cap
  unfold f_X6_towards
  rw [h13]
  have hfl : ∀ e, e < 5 → M.1 8 e = nI (xh s e) ∧ xh s e < 2 ^ 31 := fun e he => ⟨(h.2.1 e he).1, by have := hb.1 e; omega⟩
  refine en_ite (fun q => en_some ⟨?_, Sm.rf⟩) (fun q => ?_)
  · have q : nI (tm T) = nI 0 := q
    rw [nI_eq (by omega) (by omega)] at q
    cases hw : who T w s mi k with
    | none => rfl
    | some e =>
      have := sit_m (rw_sit hW hk hm5 hw)
      omega
  · have q : ¬ nI (tm T) = nI 0 := q
    rw [nI_eq (by omega) (by omega)] at q
    have turn : w.1 = 0 → w.2 k = tns (tm T) k → x1 ≠ 2 → x1 ≠ 3 → En (f_X6_towards_j73 (nI k) x1 (nI mi) M) (fun r => r.1 = oI (who T w s mi k) ∧ Sm KQ KB M r.2) := by
      intro h1 h2 h3 h4
      unfold f_X6_towards_j73
      refine en_f h3 (en_f h4 ?_)
      rw [h13]
      refine en_gd (nI_ne0 (by omega) (by omega)) (en_some ⟨?_, Sm.rf⟩)
      rw [irm_nI (by omega) (by omega) (by omega)]
      unfold who
      rw [if_pos h1, h2]
      unfold tns
      rw [if_neg q]
      rfl
    rcases id hW with ⟨rfl, h2⟩ | ⟨rfl, h2⟩ | ⟨h1, h2, ⟨rfl, sn, sz, a, b, rfl, d, f⟩ | ⟨rfl, n, a, rfl, c⟩ | ⟨h3, c⟩⟩
    · refine en_f (by decide) (en_f (by decide) ?_)
      unfold f_X6_towards_j73
      refine en_t rfl (en_bd (en_imp (r_hg h hb hN) ?_))
      rintro ⟨r, M1⟩ ⟨g1, g2⟩
      refine en_some ⟨?_, g2⟩
      have g1 : r = _ := g1
      show r = _
      rw [g1]
      unfold who
      rw [if_neg (by omega), if_pos h2]
    · refine en_f (by decide) (en_f (by decide) ?_)
      unfold f_X6_towards_j73
      refine en_f (by decide) (en_t rfl (en_bd' (r_who h13 hm5 h14 hfl) (en_some ⟨?_, Sm.rf⟩)))
      unfold who
      rw [if_neg (by omega), if_neg (by omega)]
    · refine en_t rfl (en_gd (bin_nI a (by omega)) ?_)
      rw [cl_nI (by omega), d]
      have fin : ∀ x, w.2 k = tld (tm T) x → En (f_X6_towards_j38 x M) (fun r => r.1 = oI (who T w s mi k) ∧ Sm KQ KB M r.2) := by
        intro x hx
        have hwho : who T w s mi k = tld (tm T) x := by
          unfold who
          rw [if_pos h2, hx]
        rw [hwho]
        unfold f_X6_towards_j38
        cases ht : tld (tm T) x with
        | none =>
          refine en_bd' (isE_out h13 hm5 ?_) (en_t rfl (en_some ⟨rfl, Sm.rf⟩))
          rintro ⟨i, hi, e⟩
          exact tld_none ht ⟨i, hi, e, by omega⟩
        | some e =>
          have := tld_some ht
          exact en_bd' (isE_in h13 hm5 ⟨e, this.1, this.2⟩) (en_f (by decide) (en_some ⟨this.2, Sm.rf⟩))
      have hf := f k hk
      refine en_ite (fun z => ?_) (fun z => ?_)
      · rw [nI_leI (by omega) (by omega)] at z
        rw [if_neg (by omega)] at hf
        exact fin _ hf
      · rw [nI_leI (by omega) (by omega)] at z
        rw [if_pos (by omega)] at hf
        rw [show (40 : Int32) * nI sn = nI (40 * sn) from pk_mul 40 sn, nI_add]
        refine en_gd (bin_nI (by omega) (by omega)) ?_
        rw [cl_nI (by omega)]
        exact fin _ hf
    · refine en_f (by decide) (en_t rfl (en_ite (fun z => ?_) (fun z => ?_)))
      · rw [nI_leI (by omega) (by omega)] at z
        exact turn h2 ((c k hk).2 z) (by decide) (by decide)
      · rw [nI_leI (by omega) (by omega)] at z
        obtain ⟨e, he, h4, h5⟩ := (c k hk).1 (by omega)
        refine en_gd (bin_nI (by omega) (by omega)) (en_some ⟨?_, Sm.rf⟩)
        rw [cl_nI (by omega)]
        unfold who
        rw [if_pos h2, h5]
        exact h4
    · have hc := c k hk
      rcases h3 with rfl | rfl
      · exact en_f (by decide) (en_f (by decide) (turn h2 hc (by decide) (by decide)))
      · exact en_f (by decide) (en_f (by decide) (turn h2 hc (by decide) (by decide)))
end RRUN
