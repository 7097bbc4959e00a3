/-! ===== the reference's lexer ===== -/
theorem cmp_lt (x y : Int32) : lg_cmp x.toInt64 y.toInt64 < 0 ↔ x < y := by
  unfold lg_cmp
  simp only [gt_iff_lt, Int64.lt_iff_toInt_lt, ← Int64.toInt_inj, Int32.toInt_toInt64, Int32.lt_iff_toInt_lt]
  repeat' split
  all_goals (constructor <;> intro hh <;> first | omega | decide | exact absurd hh (by decide))
theorem cmp_gt (x y : Int32) : 0 < lg_cmp x.toInt64 y.toInt64 ↔ y < x := by
  unfold lg_cmp
  simp only [gt_iff_lt, Int64.lt_iff_toInt_lt, ← Int64.toInt_inj, Int32.toInt_toInt64, Int32.lt_iff_toInt_lt]
  repeat' split
  all_goals (constructor <;> intro hh <;> first | omega | decide | exact absurd hh (by decide))
theorem cmp_eq (x y : Int32) : lg_cmp x.toInt64 y.toInt64 = 0 ↔ x = y := by
  unfold lg_cmp
  simp only [gt_iff_lt, Int64.lt_iff_toInt_lt, ← Int64.toInt_inj, Int32.toInt_toInt64, ← Int32.toInt_inj]
  repeat' split
  all_goals (constructor <;> intro hh <;> first | omega | decide | exact absurd hh (by decide))
theorem in_eq (x lo hi : Int32) (M : Mm) : f_X6_in x.toInt64 lo.toInt64 hi.toInt64 M = some (if lo ≤ x ∧ x ≤ hi then 1 else 0, M) := by
  unfold f_X6_in
  simp only [cmp_lt, cmp_gt]
  by_cases h1 : x < lo
  · rw [if_pos h1, if_neg (fun z => Int32.not_le.mpr h1 z.1)]
  · rw [if_neg h1]
    by_cases h2 : hi < x
    · rw [if_pos h2, if_neg (fun z => Int32.not_le.mpr h2 z.2)]
    · rw [if_neg h2, if_pos ⟨Int32.not_lt.mp h1, Int32.not_lt.mp h2⟩]
theorem in_Le (c : Int32) (M : Mm) : f_X6_in c.toInt64 97 122 M = some (if Le c = true then 1 else 0, M) := by
  rw [show (97 : Int64) = (97 : Int32).toInt64 from rfl, show (122 : Int64) = (122 : Int32).toInt64 from rfl, in_eq]
  unfold Le
  by_cases h1 : (97 : Int32) ≤ c <;> by_cases h2 : c ≤ 122 <;> simp [h1, h2]
theorem in_Di (c : Int32) (M : Mm) : f_X6_in c.toInt64 48 57 M = some (if Di c = true then 1 else 0, M) := by
  rw [show (48 : Int64) = (48 : Int32).toInt64 from rfl, show (57 : Int64) = (57 : Int32).toInt64 from rfl, in_eq]
  unfold Di
  by_cases h1 : (48 : Int32) ≤ c <;> by_cases h2 : c ≤ 57 <;> simp [h1, h2]
/-- the tape of the reference -/
def Tr (b : Nat → Int32) (n t : Nat) (M : Mm) : Prop := M.1 0 21 = nI (160 * t) ∧ M.1 0 22 = nI n ∧ n ≤ 160 ∧ t < 6 ∧ ∀ i, i < n → M.1 1 (160 * t + i) = b i
def KN : Nat → Nat → Bool := fun o k => !(o == 0 && (k == 23 || (k == 24 || k == 25)))
def KB : Nat → Bool := fun o => !(o == 0)
theorem Tr.same {b : Nat → Int32} {n t : Nat} {M M1 : Mm} {K : Nat → Nat → Bool} {KL : Nat → Bool} (h : Tr b n t M) (hs : Sm K KL M M1) (h1 : K 0 21 = true) (h2 : K 0 22 = true) (h3 : ∀ i, K 1 i = true) : Tr b n t M1 :=
  ⟨(hs.1 0 21 h1).trans h.1, (hs.1 0 22 h2).trans h.2.1, h.2.2.1, h.2.2.2.1, fun i hi => (hs.1 1 _ (h3 _)).trans (h.2.2.2.2 i hi)⟩
theorem Tr.kn {b : Nat → Int32} {n t : Nat} {M M1 : Mm} (h : Tr b n t M) (hs : Sm KN KB M M1) : Tr b n t M1 := h.same hs rfl rfl (fun _ => rfl)
/-- a token of the reference, from p on -/
def Lr (b : Nat → Int32) (n p : Nat) (M : Mm) : Prop := M.1 0 25 = nI (lat b n p) ∧
  ((bat b n (lat b n p) = -1 ∧ ltk b n p = 0 ∧ M.1 0 24 = 0) ∨
   (Le (bat b n (lat b n p)) = true ∧ M.1 0 24 = 1 ∧ M.1 0 23 = nI (lnx b n p) ∧ lnx b n p = sk Le b n (lat b n p)) ∨
   (ltk b n p = 2 ∧ M.1 0 24 = 2 ∧ M.1 0 23 = nI (lnx b n p) ∧ ∃ v, lcd b n p = nI v ∧ M.2 0 = lN v) ∨
   (Sg (ltk b n p) = true ∧ M.1 0 24 = 3 ∧ M.1 0 23 = nI (lnx b n p) ∧ M.2 0 = (ltk b n p).toInt64) ∨
   (ltk b n p = 1 ∧ M.1 0 24 = 4 ∧ ¬ Le (bat b n (lat b n p)) = true))
section LEXR
variable {b : Nat → Int32} {n t : Nat} {M : Mm}
theorem rbyte_eq {p : Nat} (hT : Tr b n t M) (hp : p < 2 ^ 30) : f_X6_byteAt (nI p) M = some (bat b n p, M) := by
  obtain ⟨h1, h2, h3, h4, h5⟩ := hT
  unfold f_X6_byteAt
  rw [h2]
  rcases Nat.lt_or_ge p n with q | q
  · rw [if_neg (by rw [nI_leI (by omega) (by omega)]; omega), h1, nI_add, gd, if_pos (bin_nI (by omega) (by omega)), cl_nI (by omega), h5 p q, bat_in q]
  · rw [if_pos (by rw [nI_leI (by omega) (by omega)]; exact q), bat_out q]
theorem dvL_step {x j : Nat} (hj : j ≤ 9) : (10 * lN x + (nI (48 + j)).toInt64) - 48 = lN (10 * x + j) := by
  rw [nI_l (by omega)]
  show lN 10 * lN x + lN (48 + j) - lN 48 = _
  rw [lN_mul, lN_add, lN_sub (by omega)]
  congr 1
  omega
theorem ml_at {M M1 : Mm} {o : Nat} {v : Int64} (e : M1 = ml M o v) : M1.2 o = v := by
  rw [e, ml_long, if_pos rfl]
theorem ml_off {M M1 : Mm} {o o' k' : Nat} {v : Int64} (e : M1 = ml M o v) : M1.1 o' k' = M.1 o' k' := by
  rw [e, ml_get]
theorem ml_offl {M M1 : Mm} {o o' : Nat} {v : Int64} (e : M1 = ml M o v) (h : o' ≠ o) : M1.2 o' = M.2 o' := by
  rw [e, ml_long, if_neg h]
theorem ms_offl {M M1 : Mm} {o k o' : Nat} {v : Int32} (e : M1 = ms M o k v) : M1.2 o' = M.2 o' := by
  rw [e, ms_long]
theorem sml_1 {K : Nat → Nat → Bool} {KL : Nat → Bool} {M M1 : Mm} {o : Nat} {v : Int64} (e : M1 = ml M o v) (hk : KL o = false) : Sm K KL M M1 := by
  rw [e]; exact Sm.rf.putl hk
theorem rnum_ok {s : Nat} (hT : Tr b n t M) (hs : M.1 0 23 = nI s) (hsn : s ≤ n) (hl : M.2 0 = lN 0) :
    En (iter (fun s => f_X6_next_b160 s.1 s.2) fuel ((0 : Int32), M)) (fun M1 => Sm KN KB M M1 ∧ M1.1 0 23 = nI (sk Di b n s) ∧ M1.1 0 25 = M.1 0 25 ∧ M1.1 0 24 = (if sk Di b n s - s ≤ 4 then 2 else 4) ∧ (sk Di b n s - s ≤ 4 → M1.2 0 = lN (dv b s (sk Di b n s - s)))) := by
  have hn := hT.2.2.1
  have hge : s ≤ sk Di b n s := sk_ge
  have hle : sk Di b n s ≤ n := sk_le hsn
  refine en_iter (fun z => ∃ k : Nat, s + k ≤ n ∧ z.1 = nI k ∧ Sm KN KB M z.2 ∧ z.2.1 0 23 = nI (s + k) ∧ z.2.1 0 25 = M.1 0 25 ∧ z.2.2 0 = lN (dv b s (min k 4)) ∧ sk Di b n (s + k) = sk Di b n s) (fun z => 161 - z.1.toNatClampNeg) ⟨0, hsn, rfl, Sm.rf, hs, rfl, hl, rfl⟩ (by have := fuel_gt; omega) ?_
  rintro ⟨x, M2⟩ ⟨k, hk, rfl, hsm, h2, h25, hlg, he⟩
  show En (f_X6_next_b160 _ _) _
  unfold f_X6_next_b160
  rw [h2]
  refine en_bd' (rbyte_eq (hT.kn hsm) (by omega)) (en_bd' (in_Di _ _) ?_)
  refine en_ite (fun hd => en_ex ?_) (fun hd => ?_)
  · have hd := if10.mp hd
    have hk2 : s + k = sk Di b n s := by rw [← he, sk_f (by simpa using hd)]
    have last : ∀ tk : Int32, (if sk Di b n s - s ≤ 4 then (2 : Int32) else 4) = tk → En (f_X6_next_j246 tk M2) (fun M1 => Sm KN KB M M1 ∧ M1.1 0 23 = nI (sk Di b n s) ∧ M1.1 0 25 = M.1 0 25 ∧ M1.1 0 24 = (if sk Di b n s - s ≤ 4 then 2 else 4) ∧ (sk Di b n s - s ≤ 4 → M1.2 0 = lN (dv b s (sk Di b n s - s)))) := by
      intro tk htk
      unfold f_X6_next_j246
      refine en_bmv fun M3 e3 => en_some ⟨hsm.tr (sm_1 e3 rfl), ?_, ?_, ?_, ?_⟩
      · rw [ms_off e3 (by omega), h2, hk2]
      · rw [ms_off e3 (by omega), h25]
      · rw [ms_at e3, htk]
      · intro h4
        rw [ms_offl e3, hlg, Nat.min_eq_left (by omega), show sk Di b n s - s = k by omega]
    refine en_ite (fun hc => ?_) (fun hc => ?_)
    · have hc : nI k ≤ nI 4 := hc
      rw [nI_leI (by omega) (by omega)] at hc
      exact last 2 (if_pos (by omega))
    · have hc : ¬ nI k ≤ nI 4 := hc
      rw [nI_leI (by omega) (by omega)] at hc
      exact last 4 (if_neg (by omega))
  · have hd : Di (bat b n (s + k)) = true := Classical.not_not.mp (fun z => hd (if10.mpr z))
    have hlt : s + k < n := bat_lt Di_m hd
    have nxt : ∀ v : Int64, v = lN (dv b s (min (k + 1) 4)) → En (f_X6_next_j216 (nI k) v M2) (Lp (fun z => ∃ k : Nat, s + k ≤ n ∧ z.1 = nI k ∧ Sm KN KB M z.2 ∧ z.2.1 0 23 = nI (s + k) ∧ z.2.1 0 25 = M.1 0 25 ∧ z.2.2 0 = lN (dv b s (min k 4)) ∧ sk Di b n (s + k) = sk Di b n s) (fun z => 161 - z.1.toNatClampNeg) (nI k, M2) (fun M1 => Sm KN KB M M1 ∧ M1.1 0 23 = nI (sk Di b n s) ∧ M1.1 0 25 = M.1 0 25 ∧ M1.1 0 24 = (if sk Di b n s - s ≤ 4 then 2 else 4) ∧ (sk Di b n s - s ≤ 4 → M1.2 0 = lN (dv b s (sk Di b n s - s))))) := by
      intro v hv
      unfold f_X6_next_j216
      refine en_bmv fun M3 e3 => en_biv fun y ey => en_bmv fun M4 e4 => en_some ⟨⟨k + 1, by omega, ey.trans (nI_add k 1), (hsm.tr (sml_1 e3 rfl)).tr (sm_1 e4 rfl), ?_, ?_, ?_, ?_⟩, ?_⟩
      · show M4.1 0 23 = _
        rw [ms_at e4, ml_off e3, h2]
        exact nI_add (s + k) 1
      · show M4.1 0 25 = _
        rw [ms_off e4 (by omega), ml_off e3, h25]
      · show M4.2 0 = _
        rw [ms_offl e4, ml_at e3, hv]
      · rw [← he, sk_t Di_m hd]; rfl
      · show 161 - y.toNatClampNeg < 161 - (nI k).toNatClampNeg
        rw [ey, show nI k + 1 = nI (k + 1) from nI_add k 1, nI_clamp (by omega), nI_clamp (by omega)]
        omega
    refine en_ite (fun h4' => ?_) (fun h4' => ?_)
    · have h4' : nI 4 ≤ nI k := h4'
      rw [nI_leI (by omega) (by omega)] at h4'
      exact nxt _ (by rw [hlg, Nat.min_eq_right h4', Nat.min_eq_right (by omega)])
    · have h4' : ¬ nI 4 ≤ nI k := h4'
      rw [nI_leI (by omega) (by omega)] at h4'
      rw [h2]
      refine en_bd' (rbyte_eq (hT.kn hsm) (by omega)) ?_
      obtain ⟨j, hj, ej, dj⟩ := dig_val hd
      rw [ej, hlg, dvL_step hj]
      refine nxt _ ?_
      rw [Nat.min_eq_left (by omega), Nat.min_eq_left (by omega), dv, ← bat_in (b := b) hlt, dj]
theorem rword_ok {s : Nat} (hT : Tr b n t M) (hs : M.1 0 23 = nI s) (hsn : s ≤ n) :
    En (iter (fun s => f_X6_next_b100 s) fuel M) (fun M1 => Sm KN KB M M1 ∧ M1.1 0 23 = nI (sk Le b n s) ∧ M1.1 0 25 = M.1 0 25 ∧ M1.1 0 24 = M.1 0 24) := by
  have hn := hT.2.2.1
  refine en_iter (fun z => ∃ k : Nat, s + k ≤ n ∧ Sm KN KB M z ∧ z.1 0 23 = nI (s + k) ∧ z.1 0 25 = M.1 0 25 ∧ z.1 0 24 = M.1 0 24 ∧ sk Le b n (s + k) = sk Le b n s) (fun z => 161 - (z.1 0 23).toNatClampNeg) ⟨0, hsn, Sm.rf, hs, rfl, rfl, rfl⟩ (by have := fuel_gt; omega) ?_
  rintro M2 ⟨k, hk, hsm, h2, h25, h24, he⟩
  show En (f_X6_next_b100 _) _
  unfold f_X6_next_b100
  rw [h2]
  refine en_bd' (rbyte_eq (hT.kn hsm) (by omega)) (en_bd' (in_Le _ _) ?_)
  refine en_ite (fun hd => en_ex (en_some ?_)) (fun hd => ?_)
  · have hd := if10.mp hd
    exact ⟨hsm, by rw [h2, ← he, sk_f (by simpa using hd)], h25, h24⟩
  · have hd : Le (bat b n (s + k)) = true := Classical.not_not.mp (fun z => hd (if10.mpr z))
    have hlt : s + k < n := bat_lt Le_m hd
    refine en_bmv fun M3 e3 => ?_
    have e23 : M3.1 0 23 = nI (s + (k + 1)) := by rw [ms_at e3, h2]; exact nI_add (s + k) 1
    refine en_some ⟨⟨k + 1, by omega, hsm.tr (sm_1 e3 rfl), e23, ?_, ?_, ?_⟩, ?_⟩
    · rw [ms_off e3 (by omega), h25]
    · rw [ms_off e3 (by omega), h24]
    · rw [← he, sk_t Le_m hd]; rfl
    · show 161 - (M3.1 0 23).toNatClampNeg < 161 - (M2.1 0 23).toNatClampNeg
      rw [e23, h2, nI_clamp (by omega), nI_clamp (by omega)]
      omega
theorem byt_nonneg {p : Nat} (hB : Byt b n) : 0 ≤ bat b n p ↔ bat b n p ≠ -1 := by
  rcases byt_bat (p := p) hB with ⟨e, _⟩ | ⟨_, c, hc, e⟩
  · rw [e]; exact ⟨fun z => absurd z (by decide), fun z => absurd rfl z⟩
  · rw [e]; exact ⟨fun _ => nI_m1 (by omega), fun _ => nI_pos' (by omega)⟩
theorem rsign_ok {c : Int32} {p : Nat} (hm : bat b n (lat b n p) = c) (h1 : ¬ c = -1) (hl : ¬ Le c = true) (hd : ¬ Di c = true) (h25 : M.1 0 25 = nI (lat b n p)) (h23 : M.1 0 23 = nI (lat b n p)) (h24 : M.1 0 24 = 4) :
    En (if c = (40 : Int32) then f_X6_next_j300 c M else if c = (41 : Int32) then f_X6_next_j300 c M else if c = (59 : Int32) then f_X6_next_j300 c M else if c = (43 : Int32) then f_X6_next_j300 c M else if c = (45 : Int32) then f_X6_next_j300 c M else if c = (42 : Int32) then f_X6_next_j300 c M else if c = (60 : Int32) then f_X6_next_j300 c M else if c = (61 : Int32) then f_X6_next_j300 c M else some M)
      (fun M1 => Sm KN KB M M1 ∧ Lr b n p M1) := by
  have ht : ltk b n p = if Sg c = true then c else 1 := by rw [ltk, hm, if_neg h1, if_neg hl, if_neg hd]
  have yes : Sg c = true → En (f_X6_next_j300 c M) (fun M1 => Sm KN KB M M1 ∧ Lr b n p M1) := by
    intro hs
    rw [if_pos hs] at ht
    unfold f_X6_next_j300
    refine en_bmv fun M3 e3 => en_bmv fun M4 e4 => en_bmv fun M5 e5 => en_some ⟨((sm_1 e3 rfl).tr (sml_1 e4 rfl)).tr (sm_1 e5 rfl), ?_, Or.inr (Or.inr (Or.inr (Or.inl ⟨?_, ?_, ?_, ?_⟩)))⟩
    · rw [ms_off e5 (by omega), ml_off e4, ms_off e3 (by omega), h25]
    · rw [ht]; exact hs
    · rw [ms_off e5 (by omega), ml_off e4, ms_at e3]
    · rw [ms_at e5, ml_off e4, ms_off e3 (by omega), h23, lnx, hm, if_neg h1, if_neg hl, if_neg hd]
      exact nI_add _ 1
    · rw [ms_offl e5, ml_at e4, ht]
  refine en_ite (fun h => yes (by rw [h]; decide)) fun a1 => en_ite (fun h => yes (by rw [h]; decide)) fun a2 => en_ite (fun h => yes (by rw [h]; decide)) fun a3 => en_ite (fun h => yes (by rw [h]; decide)) fun a4 => en_ite (fun h => yes (by rw [h]; decide)) fun a5 => en_ite (fun h => yes (by rw [h]; decide)) fun a6 => en_ite (fun h => yes (by rw [h]; decide)) fun a7 => en_ite (fun h => yes (by rw [h]; decide)) fun a8 => en_some ⟨Sm.rf, h25, Or.inr (Or.inr (Or.inr (Or.inr ⟨?_, h24, by rw [hm]; exact hl⟩)))⟩
  rw [ht, if_neg]
  unfold Sg
  simp [a1, a2, a3, a4, a5, a6, a7, a8]
theorem next_ok {p : Nat} (hB : Byt b n) (hT : Tr b n t M) (hs : M.1 0 23 = nI p) (hpn : p ≤ n) : En (f_X6_next M) (fun M1 => Sm KN KB M M1 ∧ Lr b n p M1) := by
  have hn := hT.2.2.1
  have hge : p ≤ lat b n p := sk_ge
  have hle : lat b n p ≤ n := sk_le hpn
  unfold f_X6_next
  refine en_iter (fun z => ∃ k : Nat, p + k ≤ n ∧ Sm KN KB M z ∧ z.1 0 23 = nI (p + k) ∧ sk Bl b n (p + k) = lat b n p) (fun z => 161 - (z.1 0 23).toNatClampNeg) ⟨0, hpn, Sm.rf, hs, rfl⟩ (by have := fuel_gt; omega) ?_
  rintro M2 ⟨k, hk, hsm, h2, he⟩
  show En (f_X6_next_b0 _) _
  have nxt : Bl (bat b n (p + k)) = true → En (f_X6_next_j26 M2) (Lp (fun z => ∃ k : Nat, p + k ≤ n ∧ Sm KN KB M z ∧ z.1 0 23 = nI (p + k) ∧ sk Bl b n (p + k) = lat b n p) (fun z => 161 - (z.1 0 23).toNatClampNeg) M2 (fun M1 => Sm KN KB M M1 ∧ Lr b n p M1)) := by
    intro hb
    have hlt : p + k < n := bat_lt Bl_m hb
    unfold f_X6_next_j26
    refine en_bmv fun M3 e3 => ?_
    have e23 : M3.1 0 23 = nI (p + (k + 1)) := by rw [ms_at e3, h2]; exact nI_add (p + k) 1
    refine en_some ⟨⟨k + 1, by omega, hsm.tr (sm_1 e3 rfl), e23, by rw [← he, sk_t Bl_m hb]; rfl⟩, ?_⟩
    show 161 - (M3.1 0 23).toNatClampNeg < 161 - (M2.1 0 23).toNatClampNeg
    rw [e23, h2, nI_clamp (by omega), nI_clamp (by omega)]
    omega
  unfold f_X6_next_b0
  rw [h2]
  refine en_bd' (rbyte_eq (hT.kn hsm) (by omega)) ?_
  refine en_ite (fun h32 => nxt (by unfold Bl; rw [decide_eq_true h32]; rfl)) (fun h32 => ?_)
  rw [h2]
  refine en_bd' (rbyte_eq (hT.kn hsm) (by omega)) ?_
  refine en_ite (fun h10 => nxt (by unfold Bl; rw [decide_eq_true h10, Bool.or_true])) (fun h10 => en_ex ?_)
  have hlat : p + k = lat b n p := by rw [← he, sk_f (by unfold Bl; rw [decide_eq_false h32, decide_eq_false h10]; rfl)]
  clear nxt
  rw [hlat] at h2
  refine en_bmv fun M3 e3 => ?_
  have hsm3 : Sm KN KB M M3 := hsm.tr (sm_1 e3 rfl)
  have h323 : M3.1 0 23 = nI (lat b n p) := by rw [ms_off e3 (by omega), h2]
  have h325 : M3.1 0 25 = nI (lat b n p) := by rw [ms_at e3, h2]
  rw [h323]
  refine en_bd' (rbyte_eq (hT.kn hsm3) (by omega)) (en_bmv fun M4 e4 => ?_)
  have hsm4 : Sm KN KB M M4 := hsm3.tr (sm_1 e4 rfl)
  have h423 : M4.1 0 23 = nI (lat b n p) := by rw [ms_off e4 (by omega), h323]
  have h425 : M4.1 0 25 = nI (lat b n p) := by rw [ms_off e4 (by omega), h325]
  refine en_ite (fun hc => ?_) (fun hc => ?_)
  · have hc := (byt_nonneg hB).mp hc
    refine en_bd' (in_Le _ _) (en_ite (fun hl => ?_) (fun hl => ?_))
    · have hl := if10.mp hl
      refine en_bd' (in_Di _ _) (en_ite (fun hd => ?_) (fun hd => ?_))
      · have hd := if10.mp hd
        exact en_imp (rsign_ok rfl hc hl hd h425 h423 (ms_at e4)) fun M5 h5 => ⟨hsm4.tr h5.1, h5.2⟩
      · have hd : Di (bat b n (lat b n p)) = true := Classical.not_not.mp (fun z => hd (if10.mpr z))
        refine en_bmv fun M5 e5 => en_bmv fun M6 e6 => ?_
        have hsm6 : Sm KN KB M M6 := (hsm4.tr (sm_1 e5 rfl)).tr (sml_1 e6 rfl)
        refine en_imp (rnum_ok (s := lat b n p) (hT.kn hsm6) (by rw [ml_off e6, ms_off e5 (by omega), h423]) hle (ml_at e6)) ?_
        rintro M7 ⟨g1, g2, g3, g4, g5⟩
        refine ⟨hsm6.tr g1, by rw [g3, ml_off e6, ms_off e5 (by omega), h425], ?_⟩
        have htk : ltk b n p = if sk Di b n (lat b n p) - lat b n p ≤ 4 then 2 else 1 := by rw [ltk, if_neg hc, if_neg hl, if_pos hd]
        by_cases q : sk Di b n (lat b n p) - lat b n p ≤ 4
        · rw [if_pos q] at htk g4
          refine Or.inr (Or.inr (Or.inl ⟨htk, g4, ?_, dv b (lat b n p) (sk Di b n (lat b n p) - lat b n p), ?_, g5 q⟩))
          · rw [g2, lnx, if_neg hc, if_neg hl, if_pos hd]
          · rw [lcd, if_neg hl]
        · rw [if_neg q] at htk g4
          exact Or.inr (Or.inr (Or.inr (Or.inr ⟨htk, g4, hl⟩)))
    · have hl : Le (bat b n (lat b n p)) = true := Classical.not_not.mp (fun z => hl (if10.mpr z))
      refine en_bmv fun M5 e5 => ?_
      have hsm5 : Sm KN KB M M5 := hsm4.tr (sm_1 e5 rfl)
      refine en_imp (rword_ok (s := lat b n p) (hT.kn hsm5) (by rw [ms_off e5 (by omega), h423]) hle) ?_
      rintro M6 ⟨g1, g2, g3, g4⟩
      have hx : lnx b n p = sk Le b n (lat b n p) := by rw [lnx, if_neg hc, if_pos hl]
      exact ⟨hsm5.tr g1, by rw [g3, ms_off e5 (by omega), h425], Or.inr (Or.inl ⟨hl, by rw [g4, ms_at e5], by rw [g2, hx], hx⟩)⟩
  · have hc : bat b n (lat b n p) = -1 := Classical.not_not.mp (fun z => hc ((byt_nonneg hB).mpr z))
    have hn2 : lat b n p = n := by have := (bat_m1 hB).mp hc; omega
    refine en_bmv fun M5 e5 => en_bmv fun M6 e6 => en_some ⟨(hsm4.tr (sm_1 e5 rfl)).tr (sm_1 e6 rfl), ?_, Or.inl ⟨hc, ?_, ?_⟩⟩
    · rw [ms_at e6, ms_off e5 (by omega), hn2]
      exact (hT.kn hsm4).2.1
    · rw [ltk, if_pos hc]
    · rw [ms_off e6 (by omega), ms_at e5]
end LEXR
