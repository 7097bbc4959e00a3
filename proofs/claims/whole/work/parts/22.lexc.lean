/-! ===== the class's lexer ===== -/
/-- the tape of the class -/
def Tp (b : Nat → Int32) (n : Nat) (M : Mm) : Prop := M.1 3 1 = nI n ∧ n ≤ 160 ∧ ∀ i, i < n → M.1 15 i = b i
def KS : Nat → Nat → Bool := fun o k => !(o == 3 && (k == 2 || (k == 3 || (k == 4 || k == 5))))
def KA : Nat → Bool := fun _ => true
theorem Tp.same {b : Nat → Int32} {n : Nat} {M M1 : Mm} {K : Nat → Nat → Bool} {KL : Nat → Bool} (h : Tp b n M) (hs : Sm K KL M M1) (h1 : K 3 1 = true) (h2 : ∀ i, K 15 i = true) : Tp b n M1 :=
  ⟨(hs.1 3 1 h1).trans h.1, h.2.1, fun i hi => (hs.1 15 i (h2 i)).trans (h.2.2 i hi)⟩
theorem Tp.ks {b : Nat → Int32} {n : Nat} {M M1 : Mm} (h : Tp b n M) (hs : Sm KS KA M M1) : Tp b n M1 := h.same hs rfl (fun _ => rfl)
section LEXC
variable {b : Nat → Int32} {n : Nat} {M : Mm}
theorem byteAt_eq {p : Nat} (hT : Tp b n M) (hp : p < 2 ^ 31) : f_X0_byteAt (nI p) M = some (bat b n p, M) := by
  obtain ⟨h1, h2, h3⟩ := hT
  unfold f_X0_byteAt
  rw [if_neg (nI_ltz hp), h1]
  rcases Nat.lt_or_ge p n with q | q
  · rw [if_neg (by rw [nI_leI (by omega) hp]; omega), if_neg (by show ¬ nI 160 ≤ nI p; rw [nI_leI (by omega) hp]; omega), gd, if_pos (bin_nI (by omega) (by omega)), cl_nI hp, h3 p q, bat_in q]
  · rw [if_pos (by rw [nI_leI (by omega) hp]; exact q), bat_out q]
theorem isLetter_eq (c : Int32) : f_X0_isLetter c M = some (if Le c = true then 1 else 0, M) := by
  unfold f_X0_isLetter Le
  by_cases h1 : c < 97
  · have h1' : ¬ (97 : Int32) ≤ c := Int32.not_le.mpr h1
    simp [h1, h1']
  · have h1' : (97 : Int32) ≤ c := Int32.not_lt.mp h1
    by_cases h2 : 122 < c
    · have h2' : ¬ c ≤ 122 := Int32.not_le.mpr h2
      simp [h1, h2, h2']
    · have h2' : c ≤ 122 := Int32.not_lt.mp h2
      simp [h1, h2, h1', h2']
theorem isDigit_eq (c : Int32) : f_X0_isDigit c M = some (if Di c = true then 1 else 0, M) := by
  unfold f_X0_isDigit Di
  by_cases h1 : c < 48
  · have h1' : ¬ (48 : Int32) ≤ c := Int32.not_le.mpr h1
    simp [h1, h1']
  · have h1' : (48 : Int32) ≤ c := Int32.not_lt.mp h1
    by_cases h2 : 57 < c
    · have h2' : ¬ c ≤ 57 := Int32.not_le.mpr h2
      simp [h1, h2, h2']
    · have h2' : c ≤ 57 := Int32.not_lt.mp h2
      simp [h1, h2, h1', h2']
theorem isSign_eq (c : Int32) : f_X0_isSign c M = some (if Sg c = true then 1 else 0, M) := by
  unfold f_X0_isSign Sg
  by_cases h1 : c = 40
  · simp [h1]
  by_cases h2 : c = 41
  · simp [h2]
  by_cases h3 : c = 59
  · simp [h3]
  by_cases h4 : c = 43
  · simp [h4]
  by_cases h5 : c = 45
  · simp [h5]
  by_cases h6 : c = 42
  · simp [h6]
  by_cases h7 : c = 60
  · simp [h7]
  by_cases h8 : c = 61
  · simp [h8]
  simp [h1, h2, h3, h4, h5, h6, h7, h8]
theorem if10 {P : Prop} {h : Decidable P} : ((if P then (1 : Int32) else 0) = 0) ↔ ¬ P := by
  by_cases q : P
  · rw [if_pos q]; exact ⟨fun z => absurd z (by decide), fun z => absurd q z⟩
  · rw [if_neg q]; exact ⟨fun _ => q, fun _ => rfl⟩
theorem dig_val {c : Int32} (h : Di c = true) : ∃ j, j ≤ 9 ∧ c = nI (48 + j) ∧ dgt c = j := by
  unfold Di at h
  simp only [Bool.and_eq_true, decide_eq_true_eq] at h
  obtain ⟨h1, h2⟩ := h
  have h0 : ¬ c < 0 := by
    intro z
    rw [Int32.lt_iff_toInt_lt] at z
    rw [Int32.le_iff_toInt_le] at h1
    have : (48 : Int32).toInt = 48 := by decide
    have : (0 : Int32).toInt = 0 := by decide
    omega
  obtain ⟨j, hj, rfl⟩ := nI_of h0
  have h1 : nI 48 ≤ nI j := h1
  have h2 : nI j ≤ nI 57 := h2
  rw [nI_leI (by omega) hj] at h1
  rw [nI_leI hj (by omega)] at h2
  refine ⟨j - 48, by omega, by rw [show 48 + (j - 48) = j by omega], ?_⟩
  unfold dgt
  rw [nI_clamp hj]
theorem dv_step {x j : Nat} : ((nI x * 10) + nI (48 + j)) - 48 = nI (10 * x + j) := by
  show nI x * nI 10 + nI (48 + j) - nI 48 = _
  rw [pk_mul, nI_add, pk_sub (by omega)]
  congr 1
  omega
/-- a number: from its first digit at s on -/
theorem readNumber_ok {s : Nat} (hB : Byt b n) (hT : Tp b n M) (hs : M.1 3 2 = nI s) (hsn : s ≤ n) (hat : M.1 3 4 = nI s) :
    En (f_X0_readNumber M) (fun M1 => Sm KS KA M M1 ∧ M1.1 3 2 = nI (sk Di b n s) ∧ M1.1 3 4 = nI s ∧ M1.1 3 3 = (if sk Di b n s - s ≤ 4 then 2 else 1) ∧ (sk Di b n s - s ≤ 4 → M1.1 3 5 = nI (dv b s (sk Di b n s - s)))) := by
  have hge : s ≤ sk Di b n s := sk_ge
  have hle : sk Di b n s ≤ n := sk_le hsn
  have hn := hT.2.1
  have fin : ∀ (k : Nat) (M2 : Mm) (v : Nat), Sm KS KA M M2 → M2.1 3 2 = nI (s + k) → M2.1 3 4 = nI s → s + k = sk Di b n s → (k ≤ 4 → v = dv b s k) →
      En (f_X0_readNumber_j68 (nI v) (nI k) M2) (fun M1 => Sm KS KA M M1 ∧ M1.1 3 2 = nI (sk Di b n s) ∧ M1.1 3 4 = nI s ∧ M1.1 3 3 = (if sk Di b n s - s ≤ 4 then 2 else 1) ∧ (sk Di b n s - s ≤ 4 → M1.1 3 5 = nI (dv b s (sk Di b n s - s)))) := by
    intro k M2 v hsm h2 h4 hk hv
    have last : ∀ (tk : Int32), (if sk Di b n s - s ≤ 4 then (2 : Int32) else 1) = tk → En (f_X0_readNumber_j79 (nI v) tk M2) (fun M1 => Sm KS KA M M1 ∧ M1.1 3 2 = nI (sk Di b n s) ∧ M1.1 3 4 = nI s ∧ M1.1 3 3 = (if sk Di b n s - s ≤ 4 then 2 else 1) ∧ (sk Di b n s - s ≤ 4 → M1.1 3 5 = nI (dv b s (sk Di b n s - s)))) := by
      intro tk htk
      unfold f_X0_readNumber_j79
      refine en_bmv fun M3 e3 => en_bmv fun M4 e4 => en_some ⟨(hsm.tr (sm_1 e3 rfl)).tr (sm_1 e4 rfl), ?_, ?_, ?_, ?_⟩
      · rw [ms_off e4 (by omega), ms_off e3 (by omega), h2, hk]
      · rw [ms_off e4 (by omega), ms_off e3 (by omega), h4]
      · rw [ms_off e4 (by omega), ms_at e3, htk]
      · intro hle4
        rw [ms_at e4, hv (by omega), show sk Di b n s - s = k by omega]
    unfold f_X0_readNumber_j68
    refine en_ite (fun hc => ?_) (fun hc => ?_)
    · have hc : nI k ≤ nI 4 := hc
      rw [nI_leI (by omega) (by omega)] at hc
      exact last 2 (if_pos (by omega))
    · have hc : ¬ nI k ≤ nI 4 := hc
      rw [nI_leI (by omega) (by omega)] at hc
      exact last 1 (if_neg (by omega))
  unfold f_X0_readNumber
  refine en_iter (fun s' => ∃ k : Nat, k ≤ 160 ∧ s + k ≤ n ∧ s'.1 = nI (dv b s (min k 4)) ∧ s'.2.1 = nI k ∧ s'.2.2.1 = nI k ∧ Sm KS KA M s'.2.2.2 ∧ s'.2.2.2.1 3 2 = nI (s + k) ∧ s'.2.2.2.1 3 4 = nI s ∧ sk Di b n (s + k) = sk Di b n s) (fun s' => 161 - s'.2.1.toNatClampNeg) ⟨0, by omega, hsn, rfl, rfl, rfl, Sm.rf, hs, hat, rfl⟩ (by have := fuel_gt; omega) ?_
  rintro ⟨x1, x2, x3, M2⟩ ⟨k, hk, hkn, rfl, rfl, rfl, hsm, h2, h4, he⟩
  show En (f_X0_readNumber_b6 _ _ _ _) _
  have hT2 := hT.ks hsm
  unfold f_X0_readNumber_b6
  refine en_ite (fun hc => en_ex ?_) (fun hc => ?_)
  · have hc : nI 160 ≤ nI k := hc
    rw [nI_leI (by omega) (by omega)] at hc
    refine fin k M2 _ hsm h2 h4 ?_ (fun h => by rw [Nat.min_eq_left h])
    have : s + k = n := by omega
    rw [← he, this, sk_f (by rw [bat_out (Nat.le_refl n)]; rfl)]
  · have hc : ¬ nI 160 ≤ nI k := hc
    rw [nI_leI (by omega) (by omega)] at hc
    rw [h2]
    refine en_bd' (byteAt_eq hT2 (by omega)) (en_bd' (isDigit_eq _) ?_)
    rw [h2]
    refine en_ite (fun hd => en_ex ?_) (fun hd => ?_)
    · have hd := if10.mp hd
      refine fin k M2 _ hsm h2 h4 ?_ (fun h => by rw [Nat.min_eq_left h])
      rw [← he, sk_f (by simpa using hd)]
    · have hd : Di (bat b n (s + k)) = true := Classical.not_not.mp (fun z => hd (if10.mpr z))
      have hlt : s + k < n := bat_lt Di_m hd
      have nxt : ∀ (v : Nat), v = dv b s (min (k + 1) 4) → En (f_X0_readNumber_j49 (nI v) (nI k) (nI k) M2) (Lp (fun s' => ∃ k : Nat, k ≤ 160 ∧ s + k ≤ n ∧ s'.1 = nI (dv b s (min k 4)) ∧ s'.2.1 = nI k ∧ s'.2.2.1 = nI k ∧ Sm KS KA M s'.2.2.2 ∧ s'.2.2.2.1 3 2 = nI (s + k) ∧ s'.2.2.2.1 3 4 = nI s ∧ sk Di b n (s + k) = sk Di b n s) (fun s' => 161 - s'.2.1.toNatClampNeg) (nI (dv b s (min k 4)), nI k, nI k, M2) (fun M1 => Sm KS KA M M1 ∧ M1.1 3 2 = nI (sk Di b n s) ∧ M1.1 3 4 = nI s ∧ M1.1 3 3 = (if sk Di b n s - s ≤ 4 then 2 else 1) ∧ (sk Di b n s - s ≤ 4 → M1.1 3 5 = nI (dv b s (sk Di b n s - s))))) := by
        intro v hv
        unfold f_X0_readNumber_j49
        refine en_biv fun y ey => en_bmv fun M3 e3 => en_biv fun y2 ey2 => en_some ⟨⟨k + 1, by omega, by omega, by rw [hv], ?_, ?_, hsm.tr (sm_1 e3 rfl), ?_, ?_, ?_⟩, ?_⟩
        · exact ey.trans (nI_add k 1)
        · exact ey2.trans (nI_add k 1)
        · show M3.1 3 2 = _
          rw [ms_at e3, h2]
          exact nI_add (s + k) 1
        · show M3.1 3 4 = _
          rw [ms_off e3 (by omega), h4]
        · rw [← he, sk_t Di_m hd]; rfl
        · show 161 - y.toNatClampNeg < 161 - (nI k).toNatClampNeg
          rw [ey, show nI k + 1 = nI (k + 1) from nI_add k 1, nI_clamp (by omega), nI_clamp (by omega)]
          omega
      refine en_ite (fun h4' => ?_) (fun h4' => ?_)
      · have h4' : nI 4 ≤ nI k := h4'
        rw [nI_leI (by omega) (by omega)] at h4'
        exact nxt _ (by rw [Nat.min_eq_right h4', Nat.min_eq_right (by omega)])
      · have h4' : ¬ nI 4 ≤ nI k := h4'
        rw [nI_leI (by omega) (by omega)] at h4'
        refine en_bd' (byteAt_eq hT2 (by omega)) (en_bi ?_)
        obtain ⟨j, hj, ej, dj⟩ := dig_val hd
        rw [ej, dv_step]
        refine nxt _ ?_
        rw [Nat.min_eq_left (by omega), Nat.min_eq_left (by omega), dv, ← bat_in (b := b) hlt, dj]
end LEXC
