/-! ===== plates ===== -/
def alq (f g : Nat → Int32) : Nat → Int32
  | 0 => 1
  | k + 1 => if alq f g k = 0 then 0 else if f k = g k then 1 else 0
theorem alq_01 (f g : Nat → Int32) : ∀ k, alq f g k = 0 ∨ alq f g k = 1
  | 0 => Or.inr rfl
  | k + 1 => by
    unfold alq
    split
    · exact Or.inl rfl
    · split
      · exact Or.inr rfl
      · exact Or.inl rfl
theorem alq_congr {f g f' g' : Nat → Int32} : ∀ k, (∀ j, j < k → f j = f' j ∧ g j = g' j) → alq f g k = alq f' g' k
  | 0, _ => rfl
  | k + 1, h => by
    have ih := alq_congr k (fun j hj => h j (by omega))
    obtain ⟨h1, h2⟩ := h k (by omega)
    unfold alq
    rw [ih, h1, h2]
theorem or_i : ∀ j : Nat, j < 4 → ∀ b : Nat, b < 2 ^ j → nI b ||| isl 1 (nI j) = nI (b + 2 ^ j) := by decide +kernel
theorem or_l1 : ∀ j : Nat, j < 4 → ∀ b : Nat, b < 2 ^ j → lN b ||| lsl' 1 (nI j) = lN (b + 2 ^ j) := by decide +kernel
theorem or_l0 : ∀ j : Nat, j < 4 → ∀ b : Nat, b < 2 ^ j → lN b ||| lsl' 0 (nI j) = lN b := by decide +kernel
def fac : Nat → Nat
  | 0 => 1
  | n + 1 => (n + 1) * fac n
def chs (f : Nat) : Nat → Nat
  | 0 => 1
  | i + 1 => chs f i * (f - i) / (i + 1)
theorem fc_tab : ∀ f : Nat, f < 13 → ∀ n : Nat, n < f + 1 → fac f = chs f n * fac n * fac (f - n) := by decide +kernel
theorem chs_le : ∀ f : Nat, f < 13 → ∀ n : Nat, n < 13 → chs f n ≤ 1000 := by decide +kernel
theorem fac_le : ∀ f : Nat, f < 13 → fac f ≤ 479001600 := by decide +kernel
theorem fac_pos : ∀ f, 1 ≤ fac f
  | 0 => Nat.le_refl _
  | f + 1 => by
    have := fac_pos f
    show 1 ≤ (f + 1) * fac f
    exact Nat.le_trans this (Nat.le_mul_of_pos_left _ (by omega))
section PLATES
variable {G G' : Gt} {nt : Nat} {zs : Nat → Txt} {M1 M2 N1 N2 M N A B : Mm} {T : Tb} {s : Sx} {w : Wy} {m v c c0 a mi : Nat}
/-- whether all have had so many: the class -/
theorem c_so {sn j : Nat} {x2 : Int32} {P : (Int32 × Int32 × Mm) ⊕ (Int32 × Mm) → Prop} (hs : sn < 4) (hm : m ≤ 5) (h3 : M.1 1 3 = nI m) (h23 : M.1 23 sn = nI m) (hP : En (f_X5_waysTo_j82 (nI sn) x2 (nI j) (alq (fun k => M.1 29 k) (fun k => M.1 24 (40 * sn + k)) m) M) P) : En (iter (fun s => f_X5_waysTo_b23 (nI sn) x2 (nI j) s.1 s.2.1 s.2.2) fuel ((1 : Int32), (0 : Int32), M)) P := by
  refine en_iter (fun (z : Int32 × Int32 × Mm) => ∃ k, k ≤ m ∧ z.1 = alq (fun k => M.1 29 k) (fun k => M.1 24 (40 * sn + k)) k ∧ z.2.1 = nI k ∧ z.2.2 = M) (fun z => 6 - z.2.1.toNatClampNeg) ⟨0, by omega, rfl, rfl, rfl⟩ (by have := fuel_gt; omega) ?_
  rintro ⟨x4, x5, M'⟩ ⟨k, hk, hx0, rfl, hM0⟩
  have hM : M = M' := (show M' = M from hM0).symm
  subst hM
  have hx : x4 = alq (fun k => M.1 29 k) (fun k => M.1 24 (40 * sn + k)) k := hx0
  have hnx : 6 - (nI k + 1).toNatClampNeg < 6 - (nI k).toNatClampNeg := by
    rw [show nI k + 1 = nI (k + 1) from nI_add k 1, nI_clamp (by omega), nI_clamp (by omega)]
    omega
  have done : k = m → En (f_X5_waysTo_j82 (nI sn) x2 (nI j) x4 M) P := by
    intro e
    rw [hx, e]
    exact hP
  show En (f_X5_waysTo_b23 (nI sn) x2 (nI j) x4 (nI k) M) _
  unfold f_X5_waysTo_b23
  refine en_ite (fun q => en_ex (done ?_)) (fun q => en_ite (fun q2 => en_ex (done ?_)) (fun q2 => ?_))
  · have q : nI 5 ≤ nI k := q
    rw [nI_leI (by omega) (by omega)] at q
    omega
  · rw [h3, nI_leI (by omega) (by omega)] at q2
    omega
  · rw [h3, nI_leI (by omega) (by omega)] at q2
    have hkm : k < m := by omega
    have step : ∀ y : Int32, y = alq (fun k => M.1 29 k) (fun k => M.1 24 (40 * sn + k)) (k + 1) → Lp (fun (z : Int32 × Int32 × Mm) => ∃ k, k ≤ m ∧ z.1 = alq (fun k => M.1 29 k) (fun k => M.1 24 (40 * sn + k)) k ∧ z.2.1 = nI k ∧ z.2.2 = M) (fun z => 6 - z.2.1.toNatClampNeg) (x4, nI k, M) P (.inl (y, nI k + 1, M)) := fun y hy => ⟨⟨k + 1, by omega, hy, nI_add k 1, rfl⟩, hnx⟩
    refine en_ite (fun z => en_bi (en_some (step 0 ?_))) (fun z => en_gd (bin_nI (by omega) (by omega)) (en_bd' (sh_item (i := k) hs (by omega : m ≤ 40) h23 hkm) ?_))
    · rw [alq, ← hx, if_pos z]
    · rw [cl_nI (by omega)]
      refine en_ite (fun y => en_bi (en_some (step 1 ?_))) (fun y => en_bi (en_some (step 0 ?_)))
      · rw [alq, ← hx, if_neg z, if_pos y]
      · rw [alq, ← hx, if_neg z, if_neg y]
theorem r_so {sn j : Nat} {x3 : Int64} {P : (Int64 × Int32 × Mm) ⊕ (Int64 × Mm) → Prop} (hs : sn < 4) (hm : m ≤ 5) (h13 : M.1 0 13 = nI m) (hP : En (if alq (fun k => M.1 8 k) (fun k => M.1 19 (40 * sn + k)) m = 0 then bl (x3 ||| (lsl' (0 : Int64) (nI j))) fun y6 => bi (nI j + (1 : Int32)) fun y7 => some (.inl (y6, y7, M)) else bl (x3 ||| (lsl' (1 : Int64) (nI j))) fun y8 => bi (nI j + (1 : Int32)) fun y9 => some (.inl (y8, y9, M))) P) : En (iter (fun s => f_X6_plates_b78 (nI sn) x3 (nI j) s.1 s.2.1 s.2.2) fuel ((1 : Int32), (0 : Int32), M)) P := by
  refine en_iter (fun (z : Int32 × Int32 × Mm) => ∃ k, k ≤ m ∧ z.1 = alq (fun k => M.1 8 k) (fun k => M.1 19 (40 * sn + k)) k ∧ z.2.1 = nI k ∧ z.2.2 = M) (fun z => 6 - z.2.1.toNatClampNeg) ⟨0, by omega, rfl, rfl, rfl⟩ (by have := fuel_gt; omega) ?_
  rintro ⟨x6, x7, M'⟩ ⟨k, hk, hx0, rfl, hM0⟩
  have hM : M = M' := (show M' = M from hM0).symm
  subst hM
  have hx : x6 = alq (fun k => M.1 8 k) (fun k => M.1 19 (40 * sn + k)) k := hx0
  have hnx : 6 - (nI k + 1).toNatClampNeg < 6 - (nI k).toNatClampNeg := by
    rw [show nI k + 1 = nI (k + 1) from nI_add k 1, nI_clamp (by omega), nI_clamp (by omega)]
    omega
  show En (f_X6_plates_b78 (nI sn) x3 (nI j) x6 (nI k) M) _
  unfold f_X6_plates_b78
  rw [h13]
  refine en_ite (fun q => en_ex ?_) (fun q => ?_)
  · rw [nI_leI (by omega) (by omega)] at q
    rw [hx, show k = m by omega]
    exact hP
  · rw [nI_leI (by omega) (by omega)] at q
    have hkm : k < m := by omega
    have step : ∀ y : Int32, y = alq (fun k => M.1 8 k) (fun k => M.1 19 (40 * sn + k)) (k + 1) → Lp (fun (z : Int32 × Int32 × Mm) => ∃ k, k ≤ m ∧ z.1 = alq (fun k => M.1 8 k) (fun k => M.1 19 (40 * sn + k)) k ∧ z.2.1 = nI k ∧ z.2.2 = M) (fun z => 6 - z.2.1.toNatClampNeg) (x6, nI k, M) P (.inl (y, nI k + 1, M)) := fun y hy => ⟨⟨k + 1, by omega, hy, nI_add k 1, rfl⟩, hnx⟩
    refine en_ite (fun z => en_bi (en_some (step 0 ?_))) (fun z => en_gd (bin_nI (by omega) (by omega)) ?_)
    · rw [alq, ← hx, if_pos z]
    · rw [show (40 : Int32) * nI sn = nI (40 * sn) from pk_mul 40 sn, nI_add]
      refine en_gd (bin_nI (by omega) (by omega)) ?_
      rw [cl_nI (by omega), cl_nI (by omega)]
      refine en_ite (fun y => en_bi (en_some (step 1 ?_))) (fun y => en_bi (en_some (step 0 ?_)))
      · rw [alq, ← hx, if_neg z, if_pos y]
      · rw [alq, ← hx, if_neg z, if_neg y]
/-! orders -/
theorem c_chs {f n : Nat} (hf : f ≤ 12) (hn : n ≤ f) (M : Mm) : f_X5_choices (nI f) (nI n) M = some (lN (chs f n), M) := by
  refine en_eq ?_
  unfold f_X5_choices
  refine en_iter (fun (z : Int64 × Int32 × Mm) => ∃ k, k ≤ n ∧ z.1 = lN (chs f k) ∧ z.2.1 = nI k ∧ z.2.2 = M) (fun z => 13 - z.2.1.toNatClampNeg) ⟨0, by omega, rfl, rfl, rfl⟩ (by have := fuel_gt; omega) ?_
  rintro ⟨x2, x4, M'⟩ ⟨k, hk, rfl, rfl, hM⟩
  have hM : M' = M := hM
  subst hM
  show En (f_X5_choices_b5 (nI f) (nI n) (lN (chs f k)) (nI k) M') _
  unfold f_X5_choices_b5
  refine en_ite (fun q => en_ex (en_some ?_)) (fun q => en_ite (fun q2 => en_ex (en_some ?_)) (fun q2 => ?_))
  · rw [nI_leI (by omega) (by omega)] at q
    rw [show k = n by omega]
    exact rfl
  · have q2 : nI 12 ≤ nI k := q2
    rw [nI_leI (by omega) (by omega)] at q2
    rw [show k = n by omega]
    exact rfl
  · rw [nI_leI (by omega) (by omega)] at q
    have hk1 : nI k + 1 = nI (k + 1) := nI_add k 1
    have hc := chs_le f (by omega) k (by omega)
    have hmul : chs f k * (f - k) ≤ 1000 * 12 := Nat.mul_le_mul hc (by omega)
    rw [hk1, pk_sub (by omega), nI_l (by omega), nI_l (by omega), lN_mul, pk_lDiv (by omega) (by omega) (by omega)]
    refine en_gd ?_ (en_bl (en_bi (en_some ⟨⟨k + 1, by omega, rfl, rfl, rfl⟩, ?_⟩)))
    · intro z
      have z : lN (k + 1) = lN 0 := z
      rw [pk_lEQ (by omega) (by omega)] at z
      omega
    · show 13 - (nI (k + 1)).toNatClampNeg < 13 - (nI k).toNatClampNeg
      rw [nI_clamp (by omega), nI_clamp (by omega)]
      omega
theorem r_fac {n : Nat} (hn : n ≤ 12) (M : Mm) : f_X6_waysOf (nI n) M = some (lN (fac n), M) := by
  refine en_eq ?_
  unfold f_X6_waysOf
  refine en_iter (fun (z : Int64 × Int32 × Mm) => ∃ k, 1 ≤ k ∧ (k ≤ n ∨ k = 1) ∧ z.1 = lN (fac k) ∧ z.2.1 = nI (k + 1) ∧ z.2.2 = M) (fun z => 14 - z.2.1.toNatClampNeg) ⟨1, by omega, Or.inr rfl, rfl, rfl, rfl⟩ (by have := fuel_gt; omega) ?_
  rintro ⟨x1, x3, M'⟩ ⟨k, hk, hkn, rfl, rfl, hM⟩
  have hM : M' = M := hM
  subst hM
  show En (f_X6_waysOf_b4 (nI n) (lN (fac k)) (nI (k + 1)) M') _
  unfold f_X6_waysOf_b4
  refine en_ite (fun q => en_ex (en_some ?_)) (fun q => ?_)
  · rw [nI_ltI (by omega) (by omega)] at q
    have : fac k = fac n := by
      rcases hkn with z | z
      · rw [show k = n by omega]
      · subst z
        rcases (by omega : n = 0 ∨ n = 1) with rfl | rfl <;> rfl
    show (lN (fac k), M') = _
    rw [this]
  · rw [nI_ltI (by omega) (by omega)] at q
    rw [nI_l (by omega), lN_mul]
    refine en_bl (en_bi (en_some ⟨⟨k + 1, by omega, by omega, ?_, nI_add _ 1, rfl⟩, ?_⟩))
    · show lN (fac k * (k + 1)) = lN ((k + 1) * fac k)
      rw [Nat.mul_comm]
    · show 14 - (nI (k + 1) + 1).toNatClampNeg < 14 - (nI (k + 1)).toNatClampNeg
      rw [show nI (k + 1) + 1 = nI (k + 1 + 1) from nI_add _ 1, nI_clamp (by omega), nI_clamp (by omega)]
      omega
theorem both_orders {sn L : Nat} (hL : L ≤ 12) (hm : m ≤ 5) (hs : sn < 4) (hC : M1.1 1 3 = nI m) (hA : M2.1 0 13 = nI m) (hz : M1.1 23 sn = nI m) (hi : ∀ e, e < m → M1.1 24 (40 * sn + e) = M2.1 19 (40 * sn + e)) :
    ∃ r, iter (fun s => f_X5_ordersTo_b13 (nI sn) s.1 s.2.1 s.2.2.1 s.2.2.2) fuel (nI L, (1 : Int64), (0 : Int32), M1) = some (r, M1) ∧ iter (fun s => f_X6_ordersOf_b13 (nI sn) s.1 s.2.1 s.2.2.1 s.2.2.2) fuel (nI L, lN (fac L), (0 : Int32), M2) = some (r, M2) := by
  have loop : ∃ y y', iter (fun s => f_X5_ordersTo_b13 (nI sn) s.1 s.2.1 s.2.2.1 s.2.2.2) fuel (nI L, (1 : Int64), (0 : Int32), M1) = some y ∧ iter (fun s => f_X6_ordersOf_b13 (nI sn) s.1 s.2.1 s.2.2.1 s.2.2.2) fuel (nI L, lN (fac L), (0 : Int32), M2) = some y' ∧ y = (y'.1, M1) ∧ y'.2 = M2 := by
    refine iter2 (fun i (u v : Int32 × Int64 × Int32 × Mm) => ∃ e l o, i + e = m ∧ l ≤ 12 ∧ o * fac l ≤ 479001600 ∧ u = (nI l, lN o, nI e, M1) ∧ v = (nI l, lN (o * fac l), nI e, M2)) (fun i u v hI => ?_) fuel m _ _ (by have := fuel_gt; omega) ⟨0, L, 1, rfl, hL, by rw [Nat.one_mul]; exact fac_le L (by omega), rfl, by rw [Nat.one_mul]; rfl⟩
    obtain ⟨e, l, o, he, hl, ho, rfl, rfl⟩ := hI
    show (∃ s' t', f_X5_ordersTo_b13 (nI sn) (nI l) (lN o) (nI e) M1 = some (.inl s') ∧ f_X6_ordersOf_b13 (nI sn) (nI l) (lN (o * fac l)) (nI e) M2 = some (.inl t') ∧ _) ∨ (∃ y y', f_X5_ordersTo_b13 (nI sn) (nI l) (lN o) (nI e) M1 = some (.inr y) ∧ f_X6_ordersOf_b13 (nI sn) (nI l) (lN (o * fac l)) (nI e) M2 = some (.inr y') ∧ _)
    by_cases hem : e < m
    · have c5 : ¬ (5 : Int32) ≤ nI e := by show ¬ nI 5 ≤ nI e; rw [nI_leI (by omega) (by omega)]; omega
      have cm : ¬ M1.1 1 3 ≤ nI e := by rw [hC, nI_leI (by omega) (by omega)]; omega
      have rm : ¬ M2.1 0 13 ≤ nI e := by rw [hA, nI_leI (by omega) (by omega)]; omega
      have hit := sh_item (i := e) hs (by omega : m ≤ 40) hz hem
      rw [hi e hem] at hit
      obtain ⟨x, hx⟩ : ∃ x, x = M2.1 19 (40 * sn + e) := ⟨_, rfl⟩
      rw [← hx] at hit
      have rgo : ∀ {P : (Int32 × Int64 × Int32 × Mm) ⊕ (Int64 × Mm) → Prop}, En (bd (f_X6_in (Int32.toInt64 x) (0 : Int64) (Int32.toInt64 (nI l)) M2) fun r7 M6 => if r7 = 0 then ex (some ((0 : Int64), M6)) else bdl (f_X6_waysOf x M6) fun r9 M8 => gd (¬ r9 = 0) inferInstance <| bl (lN (o * fac l) / r9) fun y10 => bi (nI l - x) fun y11 => bi (nI e + (1 : Int32)) fun y12 => some (.inl (y11, y10, y12, M8))) P → En (f_X6_ordersOf_b13 (nI sn) (nI l) (lN (o * fac l)) (nI e) M2) P := by
        intro P hP
        unfold f_X6_ordersOf_b13
        rw [show (40 : Int32) * nI sn = nI (40 * sn) from pk_mul 40 sn, nI_add]
        refine en_f rm (en_gd (bin_nI (by omega) (by omega)) ?_)
        rw [cl_nI (by omega), ← hx]
        exact en_bi hP
      by_cases hn : ∃ n, x = nI n ∧ n ≤ l
      · obtain ⟨n, rfl, hnl⟩ := hn
        have htab := fc_tab l (by omega) n (by omega)
        have hfn := fac_pos n
        have hfl := fac_pos (l - n)
        have hdiv : o * fac l / fac n = o * chs l n * fac (l - n) := by
          rw [htab, show o * (chs l n * fac n * fac (l - n)) = o * chs l n * fac (l - n) * fac n by rw [← Nat.mul_assoc, ← Nat.mul_assoc, Nat.mul_right_comm], Nat.mul_div_cancel _ (by omega)]
        have hle : o * chs l n * fac (l - n) ≤ 479001600 := by
          rw [← hdiv]
          exact Nat.le_trans (Nat.div_le_self _ _) ho
        have hfn2 := fac_le n (by omega)
        refine Or.inl ⟨(nI (l - n), lN (o * chs l n), nI (e + 1), M1), (nI (l - n), lN (o * chs l n * fac (l - n)), nI (e + 1), M2), en_eq ?_, en_eq (rgo ?_), i - 1, by omega, e + 1, l - n, o * chs l n, by omega, by omega, hle, rfl, rfl⟩
        · unfold f_X5_ordersTo_b13
          refine en_f c5 (en_f cm (en_bd' hit (en_f (nI_ltz (by omega)) (en_t (by rw [nI_leI (by omega) (by omega)]; exact hnl) (en_bdl' (c_chs hl hnl M1) (en_bl (en_bi (en_bi (en_some ?_)))))))))
          rw [lN_mul, pk_sub hnl, show nI e + 1 = nI (e + 1) from nI_add e 1]
        · refine en_bd' (rin_yes (a := 0) rfl rfl (nI_btw (a := 0) (Nat.zero_le n) hnl (by omega)) M2) (en_f (by decide) (en_bdl' (r_fac (by omega) M2) (en_gd ?_ (en_bl (en_bi (en_bi (en_some ?_)))))))
          · intro z
            have z : lN (fac n) = lN 0 := z
            rw [pk_lEQ (by omega) (by omega)] at z
            omega
          · rw [pk_lDiv (by omega) (by omega) (by omega), hdiv, pk_sub hnl, show nI e + 1 = nI (e + 1) from nI_add e 1]
      · refine Or.inr ⟨((0 : Int64), M1), ((0 : Int64), M2), en_eq ?_, en_eq (rgo ?_), rfl, rfl⟩
        · unfold f_X5_ordersTo_b13
          refine en_f c5 (en_f cm (en_bd' hit (en_ite (fun _ => en_ex (en_some rfl)) (fun q => en_f ?_ (en_ex (en_some rfl))))))
          obtain ⟨n, hn', rfl⟩ := nI_of q
          rw [nI_leI hn' (by omega)]
          exact fun z => hn ⟨n, rfl, z⟩
        · refine en_bd' (rin_no (a := 0) rfl rfl (fun z => hn ?_) M2) (en_t rfl (en_ex (en_some rfl)))
          obtain ⟨n, hn', rfl⟩ := nI_of (Int32.not_lt.mpr z.1)
          have z2 := z.2
          rw [nI_leI hn' (by omega)] at z2
          exact ⟨n, rfl, z2⟩
    · have fin : ∀ {P : Int64 × Mm → Prop}, P (if l = 0 then lN o else 0, M1) → En (f_X5_ordersTo_j76 (nI l) (lN o) M1) P := by
        intro P hP
        unfold f_X5_ordersTo_j76
        refine en_ite (fun q => en_some ?_) (fun q => en_some ?_)
        · have q : nI l = nI 0 := q
          rw [nI_eq (by omega) (by omega)] at q
          rw [if_pos q] at hP; exact hP
        · have q : ¬ nI l = nI 0 := q
          rw [nI_eq (by omega) (by omega)] at q
          rw [if_neg q] at hP; exact hP
      refine Or.inr ⟨(if l = 0 then lN o else 0, M1), (if l = 0 then lN o else 0, M2), en_eq ?_, en_eq ?_, rfl, rfl⟩
      · unfold f_X5_ordersTo_b13
        refine en_ite (fun _ => en_ex (fin rfl)) (fun _ => en_t ?_ (en_ex (fin rfl)))
        rw [hC, nI_leI (by omega) (by omega)]; omega
      · unfold f_X6_ordersOf_b13
        refine en_t (by rw [hA, nI_leI (by omega) (by omega)]; omega) (en_ex (en_ite (fun q => en_some ?_) (fun q => en_some ?_)))
        · have q : nI l = nI 0 := q
          rw [nI_eq (by omega) (by omega)] at q
          rw [if_pos q, q]
          show Sum.inr (lN (o * 1), M2) = Sum.inr (lN o, M2)
          rw [Nat.mul_one]
        · have q : ¬ nI l = nI 0 := q
          rw [nI_eq (by omega) (by omega)] at q
          rw [if_neg q]
  obtain ⟨y, y', l1, l2, l3, l4⟩ := loop
  obtain ⟨r, N⟩ := y'
  have l4 : N = M2 := l4
  subst l4
  exact ⟨r, by rw [l1, l3], l2⟩
theorem s_plates : St2 Rel f_X5_plates f_X6_plates := by
  rintro x1 x2 M1 M2 ⟨G, nt, zs, h⟩
  have hC := h.ac
  have hA := h.ar
  have hG := h.1.1
  have hB := hG.1
  have hm := hG.2.2.1
  have h14 := h.2.2.1.2
  have hrd := rd_le hG.2.1 (fun k => (tkz_in (yZ G) k).2)
  obtain ⟨NO, hNO⟩ : ∃ x : Int64, x = -4611686018427387904 := ⟨_, rfl⟩
  have bad : En (f_X5_plates x1 x2 M1) (fun q => q = (-4611686018427387904, M1)) → En (f_X6_plates x1 x2 M2) (fun q => q = (-4611686018427387904, M2)) → ∃ r N1 N2, f_X5_plates x1 x2 M1 = some (r, N1) ∧ f_X6_plates x1 x2 M2 = some (r, N2) ∧ Rel N1 N2 := fun e1 e2 => st_go e1 e2 ⟨G, nt, zs, h⟩
  have r01 : f_X6_in x2.toInt64 0 1 M2 = some (if 0 ≤ x2 ∧ x2 ≤ 1 then 1 else 0, M2) := rin (a := 0) (c := 1) rfl rfl M2
  by_cases hx : ∃ i, i < 4 ∧ x1 = nI i
  · obtain ⟨sn, hs, rfl⟩ := hx
    rcases h.2.2.2.2.2.1 sn hs with ⟨a, b⟩ | ⟨so, sz, a1, a2, a3, a4, a5, a6, a7, a8⟩
    · refine bad ?_ ?_
      · unfold f_X5_plates
        exact en_bd' (sh_mis hs a) (en_f (by decide) (en_some rfl))
      · unfold f_X6_plates
        refine en_bd' (sh_is M2 ⟨sn, hs, rfl⟩) (en_f (by decide) (en_bd' r01 (en_ite (fun _ => en_some rfl) (fun _ => en_gd (bin_nI hs (by omega)) ?_))))
        rw [cl_nI (by omega)]
        exact en_t b (en_some rfl)
    · by_cases hsz : sz = yM G
      · by_cases hx2 : x2 = 0 ∨ x2 = 1
        · have cj : ∀ {P : Int64 × Mm → Prop}, En (f_X5_plates_j46 (nI sn) x2 M1) P → En (f_X5_plates (nI sn) x2 M1) P := by
            intro P hP
            unfold f_X5_plates
            refine en_bd' (sh_nmis hs a1 a3) (en_t rfl (en_bd' (sh_size hs M1) (en_t ?_ (en_ite (fun _ => hP) (fun z => en_t (hx2.resolve_left z) hP)))))
            rw [a4, hC.2.2.2.1, hsz]
          have rj : ∀ {P : Int64 × Mm → Prop}, En (if x2 = (1 : Int32) then bdl (f_X6_ordersOf (nI sn) M2) fun r14 M13 => some (r14, M13) else iter (fun s => f_X6_plates_b59 (nI sn) s.1 s.2.1 s.2.2) fuel ((0 : Int64), (1 : Int32), M2)) P → En (f_X6_plates (nI sn) x2 M2) P := by
            intro P hP
            unfold f_X6_plates
            refine en_bd' (sh_is M2 ⟨sn, hs, rfl⟩) (en_f (by decide) (en_bd' (rin_yes (a := 0) (c := 1) rfl rfl (by rcases hx2 with rfl | rfl <;> decide) M2) (en_f (by decide) (en_gd (bin_nI hs (by omega)) ?_))))
            rw [cl_nI (by omega), a5, a7, hA.2.2.2.1, hsz]
            exact en_f (by decide) (en_gd (bin_nI hs (by omega)) (en_t rfl hP))
          obtain ⟨A0, eA, g1, g2⟩ := c_lay hG hC
          have g1x := sc_27 g1
          rcases hx2 with rfl | rfl
          · have loop : ∃ y y', iter (fun s => f_X5_waysTo_b4 (nI sn) s.1 s.2.1 s.2.2) fuel ((0 : Int32), (1 : Int32), A0) = some y ∧ iter (fun s => f_X6_plates_b59 (nI sn) s.1 s.2.1 s.2.2) fuel ((0 : Int64), (1 : Int32), M2) = some y' ∧ y.1.toInt64 = y'.1 ∧ Sm (fun o k => KSc o k && !(o == 27)) KSl M1 y.2 ∧ Sm KU KB M2 y'.2 := by
              refine iter2 (fun i (u : Int32 × Int32 × Mm) (v : Int64 × Int32 × Mm) => ∃ j b, i + j = 4 ∧ 1 ≤ j ∧ b < 2 ^ j ∧ u.1 = nI b ∧ v.1 = lN b ∧ u.2.1 = nI j ∧ v.2.1 = nI j ∧ CL G 5 0 u.2.2 ∧ Sm (fun o k => KSc o k && !(o == 27)) KSl M1 u.2.2 ∧ Sm KU KB M2 v.2.2) (fun i u v hI => ?_) fuel 3 _ _ (by have := fuel_gt; omega) ⟨1, 0, rfl, by omega, by decide, rfl, rfl, rfl, rfl, g2, g1x, Sm.rf⟩
              obtain ⟨x2, x3, A⟩ := u
              obtain ⟨y2, y3, B⟩ := v
              obtain ⟨j, b, hj, hj1, hb, e1, e2, e3, e4, hL, s1, s2⟩ := hI
              have e1 : x2 = nI b := e1
              have e2 : y2 = lN b := e2
              have e3 : x3 = nI j := e3
              have e4 : y3 = nI j := e4
              have hL : CL G 5 0 A := hL
              have s1 : Sm (fun o k => KSc o k && !(o == 27)) KSl M1 A := s1
              have s2 : Sm KU KB M2 B := s2
              subst e1 e2 e3 e4
              show (∃ s' t', f_X5_waysTo_b4 (nI sn) (nI b) (nI j) A = some (.inl s') ∧ f_X6_plates_b59 (nI sn) (lN b) (nI j) B = some (.inl t') ∧ _) ∨ (∃ y y', f_X5_waysTo_b4 (nI sn) (nI b) (nI j) A = some (.inr y) ∧ f_X6_plates_b59 (nI sn) (lN b) (nI j) B = some (.inr y') ∧ _)
              by_cases hj3 : j ≤ 3
              · have hn : ¬ (3 : Int32) < nI j := by show ¬ nI 3 < nI j; rw [nI_ltI (by omega) (by omega)]; omega
                obtain ⟨A1, q1, g3, g4, g5⟩ := cl_run (w := wyj j (yM G)) hL (wc_wy (T := tR G 5 0) (Nat.le_refl 5) hm ⟨hj1, hj3⟩)
                obtain ⟨B1, q2, g6, g7⟩ := r_sup (c := 0) (x1 := nI j) (x2 := 0) (w := wyj j (yM G)) (hA.same s2 k6_u) hG (by rw [s2.1 0 14 rfl]; exact h14) (Or.inr ⟨fun z => by have z : nI j = nI 5 := z; rw [nI_eq (by omega) (by omega)] at z; omega, rfl⟩) (rw_wy (T := tR G 5 0) (Nat.le_refl 5) ⟨hj1, hj3⟩)
                have sA : Sm (fun o k => KSc o k && !(o == 27)) KSl M1 A1 := s1.tr (x_27 g3)
                have sB : Sm KU KB M2 B1 := s2.tr g6
                have hq : alq (fun k => A1.1 29 k) (fun k => A1.1 24 (40 * sn + k)) (yM G) = alq (fun k => B1.1 8 k) (fun k => B1.1 19 (40 * sn + k)) (yM G) := by
                  refine alq_congr _ fun k hk => ⟨?_, ?_⟩
                  · show A1.1 29 k = B1.1 8 k
                    rw [(g5.2.1 k (by omega)).1, (g7.2.1 k (by omega)).1]
                  · show A1.1 24 (40 * sn + k) = B1.1 19 (40 * sn + k)
                    rw [sA.1 24 _ rfl, sB.1 19 _ rfl]
                    exact a8 k (by omega)
                have hj1' : nI j + 1 = nI (j + 1) := nI_add j 1
                have cdo : ∀ {P : (Int32 × Int32 × Mm) ⊕ (Int32 × Mm) → Prop}, En (f_X5_waysTo_j82 (nI sn) (nI b) (nI j) (alq (fun k => A1.1 29 k) (fun k => A1.1 24 (40 * sn + k)) (yM G)) A1) P → En (f_X5_waysTo_b4 (nI sn) (nI b) (nI j) A) P := by
                  intro P hP
                  unfold f_X5_waysTo_b4
                  rw [q1]
                  exact en_f hn (en_bv' rfl (c_so hs hm g5.cap.1 (by rw [sA.1 23 sn rfl, a4, hsz]) hP))
                have rdo : ∀ {P : (Int64 × Int32 × Mm) ⊕ (Int64 × Mm) → Prop}, En (if alq (fun k => B1.1 8 k) (fun k => B1.1 19 (40 * sn + k)) (yM G) = 0 then bl (lN b ||| (lsl' (0 : Int64) (nI j))) fun y6 => bi (nI j + (1 : Int32)) fun y7 => some (.inl (y6, y7, B1)) else bl (lN b ||| (lsl' (1 : Int64) (nI j))) fun y8 => bi (nI j + (1 : Int32)) fun y9 => some (.inl (y8, y9, B1))) P → En (f_X6_plates_b59 (nI sn) (lN b) (nI j) B) P := by
                  intro P hP
                  unfold f_X6_plates_b59
                  rw [q2]
                  exact en_f hn (en_bv' rfl (r_so hs hm g7.1.cap.1 hP))
                have hpow : 2 ^ (j + 1) = 2 ^ j + 2 ^ j := by rw [Nat.pow_succ]; omega
                by_cases z : alq (fun k => B1.1 8 k) (fun k => B1.1 19 (40 * sn + k)) (yM G) = 0
                · refine Or.inl ⟨(nI b, nI (j + 1), A1), (lN b, nI (j + 1), B1), en_eq (cdo ?_), en_eq (rdo (en_t z (en_bl (en_bi (en_some ?_))))), i - 1, by omega, j + 1, b, by omega, by omega, by omega, rfl, rfl, rfl, rfl, g4, sA, sB⟩
                  · rw [hq]
                    unfold f_X5_waysTo_j82
                    exact en_t z (en_bi (en_some (by rw [hj1'])))
                  · rw [or_l0 j (by omega) b hb, hj1']
                · refine Or.inl ⟨(nI (b + 2 ^ j), nI (j + 1), A1), (lN (b + 2 ^ j), nI (j + 1), B1), en_eq (cdo ?_), en_eq (rdo (en_f z (en_bl (en_bi (en_some ?_))))), i - 1, by omega, j + 1, b + 2 ^ j, by omega, by omega, by omega, rfl, rfl, rfl, rfl, g4, sA, sB⟩
                  · rw [hq]
                    unfold f_X5_waysTo_j82
                    exact en_f z (en_bi (en_bi (en_some (by rw [hj1', or_i j (by omega) b hb]))))
                  · rw [or_l1 j (by omega) b hb, hj1']
              · have hn : (3 : Int32) < nI j := by show nI 3 < nI j; rw [nI_ltI (by omega) (by omega)]; omega
                have e4 : j = 4 := by omega
                subst e4
                refine Or.inr ⟨(nI b, A), (lN b, B), en_eq ?_, en_eq ?_, ?_, s1, s2⟩
                · unfold f_X5_waysTo_b4
                  exact en_t hn (en_ex (en_some rfl))
                · unfold f_X6_plates_b59
                  exact en_t hn (en_ex (en_some rfl))
                · exact nI_l (by omega)
            obtain ⟨y, y', l1, l2, l3, l4, l5⟩ := loop
            refine st_sup h (r := y'.1) (cj ?_) (rj ?_)
            · unfold f_X5_plates_j46 f_X5_waysTo
              rw [eA]
              exact en_bv' rfl (en_t rfl (en_bd (en_of l1 (en_some ⟨l3, l4⟩))))
            · exact en_f (by decide) (en_of l2 ⟨rfl, u_1 l5⟩)
          · obtain ⟨L, hLd⟩ : ∃ L, L = cnt (rdN (yP G) (tkz (yZ G))) (yB G) := ⟨_, rfl⟩
            have hL12 : L ≤ 12 := by
              rw [hLd]
              exact Nat.le_trans (cnt_le _ _) hB
            obtain ⟨⟨r, B1⟩, q1, k1, k2⟩ := r_cnt hG hA
            have k1 : r = nI L := by rw [hLd]; exact k1
            have k2 : Sm KQ KB M2 B1 := k2
            subst k1
            have hA1 : AR G B1 := hA.same k2 k6_q
            have hC0 : AC G A0 := g2.1.2.2.1
            obtain ⟨r, l1, l2⟩ := both_orders (M1 := A0) (M2 := B1) hL12 hm hs hC0.2.2.2.1 hA1.2.2.2.1 (by rw [g1.1 23 sn rfl, a4, hsz]) (fun e he => by rw [g1.1 24 _ rfl, k2.1 19 _ rfl]; exact a8 e (by omega))
            refine st_sup h (r := r) (cj ?_) (rj ?_)
            · unfold f_X5_plates_j46 f_X5_ordersTo
              rw [eA]
              refine en_bv' rfl (en_f (by decide) (en_bdl (en_bd' (c_cnt hB hC0.1 (fun k hk => ⟨g2.2.2 k (by omega), by have := hrd k; omega⟩)) ?_)))
              rw [← hLd]
              exact en_of l1 (en_some ⟨rfl, g1x⟩)
            · unfold f_X6_ordersOf
              refine en_t rfl (en_bdl ?_)
              rw [q1]
              exact en_bd' rfl (en_bdl' (r_fac hL12 B1) (en_of l2 (en_some ⟨rfl, k2.weak k1_q (fun _ z => z)⟩)))
        · refine bad ?_ ?_
          · unfold f_X5_plates
            refine en_bd' (sh_nmis hs a1 a3) (en_t rfl (en_bd' (sh_size hs M1) (en_ite (fun _ => en_f (fun z => hx2 (Or.inl z)) (en_f (fun z => hx2 (Or.inr z)) (en_some rfl))) (fun _ => en_some rfl))))
          · unfold f_X6_plates
            refine en_bd' (sh_is M2 ⟨sn, hs, rfl⟩) (en_f (by decide) (en_bd' (rin_no (a := 0) (c := 1) rfl rfl (fun z => hx2 ?_) M2) (en_t rfl (en_some rfl))))
            obtain ⟨c, hc', rfl⟩ := nI_of (Int32.not_lt.mpr z.1)
            have z2 : nI c ≤ nI 1 := z.2
            rw [nI_leI hc' (by omega)] at z2
            rcases (by omega : c = 0 ∨ c = 1) with rfl | rfl
            · exact Or.inl rfl
            · exact Or.inr rfl
      · refine bad ?_ ?_
        · unfold f_X5_plates
          refine en_bd' (sh_nmis hs a1 a3) (en_t rfl (en_bd' (sh_size hs M1) (en_f ?_ (en_some rfl))))
          rw [a4, hC.2.2.2.1, nI_eq (by omega) (by omega)]
          exact hsz
        · unfold f_X6_plates
          refine en_bd' (sh_is M2 ⟨sn, hs, rfl⟩) (en_f (by decide) (en_bd' r01 (en_ite (fun _ => en_some rfl) (fun _ => en_gd (bin_nI hs (by omega)) ?_))))
          rw [cl_nI (by omega), a5, a7, hA.2.2.2.1]
          exact en_f (by decide) (en_gd (bin_nI hs (by omega)) (en_f (by rw [nI_eq (by omega) (by omega)]; exact hsz) (en_some rfl)))
  · refine bad ?_ ?_
    · unfold f_X5_plates f_X1_isMissing
      exact en_bd (en_bd' (sh_hasn M1 hx) (en_t rfl (en_some (en_f (show ¬ (1 : Int32) = 0 by decide) (en_some rfl)))))
    · unfold f_X6_plates; exact en_bd' (sh_isn M2 hx) (en_t rfl (en_some rfl))
end PLATES
