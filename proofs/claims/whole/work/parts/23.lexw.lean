/-! ===== the class's lexer: words, and one token ===== -/
theorem sch_eq : ∀ i, i < 13 → ∀ j, j < sLen.getD i 0 → sch i (nI j) = (sByt.getD i []).getD j 0 := by decide +kernel
theorem sLen_eq : ∀ i, i < 13 → sLen.getD i 0 = (sByt.getD i []).length := by decide +kernel
theorem sLen_le : ∀ i, i < 13 → sLen.getD i 0 ≤ 38 := by decide +kernel
theorem wds_get : ∀ w, w < 12 → wds[w]? = some (sByt.getD (w + 1) []) := by decide +kernel
theorem wds_len : wds.length = 12 := by decide +kernel
theorem wds_one : ∀ i, i < 12 → ∀ j, j < 12 → sByt.getD (i + 1) [] = sByt.getD (j + 1) [] → i = j := by decide +kernel
theorem sl_len (b : Nat → Int32) (s e : Nat) : (sl b s e).length = e - s := by simp [sl]
theorem sl_get (b : Nat → Int32) {s e j : Nat} (h : j < e - s) : (sl b s e)[j]? = some (b (s + j)) := by
  simp [sl, h]
theorem sl_eq {b : Nat → Int32} {s e : Nat} {w : List Int32} : w = sl b s e ↔ w.length = e - s ∧ ∀ j, j < e - s → w.getD j 0 = b (s + j) := by
  constructor
  · rintro rfl
    refine ⟨sl_len b s e, fun j hj => ?_⟩
    rw [List.getD_eq_getElem?_getD, sl_get b hj]; rfl
  · rintro ⟨h1, h2⟩
    refine List.ext_getElem? fun j => ?_
    rcases Nat.lt_or_ge j (e - s) with q | q
    · have h3 := h2 j q
      rw [sl_get b q, ← h3, List.getD_eq_getElem?_getD]
      have : j < w.length := by omega
      rw [List.getElem?_eq_getElem this]; rfl
    · rw [List.getElem?_eq_none (by omega), List.getElem?_eq_none (by rw [sl_len]; omega)]
theorem wid_le (b : Nat → Int32) (s e : Nat) : wid b s e ≤ 12 := by
  have := List.findIdx_le_length (p := fun w => w == sl b s e) (xs := wds)
  rw [wds_len] at this
  exact this
theorem wid_iff {b : Nat → Int32} {s e w : Nat} (hw : w < 12) : wid b s e = w ↔ sByt.getD (w + 1) [] = sl b s e := by
  have hg := wds_get w hw
  constructor
  · intro h
    have hl : wid b s e < wds.length := by rw [wds_len]; omega
    have h1 := List.findIdx_getElem (p := fun w => w == sl b s e) (xs := wds) (w := hl)
    have h2 : wds[wds.findIdx (fun w => w == sl b s e)]? = some (sByt.getD (w + 1) []) := by
      rw [show wds.findIdx (fun w => w == sl b s e) = w from h]; exact hg
    have h2 : wds[wid b s e]? = some (sByt.getD (w + 1) []) := h2
    rw [List.getElem?_eq_getElem hl] at h2
    have h3 := Option.some.inj h2
    have h1 : (wds[wid b s e] == sl b s e) = true := h1
    rw [h3] at h1
    exact eq_of_beq h1
  · intro h
    have hm : wds.findIdx (fun w => w == sl b s e) ≤ w := by
      refine Nat.le_of_not_lt fun z => ?_
      have hl : w < wds.length := by rw [wds_len]; exact hw
      have h1 := List.not_of_lt_findIdx z
      have h2 : wds[w] = sByt.getD (w + 1) [] := by
        rw [List.getElem?_eq_getElem hl] at hg
        exact Option.some.inj hg
      rw [h2, h] at h1
      simp at h1
    have hlt : wid b s e < 12 := Nat.lt_of_le_of_lt hm hw
    have hg2 := wds_get (wid b s e) hlt
    have hl : wid b s e < wds.length := by rw [wds_len]; omega
    have h1 := List.findIdx_getElem (p := fun w => w == sl b s e) (xs := wds) (w := hl)
    have h3 : sByt.getD (wid b s e + 1) [] = sl b s e := by
      rw [List.getElem?_eq_getElem hl] at hg2
      rw [← Option.some.inj hg2]
      exact eq_of_beq h1
    exact wds_one _ hlt w hw (h3.trans h.symm)
section LEXW
variable {b : Nat → Int32} {n : Nat} {M : Mm}
theorem wordOf_eq : ∀ w, w < 12 → f_X0_wordOf (nI w) M = some (w + 1, M) := by
  intro w hw
  rcases (by omega : w = 0 ∨ w = 1 ∨ w = 2 ∨ w = 3 ∨ w = 4 ∨ w = 5 ∨ w = 6 ∨ w = 7 ∨ w = 8 ∨ w = 9 ∨ w = 10 ∨ w = 11) with rfl | rfl | rfl | rfl | rfl | rfl | rfl | rfl | rfl | rfl | rfl | rfl <;> rfl
theorem isWord_ok {i s e : Nat} (hT : Tp b n M) (hi : i < 13) (h2 : M.1 3 2 = nI e) (h4 : M.1 3 4 = nI s) (hse : s ≤ e) (hen : e ≤ n) : f_X0_isWord i M = some (if sByt.getD i [] = sl b s e then 1 else 0, M) := by
  have hn := hT.2.1
  have hL := sLen_le i hi
  have hLe := sLen_eq i hi
  refine en_eq ?_
  unfold f_X0_isWord
  refine en_gd hi ?_
  rw [h2, h4, pk_sub hse]
  refine en_ite (fun hc => ?_) (fun hc => ?_)
  · have hc : nI (sLen.getD i 0) = nI (e - s) := hc
    rw [nI_eq (by omega) (by omega)] at hc
    refine en_iter (fun z => ∃ j : Nat, j ≤ e - s ∧ z.1 = nI j ∧ z.2 = M ∧ ∀ k, k < j → (sByt.getD i []).getD k 0 = b (s + k)) (fun z => e - s + 1 - z.1.toNatClampNeg) ⟨0, Nat.zero_le _, rfl, rfl, fun k h => by omega⟩ (by have := fuel_gt; omega) ?_
    rintro ⟨x, M'⟩ ⟨j, hj, rfl, rfl, hall⟩
    show En (f_X0_isWord_b24 _ _ _) _
    unfold f_X0_isWord_b24
    refine en_gd hi (en_ite (fun hx => en_ex ?_) (fun hx => ?_))
    · have hx : nI (sLen.getD i 0) ≤ nI j := hx
      rw [nI_leI (by omega) (by omega)] at hx
      refine en_some ?_
      have hw : sByt.getD i [] = sl b s e := sl_eq.mpr ⟨by omega, fun k hk => hall k (by omega)⟩
      rw [if_pos hw]
      rfl
    · have hx : ¬ nI (sLen.getD i 0) ≤ nI j := hx
      rw [nI_leI (by omega) (by omega)] at hx
      refine en_gd ⟨hi, bin_nI (by omega) (by omega)⟩ ?_
      rw [h4, nI_add]
      refine en_bd' (byteAt_eq hT (by omega)) ?_
      rw [sch_eq i hi j (by omega), bat_in (by omega)]
      refine en_ite (fun he => ?_) (fun he => en_ex (en_some ?_))
      · refine en_biv fun y ey => en_some ⟨⟨j + 1, by omega, ey.trans (nI_add j 1), rfl, fun k hk => ?_⟩, ?_⟩
        · rcases Nat.lt_or_ge k j with q | q
          · exact hall k q
          · rw [show k = j by omega]; exact he
        · show e - s + 1 - y.toNatClampNeg < e - s + 1 - (nI j).toNatClampNeg
          rw [ey, show nI j + 1 = nI (j + 1) from nI_add j 1, nI_clamp (by omega), nI_clamp (by omega)]
          omega
      · have hw : ¬ sByt.getD i [] = sl b s e := fun z => he ((sl_eq.mp z).2 j (by omega))
        rw [if_neg hw]
        rfl
  · have hc : ¬ nI (sLen.getD i 0) = nI (e - s) := hc
    rw [nI_eq (by omega) (by omega)] at hc
    refine en_some ?_
    have hw : ¬ sByt.getD i [] = sl b s e := fun z => hc (by rw [hLe]; exact (sl_eq.mp z).1)
    rw [if_neg hw]
/-- a word's token -/
def wtk (w : Nat) : Int32 := if w = 12 then 1 else if w < 6 then 3 else nI (94 + w)
theorem readWord_ok {s : Nat} (hT : Tp b n M) (hs : M.1 3 2 = nI s) (hsn : s ≤ n) (hat : M.1 3 4 = nI s) :
    En (f_X0_readWord M) (fun M1 => Sm KS KA M M1 ∧ M1.1 3 2 = nI (sk Le b n s) ∧ M1.1 3 4 = nI s ∧ M1.1 3 3 = wtk (wid b s (sk Le b n s)) ∧ (wid b s (sk Le b n s) < 12 → M1.1 3 5 = nI (10000 + wid b s (sk Le b n s)))) := by
  have hn := hT.2.1
  have hge : s ≤ sk Le b n s := sk_ge
  have hle : sk Le b n s ≤ n := sk_le hsn
  have hW := wid_le b s (sk Le b n s)
  have fin : ∀ (M2 : Mm), Sm KS KA M M2 → M2.1 3 2 = nI (sk Le b n s) → M2.1 3 4 = nI s →
      En (f_X0_readWord_j39 M2) (fun M1 => Sm KS KA M M1 ∧ M1.1 3 2 = nI (sk Le b n s) ∧ M1.1 3 4 = nI s ∧ M1.1 3 3 = wtk (wid b s (sk Le b n s)) ∧ (wid b s (sk Le b n s) < 12 → M1.1 3 5 = nI (10000 + wid b s (sk Le b n s)))) := by
    intro M2 hsm h2 h4
    unfold f_X0_readWord_j39
    refine en_bmv fun M3 e3 => ?_
    refine en_iter (fun z => ∃ w : Nat, w ≤ 12 ∧ z.1 = nI w ∧ Sm KS KA M z.2 ∧ z.2.1 3 2 = nI (sk Le b n s) ∧ z.2.1 3 4 = nI s ∧ z.2.1 3 3 = (if wid b s (sk Le b n s) < w then wtk (wid b s (sk Le b n s)) else 1) ∧ (wid b s (sk Le b n s) < w → z.2.1 3 5 = nI (10000 + wid b s (sk Le b n s)))) (fun z => 13 - z.1.toNatClampNeg) ⟨0, by omega, rfl, hsm.tr (sm_1 e3 rfl), by rw [ms_off e3 (by omega), h2], by rw [ms_off e3 (by omega), h4], ms_at e3, fun h => by omega⟩ (by have := fuel_gt; omega) ?_
    rintro ⟨x, M4⟩ ⟨w, hw, rfl, hsm4, h42, h44, h43, h45⟩
    show En (f_X0_readWord_b46 _ _) _
    unfold f_X0_readWord_b46
    refine en_ite (fun hx => en_ex (en_some ?_)) (fun hx => ?_)
    · have hx : nI 12 ≤ nI w := hx
      rw [nI_leI (by omega) (by omega)] at hx
      refine ⟨hsm4, h42, h44, ?_, fun h => h45 (by omega)⟩
      rw [h43]
      by_cases q : wid b s (sk Le b n s) < w
      · rw [if_pos q]
      · rw [if_neg q, wtk, if_pos (by omega)]
    · have hx : ¬ nI 12 ≤ nI w := hx
      rw [nI_leI (by omega) (by omega)] at hx
      refine en_bds' (wordOf_eq w (by omega)) (en_bd' (isWord_ok (hT.ks hsm4) (by omega) h42 h44 hge hle) ?_)
      refine en_ite (fun hc => ?_) (fun hc => ?_)
      · have hc := if10.mp hc
        have hne : wid b s (sk Le b n s) ≠ w := fun z => hc ((wid_iff (by omega)).mp z)
        refine en_biv fun y ey => en_some ⟨⟨w + 1, by omega, ey.trans (nI_add w 1), hsm4, h42, h44, ?_, fun h => h45 (by omega)⟩, ?_⟩
        · rw [h43]
          by_cases q : wid b s (sk Le b n s) < w
          · rw [if_pos q, if_pos (by omega)]
          · rw [if_neg q, if_neg (by omega)]
        · show 13 - y.toNatClampNeg < 13 - (nI w).toNatClampNeg
          rw [ey, show nI w + 1 = nI (w + 1) from nI_add w 1, nI_clamp (by omega), nI_clamp (by omega)]
          omega
      · have hc : sByt.getD (w + 1) [] = sl b s (sk Le b n s) := Classical.not_not.mp (fun z => hc (if10.mpr z))
        have heq : wid b s (sk Le b n s) = w := (wid_iff (by omega)).mpr hc
        have last : ∀ tk : Int32, tk = wtk w → En (f_X0_readWord_j81 (nI w) tk M4) (Lp (fun z => ∃ w : Nat, w ≤ 12 ∧ z.1 = nI w ∧ Sm KS KA M z.2 ∧ z.2.1 3 2 = nI (sk Le b n s) ∧ z.2.1 3 4 = nI s ∧ z.2.1 3 3 = (if wid b s (sk Le b n s) < w then wtk (wid b s (sk Le b n s)) else 1) ∧ (wid b s (sk Le b n s) < w → z.2.1 3 5 = nI (10000 + wid b s (sk Le b n s)))) (fun z => 13 - z.1.toNatClampNeg) (nI w, M4) (fun M1 => Sm KS KA M M1 ∧ M1.1 3 2 = nI (sk Le b n s) ∧ M1.1 3 4 = nI s ∧ M1.1 3 3 = wtk (wid b s (sk Le b n s)) ∧ (wid b s (sk Le b n s) < 12 → M1.1 3 5 = nI (10000 + wid b s (sk Le b n s))))) := by
          intro tk htk
          unfold f_X0_readWord_j81
          refine en_bmv fun M5 e5 => en_bmv fun M6 e6 => en_biv fun y ey => en_some ⟨⟨w + 1, by omega, ey.trans (nI_add w 1), (hsm4.tr (sm_1 e5 rfl)).tr (sm_1 e6 rfl), ?_, ?_, ?_, ?_⟩, ?_⟩
          · show M6.1 3 2 = _
            rw [ms_off e6 (by omega), ms_off e5 (by omega), h42]
          · show M6.1 3 4 = _
            rw [ms_off e6 (by omega), ms_off e5 (by omega), h44]
          · show M6.1 3 3 = _
            rw [ms_off e6 (by omega), ms_at e5, htk, heq, if_pos (by omega)]
          · intro _
            show M6.1 3 5 = _
            rw [ms_at e6, heq]
            exact nI_add 10000 w
          · show 13 - y.toNatClampNeg < 13 - (nI w).toNatClampNeg
            rw [ey, show nI w + 1 = nI (w + 1) from nI_add w 1, nI_clamp (by omega), nI_clamp (by omega)]
            omega
        refine en_ite (fun h6 => ?_) (fun h6 => ?_)
        · have h6 : nI 6 ≤ nI w := h6
          rw [nI_leI (by omega) (by omega)] at h6
          refine last _ ?_
          rw [wtk, if_neg (by omega), if_neg (by omega)]
          show nI 100 + nI w - nI 6 = _
          rw [nI_add, pk_sub (by omega)]
          congr 1
          omega
        · have h6 : ¬ nI 6 ≤ nI w := h6
          rw [nI_leI (by omega) (by omega)] at h6
          refine last _ ?_
          rw [wtk, if_neg (by omega), if_pos (by omega)]
  unfold f_X0_readWord
  refine en_iter (fun z => ∃ k : Nat, k ≤ 160 ∧ s + k ≤ n ∧ z.1 = nI k ∧ Sm KS KA M z.2 ∧ z.2.1 3 2 = nI (s + k) ∧ z.2.1 3 4 = nI s ∧ sk Le b n (s + k) = sk Le b n s) (fun z => 161 - z.1.toNatClampNeg) ⟨0, by omega, hsn, rfl, Sm.rf, hs, hat, rfl⟩ (by have := fuel_gt; omega) ?_
  rintro ⟨x, M2⟩ ⟨k, hk, hkn, rfl, hsm, h2, h4, he⟩
  show En (f_X0_readWord_b2 _ _) _
  unfold f_X0_readWord_b2
  refine en_ite (fun hc => en_ex ?_) (fun hc => ?_)
  · have hc : nI 160 ≤ nI k := hc
    rw [nI_leI (by omega) (by omega)] at hc
    refine fin M2 hsm ?_ h4
    rw [h2, ← he, show s + k = n by omega, sk_f (by rw [bat_out (Nat.le_refl n)]; rfl)]
  · have hc : ¬ nI 160 ≤ nI k := hc
    rw [nI_leI (by omega) (by omega)] at hc
    rw [h2]
    refine en_bd' (byteAt_eq (hT.ks hsm) (by omega)) (en_bd' (isLetter_eq _) ?_)
    refine en_ite (fun hd => en_ex ?_) (fun hd => ?_)
    · have hd := if10.mp hd
      refine fin M2 hsm ?_ h4
      rw [h2, ← he, sk_f (by simpa using hd)]
    · have hd : Le (bat b n (s + k)) = true := Classical.not_not.mp (fun z => hd (if10.mpr z))
      have hlt : s + k < n := bat_lt Le_m hd
      refine en_bmv fun M3 e3 => en_biv fun y ey => en_some ⟨⟨k + 1, by omega, by omega, ey.trans (nI_add k 1), hsm.tr (sm_1 e3 rfl), ?_, ?_, ?_⟩, ?_⟩
      · show M3.1 3 2 = _
        rw [ms_at e3, h2]
        exact nI_add (s + k) 1
      · show M3.1 3 4 = _
        rw [ms_off e3 (by omega), h4]
      · rw [← he, sk_t Le_m hd]; rfl
      · show 161 - y.toNatClampNeg < 161 - (nI k).toNatClampNeg
        rw [ey, show nI k + 1 = nI (k + 1) from nI_add k 1, nI_clamp (by omega), nI_clamp (by omega)]
        omega
/-- one token, from p on -/
def Lx (b : Nat → Int32) (n p : Nat) (M : Mm) : Prop := M.1 3 3 = ltk b n p ∧ M.1 3 4 = nI (lat b n p) ∧ M.1 3 2 = nI (lnx b n p) ∧ ((ltk b n p = 2 ∨ ltk b n p = 3) → M.1 3 5 = lcd b n p)
theorem step_ok {p : Nat} (hB : Byt b n) (hT : Tp b n M) (hs : M.1 3 2 = nI p) (hpn : p ≤ n) : En (f_X0_step M) (fun M1 => Sm KS KA M M1 ∧ Lx b n p M1) := by
  have hn := hT.2.1
  have hge : p ≤ lat b n p := sk_ge
  have hle : lat b n p ≤ n := sk_le hpn
  have fin : ∀ (M2 : Mm), Sm KS KA M M2 → M2.1 3 2 = nI (lat b n p) → En (f_X0_step_j51 M2) (fun M1 => Sm KS KA M M1 ∧ Lx b n p M1) := by
    intro M2 hsm h2
    unfold f_X0_step_j51
    refine en_bmv fun M3 e3 => ?_
    have hsm3 : Sm KS KA M M3 := hsm.tr (sm_1 e3 rfl)
    have h32 : M3.1 3 2 = nI (lat b n p) := by rw [ms_off e3 (by omega), h2]
    have h34 : M3.1 3 4 = nI (lat b n p) := by rw [ms_at e3, h2]
    rw [h32]
    refine en_bd' (byteAt_eq (hT.ks hsm3) (by omega)) ?_
    refine en_ite (fun hc => ?_) (fun hc => ?_)
    · refine en_bmv fun M4 e4 => en_some ⟨hsm3.tr (sm_1 e4 rfl), ?_, ?_, ?_, ?_⟩
      · rw [ms_at e4, ltk, if_pos hc]
      · rw [ms_off e4 (by omega), h34]
      · rw [ms_off e4 (by omega), h32, lnx, if_pos hc]
      · intro h
        rw [ltk, if_pos hc] at h
        rcases h with h | h <;> exact absurd h (by decide)
    · refine en_bd' (isLetter_eq _) (en_ite (fun hl => ?_) (fun hl => ?_))
      · have hl := if10.mp hl
        refine en_bd' (isDigit_eq _) (en_ite (fun hd => ?_) (fun hd => ?_))
        · have hd := if10.mp hd
          have last : ∀ tk : Int32, tk = (if Sg (bat b n (lat b n p)) = true then bat b n (lat b n p) else 1) → En (f_X0_step_j122 tk M3) (fun M1 => Sm KS KA M M1 ∧ Lx b n p M1) := by
            intro tk htk
            have hk : ltk b n p = tk := by rw [ltk, if_neg hc, if_neg hl, if_neg hd, htk]
            unfold f_X0_step_j122
            refine en_bmv fun M4 e4 => en_bmv fun M5 e5 => en_some ⟨(hsm3.tr (sm_1 e4 rfl)).tr (sm_1 e5 rfl), ?_, ?_, ?_, ?_⟩
            · rw [ms_off e5 (by omega), ms_at e4, hk]
            · rw [ms_off e5 (by omega), ms_off e4 (by omega), h34]
            · rw [ms_at e5, ms_off e4 (by omega), h32, lnx, if_neg hc, if_neg hl, if_neg hd]
              exact nI_add _ 1
            · intro h
              exfalso
              rw [hk, htk] at h
              by_cases q : Sg (bat b n (lat b n p)) = true
              · rw [if_pos q] at h
                rcases h with h | h <;> (rw [h] at q; exact absurd q (by decide))
              · rw [if_neg q] at h
                rcases h with h | h <;> exact absurd h (by decide)
          refine en_bd' (isSign_eq _) (en_ite (fun hg => ?_) (fun hg => ?_))
          · have hg := if10.mp hg
            exact last 1 (by rw [if_neg hg])
          · have hg : Sg (bat b n (lat b n p)) = true := Classical.not_not.mp (fun z => hg (if10.mpr z))
            exact last _ (by rw [if_pos hg])
        · have hd : Di (bat b n (lat b n p)) = true := Classical.not_not.mp (fun z => hd (if10.mpr z))
          refine en_bv (en_imp (readNumber_ok hB (hT.ks hsm3) h32 hle h34) ?_)
          rintro M4 ⟨g1, g2, g3, g4, g5⟩
          refine en_some ⟨hsm3.tr g1, ?_, g3, ?_, ?_⟩
          · rw [g4, ltk, if_neg hc, if_neg hl, if_pos hd]
          · rw [g2, lnx, if_neg hc, if_neg hl, if_pos hd]
          · intro h
            rw [ltk, if_neg hc, if_neg hl, if_pos hd] at h
            rw [lcd, if_neg hl]
            refine g5 ?_
            by_cases q : sk Di b n (lat b n p) - lat b n p ≤ 4
            · exact q
            · rw [if_neg q] at h
              rcases h with h | h <;> exact absurd h (by decide)
      · have hl : Le (bat b n (lat b n p)) = true := Classical.not_not.mp (fun z => hl (if10.mpr z))
        refine en_bv (en_imp (readWord_ok (hT.ks hsm3) h32 hle h34) ?_)
        rintro M4 ⟨g1, g2, g3, g4, g5⟩
        refine en_some ⟨hsm3.tr g1, ?_, g3, ?_, ?_⟩
        · rw [g4, ltk, if_neg hc, if_pos hl]; rfl
        · rw [g2, lnx, if_neg hc, if_pos hl]
        · intro h
          rw [ltk, if_neg hc, if_pos hl] at h
          rw [lcd, if_pos hl]
          refine g5 ?_
          have hw := wid_le b (lat b n p) (sk Le b n (lat b n p))
          by_cases q : lwd b n p = 12
          · rw [if_pos q] at h
            rcases h with h | h <;> exact absurd h (by decide)
          · unfold lwd at q
            omega
  unfold f_X0_step
  refine en_iter (fun z => ∃ k : Nat, k ≤ 160 ∧ p + k ≤ n ∧ z.1 = nI k ∧ Sm KS KA M z.2 ∧ z.2.1 3 2 = nI (p + k) ∧ sk Bl b n (p + k) = lat b n p) (fun z => 161 - z.1.toNatClampNeg) ⟨0, by omega, hpn, rfl, Sm.rf, hs, rfl⟩ (by have := fuel_gt; omega) ?_
  rintro ⟨x, M2⟩ ⟨k, hk, hkn, rfl, hsm, h2, he⟩
  show En (f_X0_step_b2 _ _) _
  have nxt : Bl (bat b n (p + k)) = true → En (f_X0_step_j35 (nI k) M2) (Lp (fun z => ∃ k : Nat, k ≤ 160 ∧ p + k ≤ n ∧ z.1 = nI k ∧ Sm KS KA M z.2 ∧ z.2.1 3 2 = nI (p + k) ∧ sk Bl b n (p + k) = lat b n p) (fun z => 161 - z.1.toNatClampNeg) (nI k, M2) (fun M1 => Sm KS KA M M1 ∧ Lx b n p M1)) := by
    intro hb
    have hlt : p + k < n := bat_lt Bl_m hb
    unfold f_X0_step_j35
    refine en_bmv fun M3 e3 => en_biv fun y ey => en_some ⟨⟨k + 1, by omega, by omega, ey.trans (nI_add k 1), hsm.tr (sm_1 e3 rfl), ?_, ?_⟩, ?_⟩
    · show M3.1 3 2 = _
      rw [ms_at e3, h2]
      exact nI_add (p + k) 1
    · rw [← he, sk_t Bl_m hb]; rfl
    · show 161 - y.toNatClampNeg < 161 - (nI k).toNatClampNeg
      rw [ey, show nI k + 1 = nI (k + 1) from nI_add k 1, nI_clamp (by omega), nI_clamp (by omega)]
      omega
  unfold f_X0_step_b2
  refine en_ite (fun hc => en_ex ?_) (fun hc => ?_)
  · have hc : nI 160 ≤ nI k := hc
    rw [nI_leI (by omega) (by omega)] at hc
    refine fin M2 hsm ?_
    rw [h2, ← he, show p + k = n by omega, sk_f (by rw [bat_out (Nat.le_refl n)]; rfl)]
  · have hc : ¬ nI 160 ≤ nI k := hc
    rw [nI_leI (by omega) (by omega)] at hc
    rw [h2]
    refine en_bd' (byteAt_eq (hT.ks hsm) (by omega)) ?_
    refine en_ite (fun h32 => nxt (by unfold Bl; rw [decide_eq_true h32]; rfl)) (fun h32 => ?_)
    rw [h2]
    refine en_bd' (byteAt_eq (hT.ks hsm) (by omega)) ?_
    refine en_ite (fun h10 => nxt (by unfold Bl; rw [decide_eq_true h10, Bool.or_true])) (fun h10 => en_ex ?_)
    refine fin M2 hsm ?_
    rw [h2, ← he, sk_f (by unfold Bl; rw [decide_eq_false h32, decide_eq_false h10]; rfl)]
end LEXW
