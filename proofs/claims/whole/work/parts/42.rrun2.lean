/-! ===== the reference's supper: giving, a minute, baking, the whole ===== -/
def KBk : Nat → Nat → Bool := fun o k => !(o == 0 && (decide (15 ≤ k) && decide (k ≤ 29))) && !(o == 11 || o == 12)
theorem kbk_q : ∀ o k, KBk o k = true → KQ o k = true := by
  intro o k h
  unfold KBk at h
  unfold KQ
  simp at h ⊢
  omega
theorem k6_bk : ∀ o k, KR6 o k = true → KBk o k = true := by
  intro o k h
  unfold KR6 at h
  unfold KBk
  simp at h ⊢
  omega
theorem ku_bk : ∀ o k, KU o k = true → KBk o k = true := by
  intro o k h
  unfold KU at h
  unfold KBk
  simp at h ⊢
  omega
/-- served, with heaps of c (none: 0) -/
def svG (B c : Nat) (rd : Nat → Nat) : Nat → Nat := if c = 0 then rd else svN B c rd
section RRUN2
variable {G : Gt} {T : Tb} {s : Sx} {M M1 : Mm} {N mi k c : Nat} {w : Wy} {x1 x2 : Int32}
theorem r_gives (h : RR G T s M) (hb : Bd N s) (hN : N < 2 ^ 18) (hz : Lz s) (hk : k < tB T) (hmi : mi < 60) {o : Option Nat} (ho : ∀ e, o = some e → sit T e = true) : En (f_X6_gives (nI k) (oI o) (nI mi) M) (fun M1 => Sm KZ KB M M1 ∧ RR G T (giveTo T mi k s o) M1) := by
  obtain ⟨h13, hm5, h14, h7, hB12, hmG⟩ := h.1.cap
  obtain ⟨hT, hG, hA, -, hea, h11⟩ := id h.1
  obtain ⟨d1, d2, d3, d4, d5⟩ := id h.2
  unfold f_X6_gives
  cases o with
  | none =>
    refine en_t rfl (en_bmv fun M9 e9 => en_some ?_)
    have hs : Sm KZ KB M M9 := sm_1 e9 rfl
    refine ⟨hs, h.1.same hs (fun _ _ z => z), fun e he => ?_, ?_, fun z => ?_, ?_, ?_⟩
    · rw [ms_off e9 (by omega), ms_off e9 (by omega), ms_off e9 (by omega)]; exact d1 e he
    · rw [ms_off e9 (by omega)]; exact d2
    · rw [ms_off e9 (by omega)]; exact d3 z
    · rw [ms_off e9 (by omega)]; exact d4
    · rw [ms_at e9, d5]; exact nI_add _ 1
  | some e =>
    have hse := ho e rfl
    have hem := sit_m hse
    have hem' : e < yM G := by omega
    have he5 : e < 5 := by omega
    have hkB : k < yB G := by rw [← hT.1]; exact hk
    have hlb := hb.2.2.1 e
    have hhb := hb.1 e
    have hea1 := hT.2.2.2.2.2.1 e
    have j45 : ∀ x : Int32, x = nI (max mi (xl s e)) → En (f_X6_gives_j45 (nI k) (nI e) x M) (fun M1 => Sm KZ KB M M1 ∧ RR G T (giveTo T mi k s (some e)) M1) := by
      intro x hx
      subst hx
      unfold f_X6_gives_j45
      refine en_gd (bin_nI he5 (by omega)) (en_gd (bin_nI (by omega) (by omega)) ?_)
      rw [cl_nI (by omega), cl_nI (by omega), (d1 e he5).1, (h11 k hkB).1]
      refine en_bd (en_imp (r_worth hG hA hem') ?_)
      rintro ⟨r2, M1⟩ ⟨g1, g2⟩
      have g1 : r2 = nI (wvz (yZ G) k (max mi (xl s e)) (xh s e) (yW G e) e (nI (max mi (xl s e)) - nI (trd T k))) := g1
      have g2 : Sm KQ KB M M1 := g2
      rw [← hT.2.2.2.2.1] at g1
      subst g1
      refine en_bmv fun M3 e3 => en_gd (bin_nI he5 (by omega)) (en_gd (bin_nI he5 (by omega)) (en_bmv fun M4 e4 => ?_))
      rw [d2] at e3
      have hs4 : Sm KZ KB M M4 := ((g2.weak kz_q (fun _ z => z)).tr (sm_1 e3 rfl)).tr (sm_1 e4 rfl)
      have hR4 := h.1.same hs4 (fun _ _ z => z)
      obtain ⟨a4, -, -, a7⟩ := hR4.2.2.1.2.2.2.2.1 e hem'
      have hgk := hG.2.2.2.2.1 e
      refine en_bd' (r_eats he5 hgk.1 hgk.2.2.2 a4 a7) (en_gd (bin_nI he5 (by omega)) (en_bmv fun M7 e7 => en_bmv fun M8 e8 => en_some ?_))
      have hv : nI (max 1 (eatN (yK G e) (yA G e))) = nI (tea T e) := by rw [hea e]; rfl
      rw [hv, nI_add] at e7
      have hs8 : Sm KZ KB M M8 := (hs4.tr (sm_1 e7 rfl)).tr (sm_1 e8 rfl)
      refine ⟨hs8, h.1.same hs8 (fun _ _ z => z), fun j hj => ⟨?_, ?_, ?_⟩, ?_, fun z => ?_, ?_, ?_⟩
      · show M8.1 8 j = nI (upN (xh s) e (xh s e + 1) j)
        rw [ms_off e8 (by omega), ms_off e7 (by omega)]
        by_cases q : j = e
        · subst q
          rw [ms_at e4, ms_off e3 (by omega), g2.1 8 j rfl, (d1 j hj).1, upN_s]
          exact nI_add _ 1
        · rw [ms_off e4 (by omega), ms_off e3 (by omega), g2.1 8 j rfl, (d1 j hj).1, upN_n q]
      · show M8.1 10 j = nI (xw s j)
        rw [ms_off e8 (by omega), ms_off e7 (by omega), ms_off e4 (by omega), ms_off e3 (by omega), g2.1 10 j rfl]
        exact (d1 j hj).2.1
      · show M8.1 9 j = if upN (xh s) e (xh s e + 1) j = 0 then -1 else nI (upN (xl s) e (max mi (xl s e) + tea T e) j)
        rw [ms_off e8 (by omega)]
        by_cases q : j = e
        · subst q
          rw [ms_at e7, upN_s, upN_s, if_neg (by omega)]
        · rw [ms_off e7 (by omega), ms_off e4 (by omega), ms_off e3 (by omega), g2.1 9 j rfl, (d1 j hj).2.2, upN_n q, upN_n q]
          rfl
      · show M8.1 0 36 = xc s - nI (two T k (max mi (xl s e)) (xh s e) e (nI (max mi (xl s e)) - nI (trd T k)))
        rw [ms_off e8 (by omega), ms_off e7 (by omega), ms_off e4 (by omega), ms_at e3]
      · show M8.1 0 37 = nI (xf s)
        rw [ms_off e8 (by omega), ms_off e7 (by omega), ms_off e4 (by omega), ms_off e3 (by omega), g2.1 0 37 rfl]
        exact d3 z
      · show M8.1 0 38 = nI (xg s + 1)
        rw [ms_at e8, ms_off e7 (by omega), ms_off e4 (by omega), ms_off e3 (by omega), g2.1 0 38 rfl, d4]
        exact nI_add _ 1
      · show M8.1 0 39 = nI (xs s)
        rw [ms_off e8 (by omega), ms_off e7 (by omega), ms_off e4 (by omega), ms_off e3 (by omega), g2.1 0 39 rfl]
        exact d5
    rw [show oI (some e) = nI e from rfl]
    refine en_f (nI_m1 (by omega)) (en_gd (bin_nI he5 (by omega)) ?_)
    have hd1 := (d1 e he5).1
    have hd3 := (d1 e he5).2.2
    rw [cl_nI (by omega), hd1, hd3]
    refine en_ite (fun q => ?_) (fun q => en_gd (bin_nI he5 (by omega)) (en_ite (fun q2 => ?_) (fun q2 => en_gd (bin_nI he5 (by omega)) ?_)))
    · have q : nI (xh s e) ≤ nI 0 := q
      rw [nI_leI (by omega) (by omega)] at q
      unfold f_X6_gives_j44
      refine j45 _ ?_
      rw [hz e (by omega), Nat.max_eq_left (by omega)]
    · have q : ¬ nI (xh s e) ≤ nI 0 := q
      rw [nI_leI (by omega) (by omega)] at q
      unfold lasI at q2
      rw [if_neg (by omega), nI_leI (by omega) (by omega)] at q2
      unfold f_X6_gives_j44
      refine j45 _ ?_
      rw [Nat.max_eq_left q2]
    · have q : ¬ nI (xh s e) ≤ nI 0 := q
      rw [nI_leI (by omega) (by omega)] at q
      unfold lasI at q2 ⊢
      rw [if_neg (by omega), nI_leI (by omega) (by omega)] at q2
      rw [if_neg (by omega)]
      refine j45 _ ?_
      rw [Nat.max_eq_right (by omega)]
theorem lea_pass (e : Nat) : lea T (xh (passF T mi e s)) = lea T (xh s) := by
  rw [(passF_had (T := T) (mi := mi) (s := s) e).1]
/-- the end of a minute -/
theorem r_fair (h : RR G T s M) (hb : Bd N s) (hN : N < 2 ^ 18) {x4 : Int32} (h4 : x4 = lsI T (xh s) 5) (hmi : mi < 60) {P : (Int32 × Mm) ⊕ Mm → Prop} (hgo : ∀ M2, Sm KZ KB M M2 → RR G T (fairF T s) M2 → P (.inl (nI (mi + 1), M2))) :
    En (if (M.1 0 13) = 0 then f_X6_sups_j228 x1 x2 (nI mi) (0 : Int32) M else bd (f_X6_mostHad M) fun r9 M8 => f_X6_sups_j228 x1 x2 (nI mi) (r9 - x4) M8) P := by
  obtain ⟨h13, hm5, h14, h7, hB12, hmG⟩ := h.1.cap
  obtain ⟨d1, d2, d3, d4, d5⟩ := id h.2
  have put : ∀ v : Int32, (5 ≤ ta T → v = nI (max (xf s) (mo T (xh s) 5 - lea T (xh s)))) → En (f_X6_sups_j249 x1 x2 (nI mi) v M) P := by
    intro v hv
    unfold f_X6_sups_j249
    refine en_bmv fun M2 e2 => en_bi (en_some ?_)
    rw [show nI mi + 1 = nI (mi + 1) from nI_add mi 1]
    have hs : Sm KZ KB M M2 := sm_1 e2 rfl
    refine hgo M2 hs ⟨h.1.same hs (fun _ _ z => z), fun e he => ?_, ?_, fun z => ?_, ?_, ?_⟩
    · show M2.1 8 e = nI (xh s e) ∧ M2.1 10 e = nI (xw s e) ∧ M2.1 9 e = lasI s e
      rw [ms_off e2 (by omega), ms_off e2 (by omega), ms_off e2 (by omega)]; exact d1 e he
    · show M2.1 0 36 = xc s
      rw [ms_off e2 (by omega)]; exact d2
    · show M2.1 0 37 = nI (max (xf s) (mo T (xh s) 5 - lea T (xh s)))
      rw [ms_at e2]; exact hv z
    · show M2.1 0 38 = nI (xg s)
      rw [ms_off e2 (by omega)]; exact d4
    · show M2.1 0 39 = nI (xs s)
      rw [ms_off e2 (by omega)]; exact d5
  have hxf := hb.2.2.2.1
  have hmo := mo_le (T := T) hb.1 5
  have j228 : ∀ v : Int32, (5 ≤ ta T → v = nI (mo T (xh s) 5 - lea T (xh s))) → En (f_X6_sups_j228 x1 x2 (nI mi) v M) P := by
    intro v hv
    unfold f_X6_sups_j228
    refine en_ite (fun q => put _ fun z => ?_) (fun q => put _ fun z => ?_)
    · rw [d3 z, hv z, nI_leI (by omega) (by omega)] at q
      rw [d3 z, Nat.max_eq_left q]
    · rw [d3 z, hv z, nI_leI (by omega) (by omega)] at q
      rw [hv z, Nat.max_eq_right (by omega)]
  rw [h13]
  refine en_ite (fun q => j228 _ fun z => ?_) (fun q => en_bd' (r_most h13 hm5 h14 hb.1 (by omega) (fun e he => (d1 e he).1)) (j228 _ fun z => ?_))
  · have q : nI (tm T) = nI 0 := q
    rw [nI_eq (by omega) (by omega)] at q
    have : mo T (xh s) 5 = 0 := by rw [← mo_tm hm5, q]; rfl
    rw [this, Nat.zero_sub]
    rfl
  · have q : ¬ nI (tm T) = nI 0 := q
    rw [nI_eq (by omega) (by omega)] at q
    rw [h4, lsI_lea ⟨0, sit_iff.mpr ⟨by omega, by omega⟩⟩ hm5, pk_sub (lea_mo _)]
theorem r_passOne (h : RR G T s M) (hb : Bd N s) (hN : N < 2 ^ 18) (hz : Lz s) (hmi : mi < 60) (hk : k < tm T) {x4 : Int32} (h4 : x4 = lsI T (xh s) 5) {P : (Int32 × Mm) ⊕ ((Int32 × Mm) ⊕ Mm) → Prop} (hgo : ∀ M2, Sm KZ KB M M2 → RR G T (passOne T mi k s) M2 → P (.inl (nI (k + 1), M2))) : En (f_X6_sups_b122 x1 x2 (nI mi) x4 (nI k) M) P := by
  have hk1 : nI k + 1 = nI (k + 1) := nI_add k 1
  obtain ⟨h13, hm5, h14, h7, hB12, hmG⟩ := h.1.cap
  obtain ⟨hT, hG, hA, -, hea, h11⟩ := id h.1
  obtain ⟨d1, d2, d3, d4, d5⟩ := id h.2
  have hk5 : k < 5 := by omega
  have hkm' : k < yM G := by omega
  have skip : passOne T mi k s = s → P (.inl (nI k + 1, M)) := by
    intro q
    rw [hk1]
    exact hgo M Sm.rf (by rw [q]; exact h)
  unfold f_X6_sups_b122
  rw [h13, h14]
  refine en_f (by rw [nI_leI (by omega) (by omega)]; omega) (en_ite (fun q => ?_) (fun q => ?_))
  · have q := (ab_eq hk5).mp q
    exact en_bi (en_some (skip (pass_no fun z => (sit_iff.mp z.1).2 q)))
  · have q := (not_congr (ab_eq hk5)).mp q
    have hs : sit T k = true := sit_iff.mpr ⟨hk, q⟩
    have hw12 := (hG.2.2.2.2.1 k).2.2.1
    have hwa : twa T k = yW G k := by rw [hT.2.2.1]
    have hhk := hb.1 k
    have hlk := hb.2.2.1 k
    refine en_gd (bin_nI hk5 (by omega)) (en_gd (bin_nI hk5 (by omega)) ?_)
    rw [cl_nI (by omega), (hA.2.2.2.2.1 k hkm').2.2.1, (d1 k hk5).1]
    refine en_ite (fun hle => ?_) (fun hle => ?_)
    · rw [nI_leI (by omega) (by omega)] at hle
      exact en_bi (en_some (skip (pass_no fun z => by rw [hwa] at z; omega)))
    · rw [nI_leI (by omega) (by omega)] at hle
      refine en_gd (bin_nI hk5 (by omega)) ?_
      rw [(d1 k hk5).2.2]
      have hlast : nI mi < lasI s k ↔ mi < xl s k := by
        unfold lasI
        by_cases q : xh s k = 0
        · rw [if_pos q, hz k q]
          constructor
          · intro z
            rw [Int32.lt_iff_toInt_lt, nI_toInt (by omega)] at z
            have : (-1 : Int32).toInt = -1 := by decide
            omega
          · intro z; omega
        · rw [if_neg q, nI_ltI (by omega) (by omega)]
      refine en_ite (fun hl => ?_) (fun hl => ?_)
      · rw [hlast] at hl
        exact en_bi (en_some (skip (pass_no fun z => by omega)))
      · rw [hlast] at hl
        have hcond : sit T k = true ∧ xh s k < twa T k ∧ xl s k ≤ mi := ⟨hs, by rw [hwa]; omega, by omega⟩
        have hP := pass_yes hcond
        refine en_gd (bin_nI hk5 (by omega)) (en_gd (bin_nI hk5 (by omega)) (en_bmv fun M6 e6 => en_gd (bin_nI hk5 (by omega)) ?_))
        have hs6 : Sm KZ KB M M6 := sm_1 e6 rfl
        have hR6 := h.1.same hs6 (fun _ _ z => z)
        have hlb := lea_le (T := T) hb.1
        have h36 : M6.1 0 36 = xc s := by rw [ms_off e6 (by omega)]; exact d2
        rw [show M6.1 8 k = nI (xh s k) by rw [ms_off e6 (by omega)]; exact (d1 k hk5).1, h4, lsI_lea ⟨k, hs⟩ hm5]
        refine en_bd (en_imp (r_hunT hR6 hk (by omega) (by omega)) ?_)
        rintro ⟨r8, M7⟩ ⟨g1, g2⟩
        have g1 : r8 = nI (thu T k mi (xh s k) (lea T (xh s))) := g1
        have g2 : Sm KQ KB M6 M7 := g2
        refine en_bmv fun M9 e9 => en_bi (en_some ?_)
        rw [hk1]
        rw [h36] at e9
        have hs9 : Sm KZ KB M M9 := (hs6.tr (g2.weak kz_q (fun _ z => z))).tr (sm_1 e9 rfl)
        refine hgo M9 hs9 ?_
        rw [hP]
        refine ⟨h.1.same hs9 (fun _ _ z => z), fun j hj => ⟨?_, ?_, ?_⟩, ?_, fun z => ?_, ?_, ?_⟩
        · rw [ms_off e9 (by omega), g2.1 8 j rfl, ms_off e6 (by omega)]; exact (d1 j hj).1
        · show M9.1 10 j = nI (upN (xw s) k (xw s k + 1) j)
          rw [ms_off e9 (by omega), g2.1 10 j rfl]
          by_cases q : j = k
          · subst q
            rw [ms_at e6, upN_s, (d1 j hj).2.1]
            exact nI_add _ 1
          · rw [ms_off e6 (by omega), upN_n q]; exact (d1 j hj).2.1
        · rw [ms_off e9 (by omega), g2.1 9 j rfl, ms_off e6 (by omega)]; exact (d1 j hj).2.2
        · rw [ms_at e9, g1]; rfl
        · rw [ms_off e9 (by omega), g2.1 0 37 rfl, ms_off e6 (by omega)]; exact d3 z
        · rw [ms_off e9 (by omega), g2.1 0 38 rfl, ms_off e6 (by omega)]; exact d4
        · rw [ms_off e9 (by omega), g2.1 0 39 rfl, ms_off e6 (by omega)]; exact d5
theorem r_min (h : RR G T s M) (hb : Bd N s) (hN : N < 2 ^ 14) (hz : Lz s) (hmi : mi < 60) (hW : RW T w x1 x2 M) {P : (Int32 × Mm) ⊕ Mm → Prop} (hgo : ∀ M2, Sm KZ KB M M2 → RR G T (minF T w mi s) M2 → P (.inl (nI (mi + 1), M2))) : En (f_X6_sups_b62 x1 x2 (nI mi) M) P := by
  obtain ⟨h13, hm5, h14, h7, hB12, hmG⟩ := h.1.cap
  have hea := h.1.1.2.2.2.2.2.1
  unfold f_X6_sups_b62
  refine en_f (by show ¬ nI 60 ≤ nI mi; rw [nI_leI (by omega) (by omega)]; omega) ?_
  refine en_iter (fun (z : Int32 × Mm) => ∃ k, k ≤ tB T ∧ z.1 = nI k ∧ Sm KZ KB M z.2 ∧ RR G T (serveF T w mi k s) z.2) (fun z => 13 - z.1.toNatClampNeg) ⟨0, by omega, rfl, Sm.rf, h⟩ (by have := fuel_gt; omega) ?_
  rintro ⟨x4, M'⟩ ⟨k, hk, rfl, hs', hR'⟩
  have hs' : Sm KZ KB M M' := hs'
  have hR' : RR G T (serveF T w mi k s) M' := hR'
  obtain ⟨k13, -, k14, k7, -, -⟩ := hR'.1.cap
  have hbk := serve_bd (w := w) (T := T) (mi := mi) hea (by omega) hb k
  have hzk := lz_serve (T := T) (w := w) (mi := mi) hz k
  show En (f_X6_sups_b71 x1 x2 (nI mi) (nI k) M') _
  unfold f_X6_sups_b71
  rw [k7]
  refine en_ite (fun hc => en_ex ?_) (fun hc => ?_)
  · rw [nI_leI (by omega) (by omega)] at hc
    have ek : k = tB T := by omega
    subst ek
    refine en_bd' (r_least k13 hm5 k14 (fun e he => ⟨(hR'.2.1 e he).1, by have := hbk.1 e; omega⟩)) ?_
    refine en_iter (fun (z : Int32 × Mm) => ∃ e, e ≤ tm T ∧ z.1 = nI e ∧ Sm KZ KB M z.2 ∧ RR G T (passF T mi e (serveF T w mi (tB T) s)) z.2) (fun z => 6 - z.1.toNatClampNeg) ⟨0, by omega, rfl, hs', hR'⟩ (by have := fuel_gt; omega) ?_
    rintro ⟨x5, M2⟩ ⟨e, he, rfl, hs2, hR2⟩
    have hs2 : Sm KZ KB M M2 := hs2
    have hR2 : RR G T (passF T mi e (serveF T w mi (tB T) s)) M2 := hR2
    have hb2 := passF_bd (T := T) (mi := mi) hbk e
    have hz2 := lz_pass (T := T) (mi := mi) hzk e
    have hxh : xh (passF T mi e (serveF T w mi (tB T) s)) = xh (serveF T w mi (tB T) s) := (passF_had (T := T) (mi := mi) e).1
    show En (f_X6_sups_b122 x1 x2 (nI mi) _ (nI e) M2) _
    rcases Nat.lt_or_ge e (tm T) with q | q
    · refine r_passOne hR2 hb2 (by omega) hz2 hmi q (by rw [hxh]) fun M3 g1 g2 => ⟨⟨e + 1, by omega, rfl, hs2.tr g1, g2⟩, ?_⟩
      show 6 - (nI (e + 1)).toNatClampNeg < 6 - (nI e).toNatClampNeg
      rw [nI_clamp (by omega), nI_clamp (by omega)]
      omega
    · have ee : e = tm T := by omega
      subst ee
      obtain ⟨c13, -, -, -, -, -⟩ := hR2.1.cap
      unfold f_X6_sups_b122
      refine en_t (by rw [c13, nI_leI (by omega) (by omega)]; omega) (en_ex ?_)
      refine r_fair hR2 hb2 (by omega) (by rw [hxh]) hmi fun M3 g1 g2 => hgo M3 (hs2.tr g1) ?_
      rw [min_alt, ← pass_tm hm5]
      exact g2
  · rw [nI_leI (by omega) (by omega)] at hc
    have hkB : k < tB T := by omega
    have hkB' : k < yB G := by rw [← hR'.1.1.1]; exact hkB
    have hnx : 13 - (nI k + 1).toNatClampNeg < 13 - (nI k).toNatClampNeg := by
      rw [show nI k + 1 = nI (k + 1) from nI_add k 1, nI_clamp (by omega), nI_clamp (by omega)]
      omega
    have hsv := hR'.1.1.2.2.2.2.2.2.1 k (by omega)
    refine en_gd (bin_nI (by omega) (by omega)) ?_
    rw [cl_nI (by omega), (hR'.1.2.2.2.2.2 k hkB').2]
    refine en_ite (fun he => ?_) (fun he => ?_)
    · rw [nI_eq (by omega) (by omega)] at he
      have hW' := hW.same hs' ku_z
      refine en_bd (en_imp (r_towards hR' hbk (by omega) hkB hW' (mi := mi)) ?_)
      rintro ⟨r, M3⟩ ⟨g1, g2⟩
      have g1 : r = oI (who T w (serveF T w mi k s) mi k) := g1
      have g2 : Sm KQ KB M' M3 := g2
      subst g1
      refine en_bv (en_imp (r_gives (hR'.q g2) hbk (by omega) hzk hkB hmi (fun e q => rw_sit hW' hkB hm5 q)) ?_)
      rintro M4 ⟨g3, g4⟩
      refine en_bi (en_some ⟨⟨k + 1, by omega, nI_add k 1, (hs'.tr (g2.weak kz_q (fun _ z => z))).tr g3, ?_⟩, hnx⟩)
      rw [serveF, if_pos he]
      exact g4
    · rw [nI_eq (by omega) (by omega)] at he
      refine en_bi (en_some ⟨⟨k + 1, by omega, nI_add k 1, hs', ?_⟩, hnx⟩)
      rw [serveF, if_neg he]
      exact hR'
theorem mx_ge {rd : Nat → Nat} {a : Nat} : ∀ n i, i < n → rd (a + i) ≤ mxR rd a n
  | 0, i, h => by omega
  | n + 1, i, h => by
    unfold mxR
    rcases Nat.lt_or_ge i n with q | q
    · have := mx_ge (rd := rd) (a := a) n i q
      omega
    · have : i = n := by omega
      subst this
      omega
theorem svG_le {rd : Nat → Nat} {B b : Nat} (hB : B ≤ 12) (h : ∀ i, i < 12 → rd i ≤ b) (hk : k < 12) : svG B c rd k ≤ b := by
  unfold svG
  split
  · exact h k hk
  · have : k - k % c ≤ k := Nat.sub_le _ _
    exact mx_le _ (fun i hi => h i (by omega))
theorem r_bakes (hG : Gok G) (hA : AR G M) (hc : (x1 = 5 ∧ 0 < c ∧ c ≤ 12 ∧ x2 = nI c) ∨ (x1 ≠ 5 ∧ c = 0)) : En (f_X6_bakes x1 x2 M) (fun M1 => Sm KBk KB M M1 ∧ ∀ k, k < yB G → M1.1 11 k = nI (rdN (yP G) (tkz (yZ G)) k) ∧ M1.1 12 k = nI (svG (yB G) c (rdN (yP G) (tkz (yZ G))) k)) := by
  have hrd := rd_le hG.2.1 (fun k => (tkz_in (yZ G) k).2)
  have hB12 := hG.1
  obtain ⟨rd, erd⟩ : ∃ f, f = rdN (yP G) (tkz (yZ G)) := ⟨_, rfl⟩
  rw [← erd] at hrd ⊢
  unfold f_X6_bakes
  refine en_iter (fun (z : Int32 × Mm) => ∃ k, k ≤ yB G ∧ z.1 = nI k ∧ Sm KBk KB M z.2 ∧ ∀ j, j < k → z.2.1 11 j = nI (rd j)) (fun z => 13 - z.1.toNatClampNeg) ⟨0, by omega, rfl, Sm.rf, fun j hj => by omega⟩ (by have := fuel_gt; omega) ?_
  rintro ⟨x3, M2⟩ ⟨k, hk, rfl, hs, hj⟩
  have hs : Sm KBk KB M M2 := hs
  have hj : ∀ j, j < k → M2.1 11 j = nI (rd j) := hj
  have hA2 : AR G M2 := hA.same hs k6_bk
  show En (f_X6_bakes_b2 x1 x2 (nI k) M2) _
  unfold f_X6_bakes_b2
  rw [hA2.1]
  refine en_ite (fun q => en_ex ?_) (fun q => ?_)
  · rw [nI_leI (by omega) (by omega)] at q
    have ek : k = yB G := by omega
    subst ek
    refine en_iter (fun (z : Int32 × Mm) => ∃ k, k ≤ yB G ∧ z.1 = nI k ∧ Sm KBk KB M z.2 ∧ (∀ j, j < yB G → z.2.1 11 j = nI (rd j)) ∧ ∀ j, j < k → z.2.1 12 j = nI (svG (yB G) c rd j)) (fun z => 13 - z.1.toNatClampNeg) ⟨0, by omega, rfl, hs, hj, fun j hj => by omega⟩ (by have := fuel_gt; omega) ?_
    rintro ⟨x3, M3⟩ ⟨k, hk, rfl, hs3, h11, h12⟩
    have hs3 : Sm KBk KB M M3 := hs3
    have h11 : ∀ j, j < yB G → M3.1 11 j = nI (rd j) := h11
    have h12 : ∀ j, j < k → M3.1 12 j = nI (svG (yB G) c rd j) := h12
    have hA3 : AR G M3 := hA.same hs3 k6_bk
    show En (f_X6_bakes_b29 x1 x2 (nI k) M3) _
    unfold f_X6_bakes_b29
    rw [hA3.1]
    refine en_ite (fun q => en_ex (en_some ?_)) (fun q => ?_)
    · rw [nI_leI (by omega) (by omega)] at q
      have ek : k = yB G := by omega
      subst ek
      exact ⟨hs3, fun j hj => ⟨h11 j hj, h12 j hj⟩⟩
    · rw [nI_leI (by omega) (by omega)] at q
      have hkB : k < yB G := by omega
      refine en_gd (bin_nI (by omega) (by omega)) (en_gd (bin_nI (by omega) (by omega)) (en_bmv fun M4 e4 => ?_))
      rw [cl_nI (by omega), h11 k hkB] at e4
      have hs4 : Sm KBk KB M M4 := hs3.tr (sm_1 e4 rfl)
      have f11 : ∀ j, j < yB G → M4.1 11 j = nI (rd j) := fun j hj => by rw [ms_off e4 (by omega)]; exact h11 j hj
      have f12 : ∀ j, j < k → M4.1 12 j = nI (svG (yB G) c rd j) := fun j hj => by rw [ms_off e4 (by omega)]; exact h12 j hj
      have h07 : M4.1 0 7 = nI (yB G) := by rw [ms_off e4 (by omega)]; exact hA3.1
      have hnx : 13 - (nI k + 1).toNatClampNeg < 13 - (nI k).toNatClampNeg := by
        rw [show nI k + 1 = nI (k + 1) from nI_add k 1, nI_clamp (by omega), nI_clamp (by omega)]
        omega
      -- the inner loop, from j0 on
      have inner : ∀ j0 L : Nat, j0 + L ≤ yB G → (∀ n, n ≤ L → ((nI (j0 + n) < nI (yB G) ∧ ¬ nI j0 + x2 ≤ nI (j0 + n)) ↔ n < L)) → max (rd k) (mxR rd j0 L) = svG (yB G) c rd k →
          En (f_X6_bakes_j66 x1 x2 (nI k) (nI j0) M4) (Lp (fun (z : Int32 × Mm) => ∃ k, k ≤ yB G ∧ z.1 = nI k ∧ Sm KBk KB M z.2 ∧ (∀ j, j < yB G → z.2.1 11 j = nI (rd j)) ∧ ∀ j, j < k → z.2.1 12 j = nI (svG (yB G) c rd j)) (fun z => 13 - z.1.toNatClampNeg) (nI k, M3) (fun M1 => Sm KBk KB M M1 ∧ ∀ k, k < yB G → M1.1 11 k = nI (rd k) ∧ M1.1 12 k = nI (svG (yB G) c rd k))) := by
        intro j0 L hL hcnd hmx
        unfold f_X6_bakes_j66
        refine en_iter (fun (z : Int32 × Mm) => ∃ n, n ≤ L ∧ z.1 = nI (j0 + n) ∧ Sm KBk KB M z.2 ∧ (∀ j, j < yB G → z.2.1 11 j = nI (rd j)) ∧ (∀ j, j < k → z.2.1 12 j = nI (svG (yB G) c rd j)) ∧ z.2.1 12 k = nI (max (rd k) (mxR rd j0 n)) ∧ z.2.1 0 7 = nI (yB G)) (fun z => 30 - z.1.toNatClampNeg) ⟨0, by omega, rfl, hs4, f11, f12, ?_, h07⟩ (by have := fuel_gt; omega) ?_
        · show M4.1 12 k = nI (max (rd k) 0)
          rw [ms_at e4, Nat.max_zero]
        rintro ⟨x5, M5⟩ ⟨n, hn, rfl, k1, k2, k3, k4, k5⟩
        have k1 : Sm KBk KB M M5 := k1
        have k2 : ∀ j, j < yB G → M5.1 11 j = nI (rd j) := k2
        have k3 : ∀ j, j < k → M5.1 12 j = nI (svG (yB G) c rd j) := k3
        have k4 : M5.1 12 k = nI (max (rd k) (mxR rd j0 n)) := k4
        have k5 : M5.1 0 7 = nI (yB G) := k5
        have hcn := hcnd n hn
        have fin : ¬ n < L → Lp (fun (z : Int32 × Mm) => ∃ k, k ≤ yB G ∧ z.1 = nI k ∧ Sm KBk KB M z.2 ∧ (∀ j, j < yB G → z.2.1 11 j = nI (rd j)) ∧ ∀ j, j < k → z.2.1 12 j = nI (svG (yB G) c rd j)) (fun z => 13 - z.1.toNatClampNeg) (nI k, M3) (fun M1 => Sm KBk KB M M1 ∧ ∀ k, k < yB G → M1.1 11 k = nI (rd k) ∧ M1.1 12 k = nI (svG (yB G) c rd k)) (.inl (nI k + 1, M5)) := by
          intro z
          have e : n = L := by omega
          subst e
          refine ⟨⟨k + 1, by omega, nI_add k 1, k1, k2, fun j hj => ?_⟩, hnx⟩
          rcases Nat.lt_or_ge j k with q | q
          · exact k3 j q
          · have : j = k := by omega
            rw [this, ← hmx]
            exact k4
        show En (f_X6_bakes_b72 x1 x2 (nI k) (nI j0) (nI (j0 + n)) M5) _
        unfold f_X6_bakes_b72
        rw [k5]
        refine en_ite (fun a => en_ex (en_bi (en_some (fin fun z => ?_)))) (fun a => en_ite (fun b => en_ex (en_bi (en_some (fin fun z => ?_)))) (fun b => ?_))
        · exact Int32.not_lt.mpr a (hcn.mpr z).1
        · exact (hcn.mpr z).2 b
        · have hnL : n < L := hcn.mp ⟨Int32.not_le.mp a, b⟩
          have hr1 := hrd k
          have hr2 := hrd (j0 + n)
          have hr3 : mxR rd j0 n ≤ 1000 := mx_le n (fun i hi => by have := hrd i; omega)
          have put : ∀ v : Int32, v = nI (max (rd k) (mxR rd j0 (n + 1))) → En (f_X6_bakes_j127 x1 x2 (nI k) (nI j0) (nI (j0 + n)) v (nI k) M5) (Lp (fun (z : Int32 × Mm) => ∃ n, n ≤ L ∧ z.1 = nI (j0 + n) ∧ Sm KBk KB M z.2 ∧ (∀ j, j < yB G → z.2.1 11 j = nI (rd j)) ∧ (∀ j, j < k → z.2.1 12 j = nI (svG (yB G) c rd j)) ∧ z.2.1 12 k = nI (max (rd k) (mxR rd j0 n)) ∧ z.2.1 0 7 = nI (yB G)) (fun z => 30 - z.1.toNatClampNeg) (nI (j0 + n), M5) (Lp (fun (z : Int32 × Mm) => ∃ k, k ≤ yB G ∧ z.1 = nI k ∧ Sm KBk KB M z.2 ∧ (∀ j, j < yB G → z.2.1 11 j = nI (rd j)) ∧ ∀ j, j < k → z.2.1 12 j = nI (svG (yB G) c rd j)) (fun z => 13 - z.1.toNatClampNeg) (nI k, M3) (fun M1 => Sm KBk KB M M1 ∧ ∀ k, k < yB G → M1.1 11 k = nI (rd k) ∧ M1.1 12 k = nI (svG (yB G) c rd k)))) := by
            intro v hv
            unfold f_X6_bakes_j127
            refine en_gd (bin_nI (by omega) (by omega)) (en_bmv fun M6 e6 => en_bi (en_some ⟨⟨n + 1, by omega, nI_add _ 1, k1.tr (sm_1 e6 rfl), fun j hj => ?_, fun j hj => ?_, ?_, ?_⟩, ?_⟩))
            · show M6.1 11 j = _
              rw [ms_off e6 (by omega)]; exact k2 j hj
            · rw [cl_nI (by omega)] at e6
              show M6.1 12 j = _
              rw [ms_off e6 (by omega)]; exact k3 j hj
            · rw [cl_nI (by omega)] at e6
              show M6.1 12 k = _
              rw [ms_at e6, hv]
            · show M6.1 0 7 = _
              rw [ms_off e6 (by omega)]; exact k5
            · show 30 - (nI (j0 + n) + 1).toNatClampNeg < 30 - (nI (j0 + n)).toNatClampNeg
              rw [show nI (j0 + n) + 1 = nI (j0 + n + 1) from nI_add _ 1, nI_clamp (by omega), nI_clamp (by omega)]
              omega
          have hmx1 : mxR rd j0 (n + 1) = max (mxR rd j0 n) (rd (j0 + n)) := rfl
          refine en_gd (bin_nI (by omega) (by omega)) (en_gd (bin_nI (by omega) (by omega)) ?_)
          rw [cl_nI (by omega), cl_nI (by omega), k2 (j0 + n) (by omega), k4]
          refine en_ite (fun d => en_gd (bin_nI (by omega) (by omega)) (put _ ?_)) (fun d => en_gd (bin_nI (by omega) (by omega)) (put _ ?_))
          · rw [nI_leI (by omega) (by omega)] at d
            rw [hmx1]
            congr 1
            omega
          · rw [nI_leI (by omega) (by omega)] at d
            rw [hmx1]
            congr 1
            omega
      rcases id hc with ⟨rfl, hc0, hc12, rfl⟩ | ⟨h5, rfl⟩
      · refine en_t rfl (en_gd (nI_ne0 hc0 (by omega)) ?_)
        rw [pk_div (by omega) hc0 (by omega), pk_mul]
        have hmod : k / c * c = k - k % c := by
          have := Nat.div_add_mod k c
          rw [Nat.mul_comm] at this
          omega
        rw [hmod]
        have hlt := Nat.mod_lt k hc0
        have hle := Nat.mod_le k c
        generalize hj0 : k - k % c = j0
        have hjk : j0 ≤ k ∧ k < j0 + c := by omega
        refine inner j0 (min c (yB G - j0)) (by omega) (fun n hn => ?_) ?_
        · rw [nI_add, nI_ltI (by omega) (by omega), nI_leI (by omega) (by omega)]
          omega
        · have h1 : svG (yB G) c rd k = mxR rd j0 (min c (yB G - j0)) := by
            unfold svG svN
            rw [if_neg (by omega), hj0]
          rw [h1]
          have h2 := mx_ge (rd := rd) (a := j0) (min c (yB G - j0)) (k - j0) (by omega)
          rw [show j0 + (k - j0) = k by omega] at h2
          exact Nat.max_eq_right h2
      · refine en_f h5 ?_
        rw [h07]
        refine inner (yB G) 0 (by omega) (fun n hn => ?_) ?_
        · have : n = 0 := by omega
          subst this
          rw [Nat.add_zero]
          constructor
          · rintro ⟨z, -⟩
            rw [nI_ltI (by omega) (by omega)] at z
            omega
          · intro z; omega
        · show max (rd k) 0 = svG (yB G) 0 rd k
          rw [Nat.max_zero]
          rfl
  · rw [nI_leI (by omega) (by omega)] at q
    refine en_bd (en_imp (r_ready hG hA2 rfl (by omega)) ?_)
    rintro ⟨r, M3⟩ ⟨g1, g2⟩
    have g1 : r = nI (rdN (yP G) (tkz (yZ G)) k) := g1
    rw [← erd] at g1
    have g2 : Sm KQ KB M2 M3 := g2
    refine en_gd (bin_nI (by omega) (by omega)) (en_bmv fun M8 e8 => en_bi (en_some ⟨⟨k + 1, by omega, nI_add k 1, (hs.tr (g2.weak kbk_q (fun _ z => z))).tr (sm_1 e8 rfl), fun j hj' => ?_⟩, ?_⟩))
    · rw [cl_nI (by omega)] at e8
      show M8.1 11 j = _
      by_cases z : j = k
      · subst z; rw [ms_at e8, g1]
      · rw [ms_off e8 (by omega), g2.1 11 j rfl]; exact hj j (by omega)
    · show 13 - (nI k + 1).toNatClampNeg < 13 - (nI k).toNatClampNeg
      rw [show nI k + 1 = nI (k + 1) from nI_add k 1, nI_clamp (by omega), nI_clamp (by omega)]
      omega
/-- the table of G, by heaps of c (none: 0), a being away (5: nobody) -/
def tR (G : Gt) (a c : Nat) : Tb := tbl G (yP G) a (eaN G) (svG (yB G) c (rdN (yP G) (tkz (yZ G))))
theorem sups_ok {a : Nat} (hG : Gok G) (hA : AR G M) (ha : M.1 0 14 = abI (tR G a c)) (hc : (x1 = 5 ∧ 0 < c ∧ c ≤ 12 ∧ x2 = nI c) ∨ (x1 ≠ 5 ∧ c = 0)) (hW : RW (tR G a c) w x1 x2 M) : En (f_X6_sups x1 x2 M) (fun M1 => Sm KU KB M M1 ∧ RR G (tR G a c) (runF (tR G a c) w 60) M1) := by
  have hrd := rd_le hG.2.1 (fun k => (tkz_in (yZ G) k).2)
  have hB12 := hG.1
  unfold f_X6_sups
  refine en_iter (fun (z : Int32 × Mm) => ∃ k, k ≤ 5 ∧ z.1 = nI k ∧ Sm KU KB M z.2 ∧ ∀ e, e < k → z.2.1 8 e = 0 ∧ z.2.1 10 e = 0 ∧ z.2.1 9 e = -1) (fun z => 6 - z.1.toNatClampNeg) ⟨0, by omega, rfl, Sm.rf, fun e he => by omega⟩ (by have := fuel_gt; omega) ?_
  rintro ⟨x3, M'⟩ ⟨k, hk, rfl, hs', hR'⟩
  have hs' : Sm KU KB M M' := hs'
  have hR' : ∀ e, e < k → M'.1 8 e = 0 ∧ M'.1 10 e = 0 ∧ M'.1 9 e = -1 := hR'
  show En (f_X6_sups_b2 x1 x2 (nI k) M') _
  unfold f_X6_sups_b2
  refine en_ite (fun q => en_ex ?_) (fun q => ?_)
  · have q : nI 5 ≤ nI k := q
    rw [nI_leI (by omega) (by omega)] at q
    have e5 : k = 5 := by omega
    subst e5
    refine en_bmv fun M1 e1 => en_bmv fun M2 e2 => en_bmv fun M3 e3 => en_bmv fun M4 e4 => ?_
    have hs4 : Sm KU KB M M4 := hs'.tr ((((sm_1 e1 rfl).tr (sm_1 e2 rfl)).tr (sm_1 e3 rfl)).tr (sm_1 e4 rfl))
    have hA4 : AR G M4 := hA.same hs4 k6_u
    refine en_bv (en_imp (r_bakes hG hA4 hc) ?_)
    rintro M5 ⟨g1, g2⟩
    have hs5 : Sm KU KB M M5 := hs4.tr (g1.weak ku_bk (fun _ z => z))
    have hA5 : AR G M5 := hA.same hs5 k6_u
    have hT : Tgh G (tR G a c) := tgh_tbl hG.2.1 (eaN_le hG) (fun k hk => svG_le hB12 (fun i hi => by have := hrd i; omega) hk)
    have hR5 : RR G (tR G a c) s0 M5 := by
      refine ⟨⟨hT, hG, hA5, ?_, fun e => rfl, fun k hk => g2 k hk⟩, fun e he => ⟨?_, ?_, ?_⟩, ?_, fun z => ?_, ?_, ?_⟩
      · rw [hs5.1 0 14 rfl, ha]
      · rw [g1.1 8 e rfl, ms_off e4 (by omega), ms_off e3 (by omega), ms_off e2 (by omega), ms_off e1 (by omega), (hR' e he).1]; rfl
      · rw [g1.1 10 e rfl, ms_off e4 (by omega), ms_off e3 (by omega), ms_off e2 (by omega), ms_off e1 (by omega), (hR' e he).2.1]; rfl
      · rw [g1.1 9 e rfl, ms_off e4 (by omega), ms_off e3 (by omega), ms_off e2 (by omega), ms_off e1 (by omega), (hR' e he).2.2]; rfl
      · rw [g1.1 0 36 rfl, ms_off e4 (by omega), ms_off e3 (by omega), ms_off e2 (by omega), ms_at e1]; rfl
      · rw [g1.1 0 37 rfl, ms_off e4 (by omega), ms_off e3 (by omega), ms_at e2]; rfl
      · rw [g1.1 0 38 rfl, ms_off e4 (by omega), ms_at e3]; rfl
      · rw [g1.1 0 39 rfl, ms_at e4]; rfl
    refine en_iter (fun (z : Int32 × Mm) => ∃ i, i ≤ 60 ∧ z.1 = nI i ∧ Sm KU KB M z.2 ∧ RR G (tR G a c) (runF (tR G a c) w i) z.2) (fun z => 61 - z.1.toNatClampNeg) ⟨0, by omega, rfl, hs5, hR5⟩ (by have := fuel_gt; omega) ?_
    rintro ⟨x3, M6⟩ ⟨i, hi, rfl, hs6, hR6⟩
    have hs6 : Sm KU KB M M6 := hs6
    have hR6 : RR G (tR G a c) (runF (tR G a c) w i) M6 := hR6
    show En (f_X6_sups_b62 x1 x2 (nI i) M6) _
    rcases Nat.lt_or_ge i 60 with q | q
    · refine r_min hR6 (run_bd (w := w) hT.2.2.2.2.2.1 hB12 i (by omega)) (by omega) (lz_run i) q (hW.same hs6 (fun _ _ z => z)) fun M7 g3 g4 => ⟨⟨i + 1, by omega, rfl, hs6.tr (g3.weak ku_z (fun _ z => z)), g4⟩, ?_⟩
      show 61 - (nI (i + 1)).toNatClampNeg < 61 - (nI i).toNatClampNeg
      rw [nI_clamp (by omega), nI_clamp (by omega)]
      omega
    · have e6 : i = 60 := by omega
      subst e6
      unfold f_X6_sups_b62
      exact en_t (by decide) (en_ex (en_some ⟨hs6, hR6⟩))
  · have q : ¬ nI 5 ≤ nI k := q
    rw [nI_leI (by omega) (by omega)] at q
    refine en_gd (bin_nI (by omega) (by omega)) (en_bmv fun M1 e1 => en_gd (bin_nI (by omega) (by omega)) (en_bmv fun M2 e2 => en_gd (bin_nI (by omega) (by omega)) (en_bmv fun M3 e3 => en_bi (en_some ⟨⟨k + 1, by omega, nI_add k 1, hs'.tr (((sm_1 e1 rfl).tr (sm_1 e2 rfl)).tr (sm_1 e3 rfl)), fun e he => ?_⟩, ?_⟩))))
    · rw [cl_nI (by omega)] at e1 e2 e3
      show M3.1 8 e = 0 ∧ M3.1 10 e = 0 ∧ M3.1 9 e = -1
      by_cases z : e = k
      · subst z
        exact ⟨by rw [ms_off e3 (by omega), ms_off e2 (by omega), ms_at e1], by rw [ms_at e3], by rw [ms_off e3 (by omega), ms_at e2]⟩
      · obtain ⟨a, b, c⟩ := hR' e (by omega)
        exact ⟨by rw [ms_off e3 (by omega), ms_off e2 (by omega), ms_off e1 (by omega), a], by rw [ms_off e3 (by omega), ms_off e2 (by omega), ms_off e1 (by omega), b], by rw [ms_off e3 (by omega), ms_off e2 (by omega), ms_off e1 (by omega), c]⟩
    · show 6 - (nI k + 1).toNatClampNeg < 6 - (nI k).toNatClampNeg
      rw [show nI k + 1 = nI (k + 1) from nI_add k 1, nI_clamp (by omega), nI_clamp (by omega)]
      omega
end RRUN2
