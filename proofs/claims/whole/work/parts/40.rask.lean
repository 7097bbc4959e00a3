/-! ===== the reference asks: texts, hunger, eating, ready ===== -/
/-- the reference holds the text t, which says z -/
def TXr (t : Nat) (z : Txt) (M : Mm) : Prop := ∃ (b : Nat → Int32) (n : Nat), n ≤ 160 ∧ M.1 2 t = nI n ∧ (∀ i, i < n → M.1 1 (160 * t + i) = b i) ∧ TD b n (.inr z)
/-- the reference holds the table G -/
def AR (G : Gt) (M : Mm) : Prop := M.1 0 7 = nI (yB G) ∧ M.1 0 8 = nI (yP G) ∧ M.1 0 4 = nI (yR G) ∧ M.1 0 13 = nI (yM G) ∧ (∀ e, e < yM G → M.1 4 e = nI (yK G e) ∧ M.1 5 e = nI (yN G e) ∧ M.1 6 e = nI (yW G e) ∧ M.1 7 e = nI (yA G e)) ∧ TXr (yR G) (yZ G) M
/-- kept by asking -/
def KQ : Nat → Nat → Bool := fun o k => !(o == 0 && (decide (15 ≤ k) && decide (k ≤ 29)))
def KR6 : Nat → Nat → Bool := fun o k => !(o == 0 && !(k == 4 || (k == 7 || (k == 8 || k == 13)))) && !(o == 8 || (o == 9 || (o == 10 || (o == 11 || (o == 12 || (o == 13 || o == 14))))))
theorem kq_rt : ∀ o k, KQ o k = true → KRt o k = true := by
  intro o k h
  unfold KQ at h
  unfold KRt
  simp at h ⊢
  omega
theorem k6_q : ∀ o k, KR6 o k = true → KQ o k = true := by
  intro o k h
  unfold KR6 at h
  unfold KQ
  simp at h ⊢
  omega
theorem AR.same {G : Gt} {M M1 : Mm} {K : Nat → Nat → Bool} {KL : Nat → Bool} (h : AR G M) (hs : Sm K KL M M1) (hk : ∀ o k, KR6 o k = true → K o k = true) : AR G M1 := by
  obtain ⟨h1, h2, h3, h4, h5, b, n, h6, h7, h8, h9⟩ := h
  refine ⟨by rw [hs.1 0 7 (hk _ _ rfl), h1], by rw [hs.1 0 8 (hk _ _ rfl), h2], by rw [hs.1 0 4 (hk _ _ rfl), h3], by rw [hs.1 0 13 (hk _ _ rfl), h4], fun e he => ?_, b, n, h6, by rw [hs.1 2 _ (hk _ _ rfl), h7], fun i hi => by rw [hs.1 1 _ (hk _ _ rfl), h8 i hi], h9⟩
  obtain ⟨a, b, c, d⟩ := h5 e he
  exact ⟨by rw [hs.1 4 e (hk _ _ rfl), a], by rw [hs.1 5 e (hk _ _ rfl), b], by rw [hs.1 6 e (hk _ _ rfl), c], by rw [hs.1 7 e (hk _ _ rfl), d]⟩
theorem rin {x : Int32} {lo hi : Int64} {a c : Int32} (h1 : lo = a.toInt64) (h2 : hi = c.toInt64) (M : Mm) : f_X6_in x.toInt64 lo hi M = some (if a ≤ x ∧ x ≤ c then 1 else 0, M) := by
  rw [h1, h2]
  exact in_eq x a c M
theorem below_iff {x : Int32} {n : Nat} (hn : n < 2 ^ 30) : (0 ≤ x ∧ x ≤ nI n - 1) ↔ ∃ i, i < n ∧ x = nI i := by
  constructor
  · rintro ⟨h0, h1⟩
    obtain ⟨j, hj, rfl⟩ := nI_of (Int32.not_lt.mpr h0)
    by_cases q : j < n
    · exact ⟨j, q, rfl⟩
    · exfalso
      rw [Int32.le_iff_toInt_le, nI_toInt hj, show (nI n - 1).toInt = (n : Int) - (1 : Nat) from pk_sub_toInt (b := 1) hn (by omega)] at h1
      omega
  · rintro ⟨i, hi, rfl⟩
    refine ⟨nI_pos' (by omega), ?_⟩
    rw [show nI n - 1 = nI (n - 1) from pk_sub (b := 1) (by omega), nI_leI (by omega) (by omega)]
    omega
theorem rwithin_eq {lo hi : Nat} (h : lo ≤ hi) (hh : hi < 2 ^ 31) (x : Int32) (M : Mm) : f_X6_within x (nI lo) (nI hi) M = some (nI (cl lo hi x), M) := by
  unfold f_X6_within
  rw [cl_val h hh]
  by_cases h1 : x < nI lo
  · rw [if_neg (Int32.not_le.mpr h1), if_pos h1]
  · rw [if_pos (Int32.not_lt.mp h1), if_neg h1]
    by_cases h2 : nI hi < x
    · rw [if_neg (Int32.not_le.mpr h2), if_pos h2]
    · rw [if_pos (Int32.not_lt.mp h2), if_neg h2]
section RASK
variable {G : Gt} {M : Mm} {e k mi : Nat}
theorem isE_in {m : Nat} {x : Int32} (h : M.1 0 13 = nI m) (hm : m ≤ 5) (hx : ∃ i, i < m ∧ x = nI i) : f_X6_isEater x M = some (1, M) := by
  refine en_eq ?_
  unfold f_X6_isEater
  rw [h]
  refine en_bd' (rin (a := 0) rfl rfl M) ?_
  rw [if_pos ((below_iff (by omega)).mpr hx)]
  exact en_gd (Or.inr rfl) (en_some rfl)
theorem isE_out {m : Nat} {x : Int32} (h : M.1 0 13 = nI m) (hm : m ≤ 5) (hx : ¬ ∃ i, i < m ∧ x = nI i) : f_X6_isEater x M = some (0, M) := by
  refine en_eq ?_
  unfold f_X6_isEater
  rw [h]
  refine en_bd' (rin (a := 0) rfl rfl M) ?_
  rw [if_neg (fun z => hx ((below_iff (by omega)).mp z))]
  exact en_gd (Or.inl rfl) (en_some rfl)
theorem rask {w : Nat} (hG : Gok G) (hA : AR G M) (hw : w < 3) : En (f_X6_read (M.1 0 4) (nI w) M) (fun r => r.1 = tval (yZ G) w (nmR M) ∧ Sm KRt KB M r.2) := by
  obtain ⟨h1, h2, h3, h4, h5, b, n, h6, h7, h8, h9⟩ := hA
  rw [h3]
  refine en_imp (h9 (yR G) w M hG.2.2.2.1 hw h7 h8) ?_
  rintro r ⟨g1, g2, g3⟩
  refine ⟨?_, g1⟩
  unfold tval
  rw [g3 []]
  rfl
/-- with the six names told -/
theorem rask6 {w lo hi : Nat} {x1 x2 x3 x4 x5 x6 : Int32} {M1 M2 M3 M4 M5 M6 : Mm} {α : Type} {P : α → Prop} {K : Int32 → Mm → Option α} (hG : Gok G) (hA : AR G M) (hw : w < 3) (hlo : lo ≤ hi) (hhi : hi < 2 ^ 31)
    (e1 : M1 = ms M 0 15 x1) (e2 : M2 = ms M1 0 16 x2) (e3 : M3 = ms M2 0 17 x3) (e4 : M4 = ms M3 0 18 x4) (e5 : M5 = ms M4 0 19 x5) (e6 : M6 = ms M5 0 20 x6)
    (hgo : ∀ M9, Sm KQ KB M M9 → En (K (nI (cl lo hi (tval (yZ G) w (nml [x1, x2, x3, x4, x5, x6])))) M9) P) :
    En (bd (f_X6_read (M6.1 0 4) (nI w) M6) fun r8 M7 => bd (f_X6_within r8 (nI lo) (nI hi) M7) K) P := by
  have hs : Sm KQ KB M M6 := (((((sm_1 e1 rfl).tr (sm_1 e2 rfl)).tr (sm_1 e3 rfl)).tr (sm_1 e4 rfl)).tr (sm_1 e5 rfl)).tr (sm_1 e6 rfl)
  refine en_bd (en_imp (rask hG (hA.same hs k6_q) hw) ?_)
  rintro ⟨r, M7⟩ ⟨g1, g2⟩
  have g1 : r = tval (yZ G) w (nmR M6) := g1
  have g2 : Sm KRt KB M6 M7 := g2
  refine en_bd' (rwithin_eq hlo hhi r M7) ?_
  have hn : tval (yZ G) w (nmR M6) = tval (yZ G) w (nml [x1, x2, x3, x4, x5, x6]) := by
    refine tval_congr (fun i hi => ?_) w
    unfold nmR
    rcases (by omega : i = 0 ∨ i = 1 ∨ i = 2 ∨ i = 3 ∨ i = 4 ∨ i = 5) with rfl | rfl | rfl | rfl | rfl | rfl
    · show M6.1 0 15 = x1
      rw [ms_off e6 (by omega), ms_off e5 (by omega), ms_off e4 (by omega), ms_off e3 (by omega), ms_off e2 (by omega), ms_at e1]
    · show M6.1 0 16 = x2
      rw [ms_off e6 (by omega), ms_off e5 (by omega), ms_off e4 (by omega), ms_off e3 (by omega), ms_at e2]
    · show M6.1 0 17 = x3
      rw [ms_off e6 (by omega), ms_off e5 (by omega), ms_off e4 (by omega), ms_at e3]
    · show M6.1 0 18 = x4
      rw [ms_off e6 (by omega), ms_off e5 (by omega), ms_at e4]
    · show M6.1 0 19 = x5
      rw [ms_off e6 (by omega), ms_at e5]
    · show M6.1 0 20 = x6
      rw [ms_at e6]
  rw [g1, hn]
  exact hgo M7 (hs.tr (g2.weak kq_rt (fun _ h => h)))
theorem r_takes (hG : Gok G) (hA : AR G M) : En (f_X6_takesOf (nI k) M) (fun r => r.1 = nI (tkz (yZ G) k) ∧ Sm KQ KB M r.2) := by
  unfold f_X6_takesOf
  refine en_bmv fun M1 e1 => en_bmv fun M2 e2 => en_bmv fun M3 e3 => en_bmv fun M4 e4 => en_bmv fun M5 e5 => en_bmv fun M6 e6 => ?_
  exact rask6 (w := 0) (lo := 1) (hi := 20) hG hA (by omega) (by omega) (by omega) e1 e2 e3 e4 e5 e6 fun M9 hs => en_some ⟨rfl, hs⟩
theorem r_worth {st h : Nat} {late : Int32} (hG : Gok G) (hA : AR G M) (he : e < yM G) : En (f_X6_worthOf (nI k) (nI e) (nI st) (nI h) late M) (fun r => r.1 = nI (wvz (yZ G) k st h (yW G e) e late) ∧ Sm KQ KB M r.2) := by
  have hm := hG.2.2.1
  unfold f_X6_worthOf
  refine en_bmv fun M1 e1 => en_bmv fun M2 e2 => en_bmv fun M3 e3 => en_gd (bin_nI (by omega) (by omega)) (en_bmv fun M4 e4 => en_bmv fun M5 e5 => en_bmv fun M6 e6 => ?_)
  have hw : M3.1 6 (Int32.toNatClampNeg (nI e)) = nI (yW G e) := by
    rw [cl_nI (by omega), ms_off e3 (by omega), ms_off e2 (by omega), ms_off e1 (by omega)]
    exact (hA.2.2.2.2.1 e he).2.2.1
  rw [hw] at e4
  exact rask6 (w := 2) (lo := 0) (hi := 99) hG hA (by omega) (by omega) (by omega) e1 e2 e3 e4 e5 e6 fun M9 hs => en_some ⟨rfl, hs⟩
theorem r_hung {h l : Nat} (hG : Gok G) (hA : AR G M) (he : e < yM G) (hh : h < 2 ^ 31) (hl : l < 2 ^ 31) : En (f_X6_hungersOf (nI e) (nI mi) (nI h) (nI l) M) (fun r => r.1 = nI (hunN (yK G e) (yN G e) (hvz (yZ G) e mi h (yW G e)) h l) ∧ Sm KQ KB M r.2) := by
  have hm := hG.2.2.1
  have h2 : ¬ (2 : Int32) = 0 := by decide
  unfold f_X6_hungersOf
  refine en_bmv fun M1 e1 => en_bmv fun M2 e2 => en_bmv fun M3 e3 => en_gd (bin_nI (by omega) (by omega)) (en_bmv fun M4 e4 => en_bmv fun M5 e5 => en_bmv fun M6 e6 => ?_)
  have hw : M3.1 6 (Int32.toNatClampNeg (nI e)) = nI (yW G e) := by
    rw [cl_nI (by omega), ms_off e3 (by omega), ms_off e2 (by omega), ms_off e1 (by omega)]
    exact (hA.2.2.2.2.1 e he).2.2.1
  rw [hw] at e4
  refine rask6 (w := 1) (lo := 0) (hi := 99) hG hA (by omega) (by omega) (by omega) e1 e2 e3 e4 e5 e6 fun M9 hs => ?_
  have hv99 : hvz (yZ G) e mi h (yW G e) ≤ 99 := (cl_in (lo := 0) (hi := 99) (by omega) (by omega) _).2
  show En (gd _ _ _) _
  rw [show nI (cl 0 99 (tval (yZ G) 1 (nml [0, nI mi, nI h, nI (yW G e), nI e, 0]))) = nI (hvz (yZ G) e mi h (yW G e)) from rfl]
  generalize hvz (yZ G) e mi h (yW G e) = v at hv99
  have hA9 := hA.same hs k6_q
  obtain ⟨a4, a5, -, -⟩ := hA9.2.2.2.2.1 e he
  have hg := hG.2.2.2.2.1 e
  refine en_gd (bin_nI (by omega) (by omega)) ?_
  rw [cl_nI (by omega), a4]
  refine en_bi ?_
  have hk5 := hg.1
  have hn9 := hg.2.1
  generalize yK G e = K at hk5
  have kq : ∀ j : Nat, j < 10 → (nI K = nI j ↔ K = j) := fun j hj => nI_eq (by omega) (by omega)
  have j72 : ∀ K', K' ≤ 5 → (K' = 1 ∨ K' = 3) → En (f_X6_hungersOf_j72 (nI e) (nI h) (nI v) (nI K') M9) (fun r => r.1 = nI (hunN K' (yN G e) v h l) ∧ Sm KQ KB M r.2) := by
    intro K' hK hK2
    unfold f_X6_hungersOf_j72
    refine en_gd (bin_nI (by omega) (by omega)) ?_
    rw [cl_nI (by omega), a5, nI_add]
    refine en_bi ?_
    rcases hK2 with rfl | rfl
    · exact en_f (by decide) (en_some ⟨rfl, hs⟩)
    · refine en_t rfl (en_ite (fun q => en_some ⟨?_, hs⟩) (fun q => en_some ⟨?_, hs⟩))
      · have q : nI h = nI 0 := q
        rw [nI_eq hh (by omega)] at q
        rw [show (2 : Int32) * nI (v + yN G e) = nI (2 * (v + yN G e)) from pk_mul 2 _]
        show _ = nI (if h = 0 then _ else _)
        rw [if_pos q]
      · have q : ¬ nI h = nI 0 := q
        rw [nI_eq hh (by omega)] at q
        show _ = nI (if h = 0 then _ else _)
        rw [if_neg q]
  have j115 : ∀ K', (K' = 2 ∨ K' = 4) → En (f_X6_hungersOf_j115 (nI h) (nI l) (nI v) (nI K') M9) (fun r => r.1 = nI (hunN K' (yN G e) v h l) ∧ Sm KQ KB M r.2) := by
    intro K' hK2
    unfold f_X6_hungersOf_j115 f_X6_hungersOf_j127
    refine en_ite (fun q => ?_) (fun q => ?_)
    · rw [nI_leI hh hl] at q
      rcases hK2 with rfl | rfl
      · exact en_f (by decide) (en_some ⟨show nI v = nI (if h ≤ l then v else 0) by rw [if_pos q], hs⟩)
      · refine en_t rfl (en_gd h2 (en_some ⟨?_, hs⟩))
        rw [div2 (by omega)]
        show nI (v / 2) = nI (if h ≤ l then v / 2 else 0)
        rw [if_pos q]
    · rw [nI_leI hh hl] at q
      rcases hK2 with rfl | rfl
      · exact en_f (by decide) (en_some ⟨show nI 0 = nI (if h ≤ l then v else 0) by rw [if_neg q], hs⟩)
      · refine en_t rfl (en_gd h2 (en_some ⟨?_, hs⟩))
        show nI 0 / 2 = nI (if h ≤ l then v / 2 else 0)
        rw [if_neg q]
        rfl
  refine en_ite (fun a => ?_) (fun a => en_ite (fun b => ?_) (fun b => en_ite (fun c => ?_) (fun c => en_ite (fun d => ?_) (fun d => en_ite (fun f => ?_) (fun f => ?_)))))
  · have a := (kq 1 (by omega)).mp a
    subst a
    exact j72 1 (by omega) (Or.inl rfl)
  · have b := (kq 3 (by omega)).mp b
    subst b
    exact j72 3 (by omega) (Or.inr rfl)
  · have c := (kq 2 (by omega)).mp c
    subst c
    exact j115 2 (Or.inl rfl)
  · have d := (kq 4 (by omega)).mp d
    subst d
    exact j115 4 (Or.inr rfl)
  · have f := (kq 5 (by omega)).mp f
    subst f
    refine en_ite (fun q => en_some ⟨?_, hs⟩) (fun q => en_some ⟨?_, hs⟩)
    · have q : nI v ≤ nI 5 := q
      rw [nI_leI (by omega) (by omega)] at q
      show nI v = nI (min 5 v)
      rw [Nat.min_eq_right q]
    · have q : ¬ nI v ≤ nI 5 := q
      rw [nI_leI (by omega) (by omega)] at q
      show nI 5 = nI (min 5 v)
      rw [Nat.min_eq_left (by omega)]
  · have a := (not_congr (kq 1 (by omega))).mp a
    have b := (not_congr (kq 3 (by omega))).mp b
    have c := (not_congr (kq 2 (by omega))).mp c
    have d := (not_congr (kq 4 (by omega))).mp d
    have f := (not_congr (kq 5 (by omega))).mp f
    refine en_some ⟨?_, hs⟩
    unfold hunN
    rw [if_neg a, if_neg c, if_neg b, if_neg d, if_neg f]
theorem rj61 {n : Nat} (hn : n < 2 ^ 31) (M : Mm) : f_X6_eatsOf_j61 (nI n) M = some (nI (max 1 n), M) := by
  unfold f_X6_eatsOf_j61
  by_cases h : 1 ≤ n
  · rw [if_pos (by show nI 1 ≤ nI n; rw [nI_leI (by omega) hn]; exact h), Nat.max_eq_right h]
  · rw [if_neg (by show ¬ nI 1 ≤ nI n; rw [nI_leI (by omega) hn]; exact h), Nat.max_eq_left (by omega)]
    rfl
theorem r_eats {K p : Nat} (he : e < 5) (hK : K ≤ 5) (hp : p ≤ 20) (h4 : M.1 4 e = nI K) (h7 : M.1 7 e = nI p) : f_X6_eatsOf (nI e) M = some (nI (max 1 (eatN K p)), M) := by
  have h2 : ¬ (2 : Int32) = 0 := by decide
  refine en_eq ?_
  unfold f_X6_eatsOf
  refine en_gd (bin_nI he (by omega)) ?_
  rw [cl_nI (by omega), h4]
  refine en_bi (en_gd (bin_nI he (by omega)) ?_)
  rw [h7]
  refine en_bi ?_
  have kq : ∀ j : Nat, j < 10 → (nI K = nI j ↔ K = j) := fun j hj => nI_eq (by omega) (by omega)
  have fin : ∀ {n m : Nat}, n < 2 ^ 31 → max 1 n = m → En (f_X6_eatsOf_j61 (nI n) M) (fun b => b = (nI m, M)) := by
    intro n m hn hm
    rw [rj61 hn, hm]
    exact en_some rfl
  refine en_ite (fun a => ?_) (fun a => en_ite (fun b => ?_) (fun b => en_ite (fun c => ?_) (fun c => en_ite (fun d => ?_) (fun d => ?_))))
  · have a := (kq 1 (by omega)).mp a
    subst a
    refine en_gd h2 ?_
    rw [div2 (by omega)]
    refine fin (by omega) ?_
    show max 1 (p / 2) = max 1 (max 1 (p / 2))
    omega
  · have b := (kq 3 (by omega)).mp b
    subst b
    refine en_gd h2 ?_
    rw [div2 (by omega)]
    show En _ (fun q => q = (nI (max 1 (if 4 ≤ p then p / 2 - 1 else 1)), M))
    by_cases q : 4 ≤ p
    · rw [if_pos q, show nI (p / 2) - 1 = nI (p / 2 - 1) from pk_sub (b := 1) (by omega)]
      exact fin (by omega) rfl
    · rw [if_neg q]
      rcases (by omega : p / 2 = 0 ∨ p / 2 = 1) with h | h
      · rw [h]
        exact en_some rfl
      · rw [h]
        exact en_some rfl
  · have c := (kq 4 (by omega)).mp c
    subst c
    rw [show nI p + 2 = nI (p + 2) from nI_add p 2]
    exact fin (by omega) rfl
  · have d := (kq 5 (by omega)).mp d
    subst d
    rw [show (2 : Int32) * nI p = nI (2 * p) from pk_mul 2 p]
    exact fin (by omega) rfl
  · have a := (not_congr (kq 1 (by omega))).mp a
    have b := (not_congr (kq 3 (by omega))).mp b
    have c := (not_congr (kq 4 (by omega))).mp c
    have d := (not_congr (kq 5 (by omega))).mp d
    refine fin (by omega) ?_
    unfold eatN
    rw [if_neg a, if_neg b, if_neg c, if_neg d]
theorem r_ready {P : Nat} (hG : Gok G) (hA : AR G M) (hP : yP G = P) (hk : k < 100) : En (f_X6_readyOf (nI k) M) (fun r => r.1 = nI (rdN P (tkz (yZ G)) k) ∧ Sm KQ KB M r.2) := by
  have hP12 : P = 1 ∨ P = 2 := by rw [← hP]; exact hG.2.1
  have hrd := rd_le hP12 (fun k => (tkz_in (yZ G) k).2)
  have go : ∀ c0, c0 = k % P → En (f_X6_readyOf_j17 (nI k) 0 (nI c0) M) (fun r => r.1 = nI (rdN P (tkz (yZ G)) k) ∧ Sm KQ KB M r.2) := by
    intro c0 hc0
    unfold f_X6_readyOf_j17
    have hc1 : c0 < P ∧ c0 ≤ k := by rcases hP12 with rfl | rfl <;> omega
    refine en_iter (fun (z : Int32 × Int32 × Mm) => ∃ j, j % P = k % P ∧ j ≤ k + P ∧ z.2.1 = nI j ∧ ((j < P ∧ z.1 = 0) ∨ (P ≤ j ∧ z.1 = nI (rdN P (tkz (yZ G)) (j - P)))) ∧ Sm KQ KB M z.2.2) (fun z => k + 3 - z.2.1.toNatClampNeg) ⟨c0, by rcases hP12 with rfl | rfl <;> omega, by omega, rfl, Or.inl ⟨hc1.1, rfl⟩, Sm.rf⟩ (by have := fuel_gt; omega) ?_
    rintro ⟨x2, x3, M2⟩ ⟨j, hj, hj2, rfl, hx, hs⟩
    have hx : (j < P ∧ x2 = 0) ∨ (P ≤ j ∧ x2 = nI (rdN P (tkz (yZ G)) (j - P))) := hx
    have hs : Sm KQ KB M M2 := hs
    have hA2 : AR G M2 := hA.same hs k6_q
    show En (f_X6_readyOf_b18 (nI k) x2 (nI j) M2) _
    unfold f_X6_readyOf_b18
    refine en_ite (fun q => en_ex (en_some ?_)) (fun q => ?_)
    · rw [nI_ltI (by omega) (by omega)] at q
      have ej : j = k + P := by rcases hP12 with rfl | rfl <;> omega
      subst ej
      refine ⟨?_, hs⟩
      rcases hx with ⟨h, -⟩ | ⟨-, h⟩
      · omega
      · show x2 = _
        rw [h, Nat.add_sub_cancel]
    · rw [nI_ltI (by omega) (by omega)] at q
      refine en_bd (en_imp (r_takes hG hA2 (k := j)) ?_)
      rintro ⟨r, M3⟩ ⟨g1, g2⟩
      have g1 : r = nI (tkz (yZ G) j) := g1
      have g2 : Sm KQ KB M2 M3 := g2
      have h8 : M3.1 0 8 = nI P := by rw [g2.1 0 8 rfl, hA2.2.1, hP]
      rw [g1, h8]
      refine en_bi (en_bi (en_some ⟨⟨j + P, ?_, by omega, nI_add j P, Or.inr ⟨by omega, ?_⟩, hs.tr g2⟩, ?_⟩))
      · rcases hP12 with rfl | rfl <;> omega
      · rw [Nat.add_sub_cancel]
        rcases hx with ⟨h, e⟩ | ⟨h, e⟩
        · rw [rd_lt hP12 h, e]
          exact Int32.zero_add _
        · rw [e, nI_add, rd_ge hP12 h]
      · show k + 3 - (nI j + nI P).toNatClampNeg < k + 3 - (nI j).toNatClampNeg
        rw [nI_add, nI_clamp (by omega), nI_clamp (by omega)]
        rcases hP12 with rfl | rfl <;> omega
  unfold f_X6_readyOf
  rw [hA.2.1, hP]
  refine en_ite (fun q => en_gd (by decide) ?_) (fun q => ?_)
  · have q : nI P = nI 2 := q
    rw [nI_eq (by omega) (by omega)] at q
    subst q
    rw [show irm (nI k) 2 = nI (k % 2) from irm_nI (b := 2) (by omega) (by omega) (by omega)]
    exact go _ rfl
  · have q : ¬ nI P = nI 2 := q
    rw [nI_eq (by omega) (by omega)] at q
    have e1 : P = 1 := by omega
    subst e1
    exact go 0 (by omega)
end RASK
