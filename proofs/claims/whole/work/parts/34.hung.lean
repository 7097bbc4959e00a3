/-! ===== the class: eating, hunger and worth ===== -/
theorem imx_nI {a b : Nat} (ha : a < 2 ^ 31) (hb : b < 2 ^ 31) : imx (nI a) (nI b) = nI (max a b) := by
  unfold imx
  by_cases h : nI a < nI b
  · rw [if_pos h]
    rw [nI_ltI ha hb] at h
    rw [Nat.max_eq_right (by omega)]
  · rw [if_neg h]
    rw [nI_ltI ha hb] at h
    rw [Nat.max_eq_left (by omega)]
theorem imn_nI {a b : Nat} (ha : a < 2 ^ 31) (hb : b < 2 ^ 31) : imn (nI a) (nI b) = nI (min a b) := by
  unfold imn
  by_cases h : nI b < nI a
  · rw [if_pos h]
    rw [nI_ltI hb ha] at h
    rw [Nat.min_eq_right (by omega)]
  · rw [if_neg h]
    rw [nI_ltI hb ha] at h
    rw [Nat.min_eq_left (by omega)]
theorem within_eq {lo hi : Nat} (h : lo ≤ hi) (hh : hi < 2 ^ 31) (x : Int32) (M : Mm) : f_X2_within (nI lo) x (nI hi) M = some (nI (cl lo hi x), M) := by
  unfold f_X2_within imx imn
  rw [cl_val h hh]
  have hle : nI lo ≤ nI hi := (nI_leI (by omega) hh).mpr h
  by_cases h1 : nI hi < x
  · have h2 : ¬ x < nI lo := fun z => by
      rw [Int32.lt_iff_toInt_lt] at h1 z
      rw [Int32.le_iff_toInt_le] at hle
      omega
    rw [if_pos h1, if_neg h2]
    split
    · rfl
    · next h3 =>
      have : nI lo = nI hi := by
        have h4 : hi ≤ lo := by rw [nI_ltI (by omega) hh] at h3; omega
        rw [show hi = lo by omega]
      rw [this]
  · rw [if_neg h1]
    by_cases h2 : nI lo < x
    · have h3 : ¬ x < nI lo := fun z => by
        rw [Int32.lt_iff_toInt_lt] at h2 z
        omega
      rw [if_pos h2, if_neg h3]
    · rw [if_neg h2]
      by_cases h3 : x < nI lo
      · rw [if_pos h3]
      · have : x = nI lo := by
          rw [Int32.lt_iff_toInt_lt] at h2 h3
          rw [← Int32.toInt_inj]
          omega
        rw [if_neg h3, this]
theorem div2 {a : Nat} (ha : a < 2 ^ 31) : nI a / 2 = nI (a / 2) := pk_div (d := 2) ha (by omega) (by omega)
theorem en_swy {α : Type} {x c : Int32} {t d : Option α} {r : List (Int32 × Option α)} {P : α → Prop} (h : x = c) (k : En t P) : En (swc x ((c, t) :: r) d) P := by
  unfold swc
  rw [if_pos h]; exact k
theorem en_swn {α : Type} {x c : Int32} {t d : Option α} {r : List (Int32 × Option α)} {P : α → Prop} (h : x ≠ c) (k : En (swc x r d) P) : En (swc x ((c, t) :: r) d) P := by
  unfold swc
  rw [if_neg h]; exact k
theorem en_sw {α : Type} {x c : Int32} {t d : Option α} {r : List (Int32 × Option α)} {P : α → Prop} (h : x = c → En t P) (k : x ≠ c → En (swc x r d) P) : En (swc x ((c, t) :: r) d) P := by
  by_cases q : x = c
  · exact en_swy q (h q)
  · exact en_swn q (k q)
theorem en_swd {α : Type} {x : Int32} {d : Option α} {P : α → Prop} (k : En d P) : En (swc x [] d) P := k
theorem eatsOf_any (x p : Int32) (M : Mm) : ∃ r, f_X5_eatsOf x p M = some (r, M) := by
  have h2 : ¬ (2 : Int32) = 0 := by decide
  have : En (f_X5_eatsOf x p M) (fun q => q.2 = M) := by
    unfold f_X5_eatsOf f_X5_eatsOf_j66
    exact en_bi (en_sw (fun _ => en_gd h2 (en_bi (en_some rfl))) fun _ => en_sw (fun _ => en_some rfl) fun _ => en_sw (fun _ => en_gd h2 (en_bi (en_some rfl))) fun _ => en_sw (fun _ => en_bi (en_some rfl)) fun _ => en_sw (fun _ => en_bi (en_some rfl)) fun _ => en_swd (en_some rfl))
  obtain ⟨⟨r, M'⟩, e, h⟩ := this
  have h : M' = M := h
  subst h
  exact ⟨r, e⟩
theorem gd_t {α : Type} {c : Prop} {h : Decidable c} {t : Option α} (hc : c) : gd c h t = t := if_pos hc
theorem eatsOf_eq {k p : Nat} (hk : k ≤ 5) (hp : p ≤ 20) (M : Mm) : f_X5_eatsOf (nI k) (nI p) M = some (nI (max 1 (eatN k p)), M) := by
  have h2 : ¬ (2 : Int32) = 0 := by decide
  have e1 : ∀ {n m : Nat}, n < 2 ^ 31 → max 1 n = m → (imx 1 (nI n), M) = (nI m, M) := fun h e => by rw [show imx 1 (nI _) = nI (max 1 _) from imx_nI (a := 1) (by omega) h, e]
  refine en_eq ?_
  unfold f_X5_eatsOf f_X5_eatsOf_j66
  refine en_bi ?_
  rcases (by omega : k = 0 ∨ k = 1 ∨ k = 2 ∨ k = 3 ∨ k = 4 ∨ k = 5) with rfl | rfl | rfl | rfl | rfl | rfl
  · exact en_swn (by decide) (en_swn (by decide) (en_swn (by decide) (en_swn (by decide) (en_swn (by decide) (en_swd (en_some (e1 (by omega) rfl)))))))
  · refine en_swy rfl (en_gd h2 (en_bi (en_some ?_)))
    rw [div2 (by omega)]
    refine e1 (by omega) ?_
    show max 1 (p / 2) = max 1 (max 1 (p / 2))
    omega
  · exact en_swn (by decide) (en_swy rfl (en_some (e1 (by omega) rfl)))
  · refine en_swn (by decide) (en_swn (by decide) (en_swy rfl (en_gd h2 (en_bi (en_some ?_)))))
    rw [div2 (by omega)]
    show _ = (nI (max 1 (if 4 ≤ p then p / 2 - 1 else 1)), M)
    by_cases h4 : 4 ≤ p
    · rw [if_pos h4, show nI (p / 2) - 1 = nI (p / 2 - 1) from pk_sub (b := 1) (by omega)]
      exact e1 (by omega) rfl
    · rw [if_neg h4]
      rcases (by omega : p / 2 = 0 ∨ p / 2 = 1) with h | h <;> rw [h] <;> rfl
  · refine en_swn (by decide) (en_swn (by decide) (en_swn (by decide) (en_swy rfl (en_bi (en_some ?_)))))
    rw [show nI p + 2 = nI (p + 2) from nI_add p 2]
    exact e1 (by omega) rfl
  · refine en_swn (by decide) (en_swn (by decide) (en_swn (by decide) (en_swn (by decide) (en_swy rfl (en_bi (en_some ?_))))))
    rw [show nI p * 2 = nI (p * 2) from pk_mul p 2]
    refine e1 (by omega) ?_
    show max 1 (p * 2) = max 1 (2 * p)
    rw [Nat.mul_comm]
theorem hungersOf_eq {k u v h l : Nat} (hk : k ≤ 5) (hu : u ≤ 9) (hv : v ≤ 99) (hh : h < 2 ^ 31) (hl : l < 2 ^ 31) (M : Mm) : f_X5_hungersOf (nI k) (nI u) (nI v) (nI h) (nI l) M = some (nI (hunN k u v h l), M) := by
  have h2 : ¬ (2 : Int32) = 0 := by decide
  have e1 : ∀ {n m : Nat}, n < 2 ^ 31 → n = m → (imx 0 (nI n), M) = (nI m, M) := fun {n m} h e => by
    rw [show (0 : Int32) = nI 0 from rfl, imx_nI (by omega) h, show max 0 n = n by omega, e]
  refine en_eq ?_
  unfold f_X5_hungersOf f_X5_hungersOf_j59 f_X5_hungersOf_j79 f_X5_hungersOf_j97 f_X5_hungersOf_j112
  refine en_bi ?_
  rcases (by omega : k = 0 ∨ k = 1 ∨ k = 2 ∨ k = 3 ∨ k = 4 ∨ k = 5) with rfl | rfl | rfl | rfl | rfl | rfl
  · exact en_swn (by decide) (en_swn (by decide) (en_swn (by decide) (en_swn (by decide) (en_swn (by decide) (en_swd (en_some (e1 (by omega) rfl)))))))
  · refine en_swy rfl (en_bi (en_some ?_))
    rw [nI_add]
    exact e1 (by omega) (Nat.add_comm u v)
  · refine en_swn (by decide) (en_swy rfl (en_ite (fun q => en_some ?_) (fun q => en_some ?_)))
    · rw [nI_leI hh hl] at q
      exact e1 (by omega) (show v = if h ≤ l then v else 0 from (if_pos q).symm)
    · rw [nI_leI hh hl] at q
      exact e1 (n := 0) (by omega) (show 0 = if h ≤ l then v else 0 from (if_neg q).symm)
  · refine en_swn (by decide) (en_swn (by decide) (en_swy rfl (en_ite (fun q => en_some ?_) (fun q => en_some ?_))))
    · have q : nI h = nI 0 := q
      rw [nI_eq hh (by omega)] at q
      rw [nI_add, show (2 : Int32) * nI (u + v) = nI (2 * (u + v)) from pk_mul 2 _]
      refine e1 (by omega) (show _ = if h = 0 then 2 * (v + u) else v + u from ?_)
      rw [if_pos q, Nat.add_comm u v]
    · have q : ¬ nI h = nI 0 := q
      rw [nI_eq hh (by omega)] at q
      rw [nI_add]
      refine e1 (by omega) (show _ = if h = 0 then 2 * (v + u) else v + u from ?_)
      rw [if_neg q, Nat.add_comm u v]
  · refine en_swn (by decide) (en_swn (by decide) (en_swn (by decide) (en_swy rfl (en_ite (fun q => en_gd h2 (en_some ?_)) (fun q => en_some ?_)))))
    · rw [nI_leI hh hl] at q
      rw [div2 (by omega)]
      exact e1 (by omega) (show v / 2 = if h ≤ l then v / 2 else 0 from (if_pos q).symm)
    · rw [nI_leI hh hl] at q
      exact e1 (n := 0) (by omega) (show 0 = if h ≤ l then v / 2 else 0 from (if_neg q).symm)
  · refine en_swn (by decide) (en_swn (by decide) (en_swn (by decide) (en_swn (by decide) (en_swy rfl (en_bi (en_some ?_))))))
    rw [show imn 5 (nI v) = nI (min 5 v) from imn_nI (a := 5) (by omega) (by omega)]
    exact e1 (by omega) rfl
/-! the table, as a ghost: cakes, pans, eaters, rule; kind, number, want, pace; the rule's text -/
abbrev Gt : Type := (Nat × Nat × Nat × Nat) × ((Nat → Nat) × (Nat → Nat) × (Nat → Nat) × (Nat → Nat)) × Txt
def yB (G : Gt) : Nat := G.1.1
def yP (G : Gt) : Nat := G.1.2.1
def yM (G : Gt) : Nat := G.1.2.2.1
def yR (G : Gt) : Nat := G.1.2.2.2
def yK (G : Gt) : Nat → Nat := G.2.1.1
def yN (G : Gt) : Nat → Nat := G.2.1.2.1
def yW (G : Gt) : Nat → Nat := G.2.1.2.2.1
def yA (G : Gt) : Nat → Nat := G.2.1.2.2.2
def yZ (G : Gt) : Txt := G.2.2
def Gok (G : Gt) : Prop := yB G ≤ 12 ∧ (yP G = 1 ∨ yP G = 2) ∧ yM G ≤ 5 ∧ yR G < 6 ∧ (∀ e, yK G e ≤ 5 ∧ yN G e ≤ 9 ∧ yW G e ≤ 12 ∧ yA G e ≤ 20) ∧ Wf (yZ G)
/-- the class holds the table G -/
def AC (G : Gt) (M : Mm) : Prop := M.1 1 0 = nI (yB G) ∧ M.1 1 1 = nI (yP G) ∧ M.1 1 2 = nI (yR G) ∧ M.1 1 3 = nI (yM G) ∧ (∀ e, e < yM G → M.1 7 e = nI (yK G e) ∧ M.1 8 e = nI (yN G e) ∧ M.1 9 e = nI (yW G e) ∧ M.1 10 e = nI (yA G e)) ∧ TXc (yR G) (yZ G) M
def K7 : Nat → Nat → Bool := fun o _ => o == 1 || (o == 7 || (o == 8 || (o == 9 || (o == 10 || (o == 18 || o == 19)))))
theorem AC.same {G : Gt} {M M1 : Mm} {KL : Nat → Bool} (h : AC G M) (hs : Sm K7 KL M M1) : AC G M1 := by
  obtain ⟨h1, h2, h3, h4, h5, h6, h7, h8, h9, h10⟩ := h
  refine ⟨by rw [hs.1 1 0 rfl, h1], by rw [hs.1 1 1 rfl, h2], by rw [hs.1 1 2 rfl, h3], by rw [hs.1 1 3 rfl, h4], fun e he => ?_, h6, fun i hi => by rw [hs.1 18 _ rfl, h7 i hi], by rw [hs.1 19 _ rfl, h8], by rw [hs.1 19 _ rfl, h9], by rw [hs.1 19 _ rfl, h10]⟩
  obtain ⟨a, b, c, d⟩ := h5 e he
  exact ⟨by rw [hs.1 7 e rfl, a], by rw [hs.1 8 e rfl, b], by rw [hs.1 9 e rfl, c], by rw [hs.1 10 e rfl, d]⟩
def KW : Nat → Nat → Bool := fun o _ => !(o == 20) && !(o == 21)
theorem kw_7 : ∀ o k, K7 o k = true → KW o k = true := by
  intro o k h
  unfold K7 at h
  unfold KW
  simp at h ⊢
  omega
section HUNG
variable {G : Gt} {M : Mm}
theorem name_en {x1 x2 x3 x4 x5 x6 : Int32} {P : Mm → Prop} (h : ∀ M1, Sm KW KA M M1 → nmC M1 0 = x1 → nmC M1 1 = x2 → nmC M1 2 = x3 → nmC M1 3 = x4 → nmC M1 4 = x5 → nmC M1 5 = x6 → P M1) : En (f_X4_name x1 x2 x3 x4 x5 x6 M) P := by
  unfold f_X4_name
  refine en_gd (by decide) (en_bmv fun M1 e1 => en_gd (by decide) (en_bmv fun M2 e2 => en_gd (by decide) (en_bmv fun M3 e3 => en_gd (by decide) (en_bmv fun M4 e4 => en_gd (by decide) (en_bmv fun M5 e5 => en_gd (by decide) (en_bmv fun M6 e6 => en_some (h M6 ?_ ?_ ?_ ?_ ?_ ?_ ?_)))))))
  · exact ((((((sm_1 e1 rfl).tr (sm_1 e2 rfl)).tr (sm_1 e3 rfl)).tr (sm_1 e4 rfl)).tr (sm_1 e5 rfl)).tr (sm_1 e6 rfl))
  all_goals
    unfold nmC
    first
      | exact ms_at e6
      | (rw [ms_off e6 (by decide)]; first
          | exact ms_at e5
          | (rw [ms_off e5 (by decide)]; first
              | exact ms_at e4
              | (rw [ms_off e4 (by decide)]; first
                  | exact ms_at e3
                  | (rw [ms_off e3 (by decide)]; first
                      | exact ms_at e2
                      | (rw [ms_off e2 (by decide)]; exact ms_at e1)))))
/-- the class asks the rule's text -/
theorem ask_ok {x1 x2 x3 x4 x5 x6 : Int32} {w lo hi : Nat} (hG : Gok G) (hA : AC G M) (hw : w < 3) (hlo : lo ≤ hi) (hhi : hi < 2 ^ 31) :
    En (f_X4_name x1 x2 x3 x4 x5 x6 M) (fun M4 => Sm KW KA M M4 ∧ En (f_X4_valueOf (M4.1 1 2) (nI w) M4) (fun r => Sm KW KA M r.2 ∧ f_X2_within (nI lo) r.1 (nI hi) r.2 = some (nI (cl lo hi (tval (yZ G) w (nml [x1, x2, x3, x4, x5, x6]))), r.2))) := by
  refine name_en fun M1 hs n1 n2 n3 n4 n5 n6 => ⟨hs, ?_⟩
  have hA1 := hA.same (hs.weak kw_7 (fun _ h => h))
  have hnm : ∀ i, i < 6 → nmC M1 i = nml [x1, x2, x3, x4, x5, x6] i := by
    intro i hi
    rcases (by omega : i = 0 ∨ i = 1 ∨ i = 2 ∨ i = 3 ∨ i = 4 ∨ i = 5) with rfl | rfl | rfl | rfl | rfl | rfl <;> assumption
  rw [hA1.2.2.1]
  refine en_imp (valueOf_ok hG.2.2.2.1 hw hA1.2.2.2.2.2 (v := tval (yZ G) w (nml [x1, x2, x3, x4, x5, x6])) ?_) ?_
  · rw [run_congr hnm]
    exact wf_tval hG.2.2.2.2.2 _ hw []
  · rintro ⟨r, M2⟩ ⟨g1, g2⟩
    refine ⟨hs.tr (g2.weak (fun o k h => ?_) (fun _ h => h)), ?_⟩
    · unfold KW at h
      unfold KV
      simp at h ⊢
      exact h.2
    · have g1 : r = tval (yZ G) w (nml [x1, x2, x3, x4, x5, x6]) := g1
      show f_X2_within (nI lo) r (nI hi) M2 = _
      rw [g1]
      exact within_eq hlo hhi _ _
end HUNG
