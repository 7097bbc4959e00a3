/-! ===== the class lays the table: ready, served, eating ===== -/
def mxR (rd : Nat → Nat) (a : Nat) : Nat → Nat
  | 0 => 0
  | n + 1 => max (mxR rd a n) (rd (a + n))
/-- when cake k is served, of heaps of c -/
def svN (B c : Nat) (rd : Nat → Nat) (k : Nat) : Nat := mxR rd (k - k % c) (min c (B - (k - k % c)))
def eaN (G : Gt) (e : Nat) : Nat := max 1 (eatN (yK G e) (yA G e))
def tbl (G : Gt) (P a : Nat) (ea sv : Nat → Nat) : Tb := ((yB G, yM G, a), (yW G, ea, rdN P (tkz (yZ G)), sv), (fun e mi h l => hunN (yK G e) (yN G e) (hvz (yZ G) e mi h (yW G e)) h l), (fun k st h e late => wvz (yZ G) k st h (yW G e) e late))
def KSc : Nat → Nat → Bool := fun o _ => !(o == 6 || (o == 20 || (o == 21 || (o == 25 || (o == 26 || (o == 28 || (o == 29 || (o == 30 || (o == 31 || o == 32)))))))))
def KSl : Nat → Bool := fun o => !(o == 6)
theorem k7_sc : ∀ o k, K7 o k = true → KSc o k = true := by
  intro o k h
  unfold K7 at h
  unfold KSc
  simp at h ⊢
  omega
theorem kw_sc : ∀ o k, KSc o k = true → KW o k = true := by
  intro o k h
  unfold KSc at h
  unfold KW
  simp at h ⊢
  omega
theorem kx_sc : ∀ o k, KSc o k = true → KX o k = true := by
  intro o k h
  unfold KSc at h
  unfold KX
  simp at h ⊢
  omega
section LAY
variable {G : Gt} {M M1 : Mm} {P c k : Nat}
theorem rd_lt {tk : Nat → Nat} (hP : P = 1 ∨ P = 2) (h : k < P) : rdN P tk k = tk k := by
  unfold rdN
  rcases hP with rfl | rfl
  · rw [if_neg (by decide), show k = 0 by omega]; rfl
  · rw [if_pos rfl]
    rcases (by omega : k = 0 ∨ k = 1) with rfl | rfl <;> rfl
theorem rd_ge {tk : Nat → Nat} (hP : P = 1 ∨ P = 2) (h : P ≤ k) : rdN P tk k = rdN P tk (k - P) + tk k := by
  unfold rdN
  rcases hP with rfl | rfl
  · rw [if_neg (by decide), if_neg (by decide)]
    obtain ⟨j, rfl⟩ : ∃ j, k = j + 1 := ⟨k - 1, by omega⟩
    rfl
  · rw [if_pos rfl, if_pos rfl]
    obtain ⟨j, rfl⟩ : ∃ j, k = j + 2 := ⟨k - 2, by omega⟩
    rfl
theorem rd_le {tk : Nat → Nat} (hP : P = 1 ∨ P = 2) (ht : ∀ k, tk k ≤ 20) : ∀ k, rdN P tk k ≤ 20 * (k + 1) := by
  intro k
  induction k using Nat.strongRecOn with
  | ind k ih =>
    rcases Nat.lt_or_ge k P with q | q
    · rw [rd_lt hP q]; have := ht k; omega
    · rw [rd_ge hP q]
      have := ih (k - P) (by omega)
      have := ht k
      omega
theorem tkz_in (z : Txt) (k : Nat) : 1 ≤ tkz z k ∧ tkz z k ≤ 20 := cl_in (lo := 1) (hi := 20) (by omega) (by omega) _
theorem mx_le {rd : Nat → Nat} {a b : Nat} : ∀ n, (∀ i, i < a + n → rd i ≤ b) → mxR rd a n ≤ b
  | 0, _ => Nat.zero_le _
  | n + 1, h => by
    have h1 := mx_le (rd := rd) (a := a) (b := b) n (fun i hi => h i (by omega))
    have h2 := h (a + n) (by omega)
    unfold mxR
    omega
theorem sv_le {rd : Nat → Nat} {B b : Nat} (hk : k < B) (h : ∀ i, i < B → rd i ≤ b) : svN B c rd k ≤ b := by
  have : k - k % c ≤ k := Nat.sub_le _ _
  exact mx_le _ (fun i hi => h i (by omega))
theorem sv_1 {rd : Nat → Nat} {B : Nat} (hk : k < B) : svN B 1 rd k = rd k := by
  unfold svN
  rw [Nat.mod_one, Nat.sub_zero, Nat.min_eq_left (by omega)]
  show max 0 (rd (k + 0)) = rd k
  rw [Nat.add_zero, Nat.zero_max]
theorem tgh_tbl {a : Nat} {ea sv : Nat → Nat} (hP : P = 1 ∨ P = 2) (hea : ∀ e, ea e ≤ 100) (hsv : ∀ k, k < 12 → sv k ≤ 1000) : Tgh G (tbl G P a ea sv) := by
  refine ⟨rfl, rfl, rfl, fun _ _ _ _ => rfl, fun _ _ _ _ _ => rfl, hea, hsv, fun k hk => ?_⟩
  have := rd_le hP (fun k => (tkz_in (yZ G) k).2) k
  show rdN P (tkz (yZ G)) k ≤ 1000
  omega
/-- heaps of c -/
theorem heap_ok {B : Nat} {rd : Nat → Nat} (hB : B ≤ 12) (h0 : M.1 1 0 = nI B) (hr : ∀ k, k < 12 → M.1 25 k = nI (rd k) ∧ rd k ≤ 1000) (hc : 0 < c) (hc2 : c ≤ 12) : En (f_X2_heapUp (nI c) M) (fun M1 => Sm (fun o _ => !(o == 26)) KSl M M1 ∧ (∀ k, k < B → M1.1 26 k = nI (svN B c rd k)) ∧ ∀ i, i < 60 → (mbit (M1.2 6) i = true ↔ ∃ k, k < B ∧ svN B c rd k = i)) := by
  unfold f_X2_heapUp
  rw [show imx 1 (nI c) = nI (max 1 c) from imx_nI (a := 1) (by omega) (by omega), Nat.max_eq_right (by omega)]
  refine en_bi (en_bmv fun M2 e2 => ?_)
  refine en_iter (fun (z : Int32 × Mm) => ∃ k, k ≤ B ∧ z.1 = nI k ∧ Sm (fun o _ => !(o == 26)) KSl M z.2 ∧ (∀ j, j < k → z.2.1 26 j = nI (svN B c rd j)) ∧ ∀ i, i < 60 → (mbit (z.2.2 6) i = true ↔ ∃ j, j < k ∧ svN B c rd j = i)) (fun z => 13 - z.1.toNatClampNeg) ⟨0, by omega, rfl, sml_1 e2 rfl, fun j hj => by omega, fun i hi => ?_⟩ (by have := fuel_gt; omega) ?_
  · show mbit (M2.2 6) i = true ↔ _
    rw [ml_at e2, mbit_0]
    exact ⟨fun z => (by cases z), fun ⟨j, hj, _⟩ => (by omega)⟩
  rintro ⟨x3, M3⟩ ⟨k, hk, rfl, hs, hsv, hmb⟩
  have hs : Sm (fun o _ => !(o == 26)) KSl M M3 := hs
  have hsv : ∀ j, j < k → M3.1 26 j = nI (svN B c rd j) := hsv
  have hmb : ∀ i, i < 60 → (mbit (M3.2 6) i = true ↔ ∃ j, j < k ∧ svN B c rd j = i) := hmb
  show En (f_X2_heapUp_b13 (nI c) (nI k) M3) _
  have h03 : M3.1 1 0 = nI B := by rw [hs.1 1 0 rfl, h0]
  unfold f_X2_heapUp_b13
  refine en_ite (fun q => en_ex (en_some ?_)) (fun q => en_ite (fun q2 => en_ex (en_some ?_)) (fun q2 => ?_))
  · have q : nI 12 ≤ nI k := q
    rw [nI_leI (by omega) (by omega)] at q
    have e : k = B := by omega
    subst e
    exact ⟨hs, hsv, hmb⟩
  · rw [h03, nI_leI (by omega) (by omega)] at q2
    have e : k = B := by omega
    subst e
    exact ⟨hs, hsv, hmb⟩
  · have q : ¬ nI 12 ≤ nI k := q
    rw [nI_leI (by omega) (by omega)] at q
    rw [h03, nI_leI (by omega) (by omega)] at q2
    have hkB : k < B := by omega
    refine en_gd (nI_ne0 hc (by omega)) ?_
    rw [irm_nI (by omega) hc (by omega), pk_sub (Nat.mod_le k c)]
    have hj0 : k - k % c ≤ k := Nat.sub_le _ _
    have hjc : k < (k - k % c) + c := by have := Nat.mod_lt k hc; omega
    generalize hj : k - k % c = j0 at hj0 hjc
    refine en_bi ?_
    have hsvk : svN B c rd k = mxR rd j0 (min c (B - j0)) := by unfold svN; rw [hj]
    have hle : svN B c rd k ≤ 1000 := sv_le hkB (fun i hi => (hr i (by omega)).2)
    refine en_iter (fun (z : Int32 × Int32 × Mm) => ∃ n, n ≤ min c (B - j0) ∧ z.1 = nI (mxR rd j0 n) ∧ z.2.1 = nI (j0 + n) ∧ z.2.2 = M3) (fun z => 30 - z.2.1.toNatClampNeg) ⟨0, by omega, rfl, rfl, rfl⟩ (by have := fuel_gt; omega) ?_
    rintro ⟨x4, x6, M'⟩ ⟨n, hn, rfl, rfl, hM⟩
    have hM : M' = M3 := hM
    have hM := hM.symm
    subst hM
    show En (f_X2_heapUp_b44 (nI c) (nI k) _ (nI j0) _ M3) _
    have hmx : ∀ n, j0 + n ≤ B → mxR rd j0 n ≤ 1000 := fun n hn => mx_le (rd := rd) (a := j0) (b := 1000) n (fun i hi => (hr i (by omega)).2)
    have fin : n = min c (B - j0) → En (f_X2_heapUp_j92 (nI c) (nI k) (nI (mxR rd j0 n)) M3) (fun y => Lp (fun (z : Int32 × Mm) => ∃ k, k ≤ B ∧ z.1 = nI k ∧ Sm (fun o _ => !(o == 26)) KSl M z.2 ∧ (∀ j, j < k → z.2.1 26 j = nI (svN B c rd j)) ∧ ∀ i, i < 60 → (mbit (z.2.2 6) i = true ↔ ∃ j, j < k ∧ svN B c rd j = i)) (fun z => 13 - z.1.toNatClampNeg) (nI k, M3) (fun M1 => Sm (fun o _ => !(o == 26)) KSl M M1 ∧ (∀ k, k < B → M1.1 26 k = nI (svN B c rd k)) ∧ ∀ i, i < 60 → (mbit (M1.2 6) i = true ↔ ∃ k, k < B ∧ svN B c rd k = i)) y) := by
      intro hne
      rw [hne, ← hsvk]
      unfold f_X2_heapUp_j92
      refine en_gd (bin_nI (by omega) (by omega)) (en_bmv fun M4 e4 => ?_)
      rw [cl_nI (by omega)] at e4
      have f26 : ∀ j, j < k + 1 → M4.1 26 j = nI (svN B c rd j) := by
        intro j hj
        by_cases q : j = k
        · subst q; exact ms_at e4
        · rw [ms_off e4 (by omega)]; exact hsv j (by omega)
      have hnx : 13 - (nI k + 1).toNatClampNeg < 13 - (nI k).toNatClampNeg := by
        rw [show nI k + 1 = nI (k + 1) from nI_add k 1, nI_clamp (by omega), nI_clamp (by omega)]
        omega
      have hs4 : Sm (fun o _ => !(o == 26)) KSl M M4 := hs.tr (sm_1 e4 rfl)
      refine en_ite (fun h60 => ?_) (fun h60 => ?_)
      · have h60 : nI 60 ≤ nI (svN B c rd k) := h60
        rw [nI_leI (by omega) (by omega)] at h60
        refine en_bi (en_some ⟨⟨k + 1, by omega, nI_add k 1, hs4, f26, fun i hi => ?_⟩, hnx⟩)
        show mbit (M4.2 6) i = true ↔ _
        rw [ms_offl e4, hmb i hi]
        constructor
        · rintro ⟨j, h1, h2⟩; exact ⟨j, by omega, h2⟩
        · rintro ⟨j, h1, h2⟩
          refine ⟨j, ?_, h2⟩
          rcases Nat.lt_or_ge j k with q | q
          · exact q
          · have : j = k := by omega
            subst this; omega
      · have h60 : ¬ nI 60 ≤ nI (svN B c rd k) := h60
        rw [nI_leI (by omega) (by omega)] at h60
        refine en_bmv fun M6 e6 => en_bi (en_some ⟨⟨k + 1, by omega, nI_add k 1, hs4.tr (sml_1 e6 rfl), fun j hj => by rw [ml_off e6]; exact f26 j hj, fun i hi => ?_⟩, hnx⟩)
        show mbit (M6.2 6) i = true ↔ _
        rw [ml_at e6, ms_offl e4, mbit_or (by omega)]
        simp only [Bool.or_eq_true, decide_eq_true_eq]
        rw [hmb i hi]
        constructor
        · rintro (⟨j, h1, h2⟩ | h)
          · exact ⟨j, by omega, h2⟩
          · exact ⟨k, by omega, h.symm⟩
        · rintro ⟨j, h1, h2⟩
          rcases Nat.lt_or_ge j k with q | q
          · exact Or.inl ⟨j, q, h2⟩
          · have : j = k := by omega
            subst this
            exact Or.inr h2.symm
    unfold f_X2_heapUp_b44
    rw [nI_add]
    refine en_ite (fun a1 => en_ex (fin ?_)) (fun a1 => en_ite (fun a2 => en_ex (fin ?_)) (fun a2 => en_ite (fun a3 => en_ex (fin ?_)) (fun a3 => ?_)))
    · rw [nI_leI (by omega) (by omega)] at a1; omega
    · have a2 : nI 12 ≤ nI (j0 + n) := a2
      rw [nI_leI (by omega) (by omega)] at a2; omega
    · rw [h03, nI_leI (by omega) (by omega)] at a3; omega
    · rw [nI_leI (by omega) (by omega)] at a1
      have a2 : ¬ nI 12 ≤ nI (j0 + n) := a2
      rw [nI_leI (by omega) (by omega)] at a2
      rw [h03, nI_leI (by omega) (by omega)] at a3
      refine en_gd (bin_nI (by omega) (by omega)) ?_
      have h1 := hmx n (by omega)
      have h2 := (hr (j0 + n) (by omega)).2
      rw [cl_nI (by omega), hs.1 25 _ rfl, (hr (j0 + n) (by omega)).1, imx_nI (by omega) (by omega)]
      refine en_bi (en_bi (en_some ⟨⟨n + 1, by omega, rfl, nI_add (j0 + n) 1, rfl⟩, ?_⟩))
      show 30 - (nI (j0 + n) + 1).toNatClampNeg < 30 - (nI (j0 + n)).toNatClampNeg
      rw [show nI (j0 + n) + 1 = nI (j0 + n + 1) from nI_add _ 1, nI_clamp (by omega), nI_clamp (by omega)]
      omega
/-- the baking -/
theorem bake_ok (hG : Gok G) (hA : AC G M) (hP : P = 1 ∨ P = 2) : En (f_X2_bake (nI P) M) (fun M1 => Sm KSc KSl M M1 ∧ (∀ k, k < 12 → M1.1 25 k = nI (rdN P (tkz (yZ G)) k)) ∧ (∀ k, k < yB G → M1.1 26 k = nI (rdN P (tkz (yZ G)) k)) ∧ ∀ i, i < 60 → (mbit (M1.2 6) i = true ↔ ∃ k, k < yB G ∧ rdN P (tkz (yZ G)) k = i)) := by
  have hrd := rd_le hP (fun k => (tkz_in (yZ G) k).2)
  unfold f_X2_bake
  refine en_iter (fun (z : Int32 × Mm) => ∃ k, k ≤ 12 ∧ z.1 = nI k ∧ Sm KSc KSl M z.2 ∧ ∀ j, j < k → z.2.1 25 j = nI (rdN P (tkz (yZ G)) j)) (fun z => 13 - z.1.toNatClampNeg) ⟨0, by omega, rfl, Sm.rf, fun j hj => by omega⟩ (by have := fuel_gt; omega) ?_
  rintro ⟨x2, M2⟩ ⟨k, hk, rfl, hs, hj⟩
  have hs : Sm KSc KSl M M2 := hs
  have hj : ∀ j, j < k → M2.1 25 j = nI (rdN P (tkz (yZ G)) j) := hj
  have hA2 : AC G M2 := hA.same (hs.weak k7_sc (fun _ z => z))
  show En (f_X2_bake_b2 (nI P) (nI k) M2) _
  unfold f_X2_bake_b2
  refine en_ite (fun q => en_ex (en_bv ?_)) (fun q => ?_)
  · have q : nI 12 ≤ nI k := q
    rw [nI_leI (by omega) (by omega)] at q
    have e : k = 12 := by omega
    subst e
    refine en_imp (heap_ok (c := 1) (rd := rdN P (tkz (yZ G))) hG.1 hA2.1 (fun k hk => ⟨hj k hk, by have := hrd k; omega⟩) (by omega) (by omega)) ?_
    rintro M3 ⟨g1, g2, g3⟩
    refine en_some ⟨hs.tr (g1.weak (fun o k h => ?_) (fun _ h => h)), fun k hk => ?_, fun k hk => ?_, fun i hi => ?_⟩
    · unfold KSc at h
      simp at h ⊢
      omega
    · rw [g1.1 25 k rfl]; exact hj k hk
    · rw [g2 k hk, sv_1 hk]
    · rw [g3 i hi]
      constructor
      · rintro ⟨k, h1, h2⟩; exact ⟨k, h1, (sv_1 h1).symm.trans h2⟩
      · rintro ⟨k, h1, h2⟩; exact ⟨k, h1, (sv_1 h1).trans h2⟩
  · have q : ¬ nI 12 ≤ nI k := q
    rw [nI_leI (by omega) (by omega)] at q
    refine en_bv (en_imp (ask_ok (w := 0) (lo := 1) (hi := 20) hG hA2 (by omega) (by omega) (by omega)) ?_)
    rintro M4 ⟨-, g2⟩
    refine en_bd (en_imp g2 ?_)
    rintro ⟨r6, M5⟩ ⟨g3, g4⟩
    have g3 : Sm KW KA M2 M5 := g3
    refine en_bd' g4 ?_
    have htk : nI (cl 1 20 (tval (yZ G) 0 (nml [nI k, 0, 0, 0, 0, 0]))) = nI (tkz (yZ G) k) := rfl
    rw [htk]
    have hs5 : Sm KSc KSl M M5 := hs.tr (g3.weak kw_sc (fun _ _ => rfl))
    have put : ∀ x : Int32, x = nI (rdN P (tkz (yZ G)) k) → En (f_X2_bake_j77 (nI P) (nI k) x (nI k) M5) (Lp (fun (z : Int32 × Mm) => ∃ k, k ≤ 12 ∧ z.1 = nI k ∧ Sm KSc KSl M z.2 ∧ ∀ j, j < k → z.2.1 25 j = nI (rdN P (tkz (yZ G)) j)) (fun z => 13 - z.1.toNatClampNeg) (nI k, M2) (fun M1 => Sm KSc KSl M M1 ∧ (∀ k, k < 12 → M1.1 25 k = nI (rdN P (tkz (yZ G)) k)) ∧ (∀ k, k < yB G → M1.1 26 k = nI (rdN P (tkz (yZ G)) k)) ∧ ∀ i, i < 60 → (mbit (M1.2 6) i = true ↔ ∃ k, k < yB G ∧ rdN P (tkz (yZ G)) k = i))) := by
      intro x hx
      unfold f_X2_bake_j77
      refine en_gd (bin_nI (by omega) (by omega)) (en_bmv fun M8 e8 => en_bi (en_some ⟨⟨k + 1, by omega, nI_add k 1, hs5.tr (sm_1 e8 rfl), fun j hj' => ?_⟩, ?_⟩))
      · rw [cl_nI (by omega)] at e8
        show M8.1 25 j = _
        by_cases q : j = k
        · subst q; rw [ms_at e8, hx]
        · rw [ms_off e8 (by omega), g3.1 25 j rfl]; exact hj j (by omega)
      · show 13 - (nI k + 1).toNatClampNeg < 13 - (nI k).toNatClampNeg
        rw [show nI k + 1 = nI (k + 1) from nI_add k 1, nI_clamp (by omega), nI_clamp (by omega)]
        omega
    refine en_bi (en_ite (fun a => ?_) (fun a => en_ite (fun a2 => ?_) (fun a2 => ?_)))
    · have hlt : k < P := by
        rcases Nat.lt_or_ge k P with z | z
        · exact z
        · rw [pk_sub z] at a; exact absurd a (nI_ltz (by omega))
      exact put _ (by rw [rd_lt hP hlt])
    · have hge : P ≤ k := by
        rcases Nat.lt_or_ge k P with z | z
        · exact absurd (pk_sneg (by omega) z) a
        · exact z
      rw [pk_sub hge, nI_leI (by omega) (by omega)] at a2
      omega
    · have hge : P ≤ k := by
        rcases Nat.lt_or_ge k P with z | z
        · exact absurd (pk_sneg (by omega) z) a
        · exact z
      rw [pk_sub hge]
      refine en_gd (bin_nI (by omega) (by omega)) (put _ ?_)
      rw [cl_nI (by omega), g3.1 25 _ rfl, hj _ (by omega), nI_add, rd_ge hP hge]
/-- the fill -/
theorem fill_ok : En (f_J7_fill_53178_32 (-1) M) (fun M1 => Sm (fun o _ => !(o == 32)) KA M M1 ∧ ∀ i, i < 3900 → M1.1 32 i = -1) := by
  unfold f_J7_fill_53178_32
  refine en_iter (fun (z : Int32 × Mm) => ∃ k, k ≤ 3900 ∧ z.1 = nI k ∧ Sm (fun o _ => !(o == 32)) KA M z.2 ∧ ∀ i, i < k → z.2.1 32 i = -1) (fun z => 3901 - z.1.toNatClampNeg) ⟨0, by omega, rfl, Sm.rf, fun j hj => by omega⟩ (by have := fuel_gt; show 3901 - 0 < fuel; omega) ?_
  rintro ⟨x2, M2⟩ ⟨k, hk, rfl, hs, hj⟩
  have hs : Sm (fun o _ => !(o == 32)) KA M M2 := hs
  have hj : ∀ i, i < k → M2.1 32 i = -1 := hj
  show En (f_J7_fill_53178_32_b5 (-1) (nI k) 3900 M2) _
  unfold f_J7_fill_53178_32_b5
  refine en_ite (fun q => en_ex (en_some ?_)) (fun q => ?_)
  · have q : nI 3900 ≤ nI k := q
    rw [nI_leI (by omega) (by omega)] at q
    exact ⟨hs, fun i hi => hj i (by omega)⟩
  · have q : ¬ nI 3900 ≤ nI k := q
    rw [nI_leI (by omega) (by omega)] at q
    refine en_gd (bin_nI (by omega) (by omega)) (en_bmv fun M3 e3 => en_bi (en_some ⟨⟨k + 1, by omega, nI_add k 1, hs.tr (sm_1 e3 rfl), fun i hi => ?_⟩, ?_⟩))
    · rw [cl_nI (by omega)] at e3
      show M3.1 32 i = -1
      by_cases z : i = k
      · subst z; exact ms_at e3
      · rw [ms_off e3 (by omega)]; exact hj i (by omega)
    · show 3901 - (nI k + 1).toNatClampNeg < 3901 - (nI k).toNatClampNeg
      rw [show nI k + 1 = nI (k + 1) from nI_add k 1, nI_clamp (by omega), nI_clamp (by omega)]
      omega
theorem eaN_le (hG : Gok G) (e : Nat) : eaN G e ≤ 100 := by
  have h := (hG.2.2.2.2.1 e)
  have h1 := h.1
  have h2 := h.2.2.2
  unfold eaN eatN
  repeat' split
  all_goals omega
/-- the table of G, one cake a heap, nobody away -/
def tG (G : Gt) (P : Nat) : Tb := tbl G P 5 (eaN G) (rdN P (tkz (yZ G)))
theorem lay_ok (hG : Gok G) (hA : AC G M) (hP : P = 1 ∨ P = 2) : En (f_X2_lay (nI P) M) (fun M1 => Sm KSc KSl M M1 ∧ CT G (tG G P) M1 ∧ CM (tG G P) M1 ∧ (∀ e, e < 5 → M1.1 29 e = 0) ∧ M1.1 6 11 = 0 ∧ ∀ k, k < 12 → M1.1 25 k = nI (rdN P (tkz (yZ G)) k)) := by
  have hrd := rd_le hP (fun k => (tkz_in (yZ G) k).2)
  unfold f_X2_lay
  refine en_bv (en_imp (bake_ok hG hA hP) ?_)
  rintro M1 ⟨g1, g2, g3, g4⟩
  refine en_bmv fun M2 e2 => ?_
  refine en_iter (fun (z : Int32 × Mm) => ∃ k, k ≤ 5 ∧ z.1 = nI k ∧ Sm (fun o _ => !(o == 28 || o == 29)) KA M2 z.2 ∧ (∀ e, e < k → z.2.1 29 e = 0) ∧ ∀ e, e < k → e < yM G → z.2.1 28 e = nI (eaN G e)) (fun z => 6 - z.1.toNatClampNeg) ⟨0, by omega, rfl, Sm.rf, fun j hj => by omega, fun j hj => by omega⟩ (by have := fuel_gt; omega) ?_
  rintro ⟨x2, M3⟩ ⟨k, hk, rfl, hs, h29, h28⟩
  have hs : Sm (fun o _ => !(o == 28 || o == 29)) KA M2 M3 := hs
  have h29 : ∀ e, e < k → M3.1 29 e = 0 := h29
  have h28 : ∀ e, e < k → e < yM G → M3.1 28 e = nI (eaN G e) := h28
  have hsc : Sm KSc KSl M M3 := (g1.tr (sm_1 e2 rfl)).tr (hs.weak (fun o k h => by unfold KSc at h; simp at h ⊢; omega) (fun _ _ => rfl))
  have hA3 : AC G M3 := hA.same (hsc.weak k7_sc (fun _ z => z))
  show En (f_X2_lay_b12 (nI k) M3) _
  unfold f_X2_lay_b12
  refine en_ite (fun q => en_ex ?_) (fun q => ?_)
  · have q : nI 5 ≤ nI k := q
    rw [nI_leI (by omega) (by omega)] at q
    have e : k = 5 := by omega
    subst e
    refine en_bmv fun M4 e4 => en_bv (en_imp fill_ok ?_)
    rintro M5 ⟨k1, k2⟩
    have hsc5 : Sm KSc KSl M M5 := (hsc.tr (sm_1 e4 rfl)).tr (k1.weak (fun o k h => by unfold KSc at h; simp at h ⊢; omega) (fun _ _ => rfl))
    have hA5 : AC G M5 := hA.same (hsc5.weak k7_sc (fun _ z => z))
    have f25 : ∀ k, k < 12 → M5.1 25 k = nI (rdN P (tkz (yZ G)) k) := fun k hk => by
      rw [k1.1 25 k rfl, ms_off e4 (by omega), hs.1 25 k rfl, ms_off e2 (by omega), g2 k hk]
    have f26 : ∀ k, k < yB G → M5.1 26 k = nI (rdN P (tkz (yZ G)) k) := fun k hk => by
      rw [k1.1 26 k rfl, ms_off e4 (by omega), hs.1 26 k rfl, ms_off e2 (by omega), g3 k hk]
    refine en_some ⟨hsc5, ⟨tgh_tbl hP (eaN_le hG) (fun k hk => by have := hrd k; omega), hG, hA5, ?_, fun e he => ?_, fun k hk => ⟨f25 k (by have := hG.1; omega), f26 k hk⟩, fun e mi h q1 q2 q3 => Or.inl (k2 _ (by omega))⟩, fun i hi => ?_, fun e he => ?_, ?_, f25⟩
    · rw [k1.1 6 7 rfl, ms_off e4 (by omega), hs.1 6 7 rfl, ms_at e2]; rfl
    · rw [k1.1 28 e rfl, ms_off e4 (by omega), h28 e (by have := hG.2.2.1; omega) he]; rfl
    · rw [k1.2 6 rfl, ms_offl e4, hs.2 6 rfl, ms_offl e2]
      exact g4 i hi
    · rw [k1.1 29 e rfl, ms_off e4 (by omega), h29 e he]
    · rw [k1.1 6 11 rfl, ms_at e4]
  · have q : ¬ nI 5 ≤ nI k := q
    rw [nI_leI (by omega) (by omega)] at q
    refine en_gd (bin_nI (by omega) (by omega)) (en_gd (bin_nI (by omega) (by omega)) ?_)
    rw [cl_nI (by omega)]
    obtain ⟨r, er⟩ := eatsOf_any (M3.1 7 k) (M3.1 10 k) M3
    refine en_bd' er (en_gd (bin_nI (by omega) (by omega)) (en_bmv fun M7 e7 => en_gd (bin_nI (by omega) (by omega)) (en_bmv fun M8 e8 => en_bi (en_some ⟨⟨k + 1, by omega, nI_add k 1, hs.tr ((sm_1 e7 rfl).tr (sm_1 e8 rfl)), fun e he => ?_, fun e he hm => ?_⟩, ?_⟩))))
    · show M8.1 29 e = 0
      by_cases z : e = k
      · subst z; exact ms_at e8
      · rw [ms_off e8 (by omega), ms_off e7 (by omega)]; exact h29 e (by omega)
    · show M8.1 28 e = _
      by_cases z : e = k
      · subst z
        rw [ms_off e8 (by omega), ms_at e7]
        obtain ⟨a7, -, -, a10⟩ := hA3.2.2.2.2.1 e hm
        have hg := hG.2.2.2.2.1 e
        rw [a7, a10, eatsOf_eq hg.1 hg.2.2.2] at er
        have := Option.some.inj er
        exact (congrArg Prod.fst this).symm
      · rw [ms_off e8 (by omega), ms_off e7 (by omega)]; exact h28 e (by omega) hm
    · show 6 - (nI k + 1).toNatClampNeg < 6 - (nI k).toNatClampNeg
      rw [show nI k + 1 = nI (k + 1) from nI_add k 1, nI_clamp (by omega), nI_clamp (by omega)]
      omega
end LAY
