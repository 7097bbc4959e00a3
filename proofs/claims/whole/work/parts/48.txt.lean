/-! ===== text ===== -/
def KC5 : Nat → Nat → Bool := fun o k => KC1 o k && !(o == 3 || (o == 4 || (o == 15 || (o == 18 || o == 19))))
def KR5 : Nat → Nat → Bool := fun o k => KR1 o k && !((o == 0 && (k == 3 || k == 6)) || (decide (1 ≤ o) && decide (o ≤ 3)))
section TXT
variable {G G' : Gt} {nt nt' : Nat} {zs zs' : Nat → Txt} {M1 M2 N1 N2 M : Mm} {Ka Kb : Nat → Nat → Bool} {La Lb : Nat → Bool} {b : Nat → Int32} {n : Nat}
theorem RG.txt (h : RG G nt zs M1 M2) (h1 : Sm Ka La M1 N1) (h2 : Sm Kb Lb M2 N2) (k1 : ∀ o k, KC5 o k = true → Ka o k = true) (k2 : ∀ o k, KR5 o k = true → Kb o k = true) (hT : Txs nt' zs' N1 N2) (htp : Tap N1 N2) (hnt : nt ≤ nt') (hz : ∀ t, t < nt → zs' t = zs t) : RG G nt' zs' N1 N2 := by
  obtain ⟨⟨a0, a1, a9⟩, a2, ⟨a3, a4⟩, a5, a6, a7, a8⟩ := h
  refine ⟨⟨a0, by omega, by rw [a9, hz _ a1]⟩, a2.same h1 (fun o k z => k1 o k ?_), ⟨a3.same h2 (fun o k z => k2 o k ?_), by rw [h2.1 _ _ (k2 _ _ rfl)]; exact a4⟩, hT, htp, fun s hs => (a7 s hs).same h1 h2 (fun o k z => k1 o k ?_) (fun o k z => k2 o k ?_), ?_⟩
  · unfold KC0 at z; unfold KC5 KC1; simp at z ⊢; omega
  · unfold KR0 at z; unfold KR5 KR1; simp at z ⊢; omega
  · unfold KC5 KC1; simp; omega
  · unfold KR5 KR1; simp; omega
  · have h8 : Kpt G nt zs N1 N2 := a8.same h1 h2 (fun o k z => k1 o k (by unfold KC5 KC1; simp; omega)) (fun o k z => k2 o k (by unfold KR5 KR1; simp; omega))
    rcases h8 with h8 | ⟨b, Gk, b1, b2, b3, b4, b5, b6⟩
    · exact Or.inl h8
    · exact Or.inr ⟨b, Gk, b1, b2, b3, by omega, by rw [b5, hz _ b4], b6⟩
theorem TXc.keep {t : Nat} {z : Txt} (h : TXc t z M) (h1 : ∀ i, i < 160 → N1.1 18 (160 * t + i) = M.1 18 (160 * t + i)) (h2 : ∀ i, i < 3 → N1.1 19 (3 * t + i) = M.1 19 (3 * t + i)) : TXc t z N1 := by
  obtain ⟨c1, c2, c3, c4, c5⟩ := h
  exact ⟨c1, fun i hi => by rw [h1 i (by omega)]; exact c2 i hi, by rw [show 3 * t = 3 * t + 0 from rfl, h2 0 (by omega)]; exact c3, by rw [h2 1 (by omega)]; exact c4, by rw [h2 2 (by omega)]; exact c5⟩
theorem TXr.keep {t : Nat} {z : Txt} (h : TXr t z M) (h1 : ∀ i, i < 160 → N1.1 1 (160 * t + i) = M.1 1 (160 * t + i)) (h2 : N1.1 2 t = M.1 2 t) : TXr t z N1 := by
  obtain ⟨b, n, c1, c2, c3, c4⟩ := h
  exact ⟨b, n, c1, by rw [h2]; exact c2, fun i hi => by rw [h1 i (by omega)]; exact c3 i hi, c4⟩
/-- what the reference can read is well formed -/
theorem wf_of {z : Txt} (hD : TD b n (.inr z)) : Wf z := by
  intro nm w hw
  obtain ⟨M, hM⟩ : ∃ M : Mm, M = (fun o k => if o = 0 then nm (k - 15) else if o = 1 then b k else if o = 2 then nI n else 0, fun _ => 0) := ⟨_, rfl⟩
  obtain ⟨r, -, -, -, h⟩ := hD 0 w M (by omega) hw (by rw [hM]; rfl) (fun i hi => by rw [hM]; show b (160 * 0 + i) = b i; rw [Nat.mul_zero, Nat.zero_add])
  refine ⟨r.1, fun st => ?_⟩
  have h1 := h st
  rw [run_congr (nm := nm) (nm' := nmR M)] at h1
  · exact h1
  · intro i hi
    rw [hM]
    show nm (15 + i - 15) = nm i
    rw [Nat.add_sub_cancel_left]
/-- the class adds a text -/
def KAd (t : Nat) : Nat → Nat → Bool := fun o k => !(o == 4 && k == 0) && (!(o == 18 && (decide (160 * t ≤ k) && decide (k < 160 * t + 160))) && !(o == 19 && (decide (3 * t ≤ k) && decide (k < 3 * t + 3))))
theorem c_add {t : Nat} (ht : t < 6) (h4 : M.1 4 0 = nI t) : En (f_X4_add M) (fun q => q.1 = nI t ∧ Sm (KAd t) KA M q.2 ∧ q.2.1 4 0 = nI (t + 1) ∧ (∀ i, i < 160 → q.2.1 18 (160 * t + i) = M.1 16 i) ∧ ∀ i, i < 3 → q.2.1 19 (3 * t + i) = M.1 17 i) := by
  unfold f_X4_add
  rw [h4]
  refine en_f (nI_ltz (by omega)) (en_t (by show nI t < nI 6; rw [nI_ltI (by omega) (by omega)]; exact ht) ?_)
  refine en_iter (fun (z : Int32 × Mm) => ∃ k, k ≤ 160 ∧ z.1 = nI k ∧ Sm (fun o k => !(o == 18 && (decide (160 * t ≤ k) && decide (k < 160 * t + 160)))) KA M z.2 ∧ ∀ i, i < k → z.2.1 18 (160 * t + i) = M.1 16 i) (fun z => 161 - z.1.toNatClampNeg) ⟨0, by omega, rfl, Sm.rf, fun i hi => by omega⟩ (by have := fuel_gt; omega) ?_
  rintro ⟨x, A⟩ ⟨k, hk, rfl, g1, g2⟩
  have g1 : Sm (fun o k => !(o == 18 && (decide (160 * t ≤ k) && decide (k < 160 * t + 160)))) KA M A := g1
  have g2 : ∀ i, i < k → A.1 18 (160 * t + i) = M.1 16 i := g2
  have hA4 : A.1 4 0 = nI t := by rw [g1.1 4 0 rfl]; exact h4
  show En (f_X4_add_b25 (nI k) A) _
  unfold f_X4_add_b25
  refine en_ite (fun q => en_ex ?_) (fun q => ?_)
  · have q : nI 160 ≤ nI k := q
    rw [nI_leI (by omega) (by omega)] at q
    have e : k = 160 := by omega
    subst e
    refine en_iter (fun (z : Int32 × Mm) => ∃ k, k ≤ 3 ∧ z.1 = nI k ∧ Sm (fun o k => !(o == 19 && (decide (3 * t ≤ k) && decide (k < 3 * t + 3)))) KA A z.2 ∧ ∀ i, i < k → z.2.1 19 (3 * t + i) = M.1 17 i) (fun z => 4 - z.1.toNatClampNeg) ⟨0, by omega, rfl, Sm.rf, fun i hi => by omega⟩ (by have := fuel_gt; omega) ?_
    rintro ⟨x, B⟩ ⟨p, hp, rfl, f1, f2⟩
    have f1 : Sm (fun o k => !(o == 19 && (decide (3 * t ≤ k) && decide (k < 3 * t + 3)))) KA A B := f1
    have f2 : ∀ i, i < p → B.1 19 (3 * t + i) = M.1 17 i := f2
    have hB4 : B.1 4 0 = nI t := by rw [f1.1 4 0 rfl]; exact hA4
    show En (f_X4_add_b61 (nI p) B) _
    unfold f_X4_add_b61
    refine en_ite (fun q => en_ex ?_) (fun q => ?_)
    · have q : nI 3 ≤ nI p := q
      rw [nI_leI (by omega) (by omega)] at q
      refine en_bmv fun C e => en_some ⟨?_, ?_, ?_, fun i hi => ?_, fun i hi => ?_⟩
      · show C.1 4 0 - 1 = nI t
        rw [ms_at e, hB4, show nI t + 1 = nI (t + 1) from nI_add t 1, nI_pred]
      · refine ((g1.weak (fun o k h => ?_) (fun _ z => z)).tr (f1.weak (fun o k h => ?_) (fun _ z => z))).tr (sm_1 e rfl)
        · unfold KAd at h; simp at h ⊢; omega
        · unfold KAd at h; simp at h ⊢; omega
      · rw [ms_at e, hB4]; exact nI_add t 1
      · rw [ms_off e (by omega), f1.1 18 _ rfl]; exact g2 i hi
      · rw [ms_off e (by omega)]; exact f2 i (by omega)
    · have q : ¬ nI 3 ≤ nI p := q
      rw [nI_leI (by omega) (by omega)] at q
      rw [hB4, show nI t * 3 = nI (3 * t) by rw [Nat.mul_comm]; exact pk_mul t 3, nI_add]
      refine en_gd (bin_nI (by omega) (by omega)) (en_gd (bin_nI (by omega) (by omega)) (en_bmv fun C e => en_bi (en_some ⟨⟨p + 1, by omega, nI_add p 1, ?_, fun i hi => ?_⟩, ?_⟩)))
      · rw [cl_nI (by omega)] at e
        exact f1.tr (sm_1 e (by simp; omega))
      · rw [cl_nI (by omega), cl_nI (by omega)] at e
        show C.1 19 (3 * t + i) = _
        by_cases z : i = p
        · subst z; rw [ms_at e, f1.1 17 _ rfl, g1.1 17 _ rfl]
        · rw [ms_off e (by omega)]; exact f2 i (by omega)
      · show 4 - (nI p + 1).toNatClampNeg < 4 - (nI p).toNatClampNeg
        rw [show nI p + 1 = nI (p + 1) from nI_add p 1, nI_clamp (by omega), nI_clamp (by omega)]
        omega
  · have q : ¬ nI 160 ≤ nI k := q
    rw [nI_leI (by omega) (by omega)] at q
    rw [hA4, show nI t * 160 = nI (160 * t) by rw [Nat.mul_comm]; exact pk_mul t 160, nI_add]
    refine en_gd (bin_nI (by omega) (by omega)) (en_gd (bin_nI (by omega) (by omega)) (en_bmv fun C e => en_bi (en_some ⟨⟨k + 1, by omega, nI_add k 1, ?_, fun i hi => ?_⟩, ?_⟩)))
    · rw [cl_nI (by omega)] at e
      exact g1.tr (sm_1 e (by simp; omega))
    · rw [cl_nI (by omega), cl_nI (by omega)] at e
      show C.1 18 (160 * t + i) = _
      by_cases z : i = k
      · subst z; rw [ms_at e, g1.1 16 _ rfl]
      · rw [ms_off e (by omega)]; exact g2 i (by omega)
    · show 161 - (nI k + 1).toNatClampNeg < 161 - (nI k).toNatClampNeg
      rw [show nI k + 1 = nI (k + 1) from nI_add k 1, nI_clamp (by omega), nI_clamp (by omega)]
      omega
def KTx (t : Nat) : Nat → Nat → Bool := fun o k => !(o == 0 && (k == 6 || (decide (15 ≤ k) && decide (k ≤ 29)))) && (!(o == 1 && (decide (160 * t ≤ k) && decide (k < 160 * t + 160))) && !(o == 2 && k == t))
/-- the reference lays the tape down -/
theorem r_text {P : Int32 × Mm → Prop} {t : Nat} (ht : t < 6) (hn : n ≤ 160) (h3 : M.1 0 3 = nI t) (h6 : M.1 0 6 = nI n) (hb : ∀ i, i < n → M.1 3 i = b i)
    (hgo : ∀ A, Sm (KTx t) KA M A → A.1 0 6 = 0 → A.1 2 t = nI n → (∀ i, i < n → A.1 1 (160 * t + i) = b i) → En (bd (f_X6_read (nI t) (nI 0) A) fun r4 M3 => if (M3.1 0 28) = 0 then (bm (ms M3 0 3 ((M3.1 0 3) + (1 : Int32))) fun M5 => some (((M5.1 0 3) - (1 : Int32)), M5)) else some (((-100 : Int32) - (M3.1 0 29)), M3)) P) : En (f_X6_text M) P := by
  unfold f_X6_text
  rw [h3]
  refine en_f (by show ¬ nI t = nI 6; rw [nI_eq (by omega) (by omega)]; omega) ?_
  refine en_iter (fun (z : Int32 × Mm) => ∃ k, k ≤ n ∧ z.1 = nI k ∧ Sm (fun o k => !(o == 1 && (decide (160 * t ≤ k) && decide (k < 160 * t + 160)))) KA M z.2 ∧ ∀ i, i < k → z.2.1 1 (160 * t + i) = b i) (fun z => 161 - z.1.toNatClampNeg) ⟨0, by omega, rfl, Sm.rf, fun i hi => by omega⟩ (by have := fuel_gt; omega) ?_
  rintro ⟨x, A⟩ ⟨k, hk, rfl, g1, g2⟩
  have g1 : Sm (fun o k => !(o == 1 && (decide (160 * t ≤ k) && decide (k < 160 * t + 160)))) KA M A := g1
  have g2 : ∀ i, i < k → A.1 1 (160 * t + i) = b i := g2
  have hA3 : A.1 0 3 = nI t := by rw [g1.1 0 3 rfl]; exact h3
  have hA6 : A.1 0 6 = nI n := by rw [g1.1 0 6 rfl]; exact h6
  show En (f_X6_text_b14 (nI k) A) _
  unfold f_X6_text_b14
  rw [hA3, hA6]
  refine en_ite (fun q => en_ex (en_gd (bin_nI ht (by omega)) (en_bmv fun B1 e1 => en_bmv fun B2 e2 => ?_))) (fun q => ?_)
  · rw [nI_leI (by omega) (by omega)] at q
    rw [cl_nI (by omega)] at e1
    have hB3 : B2.1 0 3 = nI t := by rw [ms_off e2 (by omega), ms_off e1 (by omega)]; exact hA3
    rw [hB3]
    refine hgo B2 ?_ (ms_at e2) (by rw [ms_off e2 (by omega), ms_at e1]) (fun i hi => by rw [ms_off e2 (by omega), ms_off e1 (by omega)]; exact g2 i (by omega))
    refine ((g1.weak (fun o k h => ?_) (fun _ z => z)).tr (sm_1 e1 (by unfold KTx; simp))).tr (sm_1 e2 rfl)
    unfold KTx at h
    simp at h ⊢
    omega
  · rw [nI_leI (by omega) (by omega)] at q
    rw [show (160 : Int32) * nI t = nI (160 * t) from pk_mul 160 t, nI_add]
    refine en_gd (bin_nI (by omega) (by omega)) (en_gd (bin_nI (by omega) (by omega)) (en_bmv fun C e => en_bi (en_some ⟨⟨k + 1, by omega, nI_add k 1, ?_, fun i hi => ?_⟩, ?_⟩)))
    · rw [cl_nI (by omega)] at e
      exact g1.tr (sm_1 e (by simp; omega))
    · rw [cl_nI (by omega), cl_nI (by omega)] at e
      show C.1 1 (160 * t + i) = _
      by_cases z : i = k
      · subst z; rw [ms_at e, g1.1 3 _ rfl]; exact hb i (by omega)
      · rw [ms_off e (by omega)]; exact g2 i (by omega)
    · show 161 - (nI k + 1).toNatClampNeg < 161 - (nI k).toNatClampNeg
      rw [show nI k + 1 = nI (k + 1) from nI_add k 1, nI_clamp (by omega), nI_clamp (by omega)]
      omega
theorem ktx_rt (t : Nat) : ∀ o k, KTx t o k = true → KRt o k = true := by
  intro o k h
  unfold KTx at h
  unfold KRt
  simp at h ⊢
  omega
theorem s_text : St0 Rel f_X5_text f_X6_text := by
  rintro M1 M2 ⟨G, nt, zs, h⟩
  obtain ⟨b, n, hB, hTp, p6, pb⟩ := id h.2.2.2.2.1
  obtain ⟨t1, t2, t3, t4⟩ := id h.2.2.2.1
  by_cases h6 : nt = 6
  · refine st_go (r := -4) (N1 := M1) (N2 := M2) ?_ ?_ ⟨G, nt, zs, h⟩
    · unfold f_X5_text
      exact en_f (by rw [t2, h6]; decide) (en_some rfl)
    · unfold f_X6_text
      exact en_t (by rw [t3, h6]; rfl) (en_some rfl)
  · have ht : nt < 6 := by omega
    have hn := hTp.2.1
    obtain ⟨res, hC, hD⟩ := text_good hB hn
    have cgo : ∀ {P : Int32 × Mm → Prop}, (∀ r A, Sm KPt KA M1 A → A.1 3 1 = 0 → CTo res (r, A) → En (if r = 0 then some (((-100 : Int32) - (A.1 3 6)), A) else bd (f_X4_add A) fun r4 M3 => some (r4, M3)) P) → En (f_X5_text M1) P := by
      intro P hP
      unfold f_X5_text
      refine en_t (by rw [t2]; show nI nt < nI 6; rw [nI_ltI (by omega) (by omega)]; exact ht) (en_bd (en_imp (hC M1 hTp) ?_))
      rintro ⟨r, A⟩ ⟨g1, g2, g3⟩
      exact hP r A g1 g2 g3
    have rgo : ∀ {P : Int32 × Mm → Prop}, (∀ r A B, Sm (KTx nt) KA M2 A → A.1 0 6 = 0 → A.1 2 nt = nI n → (∀ i, i < n → A.1 1 (160 * nt + i) = b i) → Sm KRt KB A B → RTo 0 A res (r, B) → En (if (B.1 0 28) = 0 then (bm (ms B 0 3 ((B.1 0 3) + (1 : Int32))) fun M5 => some (((M5.1 0 3) - (1 : Int32)), M5)) else some (((-100 : Int32) - (B.1 0 29)), B)) P) → En (f_X6_text M2) P := by
      intro P hP
      refine r_text ht hn t3 p6 pb fun A s1 s2 s3 s4 => en_bd (en_imp (hD nt 0 A ht (by omega) s3 s4) ?_)
      rintro ⟨r, B⟩ ⟨g1, g2⟩
      exact hP r B |> fun _ => hP r A B s1 s2 s3 s4 g1 g2
    -- what stays of the texts that were there
    have hold : ∀ {N1 N2 : Mm}, (∀ t, t < nt → (∀ i, i < 160 → N1.1 18 (160 * t + i) = M1.1 18 (160 * t + i)) ∧ ∀ i, i < 3 → N1.1 19 (3 * t + i) = M1.1 19 (3 * t + i)) → Sm (KTx nt) KB M2 N2 → ∀ t, t < nt → Wf (zs t) ∧ TXc t (zs t) N1 ∧ TXr t (zs t) N2 := by
      intro N1 N2 hk hs t htt
      obtain ⟨w1, w2, w3⟩ := t4 t htt
      refine ⟨w1, w2.keep (hk t htt).1 (hk t htt).2, w3.keep (fun i hi => hs.1 1 _ ?_) (hs.1 2 _ ?_)⟩
      · unfold KTx
        simp
        omega
      · unfold KTx
        simp
        omega
    cases res with
    | inl q =>
      refine st_of (P := fun z => z.1 = -100 - nI q ∧ Sm KPt KA M1 z.2 ∧ z.2.1 3 1 = 0) (Q := fun z => z.1 = -100 - nI q ∧ Sm (KTx nt) KB M2 z.2 ∧ z.2.1 0 6 = 0 ∧ z.2.1 0 3 = nI nt) (cgo fun r A s1 s2 s3 => ?_) (rgo fun r A B s1 s2 s3 s4 s5 s6 => ?_) ?_
      · obtain ⟨c1, c2, c3⟩ := s3
        exact en_t c1 (en_some ⟨by rw [← c2], s1, s2⟩)
      · obtain ⟨d1, d2⟩ := s6
        have d1 : B.1 0 28 = 1 := d1
        have d2 : B.1 0 29 = nI q := d2
        refine en_f (by rw [d1]; decide) (en_some ⟨by rw [← d2], (s1.weak (fun _ _ z => z) (fun _ _ => rfl)).tr (s5.weak (ktx_rt nt) (fun _ z => z)), ?_, ?_⟩)
        · rw [s5.1 0 6 rfl]; exact s2
        · rw [s5.1 0 3 rfl, s1.1 0 3 rfl]; exact t3
      · rintro ⟨a, N1⟩ ⟨b', N2⟩ ⟨p1, p2, p3⟩ ⟨q1, q2, q3, q4⟩
        have p2 : Sm KPt KA M1 N1 := p2
        have q2 : Sm (KTx nt) KB M2 N2 := q2
        refine ⟨p1.trans q1.symm, G, nt, zs, h.txt p2 q2 (fun o k z => ?_) (fun o k z => ?_) ⟨t1, by rw [p2.1 4 0 rfl]; exact t2, q4, hold (fun t _ => ⟨fun i _ => p2.1 18 _ rfl, fun i _ => p2.1 19 _ rfl⟩) q2⟩ ⟨b, 0, fun i hi => by omega, ⟨p3, by omega, fun i hi => by omega⟩, q3, fun i hi => by omega⟩ (Nat.le_refl _) (fun _ _ => rfl)⟩
        · unfold KC5 KC1 at z; unfold KPt; simp at z ⊢; omega
        · unfold KR5 KR1 at z; unfold KTx; simp at z ⊢; omega
    | inr z =>
      refine st_of (P := fun q => q.1 = nI nt ∧ ∃ A, Sm KPt KA M1 A ∧ A.1 3 1 = 0 ∧ Sm (KAd nt) KA A q.2 ∧ TXc nt z q.2 ∧ q.2.1 4 0 = nI (nt + 1)) (Q := fun q => q.1 = nI nt ∧ Sm (fun o k => KTx nt o k && !(o == 0 && k == 3)) KB M2 q.2 ∧ q.2.1 0 6 = 0 ∧ q.2.1 0 3 = nI (nt + 1) ∧ q.2.1 2 nt = nI n ∧ ∀ i, i < n → q.2.1 1 (160 * nt + i) = b i) (cgo fun r A s1 s2 s3 => ?_) (rgo fun r A B s1 s2 s3 s4 s5 s6 => ?_) ?_
      · obtain ⟨c1, c2, c3, c4, c5, c6⟩ := s3
        have c1 : r = 1 := c1
        have c2 : (z.1 ++ z.2.1 ++ z.2.2).length ≤ 160 := c2
        have c3 : ∀ i, i < (z.1 ++ z.2.1 ++ z.2.2).length → A.1 16 i = (z.1 ++ z.2.1 ++ z.2.2).getD i 0 := c3
        have c4 : A.1 17 0 = nI z.1.length := c4
        have c5 : A.1 17 1 = nI (z.1 ++ z.2.1).length := c5
        have c6 : A.1 17 2 = nI (z.1 ++ z.2.1 ++ z.2.2).length := c6
        rw [bd_id]
        refine en_f (by rw [c1]; decide) (en_imp (c_add ht (by rw [s1.1 4 0 rfl]; exact t2)) ?_)
        rintro q ⟨f1, f2, f3, f4, f5⟩
        refine ⟨f1, A, s1, s2, f2, ⟨c2, fun i hi => by rw [f4 i (by omega)]; exact c3 i hi, ?_, ?_, ?_⟩, f3⟩
        · have := f5 0 (by omega)
          rw [Nat.add_zero] at this
          rw [this]; exact c4
        · rw [f5 1 (by omega)]; exact c5
        · rw [f5 2 (by omega)]; exact c6
      · obtain ⟨d1, d2⟩ := s6
        have d1 : B.1 0 28 = 0 := d1
        have hB3 : B.1 0 3 = nI nt := by rw [s5.1 0 3 rfl, s1.1 0 3 rfl]; exact t3
        refine en_t d1 (en_bmv fun C e => en_some ⟨?_, ?_, ?_, ?_, ?_, fun i hi => ?_⟩)
        · show C.1 0 3 - 1 = nI nt
          rw [ms_at e, hB3, show nI nt + 1 = nI (nt + 1) from nI_add nt 1, nI_pred]
        · have hAB : Sm (KTx nt) KB M2 B := (s1.weak (fun _ _ z => z) (fun _ _ => rfl)).tr (s5.weak (ktx_rt nt) (fun _ z => z))
          exact (hAB.weak (fun o k h => by simp at h; exact h.1) (fun _ z => z)).tr (sm_1 e (by simp))
        · rw [ms_off e (by omega), s5.1 0 6 rfl]; exact s2
        · rw [ms_at e, hB3]; exact nI_add nt 1
        · rw [ms_off e (by omega), s5.1 2 _ rfl]; exact s3
        · rw [ms_off e (by omega), s5.1 1 _ rfl]; exact s4 i hi
      · rintro ⟨a, N1⟩ ⟨b', N2⟩ ⟨p1, A, p2, p3, p4, p5, p6⟩ ⟨q1, q2, q3, q4, q5, q6⟩
        have p4 : Sm (KAd nt) KA A N1 := p4
        have q2 : Sm (fun o k => KTx nt o k && !(o == 0 && k == 3)) KB M2 N2 := q2
        have hsm : Sm (fun o k => KPt o k && KAd nt o k) KA M1 N1 := (p2.weak (fun o k h => by simp at h; exact h.1) (fun _ z => z)).tr (p4.weak (fun o k h => by simp at h; exact h.2) (fun _ z => z))
        have hk : ∀ t, t < nt → (∀ i, i < 160 → N1.1 18 (160 * t + i) = M1.1 18 (160 * t + i)) ∧ ∀ i, i < 3 → N1.1 19 (3 * t + i) = M1.1 19 (3 * t + i) := by
          intro t htt
          refine ⟨fun i hi => hsm.1 18 _ ?_, fun i hi => hsm.1 19 _ ?_⟩
          · unfold KPt KAd; simp; omega
          · unfold KPt KAd; simp; omega
        have hk2 : ∀ t, t < nt → Wf (zs t) ∧ TXc t (zs t) N1 ∧ TXr t (zs t) N2 := by
          intro t htt
          obtain ⟨w1, w2, w3⟩ := t4 t htt
          refine ⟨w1, w2.keep (hk t htt).1 (hk t htt).2, w3.keep (fun i hi => q2.1 1 _ ?_) (q2.1 2 _ ?_)⟩
          · unfold KTx; simp; omega
          · unfold KTx; simp; omega
        refine ⟨p1.trans q1.symm, G, nt + 1, fun t => if t = nt then z else zs t, h.txt hsm q2 (fun o k z => ?_) (fun o k z => ?_) ⟨by omega, p6, q4, fun t htt => ?_⟩ ⟨b, 0, fun i hi => by omega, ⟨by rw [p4.1 3 1 rfl]; exact p3, by omega, fun i hi => by omega⟩, q3, fun i hi => by omega⟩ (by omega) (fun t htt => if_neg (by omega))⟩
        · unfold KC5 KC1 at z; unfold KPt KAd; simp at z ⊢; omega
        · unfold KR5 KR1 at z; unfold KTx; simp at z ⊢; omega
        · dsimp only
          by_cases e : t = nt
          · rw [if_pos e, e]
            exact ⟨wf_of hD, p5, b, n, hn, q5, q6, hD⟩
          · rw [if_neg e]
            exact hk2 t (by omega)
end TXT
