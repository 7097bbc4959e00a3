/-! ===== the class's supper: giving, passing, a minute, the whole ===== -/
def gvr (T : Tb) (o : Option Nat) (x : Int32) : Prop := match o with
  | none => ∀ e, sit T e = true → x ≠ nI e
  | some e => sit T e = true ∧ x = nI e
/-- the class's number of a way, and the way -/
def WC (T : Tb) (w : Wy) (x1 : Int32) (M : Mm) : Prop :=
  (x1 = 0 ∧ w.1 = 0 ∧ ∀ k, k < tB T → gvr T (w.2 k) (M.1 27 k)) ∨ (x1 = 1 ∧ w.1 = 0 ∧ ∀ k, k < tB T → gvr T (w.2 k) (nI (k % max 1 (tm T)))) ∨ (x1 = 2 ∧ w.1 = 2) ∨ (x1 = 3 ∧ w.1 = 3)
def CM (T : Tb) (M : Mm) : Prop := ∀ i, i < 60 → (mbit (M.2 6) i = true ↔ ∃ k, k < tB T ∧ tsv T k = i)
section CRUN2
variable {G : Gt} {T : Tb} {s : Sx} {M M1 : Mm} {N mi k : Nat} {w : Wy}
theorem gvr_oI {o : Option Nat} (h : ∀ e, o = some e → sit T e = true) (hm : tm T ≤ 5) : gvr T o (oI o) := by
  cases o with
  | none => intro e he; have := sit_m he; exact fun z => nI_m1 (c := e) (by omega) z.symm
  | some e => exact ⟨h e rfl, rfl⟩
theorem Cch.same {K : Nat → Nat → Bool} {KL : Nat → Bool} (h : Cch G M) (hs : Sm K KL M M1) (hk : ∀ i, K 32 i = true) : Cch G M1 := by
  intro e mi h1 q1 q2 q3
  rw [hs.1 32 _ (hk _)]
  exact h e mi h1 q1 q2 q3
def K32 : Nat → Nat → Bool := fun o k => !(o == 6 && (k == 11 || (k == 12 || (k == 13 || (k == 14 || k == 15))))) && !(o == 20 || (o == 21 || (o == 29 || (o == 30 || o == 31))))
theorem kx_32 : ∀ o k, KX o k = true → K32 o k = true := by
  intro o k h
  unfold KX at h
  unfold K32
  simp at h ⊢
  omega
theorem k32_w : ∀ o k, K32 o k = true → KW o k = true := by
  intro o k h
  unfold K32 at h
  unfold KW
  simp at h ⊢
  omega
theorem CR.cap (h : CR G T s M) : M.1 1 3 = nI (tm T) ∧ tm T ≤ 5 ∧ M.1 6 7 = abI T ∧ M.1 1 0 = nI (tB T) ∧ tB T ≤ 12 := by
  obtain ⟨⟨hT, hG, hA, h67, h28, h25, hC⟩, hD⟩ := h
  exact ⟨by rw [hT.2.1]; exact hA.2.2.2.1, by rw [hT.2.1]; exact hG.2.2.1, h67, by rw [hT.1]; exact hA.1, by rw [hT.1]; exact hG.1⟩
theorem lz_give (hz : Lz s) (o : Option Nat) : Lz (giveTo T mi k s o) := by
  cases o with
  | none => exact hz
  | some e =>
    intro j hj
    have hj : upN (xh s) e (xh s e + 1) j = 0 := hj
    show upN (xl s) e _ j = 0
    unfold upN at hj ⊢
    split at hj
    · omega
    · next q => rw [if_neg q]; exact hz j hj
theorem c_give (h : CR G T s M) (hb : Bd N s) (hN : N < 2 ^ 18) (hz : Lz s) (hk : k < tB T) (hmi : mi < 60) {o : Option Nat} {x : Int32} (ho : gvr T o x) : En (f_X2_give (nI k) (nI mi) x M) (fun M1 => Sm KX KA M M1 ∧ CR G T (giveTo T mi k s o) M1) := by
  obtain ⟨h13, hm5, h67', h10, hB12⟩ := h.cap
  obtain ⟨⟨hT, hG, hA, h67, h28, h25, hC⟩, hD⟩ := id h
  unfold f_X2_give
  cases o with
  | none =>
    refine en_bd' (sits_no h13 hm5 h67 ho) (en_t rfl (en_bmv fun M2 e2 => en_some ?_))
    have hs : Sm K32 KA M M2 := sm_1 e2 rfl
    refine ⟨hs.weak kx_32 (fun _ z => z), h.1.same hs kx_32 (hC.same hs (fun _ => rfl)), ?_⟩
    obtain ⟨d1, d2, d3, d4, d5, d6⟩ := hD
    refine ⟨fun e he => ?_, ?_, ?_, ?_, ?_, ?_⟩
    · rw [ms_off e2 (by omega), ms_off e2 (by omega), ms_off e2 (by omega)]; exact d1 e he
    · rw [ms_off e2 (by omega)]; exact d2
    · rw [ms_off e2 (by omega)]; exact d3
    · rw [ms_off e2 (by omega)]; exact d4
    · rw [ms_off e2 (by omega)]; exact d5
    · rw [ms_at e2, d6]; exact nI_add _ 1
  | some e =>
    obtain ⟨hse, rfl⟩ := ho
    have hem := sit_m hse
    have hem' : e < yM G := by rw [← hT.2.1]; exact hem
    have hkB : k < yB G := by rw [← hT.1]; exact hk
    have he5 : e < 5 := by omega
    obtain ⟨d1, d2, d3, d4, d5, d6⟩ := hD
    have hlb := hb.2.2.1 e
    have hea := hT.2.2.2.2.2.1 e
    have hst : imx (nI mi) (M.1 31 e) = nI (max mi (xl s e)) := by
      rw [(d1 e he5).2.2]
      unfold lasI
      by_cases q : xh s e = 0
      · rw [if_pos q, hz e q]
        unfold imx
        rw [if_neg, Nat.max_eq_left (by omega)]
        intro z
        rw [Int32.lt_iff_toInt_lt, nI_toInt (by omega)] at z
        have : (-1 : Int32).toInt = -1 := by decide
        omega
      · rw [if_neg q, imx_nI (by omega) (by omega)]
    refine en_bd' (sits_in h13 hm5 h67 (by omega)) (en_f (fun z => if10.mp z hse) (en_gd (bin_nI he5 (by omega)) ?_))
    rw [cl_nI (by omega), cl_nI (by omega), hst]
    refine en_bi (en_gd (bin_nI he5 (by omega)) (en_gd (bin_nI he5 (by omega)) (en_gd (bin_nI (by omega) (by omega)) (en_bv ?_))))
    rw [(d1 e he5).1, (hA.2.2.2.2.1 e hem').2.2.1, (h25 k hkB).1]
    refine en_imp (ask_ok (w := 2) (lo := 0) (hi := 99) hG hA (by omega) (by omega) (by omega)) ?_
    rintro M4 ⟨g1, g2⟩
    refine en_bd (en_imp g2 ?_)
    rintro ⟨r6, M5⟩ ⟨g3, g4⟩
    have g3 : Sm KW KA M M5 := g3
    refine en_bd' g4 (en_bmv fun M9 e9 => ?_)
    have hwo : nI (cl 0 99 (tval (yZ G) 2 (nml [nI k, nI (max mi (xl s e)), nI (xh s e), nI (yW G e), nI e, nI (max mi (xl s e)) - nI (trd T k)]))) = nI (two T k (max mi (xl s e)) (xh s e) e (nI (max mi (xl s e)) - nI (trd T k))) := by rw [hT.2.2.2.2.1]; rfl
    rw [hwo] at e9
    refine en_gd (bin_nI he5 (by omega)) (en_gd (bin_nI he5 (by omega)) (en_bmv fun M10 e10 => en_bmv fun M11 e11 => en_gd (bin_nI he5 (by omega)) (en_gd (bin_nI he5 (by omega)) (en_bmv fun M12 e12 => ?_))))
    have hs12 : Sm K32 KA M M12 := (((((g3.weak k32_w (fun _ z => z)).tr (sm_1 e9 rfl)).tr (sm_1 e10 rfl)).tr (sm_1 e11 rfl)).tr (sm_1 e12 rfl))
    have f29 : ∀ j, j < 5 → M12.1 29 j = nI (upN (xh s) e (xh s e + 1) j) := by
      intro j hj
      rw [ms_off e12 (by omega), ms_off e11 (by omega)]
      by_cases q : j = e
      · subst q
        rw [ms_at e10, ms_off e9 (by omega), g3.1 29 j rfl, (d1 j he5).1, upN_s]
        exact nI_add _ 1
      · rw [ms_off e10 (by omega), ms_off e9 (by omega), g3.1 29 j rfl, (d1 j hj).1, upN_n q]
    have f30 : ∀ j, j < 5 → M12.1 30 j = nI (xw s j) := by
      intro j hj
      rw [ms_off e12 (by omega), ms_off e11 (by omega), ms_off e10 (by omega), ms_off e9 (by omega), g3.1 30 j rfl, (d1 j hj).2.1]
    have f31 : ∀ j, j < 5 → M12.1 31 j = lasI (giveTo T mi k s (some e)) j := by
      intro j hj
      show _ = if upN (xh s) e (xh s e + 1) j = 0 then -1 else nI (upN (xl s) e (max mi (xl s e) + tea T e) j)
      by_cases q : j = e
      · subst q
        rw [ms_at e12, upN_s, upN_s, if_neg (by omega), ms_off e11 (by omega), ms_off e10 (by omega), ms_off e9 (by omega), g3.1 28 j rfl, h28 j hem', nI_add]
      · rw [ms_off e12 (by omega), ms_off e11 (by omega), ms_off e10 (by omega), ms_off e9 (by omega), g3.1 31 j rfl, (d1 j hj).2.2, upN_n q, upN_n q]
        rfl
    have f12 : M12.1 6 12 = xc s - nI (two T k (max mi (xl s e)) (xh s e) e (nI (max mi (xl s e)) - nI (trd T k))) := by
      rw [ms_off e12 (by omega), ms_off e11 (by omega), ms_off e10 (by omega), ms_at e9, g1.1 6 12 rfl, d3]
    have f13 : M12.1 6 13 = nI (xf s) := by
      rw [ms_off e12 (by omega), ms_off e11 (by omega), ms_off e10 (by omega), ms_off e9 (by omega), g3.1 6 13 rfl, d4]
    have f14 : M12.1 6 14 = nI (xg s + 1) := by
      rw [ms_off e12 (by omega), ms_at e11, ms_off e10 (by omega), ms_off e9 (by omega), g3.1 6 14 rfl, d5]
      exact nI_add _ 1
    have f15 : M12.1 6 15 = nI (xs s) := by
      rw [ms_off e12 (by omega), ms_off e11 (by omega), ms_off e10 (by omega), ms_off e9 (by omega), g3.1 6 15 rfl, d6]
    have hub : ∀ j, upN (xh s) e (xh s e + 1) j ≤ N + 1 := by
      intro j
      have := hb.1 j
      have := hb.1 e
      unfold upN
      split <;> omega
    have h13' : M12.1 1 3 = nI (tm T) := by rw [hs12.1 1 3 rfl, h13]
    have h67'' : M12.1 6 7 = abI T := by rw [hs12.1 6 7 rfl, h67]
    refine en_bd' (c_fl h13' hm5 h67'' (fun j hj => ⟨f29 j hj, by have := hub j; omega⟩)) ?_
    have last : ∀ v : Int32, v = nI (lea T (upN (xh s) e (xh s e + 1))) → En (f_X2_give_j158 v M12) (fun M1 => Sm KX KA M M1 ∧ CR G T (giveTo T mi k s (some e)) M1) := by
      intro v hv
      unfold f_X2_give_j158
      refine en_bmv fun M17 e17 => en_some ?_
      have hs17 : Sm K32 KA M M17 := hs12.tr (sm_1 e17 rfl)
      refine ⟨hs17.weak kx_32 (fun _ z => z), h.1.same hs17 kx_32 (hC.same hs17 (fun _ => rfl)), ⟨fun j hj => ⟨?_, ?_, ?_⟩, ?_, ?_, ?_, ?_, ?_⟩⟩
      · rw [ms_off e17 (by omega)]; exact f29 j hj
      · rw [ms_off e17 (by omega)]; exact f30 j hj
      · rw [ms_off e17 (by omega)]; exact f31 j hj
      · rw [ms_at e17]; exact hv
      · rw [ms_off e17 (by omega)]; exact f12
      · rw [ms_off e17 (by omega)]; exact f13
      · rw [ms_off e17 (by omega)]; exact f14
      · rw [ms_off e17 (by omega)]; exact f15
    cases hf : fl T (upN (xh s) e (xh s e + 1)) 5 with
    | none =>
      refine en_bd' (sits_no h13' hm5 h67'' (fun j hj => fun z => nI_m1 (c := j) (by have := sit_m hj; omega) z.symm)) (en_t rfl (last 0 ?_))
      unfold lea
      rw [hf]
      rfl
    | some j =>
      have hj := fl_some hf
      refine en_bd' (sits_in h13' hm5 h67'' (by omega : j < 2 ^ 31)) (en_f (fun z => if10.mp z hj.1) (en_gd (bin_nI hj.2 (by omega)) (last _ ?_)))
      rw [show Int32.toNatClampNeg (oI (some j)) = j from cl_nI (by omega), f29 j hj.2]
      unfold lea
      rw [hf]
theorem irm_nI {a b : Nat} (ha : a < 2 ^ 31) (h0 : 0 < b) (hb : b < 2 ^ 31) : irm (nI a) (nI b) = nI (a % b) := pk_rem ha h0 hb
theorem WC.same {x1 : Int32} (h : WC T w x1 M) (hs : Sm KX KA M M1) : WC T w x1 M1 := by
  rcases h with ⟨h1, h2, h3⟩ | h | h | h
  · exact Or.inl ⟨h1, h2, fun k hk => by rw [hs.1 27 k rfl]; exact h3 k hk⟩
  · exact Or.inr (Or.inl h)
  · exact Or.inr (Or.inr (Or.inl h))
  · exact Or.inr (Or.inr (Or.inr h))
theorem wok_wc {x1 : Int32} (h : WC T w x1 M) : ∀ k e, k < tB T → who T w s mi k = some e → sit T e = true := by
  intro k e hk hw
  unfold who at hw
  split at hw
  · next h0 =>
    rcases h with ⟨-, -, h3⟩ | ⟨-, -, h3⟩ | ⟨-, h2⟩ | ⟨-, h2⟩
    · have := h3 k hk; rw [hw] at this; exact this.1
    · have := h3 k hk; rw [hw] at this; exact this.1
    · omega
    · omega
  · split at hw
    · cases hq : hg T mi (xh s) 5 with
      | none => rw [hq] at hw; cases hw
      | some q => rw [hq] at hw; cases hw; exact (hg_some hq).1
    · exact (fl_some hw).1
theorem lz_serve (hz : Lz s) : ∀ k, Lz (serveF T w mi k s)
  | 0 => hz
  | k + 1 => by
    unfold serveF
    split
    · exact lz_give (lz_serve hz k) _
    · exact lz_serve hz k
theorem c_serve {x1 : Int32} (h : CR G T s M) (hb : Bd N s) (hN : N < 2 ^ 16) (hz : Lz s) (hmi : mi < 60) (hw : WC T w x1 M) : En (f_X2_serve x1 (nI mi) M) (fun M1 => Sm KX KA M M1 ∧ CR G T (serveF T w mi (tB T) s) M1) := by
  obtain ⟨h13, hm5, h67', h10, hB12⟩ := h.cap
  unfold f_X2_serve
  refine en_iter (fun (z : Int32 × Mm) => ∃ k, k ≤ tB T ∧ z.1 = nI k ∧ Sm KX KA M z.2 ∧ CR G T (serveF T w mi k s) z.2) (fun z => 13 - z.1.toNatClampNeg) ⟨0, by omega, rfl, Sm.rf, h⟩ (by have := fuel_gt; omega) ?_
  rintro ⟨x3, M'⟩ ⟨k, hk, rfl, hs', hR'⟩
  obtain ⟨h13', -, h67'', h10', -⟩ := hR'.cap
  show En (f_X2_serve_b2 _ _ _ _) _
  unfold f_X2_serve_b2
  refine en_ite (fun hc => en_ex (en_some ?_)) (fun hc => en_ite (fun hc2 => en_ex (en_some ?_)) (fun hc2 => ?_))
  · have hc : nI 12 ≤ nI k := hc
    rw [nI_leI (by omega) (by omega)] at hc
    rw [show tB T = k by omega]
    exact ⟨hs', hR'⟩
  · have hc2 : M'.1 1 0 ≤ nI k := hc2
    rw [h10', nI_leI (by omega) (by omega)] at hc2
    rw [show tB T = k by omega]
    exact ⟨hs', hR'⟩
  · have hc : ¬ nI 12 ≤ nI k := hc
    have hc2 : ¬ M'.1 1 0 ≤ nI k := hc2
    rw [nI_leI (by omega) (by omega)] at hc
    rw [h10', nI_leI (by omega) (by omega)] at hc2
    have hkB : k < tB T := by omega
    have hnx : 13 - (nI k + 1).toNatClampNeg < 13 - (nI k).toNatClampNeg := by
      rw [show nI k + 1 = nI (k + 1) from nI_add k 1, nI_clamp (by omega), nI_clamp (by omega)]
      omega
    obtain ⟨⟨hT, hG, hA, h67, h28, h25, hC⟩, hD⟩ := id hR'
    have hkB' : k < yB G := by rw [← hT.1]; exact hkB
    refine en_gd (bin_nI (by omega) (by omega)) ?_
    have hsv := hT.2.2.2.2.2.2.1 k (by omega)
    rw [cl_nI (by omega), (h25 k hkB').2]
    refine en_ite (fun he => ?_) (fun he => ?_)
    · rw [nI_eq (by omega) (by omega)] at he
      have hw' := hw.same hs'
      have hbk := serve_bd (w := w) (T := T) (mi := mi) hT.2.2.2.2.2.1 (by omega) hb k
      have hzk := lz_serve (T := T) (w := w) (mi := mi) hz k
      have give : ∀ (x : Int32) (M2 : Mm), Sm KX KA M' M2 → CR G T (serveF T w mi k s) M2 → gvr T (who T w (serveF T w mi k s) mi k) x → En (f_X2_serve_j91 x1 (nI mi) (nI k) x M2) (Lp (fun z => ∃ k, k ≤ tB T ∧ z.1 = nI k ∧ Sm KX KA M z.2 ∧ CR G T (serveF T w mi k s) z.2) (fun z => 13 - z.1.toNatClampNeg) (nI k, M') (fun M1 => Sm KX KA M M1 ∧ CR G T (serveF T w mi (tB T) s) M1)) := by
        intro x M2 hs2 hR2 hg
        unfold f_X2_serve_j91
        refine en_bv (en_imp (c_give hR2 hbk (by omega) hzk hkB hmi hg) ?_)
        rintro M3 ⟨g1, g2⟩
        refine en_bi (en_some ⟨⟨k + 1, by omega, nI_add k 1, (hs'.tr hs2).tr g1, ?_⟩, hnx⟩)
        rw [serveF, if_pos he]
        exact g2
      have hws : ∀ e, who T w (serveF T w mi k s) mi k = some e → sit T e = true := fun e q => wok_wc hw' k e hkB q
      refine en_ite (fun a => ?_) (fun a => en_ite (fun a1 => ?_) (fun a1 => en_ite (fun a2 => ?_) (fun a2 => ?_)))
      · rcases hw' with ⟨-, h2, h3⟩ | ⟨h1, -⟩ | ⟨h1, -⟩ | ⟨h1, -⟩
        · refine en_gd (bin_nI (by omega) (by omega)) (en_bi ?_)
          refine give _ M' Sm.rf hR' ?_
          unfold who
          rw [if_pos h2]
          exact h3 k hkB
        · rw [h1] at a; exact absurd a (by decide)
        · rw [h1] at a; exact absurd a (by decide)
        · rw [h1] at a; exact absurd a (by decide)
      · rcases hw' with ⟨h1, -⟩ | ⟨-, h2, h3⟩ | ⟨h1, -⟩ | ⟨h1, -⟩
        · rw [h1] at a1; exact absurd a1 (by decide)
        · have hmx : imx 1 (M'.1 1 3) = nI (max 1 (tm T)) := by rw [h13']; exact imx_nI (a := 1) (by omega) (by omega)
          rw [hmx]
          refine en_gd (nI_ne0 (by omega) (by omega)) (en_bi ?_)
          rw [irm_nI (by omega) (by omega) (by omega)]
          refine give _ M' Sm.rf hR' ?_
          unfold who
          rw [if_pos h2]
          exact h3 k hkB
        · rw [h1] at a1; exact absurd a1 (by decide)
        · rw [h1] at a1; exact absurd a1 (by decide)
      · rcases hw' with ⟨h1, -⟩ | ⟨h1, -⟩ | ⟨-, h2⟩ | ⟨h1, -⟩
        · rw [h1] at a2; exact absurd a2 (by decide)
        · rw [h1] at a2; exact absurd a2 (by decide)
        · refine en_bd (en_imp (c_hg hR' hbk (by omega) hmi) ?_)
          rintro ⟨r, M2⟩ ⟨g1, g2, g3⟩
          have g1 : r = oI ((hg T mi (xh (serveF T w mi k s)) 5).map (fun q => q.1)) := g1
          subst g1
          have hwe : who T w (serveF T w mi k s) mi k = (hg T mi (xh (serveF T w mi k s)) 5).map (fun q => q.1) := by
            unfold who
            rw [if_neg (by omega), if_pos h2]
          refine give _ M2 (g2.weak kx_y (fun _ z => z)) g3 ?_
          rw [hwe]
          exact gvr_oI (fun e q => hws e (by rw [hwe]; exact q)) hm5
        · rw [h1] at a2; exact absurd a2 (by decide)
      · have h2 : w.1 = 3 := by
          rcases hw' with ⟨h1, -⟩ | ⟨h1, -⟩ | ⟨h1, -⟩ | ⟨-, h2⟩
          · exact absurd h1 a
          · exact absurd h1 a1
          · exact absurd h1 a2
          · exact h2
        refine en_bd' (c_fl h13' hm5 h67'' (fun e he5 => ⟨(hD.1 e he5).1, by have := hbk.1 e; omega⟩)) ?_
        have hwe : who T w (serveF T w mi k s) mi k = fl T (xh (serveF T w mi k s)) 5 := by
          unfold who
          rw [if_neg (by omega), if_neg (by omega)]
        refine give _ M' Sm.rf hR' ?_
        rw [hwe]
        exact gvr_oI (fun e q => hws e (by rw [hwe]; exact q)) hm5
    · rw [nI_eq (by omega) (by omega)] at he
      refine en_bi (en_some ⟨⟨k + 1, by omega, nI_add k 1, hs', ?_⟩, hnx⟩)
      rw [serveF, if_neg he]
      exact hR'
end CRUN2
