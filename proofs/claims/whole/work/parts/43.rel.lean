/-! ===== the relation of the two memories ===== -/
/-- the table, without its texts -/
def AC0 (G : Gt) (M : Mm) : Prop := M.1 1 0 = nI (yB G) ∧ M.1 1 1 = nI (yP G) ∧ M.1 1 2 = nI (yR G) ∧ M.1 1 3 = nI (yM G) ∧ ∀ e, e < yM G → M.1 7 e = nI (yK G e) ∧ M.1 8 e = nI (yN G e) ∧ M.1 9 e = nI (yW G e) ∧ M.1 10 e = nI (yA G e)
def AR0 (G : Gt) (M : Mm) : Prop := M.1 0 7 = nI (yB G) ∧ M.1 0 8 = nI (yP G) ∧ M.1 0 4 = nI (yR G) ∧ M.1 0 13 = nI (yM G) ∧ ∀ e, e < yM G → M.1 4 e = nI (yK G e) ∧ M.1 5 e = nI (yN G e) ∧ M.1 6 e = nI (yW G e) ∧ M.1 7 e = nI (yA G e)
/-- the image -/
def KpC (G : Gt) (M : Mm) : Prop := M.1 2 0 = nI (yB G) ∧ M.1 2 1 = nI (yP G) ∧ M.1 2 2 = nI (yR G) ∧ M.1 2 3 = nI (yM G) ∧ ∀ e, e < yM G → M.1 11 e = nI (yK G e) ∧ M.1 12 e = nI (yN G e) ∧ M.1 13 e = nI (yW G e) ∧ M.1 14 e = nI (yA G e)
def KpR (G : Gt) (M : Mm) : Prop := M.1 0 45 = nI (yB G) ∧ M.1 0 46 = nI (yP G) ∧ M.1 0 47 = nI (yR G) ∧ M.1 0 44 = nI (yM G) ∧ ∀ e, e < yM G → M.1 15 e = nI (yN G e) ∧ M.1 15 (5 + e) = nI (yW G e) ∧ M.1 15 (10 + e) = nI (yA G e)
def Txs (nt : Nat) (zs : Nat → Txt) (M1 M2 : Mm) : Prop := nt ≤ 6 ∧ M1.1 4 0 = nI nt ∧ M2.1 0 3 = nI nt ∧ ∀ t, t < nt → Wf (zs t) ∧ TXc t (zs t) M1 ∧ TXr t (zs t) M2
def Tap (M1 M2 : Mm) : Prop := ∃ (b : Nat → Int32) (n : Nat), Byt b n ∧ Tp b n M1 ∧ M2.1 0 6 = nI n ∧ ∀ i, i < n → M2.1 3 i = b i
def Shs (M1 M2 : Mm) (s : Nat) : Prop := (M1.1 22 s = -1 ∧ M2.1 16 s = 0) ∨ ∃ so sz, so ≤ 2 ∧ sz ≤ 40 ∧ M1.1 22 s = nI so ∧ M1.1 23 s = nI sz ∧ M2.1 16 s = 1 ∧ M2.1 17 s = nI so ∧ M2.1 18 s = nI sz ∧ ∀ i, i < sz → M1.1 24 (40 * s + i) = M2.1 19 (40 * s + i)
def Kpt (G : Gt) (nt : Nat) (zs : Nat → Txt) (M1 M2 : Mm) : Prop := (M1.1 0 2 = 0 ∧ M2.1 0 44 = -1) ∨ (¬ M1.1 0 2 = 0 ∧ ∃ Gk, Gok Gk ∧ yM Gk ≤ yM G ∧ (∀ e, e < yM Gk → yK Gk e = yK G e) ∧ yR Gk < nt ∧ yZ Gk = zs (yR Gk) ∧ KpC Gk M1 ∧ KpR Gk M2)
def RG (G : Gt) (nt : Nat) (zs : Nat → Txt) (M1 M2 : Mm) : Prop := (Gok G ∧ yR G < nt ∧ yZ G = zs (yR G)) ∧ AC0 G M1 ∧ (AR0 G M2 ∧ M2.1 0 14 = -1) ∧ Txs nt zs M1 M2 ∧ Tap M1 M2 ∧ (∀ s, s < 4 → Shs M1 M2 s) ∧ Kpt G nt zs M1 M2
def Rel (M1 M2 : Mm) : Prop := ∃ G nt zs, RG G nt zs M1 M2
/-- what the table rests on -/
def KC0 : Nat → Nat → Bool := fun o _ => o == 1 || (decide (7 ≤ o) && decide (o ≤ 10))
def KR0 : Nat → Nat → Bool := fun o k => (o == 0 && (k == 4 || (k == 7 || (k == 8 || k == 13)))) || (decide (4 ≤ o) && decide (o ≤ 7))
/-- kept by what only asks -/
def KC1 : Nat → Nat → Bool := fun o k => o == 0 || (o == 1 || (o == 2 || ((o == 3 && k == 1) || (o == 4 || ((decide (7 ≤ o) && decide (o ≤ 15)) || (o == 18 || (o == 19 || (o == 22 || (o == 23 || o == 24)))))))))
def KR1 : Nat → Nat → Bool := fun o k => (o == 0 && (k == 3 || (k == 4 || (k == 6 || (k == 7 || (k == 8 || (k == 13 || (k == 14 || (decide (44 ≤ k) && decide (k ≤ 47)))))))))) || ((decide (1 ≤ o) && decide (o ≤ 7)) || decide (15 ≤ o))
/-- kept by what changes the table alone -/
def KC2 : Nat → Nat → Bool := fun o _ => !(o == 1 || (decide (7 ≤ o) && decide (o ≤ 10)))
def KR2 : Nat → Nat → Bool := fun o k => !(o == 0 && (k == 7 || (k == 8 || (k == 4 || k == 13)))) && !(decide (4 ≤ o) && decide (o ≤ 7))
theorem k2_1 {K : Nat → Nat → Bool} (h : ∀ o k, KC1 o k = true → K o k = true) : ∀ o k, (KC1 o k && KC2 o k) = true → K o k = true := fun o k z => h o k (by simp at z; exact z.1)
section REL
variable {G G' : Gt} {nt : Nat} {zs : Nat → Txt} {M1 M2 N1 N2 M : Mm} {Ka Kb : Nat → Nat → Bool} {La Lb : Nat → Bool}
theorem AC0.same (h : AC0 G M1) (h1 : Sm Ka La M1 N1) (k1 : ∀ o k, KC0 o k = true → Ka o k = true) : AC0 G N1 := by
  obtain ⟨a1, a2, a3, a4, a5⟩ := h
  refine ⟨by rw [h1.1 _ _ (k1 _ _ rfl)]; exact a1, by rw [h1.1 _ _ (k1 _ _ rfl)]; exact a2, by rw [h1.1 _ _ (k1 _ _ rfl)]; exact a3, by rw [h1.1 _ _ (k1 _ _ rfl)]; exact a4, fun e he => ?_⟩
  obtain ⟨b1, b2, b3, b4⟩ := a5 e he
  exact ⟨by rw [h1.1 _ _ (k1 _ _ rfl)]; exact b1, by rw [h1.1 _ _ (k1 _ _ rfl)]; exact b2, by rw [h1.1 _ _ (k1 _ _ rfl)]; exact b3, by rw [h1.1 _ _ (k1 _ _ rfl)]; exact b4⟩
theorem AR0.same (h : AR0 G M2) (h1 : Sm Kb Lb M2 N2) (k1 : ∀ o k, KR0 o k = true → Kb o k = true) : AR0 G N2 := by
  obtain ⟨a1, a2, a3, a4, a5⟩ := h
  refine ⟨by rw [h1.1 _ _ (k1 _ _ rfl)]; exact a1, by rw [h1.1 _ _ (k1 _ _ rfl)]; exact a2, by rw [h1.1 _ _ (k1 _ _ rfl)]; exact a3, by rw [h1.1 _ _ (k1 _ _ rfl)]; exact a4, fun e he => ?_⟩
  obtain ⟨b1, b2, b3, b4⟩ := a5 e he
  exact ⟨by rw [h1.1 _ _ (k1 _ _ rfl)]; exact b1, by rw [h1.1 _ _ (k1 _ _ rfl)]; exact b2, by rw [h1.1 _ _ (k1 _ _ rfl)]; exact b3, by rw [h1.1 _ _ (k1 _ _ rfl)]; exact b4⟩
theorem Txs.same (h : Txs nt zs M1 M2) (h1 : Sm Ka La M1 N1) (h2 : Sm Kb Lb M2 N2) (k1 : ∀ o k, (o = 4 ∨ o = 18 ∨ o = 19) → Ka o k = true) (k2 : ∀ o k, ((o = 0 ∧ k = 3) ∨ o = 1 ∨ o = 2) → Kb o k = true) : Txs nt zs N1 N2 := by
  obtain ⟨a1, a2, a3, a4⟩ := h
  refine ⟨a1, by rw [h1.1 _ _ (k1 _ _ (Or.inl rfl))]; exact a2, by rw [h2.1 _ _ (k2 _ _ (Or.inl ⟨rfl, rfl⟩))]; exact a3, fun t ht => ?_⟩
  obtain ⟨b1, ⟨c1, c2, c3, c4, c5⟩, ⟨b, n, d1, d2, d3, d4⟩⟩ := a4 t ht
  refine ⟨b1, ⟨c1, fun i hi => by rw [h1.1 _ _ (k1 _ _ (Or.inr (Or.inl rfl)))]; exact c2 i hi, ?_, ?_, ?_⟩, ⟨b, n, d1, ?_, fun i hi => ?_, d4⟩⟩
  · rw [h1.1 _ _ (k1 _ _ (Or.inr (Or.inr rfl)))]; exact c3
  · rw [h1.1 _ _ (k1 _ _ (Or.inr (Or.inr rfl)))]; exact c4
  · rw [h1.1 _ _ (k1 _ _ (Or.inr (Or.inr rfl)))]; exact c5
  · rw [h2.1 _ _ (k2 _ _ (Or.inr (Or.inr rfl)))]; exact d2
  · rw [h2.1 _ _ (k2 _ _ (Or.inr (Or.inl rfl)))]; exact d3 i hi
theorem Tap.same (h : Tap M1 M2) (h1 : Sm Ka La M1 N1) (h2 : Sm Kb Lb M2 N2) (k1 : ∀ o k, ((o = 3 ∧ k = 1) ∨ o = 15) → Ka o k = true) (k2 : ∀ o k, ((o = 0 ∧ k = 6) ∨ o = 3) → Kb o k = true) : Tap N1 N2 := by
  obtain ⟨b, n, a1, a2, a3, a4⟩ := h
  refine ⟨b, n, a1, a2.same h1 (k1 _ _ (Or.inl ⟨rfl, rfl⟩)) (fun i => k1 _ _ (Or.inr rfl)), ?_, fun i hi => ?_⟩
  · rw [h2.1 _ _ (k2 _ _ (Or.inl ⟨rfl, rfl⟩))]; exact a3
  · rw [h2.1 _ _ (k2 _ _ (Or.inr rfl))]; exact a4 i hi
theorem Shs.same {s : Nat} (h : Shs M1 M2 s) (h1 : Sm Ka La M1 N1) (h2 : Sm Kb Lb M2 N2) (k1 : ∀ o k, (o = 22 ∨ o = 23 ∨ o = 24) → Ka o k = true) (k2 : ∀ o k, (o = 16 ∨ o = 17 ∨ o = 18 ∨ o = 19) → Kb o k = true) : Shs N1 N2 s := by
  rcases h with ⟨a, b⟩ | ⟨so, sz, a1, a2, a3, a4, a5, a6, a7, a8⟩
  · exact Or.inl ⟨by rw [h1.1 _ _ (k1 _ _ (Or.inl rfl))]; exact a, by rw [h2.1 _ _ (k2 _ _ (Or.inl rfl))]; exact b⟩
  · refine Or.inr ⟨so, sz, a1, a2, ?_, ?_, ?_, ?_, ?_, fun i hi => ?_⟩
    · rw [h1.1 _ _ (k1 _ _ (Or.inl rfl))]; exact a3
    · rw [h1.1 _ _ (k1 _ _ (Or.inr (Or.inl rfl)))]; exact a4
    · rw [h2.1 _ _ (k2 _ _ (Or.inl rfl))]; exact a5
    · rw [h2.1 _ _ (k2 _ _ (Or.inr (Or.inl rfl)))]; exact a6
    · rw [h2.1 _ _ (k2 _ _ (Or.inr (Or.inr (Or.inl rfl))))]; exact a7
    · rw [h1.1 _ _ (k1 _ _ (Or.inr (Or.inr rfl))), h2.1 _ _ (k2 _ _ (Or.inr (Or.inr (Or.inr rfl))))]; exact a8 i hi
theorem Kpt.same (h : Kpt G nt zs M1 M2) (h1 : Sm Ka La M1 N1) (h2 : Sm Kb Lb M2 N2) (k1 : ∀ o k, ((o = 0 ∧ k = 2) ∨ o = 2 ∨ (11 ≤ o ∧ o ≤ 14)) → Ka o k = true) (k2 : ∀ o k, ((o = 0 ∧ 44 ≤ k ∧ k ≤ 47) ∨ o = 15) → Kb o k = true) : Kpt G nt zs N1 N2 := by
  rcases h with ⟨a, b⟩ | ⟨a, Gk, b1, b2, b3, b4, b5, ⟨c1, c2, c3, c4, c5⟩, ⟨d1, d2, d3, d4, d5⟩⟩
  · exact Or.inl ⟨by rw [h1.1 _ _ (k1 _ _ (Or.inl ⟨rfl, rfl⟩))]; exact a, by rw [h2.1 _ _ (k2 _ _ (Or.inl ⟨rfl, by omega⟩))]; exact b⟩
  · refine Or.inr ⟨by rw [h1.1 _ _ (k1 _ _ (Or.inl ⟨rfl, rfl⟩))]; exact a, Gk, b1, b2, b3, b4, b5, ⟨?_, ?_, ?_, ?_, fun e he => ?_⟩, ⟨?_, ?_, ?_, ?_, fun e he => ?_⟩⟩
    · rw [h1.1 _ _ (k1 _ _ (Or.inr (Or.inl rfl)))]; exact c1
    · rw [h1.1 _ _ (k1 _ _ (Or.inr (Or.inl rfl)))]; exact c2
    · rw [h1.1 _ _ (k1 _ _ (Or.inr (Or.inl rfl)))]; exact c3
    · rw [h1.1 _ _ (k1 _ _ (Or.inr (Or.inl rfl)))]; exact c4
    · obtain ⟨q1, q2, q3, q4⟩ := c5 e he
      exact ⟨by rw [h1.1 _ _ (k1 _ _ (Or.inr (Or.inr (by omega))))]; exact q1, by rw [h1.1 _ _ (k1 _ _ (Or.inr (Or.inr (by omega))))]; exact q2, by rw [h1.1 _ _ (k1 _ _ (Or.inr (Or.inr (by omega))))]; exact q3, by rw [h1.1 _ _ (k1 _ _ (Or.inr (Or.inr (by omega))))]; exact q4⟩
    · rw [h2.1 _ _ (k2 _ _ (Or.inl ⟨rfl, by omega⟩))]; exact d1
    · rw [h2.1 _ _ (k2 _ _ (Or.inl ⟨rfl, by omega⟩))]; exact d2
    · rw [h2.1 _ _ (k2 _ _ (Or.inl ⟨rfl, by omega⟩))]; exact d3
    · rw [h2.1 _ _ (k2 _ _ (Or.inl ⟨rfl, by omega⟩))]; exact d4
    · obtain ⟨q1, q2, q3⟩ := d5 e he
      exact ⟨by rw [h2.1 _ _ (k2 _ _ (Or.inr rfl))]; exact q1, by rw [h2.1 _ _ (k2 _ _ (Or.inr rfl))]; exact q2, by rw [h2.1 _ _ (k2 _ _ (Or.inr rfl))]; exact q3⟩
theorem RG.same (h : RG G nt zs M1 M2) (h1 : Sm Ka La M1 N1) (h2 : Sm Kb Lb M2 N2) (k1 : ∀ o k, KC1 o k = true → Ka o k = true) (k2 : ∀ o k, KR1 o k = true → Kb o k = true) : RG G nt zs N1 N2 := by
  obtain ⟨a1, a2, ⟨a3, a4⟩, a5, a6, a7, a8⟩ := h
  refine ⟨a1, a2.same h1 (fun o k z => k1 o k ?_), ⟨a3.same h2 (fun o k z => k2 o k ?_), by rw [h2.1 _ _ (k2 _ _ rfl)]; exact a4⟩, a5.same h1 h2 (fun o k z => k1 o k ?_) (fun o k z => k2 o k ?_), a6.same h1 h2 (fun o k z => k1 o k ?_) (fun o k z => k2 o k ?_), fun s hs => (a7 s hs).same h1 h2 (fun o k z => k1 o k ?_) (fun o k z => k2 o k ?_), a8.same h1 h2 (fun o k z => k1 o k ?_) (fun o k z => k2 o k ?_)⟩
  · unfold KC0 at z; unfold KC1; simp at z ⊢; omega
  · unfold KR0 at z; unfold KR1; simp at z ⊢; omega
  · unfold KC1; simp; omega
  · unfold KR1; simp; omega
  · unfold KC1; simp; omega
  · unfold KR1; simp; omega
  · unfold KC1; simp; omega
  · unfold KR1; simp; omega
  · unfold KC1; simp; omega
  · unfold KR1; simp; omega
/-- what changes the table -/
theorem RG.tab (h : RG G nt zs M1 M2) (h1 : Sm Ka La M1 N1) (h2 : Sm Kb Lb M2 N2) (k1 : ∀ o k, KC2 o k = true → Ka o k = true) (k2 : ∀ o k, KR2 o k = true → Kb o k = true) (hG : Gok G' ∧ yR G' < nt ∧ yZ G' = zs (yR G')) (hc : AC0 G' N1) (hr : AR0 G' N2) (hm : yM G ≤ yM G') (hK : ∀ e, e < yM G → yK G' e = yK G e) : RG G' nt zs N1 N2 := by
  obtain ⟨a1, a2, ⟨a3, a4⟩, a5, a6, a7, a8⟩ := h
  refine ⟨hG, hc, ⟨hr, by rw [h2.1 _ _ (k2 _ _ rfl)]; exact a4⟩, a5.same h1 h2 (fun o k z => k1 o k ?_) (fun o k z => k2 o k ?_), a6.same h1 h2 (fun o k z => k1 o k ?_) (fun o k z => k2 o k ?_), fun s hs => (a7 s hs).same h1 h2 (fun o k z => k1 o k ?_) (fun o k z => k2 o k ?_), ?_⟩
  · unfold KC2; simp; omega
  · unfold KR2; simp; omega
  · unfold KC2; simp; omega
  · unfold KR2; simp; omega
  · unfold KC2; simp; omega
  · unfold KR2; simp; omega
  · have h8 : Kpt G nt zs N1 N2 := a8.same h1 h2 (fun o k z => k1 o k (by unfold KC2; simp; omega)) (fun o k z => k2 o k (by unfold KR2; simp; omega))
    rcases h8 with h8 | ⟨b, Gk, b1, b2, b3, b4⟩
    · exact Or.inl h8
    · exact Or.inr ⟨b, Gk, b1, by omega, fun e he => by rw [b3 e he, hK e (by omega)], b4⟩
theorem RG.ac (h : RG G nt zs M1 M2) : AC G M1 := by
  obtain ⟨⟨g1, g2, g3⟩, ⟨a1, a2, a3, a4, a5⟩, -, ⟨-, -, -, b⟩, -⟩ := h
  exact ⟨a1, a2, a3, a4, a5, by rw [g3]; exact (b _ g2).2.1⟩
theorem RG.ar (h : RG G nt zs M1 M2) : AR G M2 := by
  obtain ⟨⟨g1, g2, g3⟩, -, ⟨⟨a1, a2, a3, a4, a5⟩, -⟩, ⟨-, -, -, b⟩, -⟩ := h
  exact ⟨a1, a2, a3, a4, a5, by rw [g3]; exact (b _ g2).2.2⟩
/-! ranges -/
theorem tri (x : Int32) {n : Nat} (hn : n < 2 ^ 31) : x < 0 ∨ nI n < x ∨ ∃ j, j ≤ n ∧ x = nI j := by
  by_cases h : x < 0
  · exact Or.inl h
  · obtain ⟨j, hj, rfl⟩ := nI_of h
    rcases Nat.lt_or_ge n j with q | q
    · exact Or.inr (Or.inl (nI_lt q hj))
    · exact Or.inr (Or.inr ⟨j, q, rfl⟩)
theorem out_lo {x a c : Int32} (h : x < a) : ¬ (a ≤ x ∧ x ≤ c) := fun z => Int32.not_lt.mpr z.1 h
theorem out_hi {x a c : Int32} (h : c < x) : ¬ (a ≤ x ∧ x ≤ c) := fun z => Int32.not_lt.mpr z.2 h
theorem lt_le {x : Int32} {n : Nat} (hn : n + 1 < 2 ^ 31) (h : nI n < x) : nI (n + 1) ≤ x := by
  rw [Int32.lt_iff_toInt_lt, nI_toInt (by omega)] at h
  rw [Int32.le_iff_toInt_le, nI_toInt hn]
  omega
theorem lt_nz {x : Int32} {n : Nat} (hn : n < 2 ^ 31) (h : nI n < x) : ¬ x < 0 := by
  rw [Int32.lt_iff_toInt_lt] at h ⊢
  rw [nI_toInt hn] at h
  have : (0 : Int32).toInt = 0 := by decide
  omega
theorem lt_ne {x y : Int32} (h : x < y) : ¬ y = x := fun e => by subst e; rw [Int32.lt_iff_toInt_lt] at h; omega
theorem rin_no {x : Int32} {lo hi : Int64} {a c : Int32} (h1 : lo = a.toInt64) (h2 : hi = c.toInt64) (h : ¬ (a ≤ x ∧ x ≤ c)) (M : Mm) : f_X6_in x.toInt64 lo hi M = some (0, M) := by
  rw [rin h1 h2, if_neg h]
theorem rin_yes {x : Int32} {lo hi : Int64} {a c : Int32} (h1 : lo = a.toInt64) (h2 : hi = c.toInt64) (h : a ≤ x ∧ x ≤ c) (M : Mm) : f_X6_in x.toInt64 lo hi M = some (1, M) := by
  rw [rin h1 h2, if_pos h]
theorem nI_btw {a j c : Nat} (h1 : a ≤ j) (h2 : j ≤ c) (hc : c < 2 ^ 31) : nI a ≤ nI j ∧ nI j ≤ nI c := ⟨(nI_leI (by omega) (by omega)).mpr h1, (nI_leI (by omega) hc).mpr h2⟩
theorem bd_id (x : Option (Int32 × Mm)) : (bd x fun r M => some (r, M)) = x := by
  cases x with
  | none => rfl
  | some q => rfl
theorem has_yes {m : Nat} {x : Int32} (h : M.1 1 3 = nI m) (hm : m ≤ 5) (hx : ∃ i, i < m ∧ x = nI i) : f_X3_has_1 x M = some (1, M) := by
  obtain ⟨i, hi, rfl⟩ := hx
  rw [has_in h hm (by omega), if_pos hi]
theorem has_no {m : Nat} {x : Int32} (h : M.1 1 3 = nI m) (hm : m ≤ 5) (hx : ¬ ∃ i, i < m ∧ x = nI i) : f_X3_has_1 x M = some (0, M) := has_out h hm fun e he q => hx ⟨e, he, q⟩
/-- both come to that, and the relation holds -/
theorem st_of {α : Type} {R : Mm → Mm → Prop} {x y : Option (α × Mm)} {P Q : α × Mm → Prop} (h1 : En x P) (h2 : En y Q) (hr : ∀ a b, P a → Q b → a.1 = b.1 ∧ R a.2 b.2) : ∃ r N1 N2, x = some (r, N1) ∧ y = some (r, N2) ∧ R N1 N2 := by
  obtain ⟨⟨a, A⟩, ea, pa⟩ := h1
  obtain ⟨⟨b, B⟩, eb, qb⟩ := h2
  obtain ⟨e, hR⟩ := hr _ _ pa qb
  have e : a = b := e
  subst e
  exact ⟨a, A, B, ea, eb, hR⟩
theorem st_eq {α : Type} {R : Mm → Mm → Prop} {x y : Option (α × Mm)} {r : α} (h1 : x = some (r, N1)) (h2 : y = some (r, N2)) (h : R N1 N2) : ∃ r N1 N2, x = some (r, N1) ∧ y = some (r, N2) ∧ R N1 N2 := ⟨r, N1, N2, h1, h2, h⟩
end REL
