/-! ===== what a token is, to both ===== -/
section TOK
variable {b : Nat → Int32} {n t p : Nat} {M : Mm}
theorem lat_ge : p ≤ lat b n p := sk_ge
theorem lat_le (h : p ≤ n) : lat b n p ≤ n := sk_le h
theorem ltk_0 (h : bat b n (lat b n p) = -1) : ltk b n p = 0 := by rw [ltk, if_pos h]
theorem ltk_L (h : Le (bat b n (lat b n p)) = true) : ltk b n p = (if lwd b n p = 12 then 1 else if lwd b n p < 6 then 3 else nI (94 + lwd b n p)) := by
  rw [ltk, if_neg, if_pos h]
  intro z
  rw [z, Le_m] at h
  cases h
theorem lnx_gt (hp : p ≤ n) (h : ltk b n p ≠ 0) : p < lnx b n p ∧ lnx b n p ≤ n := by
  have h1 : ¬ bat b n (lat b n p) = -1 := fun z => h (ltk_0 z)
  have hlt : lat b n p < n := by
    rcases Nat.lt_or_ge (lat b n p) n with q | q
    · exact q
    · exact absurd (bat_out q) h1
  have hg : p ≤ lat b n p := lat_ge
  rw [lnx, if_neg h1]
  split
  · next q =>
    have a1 : lat b n p + 1 ≤ sk Le b n (lat b n p) := by rw [sk_t Le_m q]; exact sk_ge
    have a2 : sk Le b n (lat b n p) ≤ n := sk_le (Nat.le_of_lt hlt)
    omega
  · split
    · next q =>
      have a1 : lat b n p + 1 ≤ sk Di b n (lat b n p) := by rw [sk_t Di_m q]; exact sk_ge
      have a2 : sk Di b n (lat b n p) ≤ n := sk_le (Nat.le_of_lt hlt)
      omega
    · omega
theorem lwd_le : lwd b n p ≤ 12 := wid_le _ _ _
theorem keyw : ∀ w, w < 12 → 6 ≤ w → ∀ s : Int32, Sg s = true ∨ s = 0 ∨ s = 1 ∨ s = 2 ∨ s = 3 → ¬ nI (94 + w) = s := by
  intro w h1 h2 s hs e
  subst e
  rcases (by omega : w = 6 ∨ w = 7 ∨ w = 8 ∨ w = 9 ∨ w = 10 ∨ w = 11) with rfl | rfl | rfl | rfl | rfl | rfl <;> revert hs <;> decide
theorem ltk_nsg (h : Le (bat b n (lat b n p)) = true) {s : Int32} (hs : Sg s = true ∨ s = 0 ∨ s = 2) : ¬ ltk b n p = s := by
  rw [ltk_L h]
  have hw := lwd_le (b := b) (n := n) (p := p)
  split
  · rcases hs with hs | rfl | rfl
    · rintro rfl; revert hs; decide
    · decide
    · decide
  · split
    · rcases hs with hs | rfl | rfl
      · rintro rfl; revert hs; decide
      · decide
      · decide
    · refine keyw _ (by omega) (by omega) s ?_
      rcases hs with hs | rfl | rfl
      · exact Or.inl hs
      · exact Or.inr (Or.inl rfl)
      · exact Or.inr (Or.inr (Or.inr (Or.inl rfl)))
theorem ltk_key {w : Nat} (h6 : 6 ≤ w) (hw : w < 12) : ltk b n p = nI (94 + w) ↔ Le (bat b n (lat b n p)) = true ∧ lwd b n p = w := by
  have hle := lwd_le (b := b) (n := n) (p := p)
  by_cases hl : Le (bat b n (lat b n p)) = true
  · rw [ltk_L hl]
    constructor
    · intro h
      refine ⟨hl, ?_⟩
      split at h
      · exact absurd h.symm (keyw w hw h6 1 (Or.inr (Or.inr (Or.inl rfl))))
      · split at h
        · exact absurd h.symm (keyw w hw h6 3 (Or.inr (Or.inr (Or.inr (Or.inr rfl)))))
        · have := nI_inj (by omega) (by omega) h
          omega
    · rintro ⟨-, h⟩
      rw [if_neg (by omega), if_neg (by omega), h]
  · constructor
    · intro h
      exfalso
      rw [ltk] at h
      split at h
      · exact keyw w hw h6 0 (Or.inr (Or.inl rfl)) h.symm
      · split at h
        · split at h
          · exact keyw w hw h6 2 (Or.inr (Or.inr (Or.inr (Or.inl rfl)))) h.symm
          · exact keyw w hw h6 1 (Or.inr (Or.inr (Or.inl rfl))) h.symm
        · split at h
          · next q => exact keyw w hw h6 _ (Or.inl q) h.symm
          · exact keyw w hw h6 1 (Or.inr (Or.inr (Or.inl rfl))) h.symm
    · rintro ⟨h, -⟩
      exact absurd h hl
theorem ltk_name : ltk b n p = 3 ↔ Le (bat b n (lat b n p)) = true ∧ lwd b n p < 6 := by
  have hle := lwd_le (b := b) (n := n) (p := p)
  by_cases hl : Le (bat b n (lat b n p)) = true
  · rw [ltk_L hl]
    constructor
    · intro h
      refine ⟨hl, ?_⟩
      split at h
      · exact absurd h (by decide)
      · split at h
        · assumption
        · exact absurd h (keyw _ (by omega) (by omega) 3 (Or.inr (Or.inr (Or.inr (Or.inr rfl)))))
    · rintro ⟨-, h⟩
      rw [if_neg (by omega), if_pos h]
  · constructor
    · intro h
      exfalso
      rw [ltk] at h
      split at h
      · exact absurd h (by decide)
      · split at h
        · split at h <;> exact absurd h (by decide)
        · split at h
          · next q => rw [h] at q; exact absurd q (by decide)
          · exact absurd h (by decide)
    · rintro ⟨h, -⟩
      exact absurd h hl
/-! the reference asks what the token is -/
theorem Lr.here (h : Lr b n p M) (h0 : ltk b n p ≠ 0) (h1 : ltk b n p ≠ 1) : M.1 0 23 = nI (lnx b n p) := by
  obtain ⟨-, ⟨-, z, -⟩ | ⟨-, -, q, -⟩ | ⟨-, -, q, -⟩ | ⟨-, -, q, -⟩ | ⟨z, -, -⟩⟩ := h
  · exact absurd z h0
  · exact q
  · exact q
  · exact q
  · exact absurd z h1
theorem rsg_eq (h : Lr b n p M) (hb : M.1 0 28 = 0) {s : Int32} (hs : Sg s = true) : f_X6_isSign s M = some (if ltk b n p = s then 1 else 0, M) := by
  unfold f_X6_isSign
  rw [if_pos hb]
  obtain ⟨-, ⟨-, z, q⟩ | ⟨hl, q, -⟩ | ⟨z, q, -⟩ | ⟨-, q, -, g⟩ | ⟨z, q, hx⟩⟩ := h
  · rw [if_neg (by rw [q]; decide), if_neg]
    rw [z]; rintro rfl; revert hs; decide
  · rw [if_neg (by rw [q]; decide), if_neg (ltk_nsg hl (Or.inl hs))]
  · rw [if_neg (by rw [q]; decide), if_neg]
    rw [z]; rintro rfl; revert hs; decide
  · rw [if_pos q, g]
    by_cases e : ltk b n p = s
    · rw [if_pos ((cmp_eq _ _).mpr e), if_pos e]
    · rw [if_neg (fun z => e ((cmp_eq _ _).mp z)), if_neg e]
  · rw [if_neg (by rw [q]; decide), if_neg]
    rw [z]; rintro rfl; revert hs; decide
theorem rlet_eq {s e i : Nat} {x : Int32} (hT : Tr b n t M) (h25 : M.1 0 25 = nI s) (h23 : M.1 0 23 = nI e) (hse : s ≤ e) (hen : e ≤ n) (hi : i < 8) : f_X6_isLetter (nI i) x M = some (if (if e - s ≤ i then 0 else b (s + i)) = x then 1 else 0, M) := by
  have hn := hT.2.2.1
  unfold f_X6_isLetter
  rw [h23, h25, nI_add]
  by_cases q : e ≤ s + i
  · rw [if_pos (by rw [nI_leI (by omega) (by omega)]; exact q), if_pos (by omega : e - s ≤ i)]
    by_cases hx : x = 0
    · rw [if_pos hx, if_pos hx.symm]
    · rw [if_neg hx, if_neg (fun z => hx z.symm)]
  · rw [if_neg (by rw [nI_leI (by omega) (by omega)]; exact q), if_neg (by omega : ¬ e - s ≤ i), rbyte_eq hT (by omega)]
    rw [bat_in (by omega)]
    show (if b (s + i) = x then _ else _) = _
    by_cases hx : b (s + i) = x
    · rw [if_pos hx, if_pos hx]
    · rw [if_neg hx, if_neg hx]
theorem wd_8 : ∀ w, w < 12 → (sByt.getD (w + 1) []).length ≤ 8 := by decide +kernel
theorem wd_nz : ∀ w, w < 12 → ∀ j, j < (sByt.getD (w + 1) []).length → (sByt.getD (w + 1) []).getD j 0 ≠ 0 := by decide +kernel
theorem wd_fit {s e w : Nat} (hw : w < 12) (hl : ∀ j, j < e - s → b (s + j) ≠ 0) : sByt.getD (w + 1) [] = sl b s e ↔ e - s ≤ 8 ∧ ∀ i, i < 8 → (if e - s ≤ i then 0 else b (s + i)) = (sByt.getD (w + 1) []).getD i 0 := by
  rw [sl_eq]
  have h8 := wd_8 w hw
  constructor
  · rintro ⟨h1, h2⟩
    refine ⟨by omega, fun i hi => ?_⟩
    split
    · next q =>
      rw [List.getD_eq_getElem?_getD, List.getElem?_eq_none (by omega)]; rfl
    · next q => exact (h2 i (by omega)).symm
  · rintro ⟨h1, h2⟩
    have hlen : (sByt.getD (w + 1) []).length = e - s := by
      rcases Nat.lt_trichotomy (sByt.getD (w + 1) []).length (e - s) with q | q | q
      · have := h2 (sByt.getD (w + 1) []).length (by omega)
        rw [if_neg (by omega)] at this
        have h9 : ∀ l : List Int32, l.getD l.length 0 = 0 := fun l => by rw [List.getD_eq_getElem?_getD, List.getElem?_eq_none (Nat.le_refl _)]; rfl
        rw [h9] at this
        exact absurd this (hl _ q)
      · exact q
      · have := h2 (e - s) (by omega)
        rw [if_pos (Nat.le_refl _)] at this
        exact absurd this.symm (wd_nz w hw _ q)
    refine ⟨hlen, fun j hj => ?_⟩
    have := h2 j (by omega)
    rw [if_neg (by omega)] at this
    exact this.symm
theorem rwd_eq (hB : Byt b n) (hT : Tr b n t M) (hp : p ≤ n) (h : Lr b n p M) (hb : M.1 0 28 = 0) {w : Nat} (hw : w < 12) :
    f_X6_isWord ((sByt.getD (w + 1) []).getD 0 0) ((sByt.getD (w + 1) []).getD 1 0) ((sByt.getD (w + 1) []).getD 2 0) ((sByt.getD (w + 1) []).getD 3 0) ((sByt.getD (w + 1) []).getD 4 0) ((sByt.getD (w + 1) []).getD 5 0) ((sByt.getD (w + 1) []).getD 6 0) ((sByt.getD (w + 1) []).getD 7 0) M
      = some (if Le (bat b n (lat b n p)) = true ∧ lwd b n p = w then 1 else 0, M) := by
  have hn := hT.2.2.1
  have hlat := lat_le (b := b) hp
  unfold f_X6_isWord
  rw [if_pos hb]
  obtain ⟨h25, ⟨hm, -, q⟩ | ⟨hl, q, h23, hx⟩ | ⟨z, q, -⟩ | ⟨z, q, -⟩ | ⟨z, q, hx⟩⟩ := h
  · rw [if_neg (by rw [q]; decide), if_neg]
    rintro ⟨hl, -⟩
    rw [hm, Le_m] at hl; cases hl
  · rw [if_pos q]
    rw [hx] at h23
    have hge : lat b n p ≤ sk Le b n (lat b n p) := sk_ge
    have hle : sk Le b n (lat b n p) ≤ n := sk_le hlat
    have hnz : ∀ j, j < sk Le b n (lat b n p) - lat b n p → b (lat b n p + j) ≠ 0 := by
      intro j hj z
      have h1 := sk_in (P := Le) (b := b) (n := n) (p := lat b n p) Le_m (lat b n p + j) (by omega) (by omega)
      rw [bat_in (by omega), z] at h1
      exact absurd h1 (by decide)
    have hcond : (Le (bat b n (lat b n p)) = true ∧ lwd b n p = w) ↔ (sk Le b n (lat b n p) - lat b n p ≤ 8 ∧ ∀ i, i < 8 → (if sk Le b n (lat b n p) - lat b n p ≤ i then 0 else b (lat b n p + i)) = (sByt.getD (w + 1) []).getD i 0) := by
      rw [← wd_fit hw hnz, ← wid_iff hw]
      exact ⟨fun z => z.2, fun z => ⟨hl, z⟩⟩
    rw [h23, h25]
    show (if nI (lat b n p) + nI 8 < _ then _ else _) = _
    rw [nI_add]
    by_cases q8 : sk Le b n (lat b n p) - lat b n p ≤ 8
    · rw [if_neg (by rw [nI_ltI (by omega) (by omega)]; omega)]
      have L : ∀ (i : Nat) (x : Int32), i < 8 → f_X6_isLetter (nI i) x M = some (if (if sk Le b n (lat b n p) - lat b n p ≤ i then 0 else b (lat b n p + i)) = x then 1 else 0, M) := fun i x hi => rlet_eq hT h25 h23 hge hle hi
      have no : ∀ i, i < 8 → ¬ (if sk Le b n (lat b n p) - lat b n p ≤ i then 0 else b (lat b n p + i)) = (sByt.getD (w + 1) []).getD i 0 → (some ((0 : Int32), M)) = some (if Le (bat b n (lat b n p)) = true ∧ lwd b n p = w then 1 else 0, M) := by
        intro i hi hne
        rw [if_neg (fun z => hne ((hcond.mp z).2 i hi))]
      have step : ∀ (i : Nat) (k : Mm → Option (Int32 × Mm)), i < 8 → ((if sk Le b n (lat b n p) - lat b n p ≤ i then 0 else b (lat b n p + i)) = (sByt.getD (w + 1) []).getD i 0 → k M = some (if Le (bat b n (lat b n p)) = true ∧ lwd b n p = w then 1 else 0, M)) → bd (f_X6_isLetter (nI i) ((sByt.getD (w + 1) []).getD i 0) M) (fun r M1 => if r = 0 then some (0, M1) else k M1) = some (if Le (bat b n (lat b n p)) = true ∧ lwd b n p = w then 1 else 0, M) := by
        intro i k hi h1
        rw [L i _ hi]
        show (if _ = (0 : Int32) then some (0, M) else k M) = _
        by_cases e : (if sk Le b n (lat b n p) - lat b n p ≤ i then 0 else b (lat b n p + i)) = (sByt.getD (w + 1) []).getD i 0
        · rw [if_pos e, if_neg (show ¬ (1 : Int32) = 0 by decide)]; exact h1 e
        · rw [if_neg e, if_pos rfl]; exact no i hi e
      refine step 0 _ (by omega) (fun e0 => ?_)
      refine step 1 _ (by omega) (fun e1 => ?_)
      refine step 2 _ (by omega) (fun e2 => ?_)
      refine step 3 _ (by omega) (fun e3 => ?_)
      refine step 4 _ (by omega) (fun e4 => ?_)
      refine step 5 _ (by omega) (fun e5 => ?_)
      refine step 6 _ (by omega) (fun e6 => ?_)
      refine step 7 _ (by omega) (fun e7 => ?_)
      rw [if_pos]
      refine hcond.mpr ⟨q8, fun i hi => ?_⟩
      rcases (by omega : i = 0 ∨ i = 1 ∨ i = 2 ∨ i = 3 ∨ i = 4 ∨ i = 5 ∨ i = 6 ∨ i = 7) with rfl | rfl | rfl | rfl | rfl | rfl | rfl | rfl <;> assumption
    · rw [if_pos (by rw [nI_ltI (by omega) (by omega)]; omega), if_neg (fun z => q8 (hcond.mp z).1)]
  · rw [if_neg (by rw [q]; decide), if_neg]
    rintro ⟨hl, -⟩
    exact ltk_nsg hl (Or.inr (Or.inr rfl)) z
  · rw [if_neg (by rw [q]; decide), if_neg]
    rintro ⟨hl, -⟩
    exact ltk_nsg hl (Or.inl z) rfl
  · rw [if_neg (by rw [q]; decide), if_neg]
    rintro ⟨hl, hw2⟩
    rw [ltk_L hl, hw2, if_neg (by omega)] at z
    split at z
    · exact absurd z (by decide)
    · exact keyw w hw (by omega) 1 (Or.inr (Or.inr (Or.inl rfl))) z
/-- a key of the reference -/
theorem rkey_eq (hB : Byt b n) (hT : Tr b n t M) (hp : p ≤ n) (h : Lr b n p M) (hb : M.1 0 28 = 0) {w : Nat} (hw : w < 12) (h6 : 6 ≤ w) :
    f_X6_isWord ((sByt.getD (w + 1) []).getD 0 0) ((sByt.getD (w + 1) []).getD 1 0) ((sByt.getD (w + 1) []).getD 2 0) ((sByt.getD (w + 1) []).getD 3 0) ((sByt.getD (w + 1) []).getD 4 0) ((sByt.getD (w + 1) []).getD 5 0) ((sByt.getD (w + 1) []).getD 6 0) ((sByt.getD (w + 1) []).getD 7 0) M
      = some (if ltk b n p = nI (94 + w) then 1 else 0, M) := by
  rw [rwd_eq hB hT hp h hb hw]
  by_cases q : ltk b n p = nI (94 + w)
  · rw [if_pos q, if_pos ((ltk_key h6 hw).mp q)]
  · rw [if_neg q, if_neg (fun z => q ((ltk_key h6 hw).mpr z))]
theorem Lr.num (h : Lr b n p M) : M.1 0 24 = 2 ↔ ltk b n p = 2 := by
  obtain ⟨-, ⟨-, z, q⟩ | ⟨hl, q, -⟩ | ⟨z, q, -⟩ | ⟨z, q, -⟩ | ⟨z, q, hx⟩⟩ := h
  · rw [q, z]
  · rw [q]; exact ⟨fun z => absurd z (by decide), fun z => absurd z (ltk_nsg hl (Or.inr (Or.inr rfl)))⟩
  · rw [q, z]
  · rw [q]; exact ⟨fun z => absurd z (by decide), fun y => absurd (y ▸ z) (by decide)⟩
  · rw [q, z]; exact ⟨fun z => absurd z (by decide), fun z => absurd z (by decide)⟩
theorem Lr.numv (h : Lr b n p M) (h2 : ltk b n p = 2) : (M.2 0).toInt32 = lcd b n p := by
  obtain ⟨-, ⟨-, z, q⟩ | ⟨hl, q, -⟩ | ⟨z, q, -, v, g1, g2⟩ | ⟨z, q, -⟩ | ⟨z, q, hx⟩⟩ := h
  · rw [h2] at z; exact absurd z (by decide)
  · exact absurd h2 (ltk_nsg hl (Or.inr (Or.inr rfl)))
  · rw [g2, g1, lN_i]
  · rw [h2] at z; exact absurd z (by decide)
  · rw [h2] at z; exact absurd z (by decide)
theorem Lr.word (h : Lr b n p M) : M.1 0 24 = 1 ↔ Le (bat b n (lat b n p)) = true := by
  obtain ⟨-, ⟨z, -, q⟩ | ⟨hl, q, -⟩ | ⟨z, q, -⟩ | ⟨z, q, -⟩ | ⟨z, q, hx⟩⟩ := h
  · rw [q]; exact ⟨fun z => absurd z (by decide), fun y => by rw [z, Le_m] at y; cases y⟩
  · exact ⟨fun _ => hl, fun _ => q⟩
  · rw [q]; exact ⟨fun z => absurd z (by decide), fun y => absurd z (ltk_nsg y (Or.inr (Or.inr rfl)))⟩
  · rw [q]; exact ⟨fun z => absurd z (by decide), fun y => absurd rfl (ltk_nsg y (Or.inl z))⟩
  · rw [q]
    exact ⟨fun z => absurd z (by decide), fun y => absurd y hx⟩
end TOK
