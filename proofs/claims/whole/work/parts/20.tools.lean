/-! ===== level 2: tools for the pure functions ===== -/
/-- it comes to something, of which P holds -/
def En {α : Type} (x : Option α) (P : α → Prop) : Prop := ∃ a, x = some a ∧ P a
section EN
variable {α β σ ρ : Type}
theorem en_some {a : α} {P : α → Prop} (h : P a) : En (some a) P := ⟨a, rfl, h⟩
theorem en_of {x : Option α} {a : α} {P : α → Prop} (e : x = some a) (h : P a) : En x P := ⟨a, e, h⟩
theorem en_imp {x : Option α} {P Q : α → Prop} (h : En x P) (i : ∀ a, P a → Q a) : En x Q := by
  obtain ⟨a, e, p⟩ := h
  exact ⟨a, e, i a p⟩
theorem en_eq {x : Option α} {a : α} (h : En x (fun b => b = a)) : x = some a := by
  obtain ⟨b, e, rfl⟩ := h
  exact e
theorem en_bi {x : Int32} {k : Int32 → Option α} {P : α → Prop} (h : En (k x) P) : En (bi x k) P := h
theorem en_bl {x : Int64} {k : Int64 → Option α} {P : α → Prop} (h : En (k x) P) : En (bl x k) P := h
theorem en_bm {x : Mm} {k : Mm → Option α} {P : α → Prop} (h : En (k x) P) : En (bm x k) P := h
theorem en_bd {x : Option (Int32 × Mm)} {k : Int32 → Mm → Option α} {P : α → Prop} (h : En x (fun q => En (k q.1 q.2) P)) : En (bd x k) P := by
  obtain ⟨q, rfl, h⟩ := h
  exact h
theorem en_bdl {x : Option (Int64 × Mm)} {k : Int64 → Mm → Option α} {P : α → Prop} (h : En x (fun q => En (k q.1 q.2) P)) : En (bdl x k) P := by
  obtain ⟨q, rfl, h⟩ := h
  exact h
theorem en_bds {x : Option (Nat × Mm)} {k : Nat → Mm → Option α} {P : α → Prop} (h : En x (fun q => En (k q.1 q.2) P)) : En (bds x k) P := by
  obtain ⟨q, rfl, h⟩ := h
  exact h
theorem en_bv {x : Option Mm} {k : Mm → Option α} {P : α → Prop} (h : En x (fun q => En (k q) P)) : En (bv x k) P := by
  obtain ⟨q, rfl, h⟩ := h
  exact h
theorem en_bd' {x : Option (Int32 × Mm)} {k : Int32 → Mm → Option α} {P : α → Prop} {r : Int32} {M : Mm} (e : x = some (r, M)) (h : En (k r M) P) : En (bd x k) P := by
  subst e; exact h
theorem en_bdl' {x : Option (Int64 × Mm)} {k : Int64 → Mm → Option α} {P : α → Prop} {r : Int64} {M : Mm} (e : x = some (r, M)) (h : En (k r M) P) : En (bdl x k) P := by
  subst e; exact h
theorem en_bds' {x : Option (Nat × Mm)} {k : Nat → Mm → Option α} {P : α → Prop} {r : Nat} {M : Mm} (e : x = some (r, M)) (h : En (k r M) P) : En (bds x k) P := by
  subst e; exact h
theorem en_bv' {x : Option Mm} {k : Mm → Option α} {P : α → Prop} {M : Mm} (e : x = some M) (h : En (k M) P) : En (bv x k) P := by
  subst e; exact h
theorem en_gd {c : Prop} {h : Decidable c} {t : Option α} {P : α → Prop} (hc : c) (k : En t P) : En (gd c h t) P := by
  unfold gd
  rw [if_pos hc]
  exact k
theorem en_ite {c : Prop} {h : Decidable c} {a b : Option α} {P : α → Prop} (ha : c → En a P) (hb : ¬ c → En b P) : En (@ite _ c h a b) P := by
  by_cases hc : c
  · rw [if_pos hc]; exact ha hc
  · rw [if_neg hc]; exact hb hc
theorem en_t {c : Prop} {h : Decidable c} {a b : Option α} {P : α → Prop} (hc : c) (ha : En a P) : En (@ite _ c h a b) P := by rw [if_pos hc]; exact ha
theorem en_f {c : Prop} {h : Decidable c} {a b : Option α} {P : α → Prop} (hc : ¬ c) (hb : En b P) : En (@ite _ c h a b) P := by rw [if_neg hc]; exact hb
theorem en_ex {t : Option ρ} {P : σ ⊕ ρ → Prop} (h : En t (fun y => P (.inr y))) : En (ex t : Option (σ ⊕ ρ)) P := by
  obtain ⟨y, rfl, h⟩ := h
  exact ⟨_, rfl, h⟩
/-- a loop: an invariant, a measure that falls -/
def Lp (I : σ → Prop) (μ : σ → Nat) (s : σ) (Q : ρ → Prop) : σ ⊕ ρ → Prop
  | .inl s' => I s' ∧ μ s' < μ s
  | .inr y => Q y
theorem en_iter {body : σ → Option (σ ⊕ ρ)} (I : σ → Prop) (μ : σ → Nat) {Q : ρ → Prop} {n : Nat} {s : σ} (h0 : I s) (hn : μ s < n) (hs : ∀ s, I s → En (body s) (Lp I μ s Q)) : En (iter body n s) Q := by
  induction n generalizing s with
  | zero => omega
  | succ n ih =>
    obtain ⟨z, e, hz⟩ := hs s h0
    unfold iter
    rw [e]
    cases z with
    | inl s' => exact ih hz.1 (by have := hz.2; omega)
    | inr y => exact ⟨y, rfl, hz⟩
theorem fuel_gt : 4000 < fuel := by decide
end EN
/-! numbers -/
theorem nI_lit (n : Nat) : (OfNat.ofNat n : Int32) = nI n := rfl
theorem bin_nI {i n : Nat} (h : i < n) (hn : n < 2 ^ 31) : bin (nI i) n = true := decide_eq_true (vp_in_nI h hn)
theorem bin_iff {x : Int32} {n : Nat} (hn : n < 2 ^ 31) : bin x n = true ↔ ∃ i, i < n ∧ x = nI i := by
  constructor
  · intro h
    exact vp_in_of (bin_in h) hn
  · rintro ⟨i, hi, rfl⟩
    exact bin_nI hi hn
theorem cl_nI {n : Nat} (h : n < 2 ^ 31) : Int32.toNatClampNeg (nI n) = n := nI_clamp h
theorem nI_ltz {n : Nat} (h : n < 2 ^ 31) : ¬ nI n < (0 : Int32) := nI_pos h
theorem nI_inj {a b : Nat} (ha : a < 2 ^ 31) (hb : b < 2 ^ 31) (h : nI a = nI b) : a = b := (nI_eq ha hb).mp h
/-- an int of a range, by its number -/
def Rg (x : Int32) (n : Nat) : Prop := ∃ i : Nat, i ≤ n ∧ x = nI i
theorem rg_of {x : Int32} {n : Nat} (hn : n < 2 ^ 31) (h0 : ¬ x < 0) (h1 : x ≤ nI n) : Rg x n := by
  obtain ⟨j, hj, rfl⟩ := nI_of h0
  exact ⟨j, (nI_leI hj hn).mp h1, rfl⟩
theorem ms_get (M : Mm) (o k : Nat) (v : Int32) (o' k' : Nat) : (ms M o k v).1 o' k' = if o' = o ∧ k' = k then v else M.1 o' k' := rfl
theorem ms_long (M : Mm) (o k : Nat) (v : Int32) (o' : Nat) : (ms M o k v).2 o' = M.2 o' := rfl
theorem ml_get (M : Mm) (o : Nat) (v : Int64) (o' k' : Nat) : (ml M o v).1 o' k' = M.1 o' k' := rfl
theorem ml_long (M : Mm) (o : Nat) (v : Int64) (o' : Nat) : (ml M o v).2 o' = if o' = o then v else M.2 o' := rfl
/-- what of a memory stays: the places of K, and the longs of KL -/
def Sm (K : Nat → Nat → Bool) (KL : Nat → Bool) (M M' : Mm) : Prop := (∀ o k, K o k = true → M'.1 o k = M.1 o k) ∧ ∀ o, KL o = true → M'.2 o = M.2 o
theorem Sm.rf {K : Nat → Nat → Bool} {KL : Nat → Bool} {M : Mm} : Sm K KL M M := ⟨fun _ _ _ => rfl, fun _ _ => rfl⟩
theorem Sm.tr {K : Nat → Nat → Bool} {KL : Nat → Bool} {M M1 M2 : Mm} (h1 : Sm K KL M M1) (h2 : Sm K KL M1 M2) : Sm K KL M M2 := ⟨fun o k h => (h2.1 o k h).trans (h1.1 o k h), fun o h => (h2.2 o h).trans (h1.2 o h)⟩
theorem Sm.put {K : Nat → Nat → Bool} {KL : Nat → Bool} {M M1 : Mm} {o k : Nat} {v : Int32} (h : Sm K KL M M1) (hk : K o k = false) : Sm K KL M (ms M1 o k v) := by
  refine ⟨fun o' k' h' => ?_, fun o' h' => h.2 o' h'⟩
  rw [ms_get, if_neg]
  · exact h.1 o' k' h'
  · rintro ⟨rfl, rfl⟩
    rw [hk] at h'
    cases h'
theorem Sm.putl {K : Nat → Nat → Bool} {KL : Nat → Bool} {M M1 : Mm} {o : Nat} {v : Int64} (h : Sm K KL M M1) (hk : KL o = false) : Sm K KL M (ml M1 o v) := by
  refine ⟨fun o' k' h' => h.1 o' k' h', fun o' h' => ?_⟩
  rw [ml_long, if_neg]
  · exact h.2 o' h'
  · rintro rfl
    rw [hk] at h'
    cases h'
theorem Sm.weak {K K2 : Nat → Nat → Bool} {KL KL2 : Nat → Bool} {M M' : Mm} (h : Sm K KL M M') (h1 : ∀ o k, K2 o k = true → K o k = true) (h2 : ∀ o, KL2 o = true → KL o = true) : Sm K2 KL2 M M' := ⟨fun o k q => h.1 o k (h1 o k q), fun o q => h.2 o (h2 o q)⟩
section EN2
variable {α : Type}
theorem en_biv {x : Int32} {k : Int32 → Option α} {P : α → Prop} (h : ∀ y, y = x → En (k y) P) : En (bi x k) P := h x rfl
theorem en_blv {x : Int64} {k : Int64 → Option α} {P : α → Prop} (h : ∀ y, y = x → En (k y) P) : En (bl x k) P := h x rfl
theorem en_bmv {x : Mm} {k : Mm → Option α} {P : α → Prop} (h : ∀ M1, M1 = x → En (k M1) P) : En (bm x k) P := h x rfl
theorem sm_1 {K : Nat → Nat → Bool} {KL : Nat → Bool} {M M1 : Mm} {o k : Nat} {v : Int32} (e : M1 = ms M o k v) (hk : K o k = false) : Sm K KL M M1 := by
  rw [e]; exact Sm.rf.put hk
theorem ms_at {M M1 : Mm} {o k : Nat} {v : Int32} (e : M1 = ms M o k v) : M1.1 o k = v := by
  rw [e, ms_get, if_pos ⟨rfl, rfl⟩]
theorem ms_off {M M1 : Mm} {o k o' k' : Nat} {v : Int32} (e : M1 = ms M o k v) (h : ¬ (o' = o ∧ k' = k)) : M1.1 o' k' = M.1 o' k' := by
  rw [e, ms_get, if_neg h]
end EN2
