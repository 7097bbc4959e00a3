/-! ===== the reading of texts: tokens, as both read them ===== -/
def bat (b : Nat → Int32) (n p : Nat) : Int32 := if p < n then b p else -1
def skG (P : Int32 → Bool) (b : Nat → Int32) (n : Nat) : Nat → Nat → Nat
  | 0, p => p
  | k + 1, p => if P (bat b n p) = true then skG P b n k (p + 1) else p
/-- the first place from p on where P doesn't hold -/
def sk (P : Int32 → Bool) (b : Nat → Int32) (n p : Nat) : Nat := skG P b n (n - p) p
section SK
variable {P : Int32 → Bool} {b : Nat → Int32} {n p : Nat}
theorem bat_in (h : p < n) : bat b n p = b p := if_pos h
theorem bat_out (h : n ≤ p) : bat b n p = -1 := if_neg (by omega)
theorem bat_lt (hP : P (-1) = false) (h : P (bat b n p) = true) : p < n := by
  rcases Nat.lt_or_ge p n with q | q
  · exact q
  · rw [bat_out q, hP] at h; cases h
theorem sk_t (hP : P (-1) = false) (h : P (bat b n p) = true) : sk P b n p = sk P b n (p + 1) := by
  have hl := bat_lt hP h
  unfold sk
  rw [show n - p = (n - (p + 1)) + 1 by omega, skG, if_pos h]
theorem sk_f (h : P (bat b n p) = false) : sk P b n p = p := by
  unfold sk
  cases hk : n - p with
  | zero => rfl
  | succ k => rw [skG, if_neg (by rw [h]; decide)]
theorem skG_ge : ∀ k p, p ≤ skG P b n k p
  | 0, p => Nat.le_refl _
  | k + 1, p => by
    rw [skG]
    split
    · exact Nat.le_trans (Nat.le_succ p) (skG_ge k (p + 1))
    · exact Nat.le_refl _
theorem skG_le : ∀ k p, skG P b n k p ≤ p + k
  | 0, p => Nat.le_refl _
  | k + 1, p => by
    rw [skG]
    split
    · have := skG_le k (p + 1); omega
    · omega
theorem sk_ge : p ≤ sk P b n p := skG_ge _ _
theorem sk_le (h : p ≤ n) : sk P b n p ≤ n := by have := skG_le (P := P) (b := b) (n := n) (n - p) p; unfold sk; omega
theorem sk_ind (hP : P (-1) = false) (Q : Nat → Prop) (ht : ∀ q, P (bat b n q) = true → Q (q + 1) → Q q) (hf : ∀ q, P (bat b n q) = false → Q q) : ∀ q, Q q := by
  intro q
  have key : ∀ k q, n - q = k → Q q := by
    intro k
    induction k with
    | zero => intro q hq; exact hf q (by rw [bat_out (by omega)]; exact hP)
    | succ k ih =>
      intro q hq
      cases hb : P (bat b n q) with
      | true => exact ht q hb (ih (q + 1) (by omega))
      | false => exact hf q hb
  exact key _ q rfl
theorem sk_end (hP : P (-1) = false) : P (bat b n (sk P b n p)) = false :=
  sk_ind (P := P) (b := b) (n := n) hP (fun q => P (bat b n (sk P b n q)) = false) (fun q h ih => by rw [sk_t hP h]; exact ih) (fun q h => by rw [sk_f h]; exact h) p
theorem sk_in (hP : P (-1) = false) : ∀ i, p ≤ i → i < sk P b n p → P (bat b n i) = true := by
  refine sk_ind (P := P) (b := b) (n := n) hP (fun q => ∀ i, q ≤ i → i < sk P b n q → P (bat b n i) = true) (fun q h ih i h1 h2 => ?_) (fun q h i h1 h2 => ?_) p
  · rcases Nat.eq_or_lt_of_le h1 with e | e
    · rw [← e]; exact h
    · exact ih i e (by rw [← sk_t hP h]; exact h2)
  · rw [sk_f h] at h2; omega
end SK
def Bl (c : Int32) : Bool := decide (c = 32) || decide (c = 10)
def Le (c : Int32) : Bool := decide (97 ≤ c) && decide (c ≤ 122)
def Di (c : Int32) : Bool := decide (48 ≤ c) && decide (c ≤ 57)
def Sg (c : Int32) : Bool := decide (c = 40) || (decide (c = 41) || (decide (c = 59) || (decide (c = 43) || (decide (c = 45) || (decide (c = 42) || (decide (c = 60) || decide (c = 61)))))))
theorem Bl_m : Bl (-1) = false := by decide
theorem Le_m : Le (-1) = false := by decide
theorem Di_m : Di (-1) = false := by decide
/-- the words: names 0 .. 5, keys 6 .. 11 -/
def wds : List (List Int32) := sByt.drop 1
def sl (b : Nat → Int32) (s e : Nat) : List Int32 := (List.range (e - s)).map (fun i => b (s + i))
def wid (b : Nat → Int32) (s e : Nat) : Nat := wds.findIdx (fun w => w == sl b s e)
def dgt (c : Int32) : Nat := c.toNatClampNeg - 48
def dv (b : Nat → Int32) (s : Nat) : Nat → Nat
  | 0 => 0
  | k + 1 => 10 * dv b s k + dgt (b (s + k))
def lat (b : Nat → Int32) (n p : Nat) : Nat := sk Bl b n p
def lnx (b : Nat → Int32) (n p : Nat) : Nat :=
  if bat b n (lat b n p) = -1 then lat b n p else if Le (bat b n (lat b n p)) = true then sk Le b n (lat b n p) else if Di (bat b n (lat b n p)) = true then sk Di b n (lat b n p) else lat b n p + 1
def lwd (b : Nat → Int32) (n p : Nat) : Nat := wid b (lat b n p) (sk Le b n (lat b n p))
/-- a token as the class numbers them: 0 the end, 1 broken, 2 a number, 3 a name, 100 .. 105 the keys, else the sign -/
def ltk (b : Nat → Int32) (n p : Nat) : Int32 :=
  if bat b n (lat b n p) = -1 then 0
  else if Le (bat b n (lat b n p)) = true then (if lwd b n p = 12 then 1 else if lwd b n p < 6 then 3 else nI (94 + lwd b n p))
  else if Di (bat b n (lat b n p)) = true then (if sk Di b n (lat b n p) - lat b n p ≤ 4 then 2 else 1)
  else if Sg (bat b n (lat b n p)) = true then bat b n (lat b n p) else 1
def lcd (b : Nat → Int32) (n p : Nat) : Int32 :=
  if Le (bat b n (lat b n p)) = true then nI (10000 + lwd b n p) else nI (dv b (lat b n p) (sk Di b n (lat b n p) - lat b n p))
/-- a tape: n bytes -/
def Byt (b : Nat → Int32) (n : Nat) : Prop := ∀ i, i < n → Rg (b i) 255
theorem byt_bat {b : Nat → Int32} {n p : Nat} (h : Byt b n) : bat b n p = -1 ∧ n ≤ p ∨ p < n ∧ ∃ c, c ≤ 255 ∧ bat b n p = nI c := by
  rcases Nat.lt_or_ge p n with q | q
  · obtain ⟨c, hc, e⟩ := h p q
    exact Or.inr ⟨q, c, hc, by rw [bat_in q, e]⟩
  · exact Or.inl ⟨bat_out q, q⟩
theorem nI_m1 {c : Nat} (h : c < 2 ^ 31) : nI c ≠ -1 := by
  intro e
  have := congrArg Int32.toInt e
  rw [nI_toInt h] at this
  have h2 : (-1 : Int32).toInt = -1 := by decide
  omega
theorem bat_m1 {b : Nat → Int32} {n p : Nat} (h : Byt b n) : bat b n p = -1 ↔ n ≤ p := by
  rcases byt_bat (p := p) h with ⟨e, q⟩ | ⟨q, c, hc, e⟩
  · exact ⟨fun _ => q, fun _ => e⟩
  · exact ⟨fun z => absurd (e.symm.trans z) (nI_m1 (by omega)), fun z => by omega⟩
