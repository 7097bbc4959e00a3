/-! ===== a supper, as both hold it ===== -/
abbrev Txt : Type := List Int32 × List Int32 × List Int32
def tval (z : Txt) (w : Nat) (nm : Nat → Int32) : Int32 := (run nm (cwh w z) []).headD 0
/-- a text of which every part comes to one value -/
def Wf (z : Txt) : Prop := ∀ (nm : Nat → Int32) (w : Nat), w < 3 → ∃ v, ∀ st, run nm (cwh w z) st = v :: st
theorem wf_tval {z : Txt} (h : Wf z) (nm : Nat → Int32) {w : Nat} (hw : w < 3) (st : List Int32) : run nm (cwh w z) st = tval z w nm :: st := by
  obtain ⟨v, hv⟩ := h nm w hw
  have h0 := hv []
  unfold tval
  rw [h0, hv st]
  rfl
theorem tval_congr {z : Txt} {nm nm' : Nat → Int32} (h : ∀ w, w < 6 → nm' w = nm w) (w : Nat) : tval z w nm' = tval z w nm := by
  unfold tval
  rw [run_congr h]
/-- a value, held in lo .. hi -/
def cl (lo hi : Nat) (x : Int32) : Nat := if x < nI lo then lo else if nI hi < x then hi else x.toNatClampNeg
theorem cl_in {lo hi : Nat} (h : lo ≤ hi) (hh : hi < 2 ^ 31) (x : Int32) : lo ≤ cl lo hi x ∧ cl lo hi x ≤ hi := by
  unfold cl
  split
  · omega
  · split
    · omega
    · next h1 h2 =>
      have h0 : ¬ x < 0 := by
        intro z
        rw [Int32.lt_iff_toInt_lt] at h1 z
        rw [nI_toInt (by omega)] at h1
        have : (0 : Int32).toInt = 0 := by decide
        omega
      obtain ⟨j, hj, rfl⟩ := nI_of h0
      rw [nI_ltI (by omega) (by omega)] at h1 h2
      rw [nI_clamp hj]
      omega
theorem cl_val {lo hi : Nat} (h : lo ≤ hi) (hh : hi < 2 ^ 31) (x : Int32) : nI (cl lo hi x) = if x < nI lo then nI lo else if nI hi < x then nI hi else x := by
  unfold cl
  split
  · rfl
  · split
    · rfl
    · next h1 h2 =>
      have h0 : ¬ x < 0 := by
        intro z
        rw [Int32.lt_iff_toInt_lt] at h1 z
        rw [nI_toInt (by omega)] at h1
        have : (0 : Int32).toInt = 0 := by decide
        omega
      obtain ⟨j, hj, rfl⟩ := nI_of h0
      rw [nI_clamp hj]
def nml (l : List Int32) : Nat → Int32 := fun w => l.getD w 0
/-- what a text says: of a cake's minutes, of hunger, of worth -/
def tkz (z : Txt) (k : Nat) : Nat := cl 1 20 (tval z 0 (nml [nI k, 0, 0, 0, 0, 0]))
def hvz (z : Txt) (e mi had want : Nat) : Nat := cl 0 99 (tval z 1 (nml [0, nI mi, nI had, nI want, nI e, 0]))
def wvz (z : Txt) (k st had want e : Nat) (late : Int32) : Nat := cl 0 99 (tval z 2 (nml [nI k, nI st, nI had, nI want, nI e, late]))
/-- hunger by kind -/
def hunN (kind num v had least : Nat) : Nat :=
  if kind = 1 then v + num else if kind = 2 then (if had ≤ least then v else 0) else if kind = 3 then (if had = 0 then 2 * (v + num) else v + num) else if kind = 4 then (if had ≤ least then v / 2 else 0) else if kind = 5 then min 5 v else v
/-- minutes of eating by kind -/
def eatN (kind pace : Nat) : Nat :=
  if kind = 1 then max 1 (pace / 2) else if kind = 3 then (if 4 ≤ pace then pace / 2 - 1 else 1) else if kind = 4 then pace + 2 else if kind = 5 then 2 * pace else pace
/-- when a cake is ready, the pans in turn -/
def rd1 (tk : Nat → Nat) : Nat → Nat
  | 0 => tk 0
  | k + 1 => rd1 tk k + tk (k + 1)
def rd2 (tk : Nat → Nat) : Nat → Nat
  | 0 => tk 0
  | 1 => tk 1
  | k + 2 => rd2 tk k + tk (k + 2)
def rdN (P : Nat) (tk : Nat → Nat) (k : Nat) : Nat := if P = 2 then rd2 tk k else rd1 tk k
/-- a supper's table: cakes, eaters, who is away; wants, eating, ready, served; hunger, worth -/
abbrev Tb : Type := (Nat × Nat × Nat) × ((Nat → Nat) × (Nat → Nat) × (Nat → Nat) × (Nat → Nat)) × (Nat → Nat → Nat → Nat → Nat) × (Nat → Nat → Nat → Nat → Int32 → Nat)
def tB (T : Tb) : Nat := T.1.1
def tm (T : Tb) : Nat := T.1.2.1
def ta (T : Tb) : Nat := T.1.2.2
def twa (T : Tb) : Nat → Nat := T.2.1.1
def tea (T : Tb) : Nat → Nat := T.2.1.2.1
def trd (T : Tb) : Nat → Nat := T.2.1.2.2.1
def tsv (T : Tb) : Nat → Nat := T.2.1.2.2.2
def thu (T : Tb) : Nat → Nat → Nat → Nat → Nat := T.2.2.1
def two (T : Tb) : Nat → Nat → Nat → Nat → Int32 → Nat := T.2.2.2
/-- what a supper goes through: had, waits, last; cost, fair, given, wasted -/
abbrev Sx : Type := ((Nat → Nat) × (Nat → Nat) × (Nat → Nat)) × (Int32 × Nat × Nat × Nat)
def xh (s : Sx) : Nat → Nat := s.1.1
def xw (s : Sx) : Nat → Nat := s.1.2.1
def xl (s : Sx) : Nat → Nat := s.1.2.2
def xc (s : Sx) : Int32 := s.2.1
def xf (s : Sx) : Nat := s.2.2.1
def xg (s : Sx) : Nat := s.2.2.2.1
def xs (s : Sx) : Nat := s.2.2.2.2
def upN (f : Nat → Nat) (k v : Nat) : Nat → Nat := fun j => if j = k then v else f j
theorem upN_s (f : Nat → Nat) (k v : Nat) : upN f k v k = v := if_pos rfl
theorem upN_n {f : Nat → Nat} {k v j : Nat} (h : j ≠ k) : upN f k v j = f j := if_neg h
def sit (T : Tb) (e : Nat) : Bool := decide (e < tm T) && !decide (e = ta T)
/-- the first of those who had least, among the first k -/
def fl (T : Tb) (had : Nat → Nat) : Nat → Option Nat
  | 0 => none
  | k + 1 => if sit T k = true then (match fl T had k with
    | none => some k
    | some j => if had j ≤ had k then some j else some k) else fl T had k
def lea (T : Tb) (had : Nat → Nat) : Nat := match fl T had 5 with
  | none => 0
  | some j => had j
def mo (T : Tb) (had : Nat → Nat) : Nat → Nat
  | 0 => 0
  | k + 1 => if sit T k = true then max (mo T had k) (had k) else mo T had k
/-- the hungriest, among the first k, and his hunger -/
def hg (T : Tb) (mi : Nat) (had : Nat → Nat) : Nat → Option (Nat × Nat)
  | 0 => none
  | k + 1 => if sit T k = true ∧ had k < twa T k then (match hg T mi had k with
    | none => some (k, thu T k mi (had k) (lea T had))
    | some q => if thu T k mi (had k) (lea T had) ≤ q.2 then some q else some (k, thu T k mi (had k) (lea T had))) else hg T mi had k
/-- a way to give: 0 by plan, 2 to the hungriest, else to the first who had least -/
abbrev Wy : Type := Nat × (Nat → Option Nat)
def who (T : Tb) (w : Wy) (s : Sx) (mi k : Nat) : Option Nat :=
  if w.1 = 0 then w.2 k else if w.1 = 2 then (hg T mi (xh s) 5).map (fun q => q.1) else fl T (xh s) 5
def giveTo (T : Tb) (mi k : Nat) (s : Sx) : Option Nat → Sx
  | none => (s.1, (xc s, xf s, xg s, xs s + 1))
  | some e => ((upN (xh s) e (xh s e + 1), xw s, upN (xl s) e (max mi (xl s e) + tea T e)), (xc s - nI (two T k (max mi (xl s e)) (xh s e) e (nI (max mi (xl s e)) - nI (trd T k))), xf s, xg s + 1, xs s))
def serveF (T : Tb) (w : Wy) (mi : Nat) : Nat → Sx → Sx
  | 0, s => s
  | k + 1, s => if tsv T k = mi then giveTo T mi k (serveF T w mi k s) (who T w (serveF T w mi k s) mi k) else serveF T w mi k s
def setF (v : Nat) (s : Sx) : Sx := (s.1, (xc s, v, xg s, xs s))
def fairF (T : Tb) (s : Sx) : Sx := setF (max (xf s) (mo T (xh s) 5 - lea T (xh s))) s
def passOne (T : Tb) (mi e : Nat) (s : Sx) : Sx :=
  if sit T e = true ∧ xh s e < twa T e ∧ xl s e ≤ mi then ((xh s, upN (xw s) e (xw s e + 1), xl s), (xc s + nI (thu T e mi (xh s e) (lea T (xh s))), xf s, xg s, xs s)) else s
def passF (T : Tb) (mi : Nat) : Nat → Sx → Sx
  | 0, s => s
  | e + 1, s => passOne T mi e (passF T mi e s)
def minF (T : Tb) (w : Wy) (mi : Nat) (s : Sx) : Sx := passF T mi 5 (fairF T (serveF T w mi (tB T) s))
def s0 : Sx := ((fun _ => 0, fun _ => 0, fun _ => 0), (0, 0, 0, 0))
def runF (T : Tb) (w : Wy) : Nat → Sx
  | 0 => s0
  | i + 1 => minF T w i (runF T w i)
/-! bounds -/
def Bd (N : Nat) (s : Sx) : Prop := (∀ e, xh s e ≤ N) ∧ (∀ e, xw s e ≤ N) ∧ (∀ e, xl s e ≤ 100 + 100 * N) ∧ xf s ≤ N ∧ xg s ≤ N ∧ xs s ≤ N
section SPEC
variable {T : Tb} {had : Nat → Nat} {s : Sx} {N mi : Nat} {w : Wy}
theorem Bd.up {N' : Nat} (h : Bd N s) (hn : N ≤ N') : Bd N' s := by
  obtain ⟨h1, h2, h3, h4, h5, h6⟩ := h
  exact ⟨fun e => Nat.le_trans (h1 e) hn, fun e => Nat.le_trans (h2 e) hn, fun e => by have := h3 e; omega, by omega, by omega, by omega⟩
theorem fl_some {k j : Nat} (h : fl T had k = some j) : sit T j = true ∧ j < k := by
  induction k generalizing j with
  | zero => cases h
  | succ k ih =>
    unfold fl at h
    split at h
    · next hs =>
      cases hf : fl T had k with
      | none => rw [hf] at h; cases h; exact ⟨hs, Nat.lt_succ_self _⟩
      | some i =>
        rw [hf] at h
        dsimp only at h
        have hi := ih hf
        split at h
        · cases h; exact ⟨hi.1, by omega⟩
        · cases h; exact ⟨hs, Nat.lt_succ_self _⟩
    · have := ih h; exact ⟨this.1, by omega⟩
theorem fl_none {k : Nat} (h : fl T had k = none) : ∀ e, e < k → sit T e = false := by
  induction k with
  | zero => intro e he; omega
  | succ k ih =>
    intro e he
    unfold fl at h
    split at h
    · cases hf : fl T had k with
      | none => rw [hf] at h; cases h
      | some i =>
        rw [hf] at h
        dsimp only at h
        split at h <;> cases h
    · next hs =>
      rcases Nat.lt_or_ge e k with q | q
      · exact ih h e q
      · rw [show e = k by omega]; simpa using hs
theorem fl_min {k j : Nat} (h : fl T had k = some j) : (∀ e, e < k → sit T e = true → had j ≤ had e) ∧ ∀ e, e < j → sit T e = true → had j < had e := by
  induction k generalizing j with
  | zero => cases h
  | succ k ih =>
    unfold fl at h
    split at h
    · next hs =>
      cases hf : fl T had k with
      | none =>
        rw [hf] at h; cases h
        have hn := fl_none hf
        refine ⟨fun e he hse => ?_, fun e he hse => by rw [hn e he] at hse; cases hse⟩
        rcases Nat.lt_or_ge e k with q | q
        · rw [hn e q] at hse; cases hse
        · rw [show e = k by omega]; exact Nat.le_refl _
      | some i =>
        rw [hf] at h
        dsimp only at h
        have hi := ih hf
        have hik := (fl_some hf).2
        split at h
        · next hle =>
          cases h
          refine ⟨fun e he hse => ?_, hi.2⟩
          rcases Nat.lt_or_ge e k with q | q
          · exact hi.1 e q hse
          · rw [show e = k by omega]; exact hle
        · next hle =>
          cases h
          have hlt : had k < had i := by omega
          refine ⟨fun e he hse => ?_, fun e he hse => ?_⟩
          · rcases Nat.lt_or_ge e k with q | q
            · have := hi.1 e q hse; omega
            · rw [show e = k by omega]; exact Nat.le_refl _
          · have := hi.1 e he hse; omega
    · next hs =>
      have hi := ih h
      refine ⟨fun e he hse => ?_, hi.2⟩
      rcases Nat.lt_or_ge e k with q | q
      · exact hi.1 e q hse
      · rw [show e = k by omega] at hse; exact absurd hse hs
theorem lea_le (hN : ∀ e, had e ≤ N) : lea T had ≤ N := by
  unfold lea
  split
  · omega
  · exact hN _
theorem mo_le (hN : ∀ e, had e ≤ N) : ∀ k, mo T had k ≤ N
  | 0 => Nat.zero_le _
  | k + 1 => by
    have := mo_le hN k
    have := hN k
    unfold mo
    split <;> omega
theorem hg_some {k : Nat} {q : Nat × Nat} (h : hg T mi had k = some q) : sit T q.1 = true ∧ q.1 < k ∧ had q.1 < twa T q.1 ∧ q.2 = thu T q.1 mi (had q.1) (lea T had) := by
  induction k generalizing q with
  | zero => cases h
  | succ k ih =>
    unfold hg at h
    split at h
    · next hs =>
      cases hf : hg T mi had k with
      | none => rw [hf] at h; cases h; exact ⟨hs.1, Nat.lt_succ_self _, hs.2, rfl⟩
      | some i =>
        rw [hf] at h
        dsimp only at h
        have hi := ih hf
        split at h
        · cases h; exact ⟨hi.1, by omega, hi.2.2⟩
        · cases h; exact ⟨hs.1, Nat.lt_succ_self _, hs.2, rfl⟩
    · have := ih h; exact ⟨this.1, by omega, this.2.2⟩
/-- what stands of a way: the plan gives to none but those who sit -/
def Wok (T : Tb) (w : Wy) : Prop := ∀ k e, w.2 k = some e → sit T e = true
theorem sit_5 {e : Nat} (hm : tm T ≤ 5) (h : sit T e = true) : e < 5 := by
  unfold sit at h
  simp at h
  omega
theorem who_sit {k e : Nat} (hw : Wok T w) (h : who T w s mi k = some e) : sit T e = true := by
  unfold who at h
  split at h
  · exact hw k e h
  · split at h
    · cases hq : hg T mi (xh s) 5 with
      | none => rw [hq] at h; cases h
      | some q => rw [hq] at h; cases h; exact (hg_some hq).1
    · exact (fl_some h).1
theorem give_bd {k : Nat} (he : ∀ e, tea T e ≤ 100) (hmi : mi ≤ 60) (h : Bd N s) (o : Option Nat) : Bd (N + 1) (giveTo T mi k s o) := by
  obtain ⟨h1, h2, h3, h4, h5, h6⟩ := h
  cases o with
  | none => exact ⟨fun e => Nat.le_succ_of_le (h1 e), fun e => Nat.le_succ_of_le (h2 e), fun e => by have := h3 e; show xl s e ≤ _; omega, Nat.le_succ_of_le h4, Nat.le_succ_of_le h5, Nat.succ_le_succ h6⟩
  | some e0 =>
    refine ⟨fun e => ?_, fun e => Nat.le_succ_of_le (h2 e), fun e => ?_, Nat.le_succ_of_le h4, Nat.succ_le_succ h5, Nat.le_succ_of_le h6⟩
    · show upN (xh s) e0 (xh s e0 + 1) e ≤ _
      have := h1 e
      have := h1 e0
      unfold upN
      split <;> omega
    · show upN (xl s) e0 (max mi (xl s e0) + tea T e0) e ≤ _
      have := h3 e
      have := h3 e0
      have := he e0
      unfold upN
      split <;> omega
theorem serve_bd (he : ∀ e, tea T e ≤ 100) (hmi : mi ≤ 60) (h : Bd N s) : ∀ k, Bd (N + k) (serveF T w mi k s)
  | 0 => h
  | k + 1 => by
    have ih := serve_bd he hmi h k
    unfold serveF
    split
    · exact give_bd he hmi ih _
    · exact ih.up (by omega)
theorem fair_bd (h : Bd N s) : Bd N (fairF T s) := by
  obtain ⟨h1, h2, h3, h4, h5, h6⟩ := h
  refine ⟨h1, h2, h3, ?_, h5, h6⟩
  show max (xf s) (mo T (xh s) 5 - lea T (xh s)) ≤ N
  have := mo_le (T := T) h1 5
  omega
theorem pass_bd (h : Bd N s) (e : Nat) : Bd (N + 1) (passOne T mi e s) := by
  unfold passOne
  split
  · obtain ⟨h1, h2, h3, h4, h5, h6⟩ := h
    refine ⟨fun j => Nat.le_succ_of_le (h1 j), fun j => ?_, fun j => by have := h3 j; show xl s j ≤ _; omega, Nat.le_succ_of_le h4, Nat.le_succ_of_le h5, Nat.le_succ_of_le h6⟩
    show upN (xw s) e (xw s e + 1) j ≤ _
    have := h2 j
    have := h2 e
    unfold upN
    split <;> omega
  · exact h.up (by omega)
theorem passF_bd (h : Bd N s) : ∀ e, Bd (N + e) (passF T mi e s)
  | 0 => h
  | e + 1 => pass_bd (passF_bd h e) e
theorem min_bd (he : ∀ e, tea T e ≤ 100) (hB : tB T ≤ 12) (hmi : mi ≤ 60) (h : Bd N s) : Bd (N + 20) (minF T w mi s) :=
  (passF_bd (fair_bd (serve_bd he hmi h (tB T))) 5).up (by omega)
theorem run_bd (he : ∀ e, tea T e ≤ 100) (hB : tB T ≤ 12) : ∀ i, i ≤ 60 → Bd (20 * i) (runF T w i)
  | 0, _ => ⟨fun _ => Nat.le_refl _, fun _ => Nat.le_refl _, fun _ => Nat.zero_le _, Nat.le_refl _, Nat.le_refl _, Nat.le_refl _⟩
  | i + 1, hi => min_bd he hB (by omega) (run_bd he hB i (by omega))
/-! what stays -/
theorem passF_had : ∀ e, xh (passF T mi e s) = xh s ∧ xl (passF T mi e s) = xl s ∧ xf (passF T mi e s) = xf s
  | 0 => ⟨rfl, rfl, rfl⟩
  | e + 1 => by
    have ih := passF_had e
    unfold passF passOne
    split
    · exact ih
    · exact ih
/-- fairness never falls behind what it is now -/
def Fok (T : Tb) (s : Sx) : Prop := mo T (xh s) 5 - lea T (xh s) ≤ xf s
theorem fok_min (T : Tb) (w : Wy) (mi : Nat) (s : Sx) : Fok T (minF T w mi s) := by
  unfold Fok minF
  obtain ⟨h1, h2, h3⟩ := passF_had (T := T) (mi := mi) (s := fairF T (serveF T w mi (tB T) s)) 5
  rw [h1, h3]
  exact Nat.le_max_right _ _
theorem fok_0 (T : Tb) : Fok T s0 := by
  unfold Fok
  have : ∀ k, mo T (xh s0) k = 0 := by
    intro k
    induction k with
    | zero => rfl
    | succ k ih =>
      unfold mo
      rw [ih]
      split <;> rfl
  rw [this]
  omega
theorem fok_run (T : Tb) (w : Wy) : ∀ i, Fok T (runF T w i)
  | 0 => fok_0 T
  | _ + 1 => fok_min _ _ _ _
theorem fair_same (h : Fok T s) : fairF T s = s := by
  unfold fairF setF
  unfold Fok at h
  rw [Nat.max_eq_left h]
  rfl
theorem serve_none (hs : ∀ k, k < tB T → tsv T k ≠ mi) : ∀ k, k ≤ tB T → serveF T w mi k s = s
  | 0, _ => rfl
  | k + 1, hk => by
    unfold serveF
    rw [if_neg (hs k (by omega))]
    exact serve_none hs k (by omega)
theorem passF_set (v : Nat) : ∀ e, passF T mi e (setF v s) = setF v (passF T mi e s)
  | 0 => rfl
  | e + 1 => by
    unfold passF
    rw [passF_set v e]
    unfold passOne
    split
    · next h =>
      rw [if_pos (show sit T e = true ∧ xh (passF T mi e s) e < twa T e ∧ xl (passF T mi e s) e ≤ mi from h)]
      rfl
    · next h =>
      rw [if_neg (show ¬ (sit T e = true ∧ xh (passF T mi e s) e < twa T e ∧ xl (passF T mi e s) e ≤ mi) from h)]
/-- fairness may be looked at behind the passing -/
theorem min_alt (T : Tb) (w : Wy) (mi : Nat) (s : Sx) : minF T w mi s = fairF T (passF T mi 5 (serveF T w mi (tB T) s)) := by
  unfold minF fairF
  obtain ⟨h1, h2, h3⟩ := passF_had (T := T) (mi := mi) (s := serveF T w mi (tB T) s) 5
  rw [passF_set, h1, h3]
end SPEC
