/-! ===== the judgement of a method's body: at pc, with these locals, this stack and this memory, the body ends as the pure function says ===== -/
abbrev wn_X : Type := Program × Launch × Env × Room × State × MethodId × Array Value × List Frame × Method × Code × Nat × Nat × (State → Prop) × (Nat → Prop)
def PW (G : wn_G) (S : wn_S) (ad : Nat → Nat) (X : wn_X) (pc : Nat) (L : List (Nat × Value)) (st : List Value) (M : Mm) : Prop := match X with
  | (p, l, e, R, s, m, args, below, meth, c, cells, slots, Q, A) => ∀ (H : Heap) (locs : List Loc) (ls : Array Slot), va_P (gD G) vwCl (wo G S ad M) H → va_D A (wo G S ad M) → va_S A s.heap H locs → lv_has ls c.maxLocals L → W p l e R s m args below meth c H locs cells slots Q (F0 m pc ls st)
/-- what holds in a whole body: the machine, its code, the tables' words, what stays, its room -/
def Ok (G : wn_G) (own : String) (cc : ByteArray) (nL d : Nat) (X : wn_X) : Prop := match X with
  | (p, _, _, R, s, m, args, _, meth, c, cells, slots, _, A) => p.tables.exec = Jvm.exec ∧ c.code = cc ∧ c.maxLocals = nL ∧ s.vm.findClass own = some m.cls ∧ (∀ w ∈ gw, w.before args s = true) ∧ Ev G A s ∧ meth.locks = false ∧ d ≤ R.frames ∧ 64 * d ≤ R.locals ∧ cells ≤ R.cells ∧ slots ≤ R.slots ∧ ∀ q, s.heap.size ≤ q → A q
def Qs (G : wn_G) (S : wn_S) (ad : Nat → Nat) (M0 : Mm) (ro : Option Value) (A : Nat → Prop) : Array Value → State → Outcome → State → Prop := fun _ st oc t => oc = .returned ro ∧ va_P (gD G) vwCl (wo G S ad M0) t.heap ∧ va_F A st t
/-- the body is to end with this answer and this memory -/
def Tg (G : wn_G) (S : wn_S) (ad : Nat → Nat) (X : wn_X) (ret : Option FieldType) (M0 : Mm) (ro : Option Value) : Prop := match X with
  | (_, _, _, _, s, _, args, below, meth, _, cells, slots, Q, A) => meth.sig.returnType = ret ∧ Q = MQ below (Qs G S ad M0 ro A) args s cells slots A
def JW {ρ : Type} (G : wn_G) (S : wn_S) (ad : Nat → Nat) (X : wn_X) (pc : Nat) (L : List (Nat × Value)) (st : List Value) (M : Mm) (t : Option ρ) (K : ρ → Prop) : Prop := ∀ z : ρ, t = some z → K z → PW G S ad X pc L st M
/-! the words of the pure functions -/
def bi {α : Type} (x : Int32) (k : Int32 → Option α) : Option α := k x
def bl {α : Type} (x : Int64) (k : Int64 → Option α) : Option α := k x
def bm {α : Type} (x : Mm) (k : Mm → Option α) : Option α := k x
def bd {α : Type} (x : Option (Int32 × Mm)) (k : Int32 → Mm → Option α) : Option α := x.bind fun p => k p.1 p.2
def bdl {α : Type} (x : Option (Int64 × Mm)) (k : Int64 → Mm → Option α) : Option α := x.bind fun p => k p.1 p.2
def bds {α : Type} (x : Option (Nat × Mm)) (k : Nat → Mm → Option α) : Option α := x.bind fun p => k p.1 p.2
def bv {α : Type} (x : Option Mm) (k : Mm → Option α) : Option α := x.bind k
/-- a test that the machine makes by itself: with it, or nothing -/
def gd {α : Type} (c : Prop) (h : Decidable c) (t : Option α) : Option α := if c then t else none
def bin (i : Int32) (n : Nat) : Bool := decide (¬ (i < 0 ∨ n ≤ i.toNatClampNeg))
theorem bin_in {i : Int32} {n : Nat} (h : bin i n = true) : vp_in i n := (of_decide_eq_true h : ¬ (i < 0 ∨ n ≤ i.toNatClampNeg))
def irm (x y : Int32) : Int32 := x - x / y * y
def lrm (x y : Int64) : Int64 := x - x / y * y
def ius (x y : Int32) : Int32 := (x.toUInt32 >>> (y.toUInt32 &&& Int32.toUInt32 31)).toInt32
def isl (x y : Int32) : Int32 := x <<< (y &&& 31)
def lsl' (x : Int64) (y : Int32) : Int64 := x <<< (y.toInt64 &&& 63)
def lsr (x : Int64) (y : Int32) : Int64 := x >>> (y.toInt64 &&& 63)
def imx (x y : Int32) : Int32 := if x < y then y else x
def imn (x y : Int32) : Int32 := if y < x then y else x
def ex {σ ρ : Type} (t : Option ρ) : Option (σ ⊕ ρ) := t.map Sum.inr
/-- a loop: the body says the next state, or what comes behind the loop -/
def iter {σ ρ : Type} (body : σ → Option (σ ⊕ ρ)) : Nat → σ → Option ρ
  | 0, _ => none
  | n + 1, s => match body s with
    | none => none
    | some (.inl s') => iter body n s'
    | some (.inr y) => some y
def Kl {σ ρ : Type} (hd : σ → Prop) (K : ρ → Prop) : σ ⊕ ρ → Prop
  | .inl s => hd s
  | .inr y => K y
section JROWS
variable {ρ σ : Type} {G : wn_G} {S : wn_S} {ad : Nat → Nat} {X : wn_X} {own : String} {cc : ByteArray} {nL d pc : Nat} {L L' : List (Nat × Value)} {st : List Value} {M : Mm} {t t1 t2 : Option ρ} {K : ρ → Prop}
/-! names, ends -/
theorem jw_bi {x : Int32} {k : Int32 → Option ρ} (h : ∀ y : Int32, JW G S ad X pc L (.int y :: st) M (k y) K) : JW G S ad X pc L (.int x :: st) M (bi x k) K := h x
theorem jw_bl {x : Int64} {k : Int64 → Option ρ} (h : ∀ y : Int64, JW G S ad X pc L (.long y :: st) M (k y) K) : JW G S ad X pc L (.long x :: st) M (bl x k) K := h x
theorem jw_pw {z : ρ} (h : K z → PW G S ad X pc L st M) : JW G S ad X pc L st M (some z) K := fun z' e hK => by cases e; exact h hK
theorem jw_ex {hd : σ → Prop} (h : JW G S ad X pc L st M t K) : JW G S ad X pc L st M (ex t : Option (σ ⊕ ρ)) (Kl hd K) := by
  intro z e hK
  cases t with
  | none => cases e
  | some y => cases e; exact h y rfl hK
theorem jw_next {s : σ} {hd : σ → Prop} (h : hd s → PW G S ad X pc L st M) : JW G S ad X pc L st M (some (.inl s) : Option (σ ⊕ ρ)) (Kl hd K) := fun z e hK => by cases e; exact h hK
theorem pw_sub (ks : List Nat) (hl : lv_pick L ks = L') (h : PW G S ad X pc L' st M) : PW G S ad X pc L st M := by
  obtain ⟨p, l, e, R, s, m, args, below, meth, c, cells, slots, Q, A⟩ := X
  exact fun H locs ls hP hD hS hv => h H locs ls hP hD hS (lv_sub hv ks hl)
theorem jw_sub (ks : List Nat) (hl : lv_pick L ks = L') (h : JW G S ad X pc L' st M t K) : JW G S ad X pc L st M t K := fun z e hK => pw_sub ks hl (h z e hK)
theorem jw_iter {hd : σ → Prop} {body : σ → Option (σ ⊕ ρ)} {n : Nat} {s : σ} (hh : hd s → PW G S ad X pc L st M) (hb : ∀ s z, body s = some z → Kl hd K z → hd s) : JW G S ad X pc L st M (iter body n s) K := by
  have key : ∀ (n : Nat) (s : σ) (y : ρ), iter body n s = some y → K y → hd s := by
    intro n
    induction n with
    | zero => intro s y h; cases h
    | succ n ih =>
      intro s y h hK
      unfold iter at h
      cases hz : body s with
      | none => rw [hz] at h; cases h
      | some z =>
        rw [hz] at h
        refine hb s z hz ?_
        cases z with
        | inl s' => exact ih s' y h hK
        | inr y' => cases h; exact hK
  exact fun z e hK => hh (key n s z e hK)
theorem jw_gd {c : Prop} {hc : Decidable c} (h : c → JW G S ad X pc L st M t K) : JW G S ad X pc L st M (gd c hc t) K := by
  intro z e hK
  unfold gd at e
  by_cases q : c
  · rw [if_pos q] at e
    exact h q z e hK
  · rw [if_neg q] at e
    cases e
theorem j_iconst (O : Ok G own cc nL d X) {n : Int} {v : Int32} (hd : decode cc pc = .ok (.iconst n, 1)) (hn : Int32.ofInt n = v) (k : JW G S ad X (pc + 1) L (.int v :: st) M t K) : JW G S ad X pc L st M t K := by
  obtain ⟨p, l, e, R, s, m, args, below, meth, c, cells, slots, Q, A⟩ := X
  obtain ⟨hx, hb, hml, hown, hts, hE, hlk, hfr, hlo, hce, hsl, hA⟩ := O
  intro z hz hK H locs ls hP hD hS hv
  exact lv_iconst hx hb hd hn (k z hz hK H locs ls hP hD hS hv)
theorem j_bipush (O : Ok G own cc nL d X) {n : Int} {v : Int32} (hd : decode cc pc = .ok (.bipush n, 2)) (hn : (Int8.ofInt n).toInt32 = v) (k : JW G S ad X (pc + 2) L (.int v :: st) M t K) : JW G S ad X pc L st M t K := by
  obtain ⟨p, l, e, R, s, m, args, below, meth, c, cells, slots, Q, A⟩ := X
  obtain ⟨hx, hb, hml, hown, hts, hE, hlk, hfr, hlo, hce, hsl, hA⟩ := O
  intro z hz hK H locs ls hP hD hS hv
  exact lv_bipush hx hb hd hn (k z hz hK H locs ls hP hD hS hv)
theorem j_sipush (O : Ok G own cc nL d X) {n : Int} {v : Int32} (hd : decode cc pc = .ok (.sipush n, 3)) (hn : (Int16.ofInt n).toInt32 = v) (k : JW G S ad X (pc + 3) L (.int v :: st) M t K) : JW G S ad X pc L st M t K := by
  obtain ⟨p, l, e, R, s, m, args, below, meth, c, cells, slots, Q, A⟩ := X
  obtain ⟨hx, hb, hml, hown, hts, hE, hlk, hfr, hlo, hce, hsl, hA⟩ := O
  intro z hz hK H locs ls hP hD hS hv
  exact lv_sipush hx hb hd hn (k z hz hK H locs ls hP hD hS hv)
theorem j_lconst (O : Ok G own cc nL d X) {n : Fin 2} {v : Int64} (hd : decode cc pc = .ok (.lconst n, 1)) (hn : Int64.ofNat (n : Nat) = v) (k : JW G S ad X (pc + 1) L (.long v :: st) M t K) : JW G S ad X pc L st M t K := by
  obtain ⟨p, l, e, R, s, m, args, below, meth, c, cells, slots, Q, A⟩ := X
  obtain ⟨hx, hb, hml, hown, hts, hE, hlk, hfr, hlo, hce, hsl, hA⟩ := O
  intro z hz hK H locs ls hP hD hS hv
  exact lv_lconst hx hb hd hn (k z hz hK H locs ls hP hD hS hv)
theorem j_ldc (O : Ok G own cc nL d X) {index : Nat} {v : Int32} (hd : decode cc pc = .ok (.ldc index, 2)) (hw : Cond.constant own index v ∈ gw) (k : JW G S ad X (pc + 2) L (.int v :: st) M t K) : JW G S ad X pc L st M t K := by
  obtain ⟨p, l, e, R, s, m, args, below, meth, c, cells, slots, Q, A⟩ := X
  obtain ⟨hx, hb, hml, hown, hts, hE, hlk, hfr, hlo, hce, hsl, hA⟩ := O
  intro z hz hK H locs ls hP hD hS hv
  exact lv_ldc hx hb hown (hts _ hw) hd (k z hz hK H locs ls hP hD hS hv)
theorem j_ldcw (O : Ok G own cc nL d X) {index : Nat} {v : Int32} (hd : decode cc pc = .ok (.ldc_w index, 3)) (hw : Cond.constant own index v ∈ gw) (k : JW G S ad X (pc + 3) L (.int v :: st) M t K) : JW G S ad X pc L st M t K := by
  obtain ⟨p, l, e, R, s, m, args, below, meth, c, cells, slots, Q, A⟩ := X
  obtain ⟨hx, hb, hml, hown, hts, hE, hlk, hfr, hlo, hce, hsl, hA⟩ := O
  intro z hz hK H locs ls hP hD hS hv
  exact lv_ldcw hx hb hown (hts _ hw) hd (k z hz hK H locs ls hP hD hS hv)
theorem j_ldc2 (O : Ok G own cc nL d X) {index : Nat} {v : Int64} (hd : decode cc pc = .ok (.ldc2_w index, 3)) (hw : Cond.constantLong own index v ∈ gw) (k : JW G S ad X (pc + 3) L (.long v :: st) M t K) : JW G S ad X pc L st M t K := by
  obtain ⟨p, l, e, R, s, m, args, below, meth, c, cells, slots, Q, A⟩ := X
  obtain ⟨hx, hb, hml, hown, hts, hE, hlk, hfr, hlo, hce, hsl, hA⟩ := O
  intro z hz hK H locs ls hP hD hS hv
  exact lv_ldc2 hx hb hown (hts _ hw) hd (k z hz hK H locs ls hP hD hS hv)
theorem j_iload_n (O : Ok G own cc nL d X) {k : Fin 4} {x : Int32} (q : Nat) (hd : decode cc pc = .ok (.iload_n k, 1)) (hl : L[q]? = some (k.val, .int x)) (kk : JW G S ad X (pc + 1) L (.int x :: st) M t K) : JW G S ad X pc L st M t K := by
  obtain ⟨p, l, e, R, s, m, args, below, meth, c, cells, slots, Q, A⟩ := X
  obtain ⟨hx, hb, hml, hown, hts, hE, hlk, hfr, hlo, hce, hsl, hA⟩ := O
  intro z hz hK H locs ls hP hD hS hv
  exact lv_iload_n hx hb hd rfl (lv_at hv q hl) (kk z hz hK H locs ls hP hD hS hv)
theorem j_lload_n (O : Ok G own cc nL d X) {k : Fin 4} {x : Int64} (q : Nat) (hd : decode cc pc = .ok (.lload_n k, 1)) (hl : L[q]? = some (k.val, .long x)) (kk : JW G S ad X (pc + 1) L (.long x :: st) M t K) : JW G S ad X pc L st M t K := by
  obtain ⟨p, l, e, R, s, m, args, below, meth, c, cells, slots, Q, A⟩ := X
  obtain ⟨hx, hb, hml, hown, hts, hE, hlk, hfr, hlo, hce, hsl, hA⟩ := O
  intro z hz hK H locs ls hP hD hS hv
  exact lv_lload_n hx hb hd rfl (lv_at hv q hl) (kk z hz hK H locs ls hP hD hS hv)
theorem j_aload_n (O : Ok G own cc nL d X) {k : Fin 4} {x : Nat} (q : Nat) (hd : decode cc pc = .ok (.aload_n k, 1)) (hl : L[q]? = some (k.val, .ref x)) (kk : JW G S ad X (pc + 1) L (.ref x :: st) M t K) : JW G S ad X pc L st M t K := by
  obtain ⟨p, l, e, R, s, m, args, below, meth, c, cells, slots, Q, A⟩ := X
  obtain ⟨hx, hb, hml, hown, hts, hE, hlk, hfr, hlo, hce, hsl, hA⟩ := O
  intro z hz hK H locs ls hP hD hS hv
  exact lv_aload_n hx hb hd rfl (lv_at hv q hl) (kk z hz hK H locs ls hP hD hS hv)
theorem j_iload (O : Ok G own cc nL d X) {i : Nat} {x : Int32} (q : Nat) (hd : decode cc pc = .ok (.iload i, 2)) (hl : L[q]? = some (i, .int x)) (kk : JW G S ad X (pc + 2) L (.int x :: st) M t K) : JW G S ad X pc L st M t K := by
  obtain ⟨p, l, e, R, s, m, args, below, meth, c, cells, slots, Q, A⟩ := X
  obtain ⟨hx, hb, hml, hown, hts, hE, hlk, hfr, hlo, hce, hsl, hA⟩ := O
  intro z hz hK H locs ls hP hD hS hv
  exact lv_iload hx hb hd (lv_at hv q hl) (kk z hz hK H locs ls hP hD hS hv)
theorem j_lload (O : Ok G own cc nL d X) {i : Nat} {x : Int64} (q : Nat) (hd : decode cc pc = .ok (.lload i, 2)) (hl : L[q]? = some (i, .long x)) (kk : JW G S ad X (pc + 2) L (.long x :: st) M t K) : JW G S ad X pc L st M t K := by
  obtain ⟨p, l, e, R, s, m, args, below, meth, c, cells, slots, Q, A⟩ := X
  obtain ⟨hx, hb, hml, hown, hts, hE, hlk, hfr, hlo, hce, hsl, hA⟩ := O
  intro z hz hK H locs ls hP hD hS hv
  exact lv_lload hx hb hd (lv_at hv q hl) (kk z hz hK H locs ls hP hD hS hv)
theorem j_aload (O : Ok G own cc nL d X) {i : Nat} {x : Nat} (q : Nat) (hd : decode cc pc = .ok (.aload i, 2)) (hl : L[q]? = some (i, .ref x)) (kk : JW G S ad X (pc + 2) L (.ref x :: st) M t K) : JW G S ad X pc L st M t K := by
  obtain ⟨p, l, e, R, s, m, args, below, meth, c, cells, slots, Q, A⟩ := X
  obtain ⟨hx, hb, hml, hown, hts, hE, hlk, hfr, hlo, hce, hsl, hA⟩ := O
  intro z hz hK H locs ls hP hD hS hv
  exact lv_aload hx hb hd (lv_at hv q hl) (kk z hz hK H locs ls hP hD hS hv)
theorem j_istore_n (O : Ok G own cc nL d X) {k : Fin 4} {x : Int32} (hd : decode cc pc = .ok (.istore_n k, 1)) (hn : k.val < nL) (hl : (k.val, Value.int x) :: L.filter (fun q => !(q.1 == k.val) && !(q.1 + 1 == k.val && q.2.category == 2)) = L') (kk : JW G S ad X (pc + 1) L' st M t K) : JW G S ad X pc L (.int x :: st) M t K := by
  obtain ⟨p, l, e, R, s, m, args, below, meth, c, cells, slots, Q, A⟩ := X
  obtain ⟨hx, hb, hml, hown, hts, hE, hlk, hfr, hlo, hce, hsl, hA⟩ := O
  intro z hz hK H locs ls hP hD hS hv
  exact lv_istore_n hx hb hd rfl hv (by rw [hml]; exact hn) hl (fun ls hv => kk z hz hK H locs ls hP hD hS hv)
theorem j_istore (O : Ok G own cc nL d X) {i : Nat} {x : Int32} (hd : decode cc pc = .ok (.istore i, 2)) (hn : i < nL) (hl : (i, Value.int x) :: L.filter (fun q => !(q.1 == i) && !(q.1 + 1 == i && q.2.category == 2)) = L') (kk : JW G S ad X (pc + 2) L' st M t K) : JW G S ad X pc L (.int x :: st) M t K := by
  obtain ⟨p, l, e, R, s, m, args, below, meth, c, cells, slots, Q, A⟩ := X
  obtain ⟨hx, hb, hml, hown, hts, hE, hlk, hfr, hlo, hce, hsl, hA⟩ := O
  intro z hz hK H locs ls hP hD hS hv
  exact lv_istore hx hb hd hv (by rw [hml]; exact hn) hl (fun ls hv => kk z hz hK H locs ls hP hD hS hv)
theorem j_lstore_n (O : Ok G own cc nL d X) {k : Fin 4} {x : Int64} (hd : decode cc pc = .ok (.lstore_n k, 1)) (hn : k.val + 1 < nL) (hl : (k.val, Value.long x) :: L.filter (fun q => !(q.1 == k.val) && (!(q.1 == k.val + 1) && !(q.1 + 1 == k.val && q.2.category == 2))) = L') (kk : JW G S ad X (pc + 1) L' st M t K) : JW G S ad X pc L (.long x :: st) M t K := by
  obtain ⟨p, l, e, R, s, m, args, below, meth, c, cells, slots, Q, A⟩ := X
  obtain ⟨hx, hb, hml, hown, hts, hE, hlk, hfr, hlo, hce, hsl, hA⟩ := O
  intro z hz hK H locs ls hP hD hS hv
  exact lv_lstore_n hx hb hd rfl hv (by rw [hml]; exact hn) hl (fun ls hv => kk z hz hK H locs ls hP hD hS hv)
theorem j_lstore (O : Ok G own cc nL d X) {i : Nat} {x : Int64} (hd : decode cc pc = .ok (.lstore i, 2)) (hn : i + 1 < nL) (hl : (i, Value.long x) :: L.filter (fun q => !(q.1 == i) && (!(q.1 == i + 1) && !(q.1 + 1 == i && q.2.category == 2))) = L') (kk : JW G S ad X (pc + 2) L' st M t K) : JW G S ad X pc L (.long x :: st) M t K := by
  obtain ⟨p, l, e, R, s, m, args, below, meth, c, cells, slots, Q, A⟩ := X
  obtain ⟨hx, hb, hml, hown, hts, hE, hlk, hfr, hlo, hce, hsl, hA⟩ := O
  intro z hz hK H locs ls hP hD hS hv
  exact lv_lstore hx hb hd hv (by rw [hml]; exact hn) hl (fun ls hv => kk z hz hK H locs ls hP hD hS hv)
theorem j_astore_n (O : Ok G own cc nL d X) {k : Fin 4} {x : Nat} (hd : decode cc pc = .ok (.astore_n k, 1)) (hn : k.val < nL) (hl : (k.val, Value.ref x) :: L.filter (fun q => !(q.1 == k.val) && !(q.1 + 1 == k.val && q.2.category == 2)) = L') (kk : JW G S ad X (pc + 1) L' st M t K) : JW G S ad X pc L (.ref x :: st) M t K := by
  obtain ⟨p, l, e, R, s, m, args, below, meth, c, cells, slots, Q, A⟩ := X
  obtain ⟨hx, hb, hml, hown, hts, hE, hlk, hfr, hlo, hce, hsl, hA⟩ := O
  intro z hz hK H locs ls hP hD hS hv
  exact lv_astore_n hx hb hd rfl hv (by rw [hml]; exact hn) hl (fun ls hv => kk z hz hK H locs ls hP hD hS hv)
theorem j_astore (O : Ok G own cc nL d X) {i : Nat} {x : Nat} (hd : decode cc pc = .ok (.astore i, 2)) (hn : i < nL) (hl : (i, Value.ref x) :: L.filter (fun q => !(q.1 == i) && !(q.1 + 1 == i && q.2.category == 2)) = L') (kk : JW G S ad X (pc + 2) L' st M t K) : JW G S ad X pc L (.ref x :: st) M t K := by
  obtain ⟨p, l, e, R, s, m, args, below, meth, c, cells, slots, Q, A⟩ := X
  obtain ⟨hx, hb, hml, hown, hts, hE, hlk, hfr, hlo, hce, hsl, hA⟩ := O
  intro z hz hK H locs ls hP hD hS hv
  exact lv_astore hx hb hd hv (by rw [hml]; exact hn) hl (fun ls hv => kk z hz hK H locs ls hP hD hS hv)
theorem j_iinc (O : Ok G own cc nL d X) {i : Nat} {n : Int} {x v : Int32} {L2 : Int32 → List (Nat × Value)} {kf : Int32 → Option ρ} (q : Nat) (hd : decode cc pc = .ok (.iinc i n, 3)) (hq : L[q]? = some (i, .int x)) (hn0 : Int32.ofInt n = v) (hn : i < nL) (hl : ∀ y : Int32, (i, Value.int y) :: L.filter (fun q => !(q.1 == i) && !(q.1 + 1 == i && q.2.category == 2)) = L2 y) (kk : ∀ y : Int32, JW G S ad X (pc + 3) (L2 y) st M (kf y) K) : JW G S ad X pc L st M (bi (x + v) kf) K := by
  obtain ⟨p, l, e, R, s, m, args, below, meth, c, cells, slots, Q, A⟩ := X
  obtain ⟨hx, hb, hml, hown, hts, hE, hlk, hfr, hlo, hce, hsl, hA⟩ := O
  intro z hz hK H locs ls hP hD hS hv
  exact lv_iinc hx hb hd hv hq rfl (by rw [hml]; exact hn) (hl _) (fun ls hv => kk (x + v) z hz hK H locs ls hP hD hS (by rw [← hn0]; exact hv))
theorem j_iadd (O : Ok G own cc nL d X) {x y : Int32} (hd : decode cc pc = .ok (.iadd, 1))  (k : JW G S ad X (pc + 1) L (.int (x + y) :: st) M t K) : JW G S ad X pc L (.int y :: .int x :: st) M t K := by
  obtain ⟨p, l, e, R, s, m, args, below, meth, c, cells, slots, Q, A⟩ := X
  obtain ⟨hx, hb, hml, hown, hts, hE, hlk, hfr, hlo, hce, hsl, hA⟩ := O
  intro z hz hK H locs ls hP hD hS hv
  exact lv_iadd hx hb hd  (k z hz hK H locs ls hP hD hS hv)
theorem j_isub (O : Ok G own cc nL d X) {x y : Int32} (hd : decode cc pc = .ok (.isub, 1))  (k : JW G S ad X (pc + 1) L (.int (x - y) :: st) M t K) : JW G S ad X pc L (.int y :: .int x :: st) M t K := by
  obtain ⟨p, l, e, R, s, m, args, below, meth, c, cells, slots, Q, A⟩ := X
  obtain ⟨hx, hb, hml, hown, hts, hE, hlk, hfr, hlo, hce, hsl, hA⟩ := O
  intro z hz hK H locs ls hP hD hS hv
  exact lv_isub hx hb hd  (k z hz hK H locs ls hP hD hS hv)
theorem j_imul (O : Ok G own cc nL d X) {x y : Int32} (hd : decode cc pc = .ok (.imul, 1))  (k : JW G S ad X (pc + 1) L (.int (x * y) :: st) M t K) : JW G S ad X pc L (.int y :: .int x :: st) M t K := by
  obtain ⟨p, l, e, R, s, m, args, below, meth, c, cells, slots, Q, A⟩ := X
  obtain ⟨hx, hb, hml, hown, hts, hE, hlk, hfr, hlo, hce, hsl, hA⟩ := O
  intro z hz hK H locs ls hP hD hS hv
  exact lv_imul hx hb hd  (k z hz hK H locs ls hP hD hS hv)
theorem j_iand (O : Ok G own cc nL d X) {x y : Int32} (hd : decode cc pc = .ok (.iand, 1))  (k : JW G S ad X (pc + 1) L (.int (x &&& y) :: st) M t K) : JW G S ad X pc L (.int y :: .int x :: st) M t K := by
  obtain ⟨p, l, e, R, s, m, args, below, meth, c, cells, slots, Q, A⟩ := X
  obtain ⟨hx, hb, hml, hown, hts, hE, hlk, hfr, hlo, hce, hsl, hA⟩ := O
  intro z hz hK H locs ls hP hD hS hv
  exact lv_iand hx hb hd  (k z hz hK H locs ls hP hD hS hv)
theorem j_ior (O : Ok G own cc nL d X) {x y : Int32} (hd : decode cc pc = .ok (.ior, 1))  (k : JW G S ad X (pc + 1) L (.int (x ||| y) :: st) M t K) : JW G S ad X pc L (.int y :: .int x :: st) M t K := by
  obtain ⟨p, l, e, R, s, m, args, below, meth, c, cells, slots, Q, A⟩ := X
  obtain ⟨hx, hb, hml, hown, hts, hE, hlk, hfr, hlo, hce, hsl, hA⟩ := O
  intro z hz hK H locs ls hP hD hS hv
  exact lv_ior hx hb hd  (k z hz hK H locs ls hP hD hS hv)
theorem j_ishl (O : Ok G own cc nL d X) {x y : Int32} (hd : decode cc pc = .ok (.ishl, 1))  (k : JW G S ad X (pc + 1) L (.int (isl x y) :: st) M t K) : JW G S ad X pc L (.int y :: .int x :: st) M t K := by
  obtain ⟨p, l, e, R, s, m, args, below, meth, c, cells, slots, Q, A⟩ := X
  obtain ⟨hx, hb, hml, hown, hts, hE, hlk, hfr, hlo, hce, hsl, hA⟩ := O
  intro z hz hK H locs ls hP hD hS hv
  exact lv_ishl hx hb hd  (k z hz hK H locs ls hP hD hS hv)
theorem j_ladd (O : Ok G own cc nL d X) {x y : Int64} (hd : decode cc pc = .ok (.ladd, 1))  (k : JW G S ad X (pc + 1) L (.long (x + y) :: st) M t K) : JW G S ad X pc L (.long y :: .long x :: st) M t K := by
  obtain ⟨p, l, e, R, s, m, args, below, meth, c, cells, slots, Q, A⟩ := X
  obtain ⟨hx, hb, hml, hown, hts, hE, hlk, hfr, hlo, hce, hsl, hA⟩ := O
  intro z hz hK H locs ls hP hD hS hv
  exact lv_ladd hx hb hd  (k z hz hK H locs ls hP hD hS hv)
theorem j_lsub (O : Ok G own cc nL d X) {x y : Int64} (hd : decode cc pc = .ok (.lsub, 1))  (k : JW G S ad X (pc + 1) L (.long (x - y) :: st) M t K) : JW G S ad X pc L (.long y :: .long x :: st) M t K := by
  obtain ⟨p, l, e, R, s, m, args, below, meth, c, cells, slots, Q, A⟩ := X
  obtain ⟨hx, hb, hml, hown, hts, hE, hlk, hfr, hlo, hce, hsl, hA⟩ := O
  intro z hz hK H locs ls hP hD hS hv
  exact lv_lsub hx hb hd  (k z hz hK H locs ls hP hD hS hv)
theorem j_lmul (O : Ok G own cc nL d X) {x y : Int64} (hd : decode cc pc = .ok (.lmul, 1))  (k : JW G S ad X (pc + 1) L (.long (x * y) :: st) M t K) : JW G S ad X pc L (.long y :: .long x :: st) M t K := by
  obtain ⟨p, l, e, R, s, m, args, below, meth, c, cells, slots, Q, A⟩ := X
  obtain ⟨hx, hb, hml, hown, hts, hE, hlk, hfr, hlo, hce, hsl, hA⟩ := O
  intro z hz hK H locs ls hP hD hS hv
  exact lv_lmul hx hb hd  (k z hz hK H locs ls hP hD hS hv)
theorem j_land (O : Ok G own cc nL d X) {x y : Int64} (hd : decode cc pc = .ok (.land, 1))  (k : JW G S ad X (pc + 1) L (.long (x &&& y) :: st) M t K) : JW G S ad X pc L (.long y :: .long x :: st) M t K := by
  obtain ⟨p, l, e, R, s, m, args, below, meth, c, cells, slots, Q, A⟩ := X
  obtain ⟨hx, hb, hml, hown, hts, hE, hlk, hfr, hlo, hce, hsl, hA⟩ := O
  intro z hz hK H locs ls hP hD hS hv
  exact lv_land hx hb hd  (k z hz hK H locs ls hP hD hS hv)
theorem j_lor (O : Ok G own cc nL d X) {x y : Int64} (hd : decode cc pc = .ok (.lor, 1))  (k : JW G S ad X (pc + 1) L (.long (x ||| y) :: st) M t K) : JW G S ad X pc L (.long y :: .long x :: st) M t K := by
  obtain ⟨p, l, e, R, s, m, args, below, meth, c, cells, slots, Q, A⟩ := X
  obtain ⟨hx, hb, hml, hown, hts, hE, hlk, hfr, hlo, hce, hsl, hA⟩ := O
  intro z hz hK H locs ls hP hD hS hv
  exact lv_lor hx hb hd  (k z hz hK H locs ls hP hD hS hv)
theorem j_lcmp (O : Ok G own cc nL d X) {x y : Int64} (hd : decode cc pc = .ok (.lcmp, 1))  (k : JW G S ad X (pc + 1) L (.int (lg_cmp x y) :: st) M t K) : JW G S ad X pc L (.long y :: .long x :: st) M t K := by
  obtain ⟨p, l, e, R, s, m, args, below, meth, c, cells, slots, Q, A⟩ := X
  obtain ⟨hx, hb, hml, hown, hts, hE, hlk, hfr, hlo, hce, hsl, hA⟩ := O
  intro z hz hK H locs ls hP hD hS hv
  exact W.lcmp hx hb hd  (k z hz hK H locs ls hP hD hS hv)
theorem j_ineg (O : Ok G own cc nL d X) {x : Int32} (hd : decode cc pc = .ok (.ineg, 1))  (k : JW G S ad X (pc + 1) L (.int (-x) :: st) M t K) : JW G S ad X pc L (.int x :: st) M t K := by
  obtain ⟨p, l, e, R, s, m, args, below, meth, c, cells, slots, Q, A⟩ := X
  obtain ⟨hx, hb, hml, hown, hts, hE, hlk, hfr, hlo, hce, hsl, hA⟩ := O
  intro z hz hK H locs ls hP hD hS hv
  exact lv_ineg hx hb hd  (k z hz hK H locs ls hP hD hS hv)
theorem j_i2l (O : Ok G own cc nL d X) {x : Int32} (hd : decode cc pc = .ok (.i2l, 1))  (k : JW G S ad X (pc + 1) L (.long x.toInt64 :: st) M t K) : JW G S ad X pc L (.int x :: st) M t K := by
  obtain ⟨p, l, e, R, s, m, args, below, meth, c, cells, slots, Q, A⟩ := X
  obtain ⟨hx, hb, hml, hown, hts, hE, hlk, hfr, hlo, hce, hsl, hA⟩ := O
  intro z hz hK H locs ls hP hD hS hv
  exact lv_i2l hx hb hd rfl (k z hz hK H locs ls hP hD hS hv)
theorem j_l2i (O : Ok G own cc nL d X) {x : Int64} (hd : decode cc pc = .ok (.l2i, 1))  (k : JW G S ad X (pc + 1) L (.int x.toInt32 :: st) M t K) : JW G S ad X pc L (.long x :: st) M t K := by
  obtain ⟨p, l, e, R, s, m, args, below, meth, c, cells, slots, Q, A⟩ := X
  obtain ⟨hx, hb, hml, hown, hts, hE, hlk, hfr, hlo, hce, hsl, hA⟩ := O
  intro z hz hK H locs ls hP hD hS hv
  exact lv_l2i hx hb hd rfl (k z hz hK H locs ls hP hD hS hv)
theorem j_i2b (O : Ok G own cc nL d X) {x : Int32} (hd : decode cc pc = .ok (.i2b, 1))  (k : JW G S ad X (pc + 1) L (.int x.toInt8.toInt32 :: st) M t K) : JW G S ad X pc L (.int x :: st) M t K := by
  obtain ⟨p, l, e, R, s, m, args, below, meth, c, cells, slots, Q, A⟩ := X
  obtain ⟨hx, hb, hml, hown, hts, hE, hlk, hfr, hlo, hce, hsl, hA⟩ := O
  intro z hz hK H locs ls hP hD hS hv
  exact lv_i2b hx hb hd rfl (k z hz hK H locs ls hP hD hS hv)
theorem j_i2s (O : Ok G own cc nL d X) {x : Int32} (hd : decode cc pc = .ok (.i2s, 1))  (k : JW G S ad X (pc + 1) L (.int x.toInt16.toInt32 :: st) M t K) : JW G S ad X pc L (.int x :: st) M t K := by
  obtain ⟨p, l, e, R, s, m, args, below, meth, c, cells, slots, Q, A⟩ := X
  obtain ⟨hx, hb, hml, hown, hts, hE, hlk, hfr, hlo, hce, hsl, hA⟩ := O
  intro z hz hK H locs ls hP hD hS hv
  exact lv_i2s hx hb hd rfl (k z hz hK H locs ls hP hD hS hv)
theorem j_iushr (O : Ok G own cc nL d X) {x y : Int32} (hd : decode cc pc = .ok (.iushr, 1))  (k : JW G S ad X (pc + 1) L (.int (ius x y) :: st) M t K) : JW G S ad X pc L (.int y :: .int x :: st) M t K := by
  obtain ⟨p, l, e, R, s, m, args, below, meth, c, cells, slots, Q, A⟩ := X
  obtain ⟨hx, hb, hml, hown, hts, hE, hlk, hfr, hlo, hce, hsl, hA⟩ := O
  intro z hz hK H locs ls hP hD hS hv
  exact lv_iushr hx hb hd rfl (k z hz hK H locs ls hP hD hS hv)
theorem j_lshl (O : Ok G own cc nL d X) {x : Int64} {y : Int32} (hd : decode cc pc = .ok (.lshl, 1))  (k : JW G S ad X (pc + 1) L (.long (lsl' x y) :: st) M t K) : JW G S ad X pc L (.int y :: .long x :: st) M t K := by
  obtain ⟨p, l, e, R, s, m, args, below, meth, c, cells, slots, Q, A⟩ := X
  obtain ⟨hx, hb, hml, hown, hts, hE, hlk, hfr, hlo, hce, hsl, hA⟩ := O
  intro z hz hK H locs ls hP hD hS hv
  exact lv_lshl hx hb hd rfl (k z hz hK H locs ls hP hD hS hv)
theorem j_lshr (O : Ok G own cc nL d X) {x : Int64} {y : Int32} (hd : decode cc pc = .ok (.lshr, 1))  (k : JW G S ad X (pc + 1) L (.long (lsr x y) :: st) M t K) : JW G S ad X pc L (.int y :: .long x :: st) M t K := by
  obtain ⟨p, l, e, R, s, m, args, below, meth, c, cells, slots, Q, A⟩ := X
  obtain ⟨hx, hb, hml, hown, hts, hE, hlk, hfr, hlo, hce, hsl, hA⟩ := O
  intro z hz hK H locs ls hP hD hS hv
  exact lv_lshr hx hb hd rfl (k z hz hK H locs ls hP hD hS hv)
theorem j_dup (O : Ok G own cc nL d X) {va : Value} (hd : decode cc pc = .ok (.dup, 1)) (hc : va.category = 1) (k : JW G S ad X (pc + 1) L (va :: va :: st) M t K) : JW G S ad X pc L (va :: st) M t K := by
  obtain ⟨p, l, e, R, s, m, args, below, meth, c, cells, slots, Q, A⟩ := X
  obtain ⟨hx, hb, hml, hown, hts, hE, hlk, hfr, hlo, hce, hsl, hA⟩ := O
  intro z hz hK H locs ls hP hD hS hv
  exact lv_dup hx hb hd hc (k z hz hK H locs ls hP hD hS hv)
theorem j_pop (O : Ok G own cc nL d X) {va : Value} (hd : decode cc pc = .ok (.pop, 1)) (hc : va.category = 1) (k : JW G S ad X (pc + 1) L st M t K) : JW G S ad X pc L (va :: st) M t K := by
  obtain ⟨p, l, e, R, s, m, args, below, meth, c, cells, slots, Q, A⟩ := X
  obtain ⟨hx, hb, hml, hown, hts, hE, hlk, hfr, hlo, hce, hsl, hA⟩ := O
  intro z hz hK H locs ls hP hD hS hv
  exact lv_pop hx hb hd hc (k z hz hK H locs ls hP hD hS hv)
theorem j_dup2 (O : Ok G own cc nL d X) {va vb : Value} (hd : decode cc pc = .ok (.dup2, 1)) (hc : va.category = 1) (hc2 : vb.category = 1) (k : JW G S ad X (pc + 1) L (va :: vb :: va :: vb :: st) M t K) : JW G S ad X pc L (va :: vb :: st) M t K := by
  obtain ⟨p, l, e, R, s, m, args, below, meth, c, cells, slots, Q, A⟩ := X
  obtain ⟨hx, hb, hml, hown, hts, hE, hlk, hfr, hlo, hce, hsl, hA⟩ := O
  intro z hz hK H locs ls hP hD hS hv
  exact lv_dup2_11 hx hb hd hc hc2 (k z hz hK H locs ls hP hD hS hv)
theorem j_idiv (O : Ok G own cc nL d X) {x y : Int32} {hc : Decidable (¬ y = 0)} (hd : decode cc pc = .ok (.idiv, 1)) (k : JW G S ad X (pc + 1) L (.int (x / y) :: st) M t K) : JW G S ad X pc L (.int y :: .int x :: st) M (gd (¬ y = 0) hc t) K := by
  refine jw_gd fun hy => ?_
  obtain ⟨p, l, e, R, s, m, args, below, meth, c, cells, slots, Q, A⟩ := X
  obtain ⟨hx, hb, hml, hown, hts, hE, hlk, hfr, hlo, hce, hsl, hA⟩ := O
  intro z hz hK H locs ls hP hD hS hv
  exact lv_idiv hx hb hd hy (k z hz hK H locs ls hP hD hS hv)
theorem j_irem (O : Ok G own cc nL d X) {x y : Int32} {hc : Decidable (¬ y = 0)} (hd : decode cc pc = .ok (.irem, 1)) (k : JW G S ad X (pc + 1) L (.int (irm x y) :: st) M t K) : JW G S ad X pc L (.int y :: .int x :: st) M (gd (¬ y = 0) hc t) K := by
  refine jw_gd fun hy => ?_
  obtain ⟨p, l, e, R, s, m, args, below, meth, c, cells, slots, Q, A⟩ := X
  obtain ⟨hx, hb, hml, hown, hts, hE, hlk, hfr, hlo, hce, hsl, hA⟩ := O
  intro z hz hK H locs ls hP hD hS hv
  exact lv_irem hx hb hd hy (k z hz hK H locs ls hP hD hS hv)
theorem j_ldiv (O : Ok G own cc nL d X) {x y : Int64} {hc : Decidable (¬ y = 0)} (hd : decode cc pc = .ok (.ldiv, 1)) (k : JW G S ad X (pc + 1) L (.long (x / y) :: st) M t K) : JW G S ad X pc L (.long y :: .long x :: st) M (gd (¬ y = 0) hc t) K := by
  refine jw_gd fun hy => ?_
  obtain ⟨p, l, e, R, s, m, args, below, meth, c, cells, slots, Q, A⟩ := X
  obtain ⟨hx, hb, hml, hown, hts, hE, hlk, hfr, hlo, hce, hsl, hA⟩ := O
  intro z hz hK H locs ls hP hD hS hv
  exact lv_ldiv hx hb hd hy (k z hz hK H locs ls hP hD hS hv)
theorem j_lrem (O : Ok G own cc nL d X) {x y : Int64} {hc : Decidable (¬ y = 0)} (hd : decode cc pc = .ok (.lrem, 1)) (k : JW G S ad X (pc + 1) L (.long (lrm x y) :: st) M t K) : JW G S ad X pc L (.long y :: .long x :: st) M (gd (¬ y = 0) hc t) K := by
  refine jw_gd fun hy => ?_
  obtain ⟨p, l, e, R, s, m, args, below, meth, c, cells, slots, Q, A⟩ := X
  obtain ⟨hx, hb, hml, hown, hts, hE, hlk, hfr, hlo, hce, hsl, hA⟩ := O
  intro z hz hK H locs ls hP hD hS hv
  exact lv_lrem hx hb hd hy (k z hz hK H locs ls hP hD hS hv)
theorem j_if_eq (O : Ok G own cc nL d X) {x : Int32} {off : Int} {tgt : Nat} {hc : Decidable (x = 0)} (hd : decode cc pc = .ok (.ifCond .eq off, 3)) (ht : (pc : Int) + off = (tgt : Int)) (kt : JW G S ad X tgt L st M t1 K) (kf : JW G S ad X (pc + 3) L st M t2 K) : JW G S ad X pc L (.int x :: st) M (@ite _ (x = 0) hc t1 t2) K := by
  obtain ⟨p, l, e, R, s, m, args, below, meth, c, cells, slots, Q, A⟩ := X
  obtain ⟨hx, hb, hml, hown, hts, hE, hlk, hfr, hlo, hce, hsl, hA⟩ := O
  intro z hz hK H locs ls hP hD hS hv
  refine lv_if_eq hx hb hd ht (fun hq => ?_) (fun hq => ?_)
  · rw [if_pos hq] at hz; exact kt z hz hK H locs ls hP hD hS hv
  · rw [if_neg hq] at hz; exact kf z hz hK H locs ls hP hD hS hv
theorem j_if_ne (O : Ok G own cc nL d X) {x : Int32} {off : Int} {tgt : Nat} {hc : Decidable (x = 0)} (hd : decode cc pc = .ok (.ifCond .ne off, 3)) (ht : (pc : Int) + off = (tgt : Int)) (kt : JW G S ad X (pc + 3) L st M t1 K) (kf : JW G S ad X tgt L st M t2 K) : JW G S ad X pc L (.int x :: st) M (@ite _ (x = 0) hc t1 t2) K := by
  obtain ⟨p, l, e, R, s, m, args, below, meth, c, cells, slots, Q, A⟩ := X
  obtain ⟨hx, hb, hml, hown, hts, hE, hlk, hfr, hlo, hce, hsl, hA⟩ := O
  intro z hz hK H locs ls hP hD hS hv
  refine lv_if_ne hx hb hd ht (fun hq => ?_) (fun hq => ?_)
  · rw [if_neg hq] at hz; exact kf z hz hK H locs ls hP hD hS hv
  · rw [if_pos hq] at hz; exact kt z hz hK H locs ls hP hD hS hv
theorem j_if_lt (O : Ok G own cc nL d X) {x : Int32} {off : Int} {tgt : Nat} {hc : Decidable (x < 0)} (hd : decode cc pc = .ok (.ifCond .lt off, 3)) (ht : (pc : Int) + off = (tgt : Int)) (kt : JW G S ad X tgt L st M t1 K) (kf : JW G S ad X (pc + 3) L st M t2 K) : JW G S ad X pc L (.int x :: st) M (@ite _ (x < 0) hc t1 t2) K := by
  obtain ⟨p, l, e, R, s, m, args, below, meth, c, cells, slots, Q, A⟩ := X
  obtain ⟨hx, hb, hml, hown, hts, hE, hlk, hfr, hlo, hce, hsl, hA⟩ := O
  intro z hz hK H locs ls hP hD hS hv
  refine lv_if_lt hx hb hd ht (fun hq => ?_) (fun hq => ?_)
  · rw [if_pos hq] at hz; exact kt z hz hK H locs ls hP hD hS hv
  · rw [if_neg hq] at hz; exact kf z hz hK H locs ls hP hD hS hv
theorem j_if_ge (O : Ok G own cc nL d X) {x : Int32} {off : Int} {tgt : Nat} {hc : Decidable (0 ≤ x)} (hd : decode cc pc = .ok (.ifCond .ge off, 3)) (ht : (pc : Int) + off = (tgt : Int)) (kt : JW G S ad X tgt L st M t1 K) (kf : JW G S ad X (pc + 3) L st M t2 K) : JW G S ad X pc L (.int x :: st) M (@ite _ (0 ≤ x) hc t1 t2) K := by
  obtain ⟨p, l, e, R, s, m, args, below, meth, c, cells, slots, Q, A⟩ := X
  obtain ⟨hx, hb, hml, hown, hts, hE, hlk, hfr, hlo, hce, hsl, hA⟩ := O
  intro z hz hK H locs ls hP hD hS hv
  refine lv_if_ge hx hb hd ht (fun hq => ?_) (fun hq => ?_)
  · rw [if_pos hq] at hz; exact kt z hz hK H locs ls hP hD hS hv
  · rw [if_neg hq] at hz; exact kf z hz hK H locs ls hP hD hS hv
theorem j_if_gt (O : Ok G own cc nL d X) {x : Int32} {off : Int} {tgt : Nat} {hc : Decidable (0 < x)} (hd : decode cc pc = .ok (.ifCond .gt off, 3)) (ht : (pc : Int) + off = (tgt : Int)) (kt : JW G S ad X tgt L st M t1 K) (kf : JW G S ad X (pc + 3) L st M t2 K) : JW G S ad X pc L (.int x :: st) M (@ite _ (0 < x) hc t1 t2) K := by
  obtain ⟨p, l, e, R, s, m, args, below, meth, c, cells, slots, Q, A⟩ := X
  obtain ⟨hx, hb, hml, hown, hts, hE, hlk, hfr, hlo, hce, hsl, hA⟩ := O
  intro z hz hK H locs ls hP hD hS hv
  refine lv_if_gt hx hb hd ht (fun hq => ?_) (fun hq => ?_)
  · rw [if_pos hq] at hz; exact kt z hz hK H locs ls hP hD hS hv
  · rw [if_neg hq] at hz; exact kf z hz hK H locs ls hP hD hS hv
theorem j_if_le (O : Ok G own cc nL d X) {x : Int32} {off : Int} {tgt : Nat} {hc : Decidable (x ≤ 0)} (hd : decode cc pc = .ok (.ifCond .le off, 3)) (ht : (pc : Int) + off = (tgt : Int)) (kt : JW G S ad X tgt L st M t1 K) (kf : JW G S ad X (pc + 3) L st M t2 K) : JW G S ad X pc L (.int x :: st) M (@ite _ (x ≤ 0) hc t1 t2) K := by
  obtain ⟨p, l, e, R, s, m, args, below, meth, c, cells, slots, Q, A⟩ := X
  obtain ⟨hx, hb, hml, hown, hts, hE, hlk, hfr, hlo, hce, hsl, hA⟩ := O
  intro z hz hK H locs ls hP hD hS hv
  refine lv_if_le hx hb hd ht (fun hq => ?_) (fun hq => ?_)
  · rw [if_pos hq] at hz; exact kt z hz hK H locs ls hP hD hS hv
  · rw [if_neg hq] at hz; exact kf z hz hK H locs ls hP hD hS hv
theorem j_icmp_eq (O : Ok G own cc nL d X) {x y : Int32} {off : Int} {tgt : Nat} {hc : Decidable (x = y)} (hd : decode cc pc = .ok (.if_icmp .eq off, 3)) (ht : (pc : Int) + off = (tgt : Int)) (kt : JW G S ad X tgt L st M t1 K) (kf : JW G S ad X (pc + 3) L st M t2 K) : JW G S ad X pc L (.int y :: .int x :: st) M (@ite _ (x = y) hc t1 t2) K := by
  obtain ⟨p, l, e, R, s, m, args, below, meth, c, cells, slots, Q, A⟩ := X
  obtain ⟨hx, hb, hml, hown, hts, hE, hlk, hfr, hlo, hce, hsl, hA⟩ := O
  intro z hz hK H locs ls hP hD hS hv
  refine lv_icmp_eq hx hb hd ht (fun hq => ?_) (fun hq => ?_)
  · rw [if_pos hq] at hz; exact kt z hz hK H locs ls hP hD hS hv
  · rw [if_neg hq] at hz; exact kf z hz hK H locs ls hP hD hS hv
theorem j_icmp_ne (O : Ok G own cc nL d X) {x y : Int32} {off : Int} {tgt : Nat} {hc : Decidable (x = y)} (hd : decode cc pc = .ok (.if_icmp .ne off, 3)) (ht : (pc : Int) + off = (tgt : Int)) (kt : JW G S ad X (pc + 3) L st M t1 K) (kf : JW G S ad X tgt L st M t2 K) : JW G S ad X pc L (.int y :: .int x :: st) M (@ite _ (x = y) hc t1 t2) K := by
  obtain ⟨p, l, e, R, s, m, args, below, meth, c, cells, slots, Q, A⟩ := X
  obtain ⟨hx, hb, hml, hown, hts, hE, hlk, hfr, hlo, hce, hsl, hA⟩ := O
  intro z hz hK H locs ls hP hD hS hv
  refine lv_icmp_ne hx hb hd ht (fun hq => ?_) (fun hq => ?_)
  · rw [if_neg hq] at hz; exact kf z hz hK H locs ls hP hD hS hv
  · rw [if_pos hq] at hz; exact kt z hz hK H locs ls hP hD hS hv
theorem j_icmp_lt (O : Ok G own cc nL d X) {x y : Int32} {off : Int} {tgt : Nat} {hc : Decidable (x < y)} (hd : decode cc pc = .ok (.if_icmp .lt off, 3)) (ht : (pc : Int) + off = (tgt : Int)) (kt : JW G S ad X tgt L st M t1 K) (kf : JW G S ad X (pc + 3) L st M t2 K) : JW G S ad X pc L (.int y :: .int x :: st) M (@ite _ (x < y) hc t1 t2) K := by
  obtain ⟨p, l, e, R, s, m, args, below, meth, c, cells, slots, Q, A⟩ := X
  obtain ⟨hx, hb, hml, hown, hts, hE, hlk, hfr, hlo, hce, hsl, hA⟩ := O
  intro z hz hK H locs ls hP hD hS hv
  refine lv_icmp_lt hx hb hd ht (fun hq => ?_) (fun hq => ?_)
  · rw [if_pos hq] at hz; exact kt z hz hK H locs ls hP hD hS hv
  · rw [if_neg hq] at hz; exact kf z hz hK H locs ls hP hD hS hv
theorem j_icmp_ge (O : Ok G own cc nL d X) {x y : Int32} {off : Int} {tgt : Nat} {hc : Decidable (y ≤ x)} (hd : decode cc pc = .ok (.if_icmp .ge off, 3)) (ht : (pc : Int) + off = (tgt : Int)) (kt : JW G S ad X tgt L st M t1 K) (kf : JW G S ad X (pc + 3) L st M t2 K) : JW G S ad X pc L (.int y :: .int x :: st) M (@ite _ (y ≤ x) hc t1 t2) K := by
  obtain ⟨p, l, e, R, s, m, args, below, meth, c, cells, slots, Q, A⟩ := X
  obtain ⟨hx, hb, hml, hown, hts, hE, hlk, hfr, hlo, hce, hsl, hA⟩ := O
  intro z hz hK H locs ls hP hD hS hv
  refine lv_icmp_ge hx hb hd ht (fun hq => ?_) (fun hq => ?_)
  · rw [if_pos hq] at hz; exact kt z hz hK H locs ls hP hD hS hv
  · rw [if_neg hq] at hz; exact kf z hz hK H locs ls hP hD hS hv
theorem j_icmp_gt (O : Ok G own cc nL d X) {x y : Int32} {off : Int} {tgt : Nat} {hc : Decidable (y < x)} (hd : decode cc pc = .ok (.if_icmp .gt off, 3)) (ht : (pc : Int) + off = (tgt : Int)) (kt : JW G S ad X tgt L st M t1 K) (kf : JW G S ad X (pc + 3) L st M t2 K) : JW G S ad X pc L (.int y :: .int x :: st) M (@ite _ (y < x) hc t1 t2) K := by
  obtain ⟨p, l, e, R, s, m, args, below, meth, c, cells, slots, Q, A⟩ := X
  obtain ⟨hx, hb, hml, hown, hts, hE, hlk, hfr, hlo, hce, hsl, hA⟩ := O
  intro z hz hK H locs ls hP hD hS hv
  refine lv_icmp_gt hx hb hd ht (fun hq => ?_) (fun hq => ?_)
  · rw [if_pos hq] at hz; exact kt z hz hK H locs ls hP hD hS hv
  · rw [if_neg hq] at hz; exact kf z hz hK H locs ls hP hD hS hv
theorem j_icmp_le (O : Ok G own cc nL d X) {x y : Int32} {off : Int} {tgt : Nat} {hc : Decidable (x ≤ y)} (hd : decode cc pc = .ok (.if_icmp .le off, 3)) (ht : (pc : Int) + off = (tgt : Int)) (kt : JW G S ad X tgt L st M t1 K) (kf : JW G S ad X (pc + 3) L st M t2 K) : JW G S ad X pc L (.int y :: .int x :: st) M (@ite _ (x ≤ y) hc t1 t2) K := by
  obtain ⟨p, l, e, R, s, m, args, below, meth, c, cells, slots, Q, A⟩ := X
  obtain ⟨hx, hb, hml, hown, hts, hE, hlk, hfr, hlo, hce, hsl, hA⟩ := O
  intro z hz hK H locs ls hP hD hS hv
  refine lv_icmp_le hx hb hd ht (fun hq => ?_) (fun hq => ?_)
  · rw [if_pos hq] at hz; exact kt z hz hK H locs ls hP hD hS hv
  · rw [if_neg hq] at hz; exact kf z hz hK H locs ls hP hD hS hv
theorem j_goto (O : Ok G own cc nL d X) {off : Int} {tgt : Nat} (hd : decode cc pc = .ok (.goto off, 3)) (ht : (pc : Int) + off = (tgt : Int)) (k : JW G S ad X tgt L st M t K) : JW G S ad X pc L st M t K := by
  obtain ⟨p, l, e, R, s, m, args, below, meth, c, cells, slots, Q, A⟩ := X
  obtain ⟨hx, hb, hml, hown, hts, hE, hlk, hfr, hlo, hce, hsl, hA⟩ := O
  intro z hz hK H locs ls hP hD hS hv
  exact lv_goto hx hb hd ht (k z hz hK H locs ls hP hD hS hv)
theorem j_ifnonnull (O : Ok G own cc nL d X) {off : Int} {tgt x : Nat} (hd : decode cc pc = .ok (.ifnonnull off, 3)) (ht : (pc : Int) + off = (tgt : Int)) (k : JW G S ad X tgt L st M t K) : JW G S ad X pc L (.ref x :: st) M t K := by
  obtain ⟨p, l, e, R, s, m, args, below, meth, c, cells, slots, Q, A⟩ := X
  obtain ⟨hx, hb, hml, hown, hts, hE, hlk, hfr, hlo, hce, hsl, hA⟩ := O
  intro z hz hK H locs ls hP hD hS hv
  exact lv_ifnonnull hx hb hd ht (k z hz hK H locs ls hP hD hS hv)
theorem j_ifnull (O : Ok G own cc nL d X) {off : Int} {x : Nat} (hd : decode cc pc = .ok (.ifnull off, 3)) (k : JW G S ad X (pc + 3) L st M t K) : JW G S ad X pc L (.ref x :: st) M t K := by
  obtain ⟨p, l, e, R, s, m, args, below, meth, c, cells, slots, Q, A⟩ := X
  obtain ⟨hx, hb, hml, hown, hts, hE, hlk, hfr, hlo, hce, hsl, hA⟩ := O
  intro z hz hK H locs ls hP hD hS hv
  exact lv_ifnull hx hb hd (k z hz hK H locs ls hP hD hS hv)
/-- the cases of a switch, as a chain -/
def swc {α : Type} (x : Int32) : List (Int32 × Option α) → Option α → Option α
  | [], dflt => dflt
  | (c, t) :: r, dflt => if x = c then t else swc x r dflt
theorem j_switch (O : Ok G own cc nL d X) {x : Int32} (hs : ∀ y : Int32, y = x → JW G S ad X pc L (.int y :: st) M t K) : JW G S ad X pc L (.int x :: st) M t K := hs x rfl
theorem j_tin (O : Ok G own cc nL d X) {dflt lo hi : Int} {offs : Array Int} {len : Nat} {x : Int32} {off : Int} {tgt : Nat} (hd : decode cc pc = .ok (.tableswitch dflt lo hi offs, len)) (h1 : ¬ x.toInt < lo) (h2 : ¬ hi < x.toInt) (ho : offs[(x.toInt - lo).toNat]? = some off) (ht : (pc : Int) + off = (tgt : Int)) (k : JW G S ad X tgt L st M t K) : JW G S ad X pc L (.int x :: st) M t K := by
  obtain ⟨p, l, e, R, s, m, args, below, meth, c, cells, slots, Q, A⟩ := X
  obtain ⟨hx, hb, hml, hown, hts, hE, hlk, hfr, hlo, hce, hsl, hA⟩ := O
  intro z hz hK H locs ls hP hD hS hv
  exact lv_tableIn hx hb hd h1 h2 ho ht (k z hz hK H locs ls hP hD hS hv)
theorem j_tout (O : Ok G own cc nL d X) {dflt lo hi : Int} {offs : Array Int} {len : Nat} {x : Int32} {tgt : Nat} (hd : decode cc pc = .ok (.tableswitch dflt lo hi offs, len)) (h : x.toInt < lo ∨ hi < x.toInt) (ht : (pc : Int) + dflt = (tgt : Int)) (k : JW G S ad X tgt L st M t K) : JW G S ad X pc L (.int x :: st) M t K := by
  obtain ⟨p, l, e, R, s, m, args, below, meth, c, cells, slots, Q, A⟩ := X
  obtain ⟨hx, hb, hml, hown, hts, hE, hlk, hfr, hlo, hce, hsl, hA⟩ := O
  intro z hz hK H locs ls hP hD hS hv
  exact lv_tableOut hx hb hd h ht (k z hz hK H locs ls hP hD hS hv)
theorem j_lsw (O : Ok G own cc nL d X) {dflt : Int} {ps : Array (Int × Int)} {len : Nat} {x : Int32} {off : Int} {tgt : Nat} (hd : decode cc pc = .ok (.lookupswitch dflt ps, len)) (hp : (ps.toList.zip (ps.toList.drop 1)).all (fun (a, next) => a.1 < next.1) = true) (ho : Op.lookupswitch.offset ps.toList dflt x.toInt = off) (ht : (pc : Int) + off = (tgt : Int)) (k : JW G S ad X tgt L st M t K) : JW G S ad X pc L (.int x :: st) M t K := by
  obtain ⟨p, l, e, R, s, m, args, below, meth, c, cells, slots, Q, A⟩ := X
  obtain ⟨hx, hb, hml, hown, hts, hE, hlk, hfr, hlo, hce, hsl, hA⟩ := O
  intro z hz hK H locs ls hP hD hS hv
  exact lv_lookup hx hb hd hp ho ht (k z hz hK H locs ls hP hD hS hv)
theorem jw_swc {x c : Int32} {tc dflt : Option ρ} {r : List (Int32 × Option ρ)} (h1 : x = c → JW G S ad X pc L st M tc K) (h2 : ¬ x = c → JW G S ad X pc L st M (swc x r dflt) K) : JW G S ad X pc L st M (swc x ((c, tc) :: r) dflt) K := by
  by_cases h : x = c
  · have e : swc x ((c, tc) :: r) dflt = tc := by rw [swc, if_pos h]
    rw [e]; exact h1 h
  · have e : swc x ((c, tc) :: r) dflt = swc x r dflt := by rw [swc, if_neg h]
    rw [e]; exact h2 h
theorem jw_swd {x : Int32} {dflt : Option ρ} (h : JW G S ad X pc L st M dflt K) : JW G S ad X pc L st M (swc x [] dflt) K := h
/-- a field's link -/
def FL (own : String) (index ci k : Nat) (fin : Bool) : Prop := ∃ (C : String) (T : u_T) (N : Nat) (ty0 : Nat → FieldType), vwCl[ci]? = some (C, T, N) ∧ k < N ∧ (∀ w ∈ u_ws C T N, w ∈ gw) ∧ (T k).1 = C ∧ (T k).2.2.2 = fin ∧ (∀ k, k < N → parseFieldDescriptor (T k).2.2.1 = some (ty0 k)) ∧ (∀ a, a < N → ∀ b, b < N → a ≠ b → (T a).2.1 ≠ (T b).2.1) ∧
  (Cond.fieldLink own index C (T k).2.1 (T k).2.2.1 ∈ gw ∨ Cond.fieldLinkNest own index C (T k).2.1 (T k).2.2.1 RX5 ∈ nws)
/-- its type -/
def FTy (ci k : Nat) (ty : FieldType) : Prop := ∀ (C : String) (T : u_T) (N : Nat), vwCl[ci]? = some (C, T, N) → parseFieldDescriptor (T k).2.2.1 = some ty
theorem j_getf (O : Ok G own cc nL d X) (o k : Nat) {index ci n : Nat} {fk : List Nat} {tg : Nat} {v : Value} {fin : Bool} (hd : decode cc pc = .ok (.getfield index, 3)) (hl : FL own index ci k fin) (ho : S[o]? = some (ci + 2, n, fk)) (hk : fk[k]? = some tg) (hv0 : fv ad M o k tg = v) (kk : JW G S ad X (pc + 3) L (v :: st) M t K) : JW G S ad X pc L (.ref (ad o) :: st) M t K := by
  subst hv0
  obtain ⟨p, l, e, R, s, m, args, below, meth, c, cells, slots, Q, A⟩ := X
  obtain ⟨hx, hb, hml, hown, hts, hE, hlk, hfr, hlo, hce, hsl, hA⟩ := O
  intro z hz hK H locs ls hP hD hS hv
  obtain ⟨C, T, N, ty0, hc, hkN, hin, hT, -, -, -, hlink⟩ := hl
  have he := wo_at (G := G) (ad := ad) (M := M) ho
  rcases hlink with hlink | hlink
  · exact va_get (ref := C) hx hb hts hin hown hE.1 hP o he hc k hkN (hts _ hlink) (fun x q => by rw [← q, hT]) (fv_get hk) hd (kk z hz hK H locs ls hP hD hS hv)
  · exact va_getN (ref := C) hx hb hts hin hown hE.1 hP o he hc k hkN (va_Nw.use rfl (hE.2.1 _ hlink)) (fun x q => by rw [← q, hT]) (fv_get hk) hd (kk z hz hK H locs ls hP hD hS hv)
theorem j_put (O : Ok G own cc nL d X) (o k : Nat) {index ci n : Nat} {fk : List Nat} {v : Value} {M' : Mm} {ty : FieldType} (hd : decode cc pc = .ok (.putfield index, 3)) (hl : FL own index ci k false) (ho : S[o]? = some (ci + 2, n, fk)) (hty : FTy ci k ty) (hn : narrow ty v = v) (hfit : fits ty v = true) (hkl : k < fk.length)
    (hM : (mapi (fv ad M o) fk).set k v = mapi (fv ad M' o) fk) (h1 : ∀ i, i ≠ o → M'.1 i = M.1 i) (h2 : ∀ i, i ≠ o → M'.2 i = M.2 i) (kk : JW G S ad X (pc + 3) L st M' t K) : JW G S ad X pc L (v :: .ref (ad o) :: st) M t K := by
  obtain ⟨p, l, e, R, s, m, args, below, meth, c, cells, slots, Q, A⟩ := X
  obtain ⟨hx, hb, hml, hown, hts, hE, hlk, hfr, hlo, hce, hsl, hA⟩ := O
  intro z hz hK H locs ls hP hD hS hv
  obtain ⟨C, T, N, ty0, hc, hkN, hin, hT, hfin, hty0, hnm, hlink⟩ := hl
  have he := wo_at (G := G) (ad := ad) (M := M) ho
  have e : (wo G S ad M).set o (ad o, .inr (ci, (mapi (fv ad M o) fk).set k v)) = wo G S ad M' := wo_set ho (by rw [hM]; rfl) h1 h2
  have hlen : k < (mapi (fv ad M o) fk).length := by rw [mapi_len]; exact hkl
  rcases hlink with hlink | hlink
  · exact va_put (ref := C) hx hb hts hin ty0 hty0 hnm hown hE.1 hP hD hS o he hc k hkN (hts _ hlink) (fun x q => by rw [← q, hT]) hfin (hty C T N hc) hn hfit hlen hd (fun H locs hP hD hS => kk z hz hK H locs ls (by rw [← e]; exact hP) (by rw [← e]; exact hD) hS hv)
  · exact va_putN (ref := C) hx hb hts hin ty0 hty0 hnm hown hE.1 hP hD hS o he hc k hkN (va_Nw.use rfl (hE.2.1 _ hlink)) (fun x q => by rw [← q, hT]) hfin (hty C T N hc) hn hfit hlen hd (fun H locs hP hD hS => kk z hz hK H locs ls (by rw [← e]; exact hP) (by rw [← e]; exact hD) hS hv)
theorem ms_n1 {o k i : Nat} {v : Int32} (h : i ≠ o) : (ms M o k v).1 i = M.1 i := ms_ne h
theorem j_puti (O : Ok G own cc nL d X) (o k : Nat) {index ci n : Nat} {fk : List Nat} {v : Int32} {kf : Mm → Option ρ} (hd : decode cc pc = .ok (.putfield index, 3)) (hl : FL own index ci k false) (ho : S[o]? = some (ci + 2, n, fk)) (hty : FTy ci k .int) (hk : fk[k]? = some 0) (kk : ∀ M1 : Mm, JW G S ad X (pc + 3) L st M1 (kf M1) K) : JW G S ad X pc L (.int v :: .ref (ad o) :: st) M (bm (ms M o k v) kf) K :=
  j_put O o k hd hl ho hty rfl rfl (List.getElem?_eq_some_iff.mp hk).1 (fs_int hk) (fun _ h => ms_ne h) (fun _ _ => rfl) (kk _)
theorem j_putz (O : Ok G own cc nL d X) (o k : Nat) {index ci n : Nat} {fk : List Nat} {v : Int32} {kf : Mm → Option ρ} (hd : decode cc pc = .ok (.putfield index, 3)) (hl : FL own index ci k false) (ho : S[o]? = some (ci + 2, n, fk)) (hty : FTy ci k .boolean) (hv0 : narrow .boolean (.int v) = .int v ∧ fits .boolean (.int v) = true) (hk : fk[k]? = some 0) (kk : ∀ M1 : Mm, JW G S ad X (pc + 3) L st M1 (kf M1) K) : JW G S ad X pc L (.int v :: .ref (ad o) :: st) M (bm (ms M o k v) kf) K :=
  j_put O o k hd hl ho hty hv0.1 hv0.2 (List.getElem?_eq_some_iff.mp hk).1 (fs_int hk) (fun _ h => ms_ne h) (fun _ _ => rfl) (kk _)
theorem j_putl (O : Ok G own cc nL d X) (o k : Nat) {index ci n : Nat} {fk : List Nat} {v : Int64} {kf : Mm → Option ρ} (hd : decode cc pc = .ok (.putfield index, 3)) (hl : FL own index ci k false) (ho : S[o]? = some (ci + 2, n, fk)) (hty : FTy ci k .long) (hk : fk[k]? = some 1) (hu : ∀ i, i < fk.length → fk[i]? = some 1 → i = k) (kk : ∀ M1 : Mm, JW G S ad X (pc + 3) L st M1 (kf M1) K) : JW G S ad X pc L (.long v :: .ref (ad o) :: st) M (bm (ml M o v) kf) K :=
  j_put O o k hd hl ho hty rfl rfl (List.getElem?_eq_some_iff.mp hk).1 (fs_long hk hu) (fun _ _ => rfl) (fun i h => by simp [ml, h]) (kk _)
theorem j_iald (O : Ok G own cc nL d X) (o : Nat) {n : Nat} {fk : List Nat} {i : Int32} {hc : Decidable (bin i n = true)} (hd : decode cc pc = .ok (.iaload, 1)) (ho : S[o]? = some (0, n, fk)) (kk : JW G S ad X (pc + 1) L (.int (M.1 o i.toNatClampNeg) :: st) M t K) : JW G S ad X pc L (.int i :: .ref (ad o) :: st) M (gd (bin i n = true) hc t) K := by
  refine jw_gd fun hi => ?_
  obtain ⟨p, l, e, R, s, m, args, below, meth, c, cells, slots, Q, A⟩ := X
  obtain ⟨hx, hb, hml, hown, hts, hE, hlk, hfr, hlo, hce, hsl, hA⟩ := O
  intro z hz hK H locs ls hP hD hS hv
  exact va_iald (f := M.1 o) hx hb hE.1 hP o 0 (wo_at (G := G) (ad := ad) (M := M) ho) rfl (bin_in hi) hd (kk z hz hK H locs ls hP hD hS hv)
theorem j_zald (O : Ok G own cc nL d X) (o : Nat) {n : Nat} {fk : List Nat} {i : Int32} {hc : Decidable (bin i n = true)} (hd : decode cc pc = .ok (.baload, 1)) (ho : S[o]? = some (1, n, fk)) (kk : JW G S ad X (pc + 1) L (.int (M.1 o i.toNatClampNeg) :: st) M t K) : JW G S ad X pc L (.int i :: .ref (ad o) :: st) M (gd (bin i n = true) hc t) K := by
  refine jw_gd fun hi => ?_
  obtain ⟨p, l, e, R, s, m, args, below, meth, c, cells, slots, Q, A⟩ := X
  obtain ⟨hx, hb, hml, hown, hts, hE, hlk, hfr, hlo, hce, hsl, hA⟩ := O
  intro z hz hK H locs ls hP hD hS hv
  exact va_zald (f := M.1 o) hx hb hE.1 hP o 1 (wo_at (G := G) (ad := ad) (M := M) ho) rfl (bin_in hi) hd (kk z hz hK H locs ls hP hD hS hv)
theorem j_iast (O : Ok G own cc nL d X) (o : Nat) {n : Nat} {fk : List Nat} {i v : Int32} {hc : Decidable (bin i n = true)} {kf : Mm → Option ρ} (hd : decode cc pc = .ok (.iastore, 1)) (ho : S[o]? = some (0, n, fk)) (kk : ∀ M1 : Mm, JW G S ad X (pc + 1) L st M1 (kf M1) K) : JW G S ad X pc L (.int v :: .int i :: .ref (ad o) :: st) M (gd (bin i n = true) hc (bm (ms M o i.toNatClampNeg v) kf)) K := by
  refine jw_gd fun hi => ?_
  have kk := kk (ms M o i.toNatClampNeg v)
  obtain ⟨p, l, e, R, s, m, args, below, meth, c, cells, slots, Q, A⟩ := X
  obtain ⟨hx, hb, hml, hown, hts, hE, hlk, hfr, hlo, hce, hsl, hA⟩ := O
  intro z hz hK H locs ls hP hD hS hv
  have e : (wo G S ad M).set o (ad o, .inl (gI G, n, .inl (upd (M.1 o) i.toNatClampNeg v))) = wo G S ad (ms M o i.toNatClampNeg v) := wo_set ho (by rw [← ms_upd]; rfl) (fun _ h => ms_ne h) (fun _ _ => rfl)
  exact va_iast (f := M.1 o) hx hb hE.1 hP hD hS o 0 (wo_at (G := G) (ad := ad) (M := M) ho) rfl (bin_in hi) hd (fun H locs hP hD hS => kk z hz hK H locs ls (by rw [← e]; exact hP) (by rw [← e]; exact hD) hS hv)
theorem j_zast (O : Ok G own cc nL d X) (o : Nat) {n : Nat} {fk : List Nat} {i v : Int32} {hc : Decidable (bin i n = true)} {kf : Mm → Option ρ} (hd : decode cc pc = .ok (.bastore, 1)) (ho : S[o]? = some (1, n, fk)) (kk : ∀ M1 : Mm, JW G S ad X (pc + 1) L st M1 (kf M1) K) : JW G S ad X pc L (.int v :: .int i :: .ref (ad o) :: st) M (gd (bin i n = true) hc (bm (ms M o i.toNatClampNeg (vp_nar .boolean v)) kf)) K := by
  refine jw_gd fun hi => ?_
  have kk := kk (ms M o i.toNatClampNeg (vp_nar .boolean v))
  obtain ⟨p, l, e, R, s, m, args, below, meth, c, cells, slots, Q, A⟩ := X
  obtain ⟨hx, hb, hml, hown, hts, hE, hlk, hfr, hlo, hce, hsl, hA⟩ := O
  intro z hz hK H locs ls hP hD hS hv
  have e : (wo G S ad M).set o (ad o, .inl (gZ G, n, .inl (upd (M.1 o) i.toNatClampNeg (vp_nar .boolean v)))) = wo G S ad (ms M o i.toNatClampNeg (vp_nar .boolean v)) := wo_set ho (by rw [← ms_upd]; rfl) (fun _ h => ms_ne h) (fun _ _ => rfl)
  exact va_zast (f := M.1 o) hx hb hE.1 hP hD hS o 1 (wo_at (G := G) (ad := ad) (M := M) ho) rfl (bin_in hi) hd (fun H locs hP hD hS => kk z hz hK H locs ls (by rw [← e]; exact hP) (by rw [← e]; exact hD) hS hv)
theorem j_alen (O : Ok G own cc nL d X) (o : Nat) {n : Nat} {fk : List Nat} {v : Int32} (hd : decode cc pc = .ok (.arraylength, 1)) (ho : S[o]? = some (0, n, fk)) (hn : Int32.ofNat n = v) (kk : JW G S ad X (pc + 1) L (.int v :: st) M t K) : JW G S ad X pc L (.ref (ad o) :: st) M t K := by
  obtain ⟨p, l, e, R, s, m, args, below, meth, c, cells, slots, Q, A⟩ := X
  obtain ⟨hx, hb, hml, hown, hts, hE, hlk, hfr, hlo, hce, hsl, hA⟩ := O
  intro z hz hK H locs ls hP hD hS hv
  exact va_alen (x := (n, .inl (M.1 o))) hx hb hE.1 hP o 0 (wo_at (G := G) (ad := ad) (M := M) ho) (ty := .int) rfl hn hd (kk z hz hK H locs ls hP hD hS hv)
theorem j_gets_low (O : Ok G own cc nL d X) {index : Nat} (hd : decode cc pc = .ok (.getstatic index, 3)) (hw : Cond.fieldLink own index RX5 "LOWEST" "[I" ∈ gw) (kk : JW G S ad X (pc + 3) L (.ref (gL G) :: st) M t K) : JW G S ad X pc L st M t K := by
  obtain ⟨p, l, e, R, s, m, args, below, meth, c, cells, slots, Q, A⟩ := X
  obtain ⟨hx, hb, hml, hown, hts, hE, hlk, hfr, hlo, hce, hsl, hA⟩ := O
  intro z hz hK H locs ls hP hD hS hv
  exact va_gets hx hb (hE.2.2.2.2.1.1) hS hown (hts _ hw) (fun _ h => h) hd (kk z hz hK H locs ls hP hD hS hv)
theorem j_low_len (O : Ok G own cc nL d X) (hd : decode cc pc = .ok (.arraylength, 1)) (kk : JW G S ad X (pc + 1) L (.int 5 :: st) M t K) : JW G S ad X pc L (.ref (gL G) :: st) M t K := by
  obtain ⟨p, l, e, R, s, m, args, below, meth, c, cells, slots, Q, A⟩ := X
  obtain ⟨hx, hb, hml, hown, hts, hE, hlk, hfr, hlo, hce, hsl, hA⟩ := O
  intro z hz hK H locs ls hP hD hS hv
  exact va_tlen hx hb (hE.2.2.2.2.1.2) hS rfl hd (kk z hz hK H locs ls hP hD hS hv)
theorem j_low_ald (O : Ok G own cc nL d X) {i : Int32} {hc : Decidable (bin i 5 = true)} (hd : decode cc pc = .ok (.iaload, 1)) (kk : JW G S ad X (pc + 1) L (.int (lowV i.toNatClampNeg) :: st) M t K) : JW G S ad X pc L (.int i :: .ref (gL G) :: st) M (gd (bin i 5 = true) hc t) K := by
  refine jw_gd fun hi => ?_
  obtain ⟨p, l, e, R, s, m, args, below, meth, c, cells, slots, Q, A⟩ := X
  obtain ⟨hx, hb, hml, hown, hts, hE, hlk, hfr, hlo, hce, hsl, hA⟩ := O
  intro z hz hK H locs ls hP hD hS hv
  exact va_ti hx hb (hE.2.2.2.2.1.2) hS (bin_in hi) rfl hd (kk z hz hK H locs ls hP hD hS hv)
theorem j_gets_high (O : Ok G own cc nL d X) {index : Nat} (hd : decode cc pc = .ok (.getstatic index, 3)) (hw : Cond.fieldLink own index RX5 "HIGHEST" "[I" ∈ gw) (kk : JW G S ad X (pc + 3) L (.ref (gH G) :: st) M t K) : JW G S ad X pc L st M t K := by
  obtain ⟨p, l, e, R, s, m, args, below, meth, c, cells, slots, Q, A⟩ := X
  obtain ⟨hx, hb, hml, hown, hts, hE, hlk, hfr, hlo, hce, hsl, hA⟩ := O
  intro z hz hK H locs ls hP hD hS hv
  exact va_gets hx hb (hE.2.2.2.2.2.1.1) hS hown (hts _ hw) (fun _ h => h) hd (kk z hz hK H locs ls hP hD hS hv)
theorem j_high_len (O : Ok G own cc nL d X) (hd : decode cc pc = .ok (.arraylength, 1)) (kk : JW G S ad X (pc + 1) L (.int 5 :: st) M t K) : JW G S ad X pc L (.ref (gH G) :: st) M t K := by
  obtain ⟨p, l, e, R, s, m, args, below, meth, c, cells, slots, Q, A⟩ := X
  obtain ⟨hx, hb, hml, hown, hts, hE, hlk, hfr, hlo, hce, hsl, hA⟩ := O
  intro z hz hK H locs ls hP hD hS hv
  exact va_tlen hx hb (hE.2.2.2.2.2.1.2) hS rfl hd (kk z hz hK H locs ls hP hD hS hv)
theorem j_high_ald (O : Ok G own cc nL d X) {i : Int32} {hc : Decidable (bin i 5 = true)} (hd : decode cc pc = .ok (.iaload, 1)) (kk : JW G S ad X (pc + 1) L (.int (highV i.toNatClampNeg) :: st) M t K) : JW G S ad X pc L (.int i :: .ref (gH G) :: st) M (gd (bin i 5 = true) hc t) K := by
  refine jw_gd fun hi => ?_
  obtain ⟨p, l, e, R, s, m, args, below, meth, c, cells, slots, Q, A⟩ := X
  obtain ⟨hx, hb, hml, hown, hts, hE, hlk, hfr, hlo, hce, hsl, hA⟩ := O
  intro z hz hK H locs ls hP hD hS hv
  exact va_ti hx hb (hE.2.2.2.2.2.1.2) hS (bin_in hi) rfl hd (kk z hz hK H locs ls hP hD hS hv)
theorem j_iret (O : Ok G own cc nL d X) {v : Int32} (hd : decode cc pc = .ok (.ireturn, 1)) : JW G S ad X pc L [.int v] M (some (v, M)) (fun z : Int32 × Mm => Tg G S ad X (some .int) z.2 (some (.int z.1))) := by
  refine jw_pw fun hT => ?_
  obtain ⟨p, l, e, R, s, m, args, below, meth, c, cells, slots, Q, A⟩ := X
  obtain ⟨hx, hb, hml, hown, hts, hE, hlk, hfr, hlo, hce, hsl, hA⟩ := O
  obtain ⟨hr, hQ⟩ := hT
  intro H locs ls hP hD hS hv
  rw [hQ]
  exact W.iret hx hb hr (fun t ht _ => ⟨rfl, by rw [ht]; exact hP, hS.F ht⟩) hS.2.2 hd hlk
theorem j_lret (O : Ok G own cc nL d X) {v : Int64} (hd : decode cc pc = .ok (.lreturn, 1)) : JW G S ad X pc L [.long v] M (some (v, M)) (fun z : Int64 × Mm => Tg G S ad X (some .long) z.2 (some (.long z.1))) := by
  refine jw_pw fun hT => ?_
  obtain ⟨p, l, e, R, s, m, args, below, meth, c, cells, slots, Q, A⟩ := X
  obtain ⟨hx, hb, hml, hown, hts, hE, hlk, hfr, hlo, hce, hsl, hA⟩ := O
  obtain ⟨hr, hQ⟩ := hT
  intro H locs ls hP hD hS hv
  rw [hQ]
  exact W.lret hx hb hr (fun t ht _ => ⟨rfl, by rw [ht]; exact hP, hS.F ht⟩) hS.2.2 hd hlk
theorem j_zret (O : Ok G own cc nL d X) {v : Int32} {hc : Decidable (v = 0 ∨ v = 1)} (hd : decode cc pc = .ok (.ireturn, 1)) : JW G S ad X pc L [.int v] M (gd (v = 0 ∨ v = 1) hc (some (v, M))) (fun z : Int32 × Mm => Tg G S ad X (some .boolean) z.2 (some (.int z.1))) := by
  refine jw_gd fun h01 => jw_pw fun hT => ?_
  obtain ⟨p, l, e, R, s, m, args, below, meth, c, cells, slots, Q, A⟩ := X
  obtain ⟨hx, hb, hml, hown, hts, hE, hlk, hfr, hlo, hce, hsl, hA⟩ := O
  obtain ⟨hr, hQ⟩ := hT
  intro H locs ls hP hD hS hv
  rw [hQ]
  exact W.zret hx hb hr (by rcases h01 with rfl | rfl <;> rfl) (fun t ht _ => ⟨rfl, by rw [ht]; exact hP, hS.F ht⟩) hS.2.2 hd hlk
theorem j_z0 (O : Ok G own cc nL d X) (hd : decode cc pc = .ok (.ireturn, 1)) : JW G S ad X pc L [.int 0] M (some (0, M)) (fun z : Int32 × Mm => Tg G S ad X (some .boolean) z.2 (some (.int z.1))) := fun z hz hK => j_zret (hc := inferInstance) O hd z (by rw [gd, if_pos (Or.inl rfl)]; exact hz) hK
theorem j_z1 (O : Ok G own cc nL d X) (hd : decode cc pc = .ok (.ireturn, 1)) : JW G S ad X pc L [.int 1] M (some (1, M)) (fun z : Int32 × Mm => Tg G S ad X (some .boolean) z.2 (some (.int z.1))) := fun z hz hK => j_zret (hc := inferInstance) O hd z (by rw [gd, if_pos (Or.inr rfl)]; exact hz) hK
theorem j_vret (O : Ok G own cc nL d X) (hd : decode cc pc = .ok (.return_, 1)) : JW G S ad X pc L [] M (some M) (fun z : Mm => Tg G S ad X none z none) := by
  refine jw_pw fun hT => ?_
  obtain ⟨p, l, e, R, s, m, args, below, meth, c, cells, slots, Q, A⟩ := X
  obtain ⟨hx, hb, hml, hown, hts, hE, hlk, hfr, hlo, hce, hsl, hA⟩ := O
  obtain ⟨hr, hQ⟩ := hT
  intro H locs ls hP hD hS hv
  rw [hQ]
  exact W.vret hx hb hr (fun t ht _ => ⟨rfl, by rw [ht]; exact hP, hS.F ht⟩) hS.2.2 hd hlk
theorem j_sret (O : Ok G own cc nL d X) {i : Nat} (hd : decode cc pc = .ok (.areturn, 1)) : JW G S ad X pc L [.ref (gK G i)] M (some (i, M)) (fun z : Nat × Mm => Tg G S ad X (some (.object "java/lang/String")) z.2 (some (.ref (gK G z.1)))) := by
  refine jw_pw fun hT => ?_
  obtain ⟨p, l, e, R, s, m, args, below, meth, c, cells, slots, Q, A⟩ := X
  obtain ⟨hx, hb, hml, hown, hts, hE, hlk, hfr, hlo, hce, hsl, hA⟩ := O
  obtain ⟨hr, hQ⟩ := hT
  intro H locs ls hP hD hS hv
  rw [hQ]
  exact W.aret hx hb hr (Or.inl ⟨_, rfl⟩) (Or.inr ⟨_, rfl⟩) (fun t ht _ => ⟨rfl, by rw [ht]; exact hP, hS.F ht⟩) hS.2.2 hd hlk
theorem j_ldcs (O : Ok G own cc nL d X) {index : Nat} {tx : String} (i : Nat) (hd : decode cc pc = .ok (.ldc index, 2)) (hq : (own, index, tx, i) ∈ sRef) (kk : JW G S ad X (pc + 2) L (.ref (gK G i) :: st) M t K) : JW G S ad X pc L st M t K := by
  obtain ⟨p, l, e, R, s, m, args, below, meth, c, cells, slots, Q, A⟩ := X
  obtain ⟨hx, hb, hml, hown, hts, hE, hlk, hfr, hlo, hce, hsl, hA⟩ := O
  intro z hz hK H locs ls hP hD hS hv
  exact va_ldcS hx hb hown (hE.2.2.2.1 _ hq) hd (kk z hz hK H locs ls hP hD hS hv)
theorem j_max (O : Ok G own cc nL d X) {index : Nat} {x y : Int32} (hd : decode cc pc = .ok (.invokestatic index, 3)) (hw : Cond.methodLink own index Lib.Math.max.name ∈ gw) (hw2 : Cond.static Lib.Math.max.name ∈ gw) (hw3 : Cond.initialized "java/lang/Math" ∈ gw) (hw4 : Cond.code Lib.Math.max.name Lib.Math.max.code 2 (some .int) ∈ gw) (hd1 : 1 ≤ d) (hc : (st.map fun v => v.category).sum ≤ 8) (kk : JW G S ad X (pc + 3) L (.int (imx x y) :: st) M t K) : JW G S ad X pc L (.int y :: .int x :: st) M t K := by
  obtain ⟨p, l, e, R, s, m, args, below, meth, c, cells, slots, Q, A⟩ := X
  obtain ⟨hx, hb, hml, hown, hts, hE, hlk, hfr, hlo, hce, hsl, hA⟩ := O
  intro z hz hK H locs ls hP hD hS hv
  exact va_mmax hx hb hv.1.symm hown (hts _ hw) (hts _ hw2) (hts _ hw3) (hts _ hw4) (by omega) (by omega) hce hsl hd (kk z hz hK H locs ls hP hD hS hv)
theorem j_min (O : Ok G own cc nL d X) {index : Nat} {x y : Int32} (hd : decode cc pc = .ok (.invokestatic index, 3)) (hw : Cond.methodLink own index Lib.Math.min.name ∈ gw) (hw2 : Cond.static Lib.Math.min.name ∈ gw) (hw3 : Cond.initialized "java/lang/Math" ∈ gw) (hw4 : Cond.code Lib.Math.min.name Lib.Math.min.code 2 (some .int) ∈ gw) (hd1 : 1 ≤ d) (hc : (st.map fun v => v.category).sum ≤ 8) (kk : JW G S ad X (pc + 3) L (.int (imn x y) :: st) M t K) : JW G S ad X pc L (.int y :: .int x :: st) M t K := by
  obtain ⟨p, l, e, R, s, m, args, below, meth, c, cells, slots, Q, A⟩ := X
  obtain ⟨hx, hb, hml, hown, hts, hE, hlk, hfr, hlo, hce, hsl, hA⟩ := O
  intro z hz hK H locs ls hP hD hS hv
  exact va_mmin hx hb hv.1.symm hown (hts _ hw) (hts _ hw2) (hts _ hw3) (hts _ hw4) (by omega) (by omega) hce hsl hd (kk z hz hK H locs ls hP hD hS hv)
theorem j_copy (O : Ok G own cc nL d X) (o o2 : Nat) {index n0 n1 : Nat} {fk fk2 : List Nat} {sp dp n : Int32} {hc : Decidable (¬ sp < 0 ∧ ¬ dp < 0 ∧ ¬ n < 0 ∧ sp.toNatClampNeg + n.toNatClampNeg ≤ n0 ∧ dp.toNatClampNeg + n.toNatClampNeg ≤ n1)} {kf : Mm → Option ρ} (hd : decode cc pc = .ok (.invokestatic index, 3)) (ho : S[o]? = some (0, n0, fk)) (ho2 : S[o2]? = some (0, n1, fk2)) (hw : Cond.methodLink own index arraycopyName ∈ gw) (hw2 : Cond.native arraycopyName ∈ gw) (hw3 : Cond.static arraycopyName ∈ gw) (hw4 : Cond.initialized "java/lang/System" ∈ gw) (hd1 : 1 ≤ d) (hcat : (st.map fun v => v.category).sum ≤ 8) (kk : ∀ M1 : Mm, JW G S ad X (pc + 3) L st M1 (kf M1) K) :
    JW G S ad X pc L (.int n :: .int dp :: .ref (ad o2) :: .int sp :: .ref (ad o) :: st) M (gd (¬ sp < 0 ∧ ¬ dp < 0 ∧ ¬ n < 0 ∧ sp.toNatClampNeg + n.toNatClampNeg ≤ n0 ∧ dp.toNatClampNeg + n.toNatClampNeg ≤ n1) hc (bm (mc M o sp.toNatClampNeg o2 dp.toNatClampNeg n.toNatClampNeg) kf)) K := by
  refine jw_gd fun hi => ?_
  have kk := kk (mc M o sp.toNatClampNeg o2 dp.toNatClampNeg n.toNatClampNeg)
  obtain ⟨g1, g2, g3, g4, g5⟩ := hi
  obtain ⟨p, l, e, R, s, m, args, below, meth, c, cells, slots, Q, A⟩ := X
  obtain ⟨hx, hb, hml, hown, hts, hE, hlk, hfr, hlo, hce, hsl, hA⟩ := O
  intro z hz hK H locs ls hP hD hS hv
  have e : (wo G S ad M).set o2 (ad o2, .inl (gI G, n1, .inl (va_cpy (M.1 o) (M.1 o2) sp.toNatClampNeg dp.toNatClampNeg n.toNatClampNeg))) = wo G S ad (mc M o sp.toNatClampNeg o2 dp.toNatClampNeg n.toNatClampNeg) := wo_set ho2 (by rw [← mc_cpy]; rfl) (fun _ h => mc_ne h) (fun _ _ => rfl)
  have hnf : nativeFrameWords "java/lang/System" "arraycopy" 5 ≤ 40 := by decide +kernel
  exact va_copyi (f := M.1 o) (g := M.1 o2) hx hb hv.1.symm hown (hts _ hw) (hts _ hw2) (hts _ hw3) (hts _ hw4) hE.1 hP hD hS o o2 0 0 (wo_at (G := G) (ad := ad) (M := M) ho) (wo_at (G := G) (ad := ad) (M := M) ho2) (ty := .int) rfl rfl rfl g1 g2 g3 g4 g5 (fun _ _ => rfl) (by omega) (by omega) hd (fun H locs hP hD hS => kk z hz hK H locs ls (by rw [← e]; exact hP) (by rw [← e]; exact hD) hS hv)
end JROWS
