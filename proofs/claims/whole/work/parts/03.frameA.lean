/-! ===== printed by gen: nest words, String constants ===== -/
def nwF : List (String × Nat × String × String × String × String) := [(RX2, 101, RX3, "batter", "I", RX5), (RX5, 108, RX3, "batter", "I", RX5), (RX5, 97, RX3, "pans", "I", RX5), (RX2, 50, RX3, "rule", "I", RX5), (RX5, 129, RX3, "rule", "I", RX5), (RX2, 104, RX3, "seated", "I", RX5), (RX5, 158, RX3, "seated", "I", RX5), (RX2, 74, RX3, "kind", "[I", RX5), (RX5, 81, RX3, "kind", "[I", RX5), (RX5, 91, RX3, "number", "[I", RX5), (RX2, 158, RX3, "number", "[I", RX5), (RX5, 94, RX3, "want", "[I", RX5), (RX2, 149, RX3, "want", "[I", RX5), (RX2, 77, RX3, "pace", "[I", RX5), (RX5, 84, RX3, "pace", "[I", RX5), (RX5, 120, RX0, "size", "I", RX5), (RX5, 126, RX0, "fault", "I", RX5), (RX4, 28, RX0, "code", "[I", RX5), (RX4, 33, RX0, "ends", "[I", RX5), (RX5, 123, RX4, "known", "I", RX5), (RX5, 114, RX2, "readyAt", "[I", RX5), (RX5, 139, RX2, "plan", "[I", RX5), (RX5, 253, RX2, "eats", "[I", RX5), (RX5, 171, RX2, "absent", "I", RX5), (RX5, 193, RX2, "had", "[I", RX5), (RX5, 168, RX2, "cost", "I", RX5)]
def nwM : List (String × Nat × MethodName × String) := [(RX5, 9, yX3_init, RX5), (RX5, 21, yX0_init, RX5), (RX5, 28, yX4_init, RX5), (RX5, 35, yX1_init, RX5), (RX5, 42, yX2_init, RX5), (RX5, 51, yX0_write, RX5), (RX5, 55, yX0_reads, RX5), (RX5, 59, yX4_add, RX5), (RX5, 70, yX3_change, RX5), (RX5, 74, yX3_seat, RX5), (RX5, 77, yX3_has, RX5), (RX5, 101, yX2_lay, RX5), (RX2, 44, yX4_name, RX5), (RX2, 56, yX4_valueOf, RX5), (RX2, 80, yX5_eatsOf, RX5), (RX5, 105, yX2_hungers, RX5), (RX2, 161, yX5_hungersOf, RX5), (RX5, 111, yX2_bake, RX5), (RX5, 117, yX0_append, RX5), (RX5, 132, yX2_isAnswer, RX5), (RX2, 155, yX3_has, RX5), (RX5, 136, yX1_isMissing, RX5), (RX5, 142, yX1_sizeOf, RX5), (RX5, 146, yX1_item, RX5), (RX5, 149, yX2_run, RX5), (RX5, 152, yX2_answer, RX5), (RX5, 155, yX2_heapUp, RX5), (RX5, 161, yX2_planTurns, RX5), (RX5, 164, yX2_planFirst, RX5), (RX5, 218, yX2_servedCakes, RX5), (RX5, 183, yX1_has, RX5), (RX5, 250, yX2_lastTold, RX5), (RX5, 190, yX1_lay, RX5), (RX5, 196, yX1_put, RX5), (RX5, 199, yX2_planDrawn, RX5), (RX5, 210, yX3_become, RX5), (RX5, 222, yX3_wantOfAll, RX5), (RX5, 225, yX1_sortOf, RX5), (RX5, 228, yX1_spans, RX5), (RX5, 232, yX1_move, RX5)]
def sLen : List Nat := [38, 4, 6, 3, 4, 5, 4, 5, 6, 5, 2, 3, 3]
def sByt : List (List Int32) := [[116, 97, 107, 101, 115, 32, 52, 32, 59, 32, 104, 117, 110, 103, 101, 114, 32, 49, 32, 59, 32, 119, 111, 114, 116, 104, 32, 49, 48, 32, 45, 32, 108, 97, 116, 101, 32, 59], [99, 97, 107, 101], [109, 105, 110, 117, 116, 101], [104, 97, 100], [119, 97, 110, 116], [101, 97, 116, 101, 114], [108, 97, 116, 101], [116, 97, 107, 101, 115], [104, 117, 110, 103, 101, 114], [119, 111, 114, 116, 104], [111, 114], [97, 110, 100], [110, 111, 116]]
def sRef : List (String × Nat × String × Nat) := [(RX5, 49, "takes 4 ; hunger 1 ; worth 10 - late ;", 0), (RX0, 106, "cake", 1), (RX0, 108, "minute", 2), (RX0, 110, "had", 3), (RX0, 112, "want", 4), (RX0, 114, "eater", 5), (RX0, 116, "late", 6), (RX0, 118, "takes", 7), (RX0, 120, "hunger", 8), (RX0, 122, "worth", 9), (RX0, 124, "or", 10), (RX0, 126, "and", 11), (RX0, 128, "not", 12)]
/-! ===== words: the good words of the tables, and the nest mates' ===== -/
def gw : List Cond := lw_tbl.filter goodWord
theorem gw_in {w : Cond} (h : w ∈ lw_tbl) (hg : goodWord w = true) : w ∈ gw := List.mem_filter.mpr ⟨h, hg⟩
theorem gw_good (w : Cond) (h : w ∈ gw) : (w.onTables && w.keeps) = true ∨ ∃ ty, w = .arrayClass ty := good_of_word (List.mem_filter.mp h).2
abbrev wn_M : Type := MethodName × ByteArray × Nat × Option FieldType
def wy (mt : wn_M) : List Cond := .code mt.1 mt.2.1 mt.2.2.1 mt.2.2.2 :: gw
def nws : List Cond := nwF.map (fun q => Cond.fieldLinkNest q.1 q.2.1 q.2.2.1 q.2.2.2.1 q.2.2.2.2.1 q.2.2.2.2.2) ++ nwM.map (fun q => Cond.methodLinkNest q.1 q.2.1 q.2.2.1 q.2.2.2)
def Nws (U : State) : Prop := ∀ w ∈ nws, va_Nw w U
theorem Nws.warm {s U : State} (hW : s.WarmedH U.vm) (h : Nws s) : Nws U := by
  intro w hw
  have h1 := h w hw
  rcases List.mem_append.mp hw with h2 | h2
  · obtain ⟨q, -, rfl⟩ := List.mem_map.mp h2
    exact va_Nw.warmF hW h1
  · obtain ⟨q, -, rfl⟩ := List.mem_map.mp h2
    exact va_Nw.warmM hW h1
theorem Nws.same {u U : State} (hv : u.vm = U.vm) (h : Nws u) : Nws U := by
  intro w hw
  have h1 := h w hw
  rcases List.mem_append.mp hw with h2 | h2
  · obtain ⟨q, -, rfl⟩ := List.mem_map.mp h2
    exact va_Nw.same rfl hv h1
  · obtain ⟨q, -, rfl⟩ := List.mem_map.mp h2
    exact va_Nw.same rfl hv h1
/-! ===== what stays: classes, constants, statics ===== -/
abbrev wn_G : Type := va_G × ClassId × ClassId × (Nat → Nat) × (Nat → Nat) × Nat × Nat
def gD (G : wn_G) : va_G := G.1
def gI (G : wn_G) : ClassId := G.2.1
def gZ (G : wn_G) : ClassId := G.2.2.1
def gK (G : wn_G) : Nat → Nat := G.2.2.2.1
def gV (G : wn_G) : Nat → Nat := G.2.2.2.2.1
def gL (G : wn_G) : Nat := G.2.2.2.2.2.1
def gH (G : wn_G) : Nat := G.2.2.2.2.2.2
def tys (G : wn_G) : List (ClassId × FieldType) := [(gI G, .int), (gZ G, .boolean)]
def lowV : Nat → Int32 := fun j => [0, 1, 0, 0, 1].getD j 0
def highV : Nat → Int32 := fun j => [12, 2, 9, 12, 20].getD j 0
def Ev (G : wn_G) (A : Nat → Prop) (U : State) : Prop :=
  va_K (gD G) vwCl (tys G) U ∧ Nws U ∧ vk_S 13 sLen sByt (gK G) (gV G) A U U.heap ∧ (∀ q ∈ sRef, vk_R q.1 q.2.1 q.2.2.1 (gK G q.2.2.2) U) ∧
  (va_Z RX5 "LOWEST" "[I" (.ref (gL G)) A U U.heap ∧ va_T .int (gL G) 5 (fun j => .int (lowV j)) A U U.heap) ∧
  (va_Z RX5 "HIGHEST" "[I" (.ref (gH G)) A U U.heap ∧ va_T .int (gH G) 5 (fun j => .int (highV j)) A U U.heap) ∧
  va_Z RJ0 "COMPACT_STRINGS" "Z" (.int 1) A U U.heap ∧ va_Zq RJ3 "SIOOBE_FORMATTER" "Ljava/util/function/BiFunction;" A U U.heap
theorem Ev.same {G : wn_G} {A : Nat → Prop} {u U : State} (hv : U.vm = u.vm) (hh : U.heap = u.heap) (h : Ev G A u) : Ev G A U := by
  obtain ⟨h1, h2, h3, h4, ⟨h5, h6⟩, ⟨h7, h8⟩, h9, h10⟩ := h
  have hA : u.vm.Alike U.vm := by rw [hv]; exact Vm.Alike.refl _
  refine ⟨va_K.moved hA h1, h2.same hv.symm, ?_, fun q hq => vk_R.same hv (h4 q hq), ⟨?_, ?_⟩, ⟨?_, ?_⟩, ?_, ?_⟩
  · rw [hh]; exact vk_S.moved hA h3
  · rw [hh]; exact va_Z.moved hA h5
  · rw [hh]; exact va_T.moved hA h6
  · rw [hh]; exact va_Z.moved hA h7
  · rw [hh]; exact va_T.moved hA h8
  · rw [hh]; exact va_Z.moved hA h9
  · rw [hh]; exact va_Zq.moved hA h10
theorem Ev.call {G : wn_G} {A B : Nat → Prop} {s U : State} (hW : s.WarmedH U.vm) (hq : ∀ a : Nat, a < s.heap.size → ¬ A a → U.heap[a]? = s.heap[a]?) (hAB : ∀ q, B q → A q) (h : Ev G A s) : Ev G B U := by
  obtain ⟨h1, h2, h3, h4, ⟨h5, h6⟩, ⟨h7, h8⟩, h9, h10⟩ := h
  have hA : s.vm.Alike U.vm := hW.alike
  refine ⟨va_K.moved hA h1, h2.warm hW, ?_, fun q hq => vk_R.warm hW (h4 q hq), ⟨?_, ?_⟩, ⟨?_, ?_⟩, ?_, ?_⟩
  · exact (vk_S.moved hA (h3.kept hq)).narrow hAB
  · exact (va_Z.moved hA (h5.kept hq)).narrow hAB
  · exact (va_T.moved hA (h6.kept hq)).narrow hAB
  · exact (va_Z.moved hA (h7.kept hq)).narrow hAB
  · exact (va_T.moved hA (h8.kept hq)).narrow hAB
  · exact (va_Z.moved hA (h9.kept hq)).narrow hAB
  · exact (va_Zq.moved hA (h10.kept hq)).narrow hAB
/-! ===== a system of objects by number, and its memory ===== -/
/-- for each object: 0 a row of ints, 1 a row of booleans, c + 2 an object of class c; a row's length; an object's fields: 0 an int, 1 a long, o + 2 object o -/
abbrev wn_S : Type := List (Nat × Nat × List Nat)
abbrev Mm : Type := (Nat → Nat → Int32) × (Nat → Int64)
def ms (M : Mm) (o k : Nat) (v : Int32) : Mm := (fun o' k' => if o' = o ∧ k' = k then v else M.1 o' k', M.2)
def ml (M : Mm) (o : Nat) (v : Int64) : Mm := (M.1, fun o' => if o' = o then v else M.2 o')
/-- n places of row o from sp on go to row o2 from dp on -/
def mc (M : Mm) (o sp o2 dp n : Nat) : Mm := (fun o' k' => if o' = o2 ∧ dp ≤ k' ∧ k' < dp + n then M.1 o (sp + (k' - dp)) else M.1 o' k', M.2)
def mapiG {α β : Type} (f : Nat → α → β) : Nat → List α → List β
  | _, [] => []
  | i, a :: l => f i a :: mapiG f (i + 1) l
def mapi {α β : Type} (f : Nat → α → β) (l : List α) : List β := mapiG f 0 l
theorem mapiG_get {α β : Type} (f : Nat → α → β) : ∀ (l : List α) (b i : Nat), (mapiG f b l)[i]? = l[i]?.map (f (b + i))
  | [], b, i => by simp [mapiG]
  | a :: l, b, 0 => by simp [mapiG]
  | a :: l, b, i + 1 => by
    rw [mapiG, List.getElem?_cons_succ, List.getElem?_cons_succ, mapiG_get f l (b + 1) i, show b + 1 + i = b + (i + 1) by omega]
theorem mapi_get {α β : Type} (f : Nat → α → β) (l : List α) (i : Nat) : (mapi f l)[i]? = l[i]?.map (f i) := by
  rw [mapi, mapiG_get, Nat.zero_add]
theorem mapi_len {α β : Type} (f : Nat → α → β) (l : List α) : (mapi f l).length = l.length := by
  have key : ∀ (l : List α) (b : Nat), (mapiG f b l).length = l.length := by
    intro l
    induction l with
    | nil => intro b; rfl
    | cons a l ih => intro b; rw [mapiG, List.length_cons, List.length_cons, ih]
  exact key l 0
def fv (ad : Nat → Nat) (M : Mm) (o j : Nat) : Nat → Value
  | 0 => .int (M.1 o j)
  | 1 => .long (M.2 o)
  | t + 2 => .ref (ad t)
def en (G : wn_G) (ad : Nat → Nat) (M : Mm) (o : Nat) (q : Nat × Nat × List Nat) : va_E := match q.1 with
  | 0 => .inl (gI G, (q.2.1, .inl (M.1 o)))
  | 1 => .inl (gZ G, (q.2.1, .inl (M.1 o)))
  | c + 2 => .inr (c, mapi (fv ad M o) q.2.2)
def wo (G : wn_G) (S : wn_S) (ad : Nat → Nat) (M : Mm) : va_W := mapi (fun o q => (ad o, en G ad M o q)) S
section WO
variable {G : wn_G} {S : wn_S} {ad : Nat → Nat} {M M' : Mm} {A : Nat → Prop}
theorem wo_get (i : Nat) : (wo G S ad M)[i]? = S[i]?.map (fun q => (ad i, en G ad M i q)) := by
  unfold wo
  rw [mapi_get]
theorem wo_at {o : Nat} {q : Nat × Nat × List Nat} (h : S[o]? = some q) : (wo G S ad M)[o]? = some (ad o, en G ad M o q) := by
  rw [wo_get, h]; rfl
theorem wo_ex {i : Nat} {p : Nat × va_E} (h : (wo G S ad M)[i]? = some p) : ∃ p', (wo G S ad M')[i]? = some p' ∧ p'.1 = p.1 := by
  rw [wo_get] at h ⊢
  cases hs : S[i]? with
  | none => rw [hs] at h; cases h
  | some q => rw [hs] at h; cases h; exact ⟨_, rfl, rfl⟩
theorem wo_D (h : va_D A (wo G S ad M)) : va_D A (wo G S ad M') := by
  refine ⟨fun i j p q hi hj e => ?_, fun k q hk => ?_⟩
  · obtain ⟨p', h1, h2⟩ := wo_ex (M' := M) hi
    obtain ⟨q', h3, h4⟩ := wo_ex (M' := M) hj
    exact h.1 i j p' q' h1 h3 (by rw [h2, h4]; exact e)
  · obtain ⟨q', h1, h2⟩ := wo_ex (M' := M) hk
    rw [← h2]
    exact h.2 k q' h1
theorem wo_A {sz q : Nat} (h : va_A (wo G S ad M) sz q) : va_A (wo G S ad M') sz q := by
  rcases h with ⟨k, e, h⟩ | h
  · obtain ⟨p', h1, h2⟩ := wo_ex (M' := M') h
    refine Or.inl ⟨k, p'.2, ?_⟩
    rw [h1, show q = p'.1 from h2.symm]
  · exact Or.inr h
theorem wo_set {o : Nat} {q : Nat × Nat × List Nat} {e : va_E} (h : S[o]? = some q) (he : e = en G ad M' o q) (h1 : ∀ i, i ≠ o → M'.1 i = M.1 i) (h2 : ∀ i, i ≠ o → M'.2 i = M.2 i) : (wo G S ad M).set o (ad o, e) = wo G S ad M' := by
  subst he
  refine List.ext_getElem? fun i => ?_
  have hl := (List.getElem?_eq_some_iff.mp (wo_at (G := G) (ad := ad) (M := M) h)).1
  by_cases hi : i = o
  · subst hi
    rw [List.getElem?_set_self hl, wo_at h]
  · rw [List.getElem?_set_ne (Ne.symm hi), wo_get, wo_get]
    have e : (fun q => (ad i, en G ad M i q)) = (fun q => (ad i, en G ad M' i q)) := by
      funext q
      have e1 : fv ad M i = fv ad M' i := by
        funext j t
        match t with
        | 0 => show Value.int _ = Value.int _; rw [h1 i hi]
        | 1 => show Value.long _ = Value.long _; rw [h2 i hi]
        | t + 2 => rfl
      obtain ⟨a, n, fk⟩ := q
      match a with
      | 0 => show (_, _) = (_, _); simp only [en]; rw [h1 i hi]
      | 1 => show (_, _) = (_, _); simp only [en]; rw [h1 i hi]
      | a + 2 => show (_, _) = (_, _); simp only [en]; rw [e1]
    rw [e]
theorem fs_int {o j : Nat} {fk : List Nat} {v : Int32} (h : fk[j]? = some 0) : (mapi (fv ad M o) fk).set j (.int v) = mapi (fv ad (ms M o j v) o) fk := by
  have hj := (List.getElem?_eq_some_iff.mp h).1
  refine List.ext_getElem? fun i => ?_
  by_cases hi : i = j
  · subst hi
    rw [List.getElem?_set_self (by rw [mapi_len]; exact hj), mapi_get, h]
    simp [fv, ms]
  · rw [List.getElem?_set_ne (Ne.symm hi), mapi_get, mapi_get]
    congr 1
    funext t
    match t with
    | 0 => simp [fv, ms, hi]
    | 1 => rfl
    | t + 2 => rfl
theorem fs_long {o j : Nat} {fk : List Nat} {v : Int64} (h : fk[j]? = some 1) (hu : ∀ i, i < fk.length → fk[i]? = some 1 → i = j) : (mapi (fv ad M o) fk).set j (.long v) = mapi (fv ad (ml M o v) o) fk := by
  have hj := (List.getElem?_eq_some_iff.mp h).1
  refine List.ext_getElem? fun i => ?_
  by_cases hi : i = j
  · subst hi
    rw [List.getElem?_set_self (by rw [mapi_len]; exact hj), mapi_get, h]
    simp [fv, ml]
  · rw [List.getElem?_set_ne (Ne.symm hi), mapi_get, mapi_get]
    cases ht : fk[i]? with
    | none => rfl
    | some t =>
      match t, ht with
      | 0, _ => rfl
      | 1, ht => exact absurd (hu i (List.getElem?_eq_some_iff.mp ht).1 ht) hi
      | t + 2, _ => rfl
theorem fv_get {o j t : Nat} {fk : List Nat} (h : fk[j]? = some t) : (mapi (fv ad M o) fk)[j]? = some (fv ad M o j t) := by
  rw [mapi_get, h]; rfl
theorem ms_upd {o i : Nat} {v : Int32} : (ms M o i v).1 o = upd (M.1 o) i v := by
  funext k
  simp [ms, upd]
theorem ms_ne {o i k : Nat} {v : Int32} (h : k ≠ o) : (ms M o i v).1 k = M.1 k := by
  funext j
  simp [ms, h]
theorem mc_cpy {o sp o2 dp n : Nat} : (mc M o sp o2 dp n).1 o2 = va_cpy (M.1 o) (M.1 o2) sp dp n := by
  funext k
  simp [mc, va_cpy]
theorem mc_ne {o sp o2 dp n k : Nat} (h : k ≠ o2) : (mc M o sp o2 dp n).1 k = M.1 k := by
  funext j
  simp [mc, h]
end WO
