/-! ===== constructors: a world that grows, written out cell by cell ===== -/
def rmc (d mc ms : Nat) : Room := { frames := d, cells := mc, slots := ms, locals := 64 * d }
def Cp (G : wn_G) (ws : va_W) (sz : Nat) (av : List Value) : Array Value → State → Prop := va_Pc av (fun U => U.heap.size = sz ∧ va_P (gD G) vwCl ws U.heap ∧ va_D (fun _ => True) ws ∧ Ev G (va_A ws sz) U)
def Cq (G : wn_G) (post : va_W → Prop) (A : Nat → Prop) : Array Value → State → Outcome → State → Prop := fun _ st oc t => oc = .returned none ∧ (∃ w1, post w1 ∧ va_P (gD G) vwCl w1 t.heap ∧ va_D A w1) ∧ va_F A st t
/-- a constructor, called on these cells: they become cells of which post holds; mc cells of ms slots are made -/
def Sc (G : wn_G) (mt : wn_M) (d mc ms : Nat) (av : List Value) (ws : va_W) (post : va_W → Prop) : Prop :=
  ∀ (l : Launch) (sz : Nat), Met l mt.1 (wy mt) (rmc d mc ms) (Cp G ws sz av) (Cq G post (va_A ws sz)) mc ms (va_A ws sz)
def CW (G : wn_G) (X : wn_X) (pc : Nat) (L : List (Nat × Value)) (st : List Value) (ws : va_W) (cells slots : Nat) : Prop := match X with
  | (p, l, e, R, s, m, args, below, meth, c, _, _, Q, A) => ∀ (H : Heap) (locs : List Loc) (ls : Array Slot), va_P (gD G) vwCl ws H → va_D A ws → va_S A s.heap H locs → lv_has ls c.maxLocals L → W p l e R s m args below meth c H locs cells slots Q (F0 m pc ls st)
def xset (X : wn_X) (cells slots : Nat) : wn_X := match X with
  | (p, l, e, R, s, m, args, below, meth, c, _, _, Q, A) => (p, l, e, R, s, m, args, below, meth, c, cells, slots, Q, A)
def Oc (G : wn_G) (own : String) (cc : ByteArray) (nL d mc ms : Nat) (X : wn_X) : Prop := match X with
  | (p, _, _, R, s, m, args, _, meth, c, _, _, _, A) => p.tables.exec = Jvm.exec ∧ c.code = cc ∧ c.maxLocals = nL ∧ s.vm.findClass own = some m.cls ∧ (∀ w ∈ gw, w.before args s = true) ∧ Ev G A s ∧ meth.locks = false ∧ (own ≠ RL → meth.name = "<init>") ∧ d ≤ R.frames ∧ 64 * d ≤ R.locals ∧ mc ≤ R.cells ∧ ms ≤ R.slots ∧ (∀ q, s.heap.size ≤ q → A q) ∧ (own ≠ RL → meth.sig.returnType = none)
def Tc (G : wn_G) (X : wn_X) (post : va_W → Prop) (mc ms : Nat) : Prop := match X with
  | (_, _, _, _, s, _, args, below, _, _, _, _, Q, A) => Q = MQ below (Cq G post A) args s mc ms A
theorem sc_intro {G : wn_G} {mt : wn_M} {own : String} {d mc ms : Nat} {av : List Value} {ws : va_W} {post : va_W → Prop} (hy : plainName mt.1.cls = true) (ho : mt.1.cls = own) (hi : mt.1.name = "<init>") (hr : mt.2.2.2 = none) (hn : (lg_sl av).length ≤ mt.2.2.1)
    (body : ∀ X : wn_X, Oc G own mt.2.1 mt.2.2.1 d mc ms X → Tc G X post mc ms → CW G X 0 (lv_args 0 av) [] ws 0 0) : Sc G mt d mc ms av ws post := by
  intro l sz
  obtain ⟨y, cc, nL, ret⟩ := mt
  refine Met.ofW (cc := cc) (maxL := nL) (ret := ret) hy rfl ?_
  intro p e s m args below meth c s₁ B hml hv
  obtain ⟨rfl, hsz, hP, hD0, hE⟩ := hv
  have hts := atoms_spec (ws := wy (y, cc, nL, ret)) B.pre
  have hown : s.vm.findClass own = some m.cls := ho ▸ findClass_of_methodNamed B.named
  have hnm : meth.name = "<init>" := (name_of_methodNamed B.named B.method).1.trans hi
  subst hsz
  have hl := lv_entry av (n := nL) hn
  rw [lg_entry_eq]
  refine body (p, l, e, rmc d mc ms, s, m, av.toArray, below, meth, c, 0, 0, MQ below (Cq G post (va_A ws s.heap.size)) av.toArray s mc ms (va_A ws s.heap.size), va_A ws s.heap.size) ⟨B.exec, B.bytes, hml, hown, fun w hw => hts w (List.mem_cons_of_mem _ hw), hE, B.notSynchronized, fun _ => hnm, Nat.le_refl _, Nat.le_refl _, Nat.le_refl _, Nat.le_refl _, fun q h => Or.inr h, fun _ => B.returns.trans hr⟩ rfl s.heap [] _ hP hD0.self va_S.rf ?_
  rw [hml]
  exact hl
def FTr (ci k : Nat) (ty : FieldType) : Prop := ∀ (C : String) (T : u_T) (N : Nat), vwCl[ci]? = some (C, T, N) → parseFieldDescriptor (T k).2.2.1 = some ty
section CROWS
variable {G : wn_G} {X : wn_X} {own : String} {cc : ByteArray} {nL d mc ms pc cells slots : Nat} {L : List (Nat × Value)} {st rest : List Value} {ws ws' : va_W}
theorem c_aload_n {k : Fin 4} {x : Nat} (O : Oc G own cc nL d mc ms X) (q : Nat) (hd : decode cc pc = .ok (.aload_n k, 1)) (hl : L[q]? = some (k.val, .ref x)) (kk : CW G X (pc + 1) L (.ref x :: st) ws cells slots) : CW G X pc L st ws cells slots := by
  obtain ⟨p, l, e, R, s, m, args, below, meth, c, c0, s0, Q, A⟩ := X
  obtain ⟨hx, hb, -⟩ := O
  exact fun H locs ls hP hD hS hv => lv_aload_n hx hb hd rfl (lv_at hv q hl) (kk H locs ls hP hD hS hv)
theorem c_iconst {n : Int} {v : Int32} (O : Oc G own cc nL d mc ms X) (hd : decode cc pc = .ok (.iconst n, 1)) (hn : Int32.ofInt n = v) (kk : CW G X (pc + 1) L (.int v :: st) ws cells slots) : CW G X pc L st ws cells slots := by
  obtain ⟨p, l, e, R, s, m, args, below, meth, c, c0, s0, Q, A⟩ := X
  obtain ⟨hx, hb, -⟩ := O
  exact fun H locs ls hP hD hS hv => lv_iconst hx hb hd hn (kk H locs ls hP hD hS hv)
theorem c_bipush {n : Int} {v : Int32} (O : Oc G own cc nL d mc ms X) (hd : decode cc pc = .ok (.bipush n, 2)) (hn : (Int8.ofInt n).toInt32 = v) (kk : CW G X (pc + 2) L (.int v :: st) ws cells slots) : CW G X pc L st ws cells slots := by
  obtain ⟨p, l, e, R, s, m, args, below, meth, c, c0, s0, Q, A⟩ := X
  obtain ⟨hx, hb, -⟩ := O
  exact fun H locs ls hP hD hS hv => lv_bipush hx hb hd hn (kk H locs ls hP hD hS hv)
theorem c_sipush {n : Int} {v : Int32} (O : Oc G own cc nL d mc ms X) (hd : decode cc pc = .ok (.sipush n, 3)) (hn : (Int16.ofInt n).toInt32 = v) (kk : CW G X (pc + 3) L (.int v :: st) ws cells slots) : CW G X pc L st ws cells slots := by
  obtain ⟨p, l, e, R, s, m, args, below, meth, c, c0, s0, Q, A⟩ := X
  obtain ⟨hx, hb, -⟩ := O
  exact fun H locs ls hP hD hS hv => lv_sipush hx hb hd hn (kk H locs ls hP hD hS hv)
theorem c_dup {va : Value} (O : Oc G own cc nL d mc ms X) (hd : decode cc pc = .ok (.dup, 1)) (hc : va.category = 1) (kk : CW G X (pc + 1) L (va :: va :: st) ws cells slots) : CW G X pc L (va :: st) ws cells slots := by
  obtain ⟨p, l, e, R, s, m, args, below, meth, c, c0, s0, Q, A⟩ := X
  obtain ⟨hx, hb, -⟩ := O
  exact fun H locs ls hP hD hS hv => lv_dup hx hb hd hc (kk H locs ls hP hD hS hv)
theorem c_obj {index x : Nat} (O : Oc G own cc nL d mc ms X) (hd : decode cc pc = .ok (.invokespecial index, 3)) (hw : Cond.methodLink own index objectInit ∈ gw) (hw2 : Cond.instanceMethod objectInit ∈ gw) (hw3 : Cond.code objectInit ⟨#[0xb1]⟩ 1 none ∈ gw) (hd1 : 1 ≤ d) (kk : CW G X (pc + 3) L [] ws cells slots) : CW G X pc L [.ref x] ws cells slots := by
  obtain ⟨p, l, e, R, s, m, args, below, meth, c, c0, s0, Q, A⟩ := X
  obtain ⟨hx, hb, hml, hown, hts, hE, hlk, hnm, hfr, hlo, hmc, hms, hA, hr⟩ := O
  exact fun H locs ls hP hD hS hv => W.objInit hx hb hown (hts _ hw) (hts _ hw2) (hts _ hw3) rfl hv.1 rfl hd (by omega) (by show 2 * 0 + 0 + 12 ≤ _; omega) (kk H locs ls hP hD hS hv)
theorem tys_one {s : State} {cA : ClassId} {ty : FieldType} {cB : ClassId} (h1 : va_RA s cA ty) (h2 : va_RA s cB ty) : cA = cB := by
  cases ty with
  | object C =>
    obtain ⟨_, _, _, _, _, h1⟩ := h1
    obtain ⟨_, _, _, _, _, h2⟩ := h2
    exact Option.some.inj (h1.symm.trans h2)
  | _ => exact Option.some.inj (Eq.trans (Eq.symm h1) h2)
theorem c_newi {n : Nat} {x : Int32} (O : Oc G own cc nL d mc ms X) (hd : decode cc pc = .ok (.newarray .int, 2)) (hw : Cond.arrayClass .int ∈ gw) (hn : ¬ x < 0 ∧ x.toNatClampNeg = n) (hb4 : n * 4 ≤ 536870912) (hc : cells + 1 ≤ mc) (hs : slots + n ≤ ms) (kk : ∀ q : Nat, CW G X (pc + 2) L (.ref q :: st) (ws ++ [(q, .inl (gI G, (n, .inl (fun _ => 0))))]) (cells + 1) (slots + n)) : CW G X pc L (.int x :: st) ws cells slots := by
  obtain ⟨p, l, e, R, s, m, args, below, meth, c, c0, s0, Q, A⟩ := X
  obtain ⟨hx, hb, hml, hown, hts, hE, hlk, hnm, hfr, hlo, hmc, hms, hA, hr⟩ := O
  intro H locs ls hP hD hS hv
  refine va_newa (atype := .int) (ty := .int) hx hb (hts _ hw) rfl hE.1 hP hD hS hA (a0 := (n, .inl (fun _ => 0))) (fun cA => by rw [vp_cell_i]; rfl) hn.1 hn.2 hb4 (by omega) (by omega) hd (fun q cA H1 hK hP hD hS => ?_)
  have e1 : cA = gI G := tys_one (ty := .int) (hK.2 2 (cA, .int) rfl).2 (hK.2 0 (gI G, .int) rfl).2
  subst e1
  exact kk q H1 locs ls hP hD hS hv
theorem c_newz {n : Nat} {x : Int32} (O : Oc G own cc nL d mc ms X) (hd : decode cc pc = .ok (.newarray .boolean, 2)) (hw : Cond.arrayClass .boolean ∈ gw) (hn : ¬ x < 0 ∧ x.toNatClampNeg = n) (hb4 : n * 1 ≤ 536870912) (hc : cells + 1 ≤ mc) (hs : slots + n ≤ ms) (kk : ∀ q : Nat, CW G X (pc + 2) L (.ref q :: st) (ws ++ [(q, .inl (gZ G, (n, .inl (fun _ => 0))))]) (cells + 1) (slots + n)) : CW G X pc L (.int x :: st) ws cells slots := by
  obtain ⟨p, l, e, R, s, m, args, below, meth, c, c0, s0, Q, A⟩ := X
  obtain ⟨hx, hb, hml, hown, hts, hE, hlk, hnm, hfr, hlo, hmc, hms, hA, hr⟩ := O
  intro H locs ls hP hD hS hv
  refine va_newa (atype := .boolean) (ty := .boolean) hx hb (hts _ hw) rfl hE.1 hP hD hS hA (a0 := (n, .inl (fun _ => 0))) (fun cA => by rw [vp_cell_i]; rfl) hn.1 hn.2 hb4 (by omega) (by omega) hd (fun q cA H1 hK hP hD hS => ?_)
  have e1 : cA = gZ G := tys_one (ty := .boolean) (hK.2 2 (cA, .boolean) rfl).2 (hK.2 1 (gZ G, .boolean) rfl).2
  subst e1
  exact kk q H1 locs ls hP hD hS hv
theorem c_iast {a n : Nat} {f : Nat → Int32} {i v : Int32} (O : Oc G own cc nL d mc ms X) (q0 : Nat) (hd : decode cc pc = .ok (.iastore, 1)) (he : ws[q0]? = some (a, .inl (gI G, (n, .inl f)))) (hi : bin i n = true) (hw : ws.set q0 (a, .inl (gI G, n, .inl (upd f i.toNatClampNeg v))) = ws') (kk : CW G X (pc + 1) L st ws' cells slots) : CW G X pc L (.int v :: .int i :: .ref a :: st) ws cells slots := by
  subst hw
  obtain ⟨p, l, e, R, s, m, args, below, meth, c, c0, s0, Q, A⟩ := X
  obtain ⟨hx, hb, hml, hown, hts, hE, hlk, hnm, hfr, hlo, hmc, hms, hA, hr⟩ := O
  intro H locs ls hP hD hS hv
  exact va_iast hx hb hE.1 hP hD hS q0 0 he rfl (bin_in hi) hd (fun H locs hP hD hS => kk H locs ls hP hD hS hv)
theorem c_put {a ci index : Nat} {fs : List Value} {v : Value} {ty : FieldType} (O : Oc G own cc nL d mc ms X) (hol : own ≠ RL) (q0 k : Nat) (hd : decode cc pc = .ok (.putfield index, 3)) {fin : Bool} (hl : FL own index ci k fin) (hC : ∀ (C : String) (T : u_T) (N : Nat), vwCl[ci]? = some (C, T, N) → C = own) (hty : FTr ci k ty) (he : ws[q0]? = some (a, .inr (ci, fs))) (hn : narrow ty v = v) (hfit : fits ty v = true) (hk : k < fs.length) (hw : ws.set q0 (a, .inr (ci, fs.set k v)) = ws') (kk : CW G X (pc + 3) L st ws' cells slots) : CW G X pc L (v :: .ref a :: st) ws cells slots := by
  subst hw
  obtain ⟨p, l, e, R, s, m, args, below, meth, c, c0, s0, Q, A⟩ := X
  obtain ⟨hx, hb, hml, hown, hts, hE, hlk, hnm, hfr, hlo, hmc, hms, hA, hr⟩ := O
  obtain ⟨C, T, N, ty0, hc, hkN, hin, hT, hfin, hty0, hnms, hlink⟩ := hl
  have hCo := hC C T N hc
  intro H locs ls hP hD hS hv
  rcases hlink with hlink | hlink
  · cases fin with
    | false => exact va_put (ref := C) hx hb hts hin ty0 hty0 hnms hown hE.1 hP hD hS q0 he hc k hkN (hts _ hlink) (fun x q => by rw [← q, hT]) hfin (hty C T N hc) hn hfit hk hd (fun H locs hP hD hS => kk H locs ls hP hD hS hv)
    | true => exact va_putF (ref := C) hx hb hts hin ty0 hty0 hnms hown hE.1 hP hD hS q0 he hc k hkN (hts _ hlink) (fun x q => by rw [← q, hT]) hfin (hnm hol) (by rw [hT]; exact hCo) (hty C T N hc) hn hfit hk hd (fun H locs hP hD hS => kk H locs ls hP hD hS hv)
  · cases fin with
    | false => exact va_putN (ref := C) hx hb hts hin ty0 hty0 hnms hown hE.1 hP hD hS q0 he hc k hkN (va_Nw.use rfl (hE.2.1 _ hlink)) (fun x q => by rw [← q, hT]) hfin (hty C T N hc) hn hfit hk hd (fun H locs hP hD hS => kk H locs ls hP hD hS hv)
    | true =>
      have hm := hE.2.1 _ hlink
      exact absurd hm (by
        intro _
        rcases List.mem_append.mp hlink with h | h
        · obtain ⟨q, hq, e⟩ := List.mem_map.mp h
          have : ∀ q ∈ nwF, q.1 ≠ q.2.2.1 := by decide +kernel
          injection e with e1 e2 e3
          exact this q hq (by rw [e1, e3, hCo])
        · obtain ⟨q, -, e⟩ := List.mem_map.mp h
          cases e)
theorem c_getr {a ci index : Nat} {fs : List Value} {v : Value} {fin : Bool} (O : Oc G own cc nL d mc ms X) (q0 k : Nat) (hd : decode cc pc = .ok (.getfield index, 3)) (hl : FL own index ci k fin) (he : ws[q0]? = some (a, .inr (ci, fs))) (hk : fs[k]? = some v) (kk : CW G X (pc + 3) L (v :: st) ws cells slots) : CW G X pc L (.ref a :: st) ws cells slots := by
  obtain ⟨p, l, e, R, s, m, args, below, meth, c, c0, s0, Q, A⟩ := X
  obtain ⟨hx, hb, hml, hown, hts, hE, hlk, hnm, hfr, hlo, hmc, hms, hA, hr⟩ := O
  obtain ⟨C, T, N, ty0, hc, hkN, hin, hT, hfin, hty0, hnms, hlink⟩ := hl
  intro H locs ls hP hD hS hv
  rcases hlink with hlink | hlink
  · exact va_get (ref := C) hx hb hts hin hown hE.1 hP q0 he hc k hkN (hts _ hlink) (fun x q => by rw [← q, hT]) hk hd (kk H locs ls hP hD hS hv)
  · exact va_getN (ref := C) hx hb hts hin hown hE.1 hP q0 he hc k hkN (va_Nw.use rfl (hE.2.1 _ hlink)) (fun x q => by rw [← q, hT]) hk hd (kk H locs ls hP hD hS hv)
theorem c_new {C : String} {T : u_T} {N ci index : Nat} (fs : List Value) (ty : Nat → FieldType) (O : Oc G own cc nL d mc ms X) (hd : decode cc pc = .ok (.new index, 3)) (hc : vwCl[ci]? = some (C, T, N)) (hin : ∀ w ∈ u_ws C T N, w ∈ gw) (hty : ∀ k, k < N → parseFieldDescriptor (T k).2.2.1 = some (ty k)) (hw : Cond.classLink own index C ∈ gw) (hw2 : Cond.instantiable C N ∈ gw) (hw3 : Cond.initialized C ∈ gw) (hfs : ∀ j, j < N → defaultValue (ty j) = vp_V fs j) (hcl : cells + 1 ≤ mc) (hsl : slots + N ≤ ms) (kk : ∀ q : Nat, CW G X (pc + 3) L (.ref q :: st) (ws ++ [(q, .inr (ci, fs))]) (cells + 1) (slots + N)) : CW G X pc L st ws cells slots := by
  obtain ⟨p, l, e, R, s, m, args, below, meth, c, c0, s0, Q, A⟩ := X
  obtain ⟨hx, hb, hml, hown, hts, hE, hlk, hnm, hfr, hlo, hmc, hms, hA, hr⟩ := O
  intro H locs ls hP hD hS hv
  exact va_new hx hb hts hin ty hty hown (hts _ hw) (hts _ hw2) (hts _ hw3) hE.1 hP hD hS hA hc hfs (by omega) (by omega) hd (fun q H1 hP hD hS => kk q H1 locs ls hP hD hS hv)
/-- a constructor's call on a cell of the world: the rest stays -/
theorem c_ctor {mt : wn_M} {dc mcc msc n index b : Nat} {e0 : va_E} {As : List Value} {post : va_W → Prop} {wr : va_W} (isR : List Nat) (k : Nat) (O : Oc G own cc nL d mc ms X) (hs : Sc G mt dc mcc msc (.ref b :: As) [(b, e0)] post) (hd : decode cc pc = .ok (.invokespecial index, 3)) (hm : MO mt n ∧ Cond.instanceMethod mt.1 ∈ gw ∧ mt.1.name = "<init>" ∧ mt.2.2.2 = none) (hl : LM own index mt.1) (he : ws[k]? = some (b, e0)) (hR : isR.map (fun i => ws[i]?) = wr.map some) (hnd : va_nd isR = true) (hdis : ∀ i ∈ isR, i ∉ [k]) (hn : As.length = n) (hst : st = As.reverse ++ .ref b :: rest) (hcat : (rest.map fun v => v.category).sum ≤ 8) (hdc : dc + 1 ≤ d) (hcl : cells + mcc ≤ mc) (hsl : slots + msc ≤ ms)
    (kk : ∀ w1, post w1 → CW G X (pc + 3) L rest (wr ++ w1) (cells + mcc) (slots + msc)) : CW G X pc L st ws cells slots := by
  subst hst
  obtain ⟨p, l, e, R, s, m, args, below, meth, c, c0, s0, Q, A⟩ := X
  obtain ⟨hx, hb, hml, hown, hts, hE, hlk, hnm, hfr, hlo, hmc, hms, hA, hr⟩ := O
  obtain ⟨y, bc, nL2, ret⟩ := mt
  obtain ⟨⟨hcode, hini, hne, hpar, hnl⟩, hinst, hy1, hret⟩ := hm
  have hret : ret = none := hret
  subst hret
  intro H locs ls hP hD hS hv
  have hC : ([k] : List Nat).map (fun i => ws[i]?) = ([(b, e0)] : va_W).map some := by simp [he]
  have hPc := hP.sub (ws' := [(b, e0)]) [k] (by simp [he])
  have hDc := hD.sub (ws' := [(b, e0)]) [k] (by simp [va_nd]) hC
  have hFc := va_free (wc := [(b, e0)]) hD hS hA [k] hC
  have hpre : ∀ U : State, U.heap = H → s.WarmedH U.vm → Cp G [(b, e0)] H.size (.ref b :: As) (Value.ref b :: As).toArray U := fun U hU hW =>
    ⟨rfl, by rw [hU], by rw [hU]; exact hPc, hDc.weaken (fun _ _ _ _ => trivial), hE.call hW (fun a h1 h2 => by rw [hU]; exact hS.2.1 a h1 h2) hFc⟩
  have hbl : FrameBlind (Cp G [(b, e0)] H.size (.ref b :: As)) := by
    intro a U g mk q
    obtain ⟨h1, h2, h3, h4, h5⟩ := q
    exact ⟨h1, h2, h3, h4, Ev.same (u := U) (U := U.calling g mk a) rfl rfl h5⟩
  have hRm : (rmc dc mcc msc).frames + 1 ≤ R.frames ∧ 8 + (nL2 + 11) + (rmc dc mcc msc).locals ≤ R.locals := ⟨by show dc + 1 ≤ _; omega, by have : nL2 ≤ 40 := hnl; show 8 + (nL2 + 11) + 64 * dc ≤ _; omega⟩
  have go : va_Run p l e R s m args below meth c H locs cells slots mcc msc (F0 m pc ls (As.reverse ++ .ref b :: rest)) rest (Cq G post (va_A [(b, e0)] H.size) (Value.ref b :: As).toArray) (va_A [(b, e0)] H.size) := by
    rcases hl with hl | hl
    · have cb : CallB R s args own index y bc nL2 none (wy (y, bc, nL2, none)) (rmc dc mcc msc) mcc msc n := callB_of n hts (good_wy hcode) rfl rfl rfl (hts _ hini) (hts _ hl) ⟨hne.1, hne.2, hpar⟩ hRm
      exact va_runI (Ts := gw) ⟨hx, hb, hml, hown, hts⟩ (hs l H.size) ⟨cb, hy1, hts _ hinst⟩ ⟨hbl, hpre⟩ rfl hn (hv.1.trans hml) rfl (lv_room hcat) hd ⟨by omega, by omega⟩
    · have cb : va_CN R s args own index y RX5 bc nL2 none (wy (y, bc, nL2, none)) (rmc dc mcc msc) mcc msc n := va_cnB n hts (good_wy hcode) rfl rfl rfl (hE.2.1 _ hl) (hts _ hini) ⟨hne.1, hne.2, hpar⟩ hRm
      exact va_runIN (Ts := gw) ⟨hx, hb, hml, hown, hts⟩ (hs l H.size) ⟨cb, hy1, hts _ hinst⟩ ⟨hbl, hpre⟩ rfl hn (hv.1.trans hml) rfl (lv_room hcat) hd ⟨by omega, by omega⟩
  intro T hT XX
  obtain ⟨v, st₀, t, T', Lo, h0, X', hL, e1, e2, ⟨hvv, ⟨w1, hpost, hP1, hD1⟩, hz, hk⟩, stp⟩ := go T hT XX
  cases hvv
  rw [h0] at hz hk
  rw [← e1] at hP1
  obtain ⟨hPj, hDj⟩ := va_join (H1 := T'.heap) (wr := wr) (w1 := w1) hP hD [k] isR hC hR hnd hdis (fun q h1 h2 => by rw [e1]; exact hk q h1 h2) hFc hP1 hD1
  obtain ⟨t2, a1, b1⟩ := kk w1 hpost T'.heap (locs ++ Lo) ls hPj hDj
    ⟨Nat.le_trans hS.1 (by rw [e1]; exact hz), fun q h1 h2 => by rw [e1, hk q (Nat.lt_of_lt_of_le h1 hS.1) (fun z => h2 (hFc q z))]; exact hS.2.1 q h1 h2, fun q hq => by
      rcases List.mem_append.mp hq with h | h
      · exact hS.2.2 q h
      · exact hFc _ (hL q h)⟩ hv T' rfl X'
  exact ⟨t2, stp t2 a1, b1⟩
theorem c_vret {post : va_W → Prop} (is : List Nat) (O : Oc G own cc nL d mc ms X) (hol : own ≠ RL) (T : Tc G X post mc ms) (hd : decode cc pc = .ok (.return_, 1)) (hnd : va_nd is = true) (hs : is.map (fun i => ws[i]?) = ws'.map some) (hs2 : is.filterMap (fun i => ws[i]?) = ws') (hp : post ws') (hc : cells = mc) (hsl : slots = ms) : CW G X pc L [] ws cells slots := by
  subst hc; subst hsl
  obtain ⟨p, l, e, R, s, m, args, below, meth, c, c0, s0, Q, A⟩ := X
  obtain ⟨hx, hb, hml, hown, hts, hE, hlk, hnm, hfr, hlo, hmc, hms, hA, hr⟩ := O
  have hQ : Q = MQ below (Cq G post A) args s cells slots A := T
  intro H locs ls hP hD hS hv
  rw [hQ]
  exact W.vret hx hb (hr hol) (fun t ht _ => ⟨rfl, ⟨ws', hp, by rw [ht]; exact hP.sub is hs2, hD.sub is hnd hs⟩, hS.F ht⟩) hS.2.2 hd hlk
/-- the world stands: the rest goes over its memory -/
theorem pick_at {is : List Nat} {w w1 : va_W} (hs : is.map (fun i => w[i]?) = w1.map some) (k : Nat) (q : Nat × va_E) (hk : w1[k]? = some q) : ∃ i : Nat, w[i]? = some q := by
  have h1 : (is.map (fun i => w[i]?))[k]? = some (some q) := by rw [hs, List.getElem?_map, hk]; rfl
  rw [List.getElem?_map] at h1
  cases hi : is[k]? with
  | none => rw [hi] at h1; cases h1
  | some i => rw [hi] at h1; exact ⟨i, Option.some.inj h1⟩
theorem cw_pw {S : wn_S} {ad : Nat → Nat} {M : Mm} (is : List Nat) (hnd : va_nd is = true) (hs : is.map (fun i => ws[i]?) = (wo G S ad M).map some) (h : PW G S ad (xset X cells slots) pc L st M) : CW G X pc L st ws cells slots := by
  obtain ⟨p, l, e, R, s, m, args, below, meth, c, c0, s0, Q, A⟩ := X
  exact fun H locs ls hP hD hS hv => h H locs ls (fun k q hk => by
    obtain ⟨i, hi⟩ := pick_at hs k q hk
    exact hP i q hi) (hD.sub is hnd hs) hS hv
theorem ok_c (O : Oc G own cc nL d mc ms X) (hc : cells ≤ mc) (hs : slots ≤ ms) : Ok G own cc nL d (xset X cells slots) := by
  obtain ⟨p, l, e, R, s, m, args, below, meth, c, c0, s0, Q, A⟩ := X
  obtain ⟨hx, hb, hml, hown, hts, hE, hlk, hnm, hfr, hlo, hmc, hms, hA, hr⟩ := O
  exact ⟨hx, hb, hml, hown, hts, hE, hlk, hfr, hlo, Nat.le_trans hc hmc, Nat.le_trans hs hms, hA⟩
theorem pw_cret {S : wn_S} {ad : Nat → Nat} {M : Mm} {post : va_W → Prop} (O : Oc G own cc nL d mc ms X) (hol : own ≠ RL) (T : Tc G X post mc ms) (hd : decode cc pc = .ok (.return_, 1)) (hp : post (wo G S ad M)) : PW G S ad (xset X mc ms) pc L [] M := by
  obtain ⟨p, l, e, R, s, m, args, below, meth, c, c0, s0, Q, A⟩ := X
  obtain ⟨hx, hb, hml, hown, hts, hE, hlk, hnm, hfr, hlo, hmc, hms, hA, hr⟩ := O
  have hQ : Q = MQ below (Cq G post A) args s mc ms A := T
  intro H locs ls hP hD hS hv
  rw [hQ]
  exact W.vret hx hb (hr hol) (fun t ht _ => ⟨rfl, ⟨_, hp, by rw [ht]; exact hP, hD⟩, hS.F ht⟩) hS.2.2 hd hlk
end CROWS
