/-! ===== methods: what a call does, and how it is used ===== -/
def rmd (d : Nat) : Room := { frames := d, cells := 0, slots := 0, locals := 64 * d }
def Ps (G : wn_G) (S : wn_S) (ad : Nat → Nat) (M : Mm) (sz : Nat) (av : List Value) : Array Value → State → Prop := va_Pc av (fun U => U.heap.size = sz ∧ va_P (gD G) vwCl (wo G S ad M) U.heap ∧ va_D (fun _ => True) (wo G S ad M) ∧ Ev G (va_A (wo G S ad M) sz) U)
/-- called with these values over this memory the method ends with this answer and that memory; nothing else changes -/
def Sp (G : wn_G) (S : wn_S) (ad : Nat → Nat) (mt : wn_M) (d : Nat) (av : List Value) (M M0 : Mm) (ro : Option Value) : Prop :=
  ∀ (l : Launch) (sz : Nat), Met l mt.1 (wy mt) (rmd d) (Ps G S ad M sz av) (Qs G S ad M0 ro (va_A (wo G S ad M) sz)) 0 0 (va_A (wo G S ad M) sz)
theorem ps_blind {G : wn_G} {S : wn_S} {ad : Nat → Nat} {M : Mm} {sz : Nat} {av : List Value} : FrameBlind (Ps G S ad M sz av) := by
  intro a U g mk q
  obtain ⟨h1, h2, h3, h4, h5⟩ := q
  exact ⟨h1, h2, h3, h4, Ev.same (u := U) (U := U.calling g mk a) rfl rfl h5⟩
theorem sp_intro {G : wn_G} {S : wn_S} {ad : Nat → Nat} {mt : wn_M} {own : String} {d : Nat} {av : List Value} {M M0 : Mm} {ro : Option Value} (hy : plainName mt.1.cls = true) (ho : mt.1.cls = own) (hn : (lg_sl av).length ≤ mt.2.2.1)
    (body : ∀ X : wn_X, Ok G own mt.2.1 mt.2.2.1 d X → Tg G S ad X mt.2.2.2 M0 ro → PW G S ad X 0 (lv_args 0 av) [] M) : Sp G S ad mt d av M M0 ro := by
  intro l sz
  obtain ⟨y, cc, nL, ret⟩ := mt
  refine Met.ofW (cc := cc) (maxL := nL) (ret := ret) hy rfl ?_
  intro p e s m args below meth c s₁ B hml hv
  obtain ⟨rfl, hsz, hP, hD0, hE⟩ := hv
  have hts := atoms_spec (ws := wy (y, cc, nL, ret)) B.pre
  have hown : s.vm.findClass own = some m.cls := ho ▸ findClass_of_methodNamed B.named
  have hlk := B.notSynchronized
  subst hsz
  have hl := lv_entry av (n := nL) hn
  rw [lg_entry_eq]
  refine body (p, l, e, rmd d, s, m, av.toArray, below, meth, c, 0, 0, MQ below (Qs G S ad M0 ro (va_A (wo G S ad M) s.heap.size)) av.toArray s 0 0 (va_A (wo G S ad M) s.heap.size), va_A (wo G S ad M) s.heap.size) ⟨B.exec, B.bytes, hml, hown, fun w hw => hts w (List.mem_cons_of_mem _ hw), hE, hlk, Nat.le_refl _, Nat.le_refl _, Nat.le_refl _, Nat.le_refl _, fun q h => Or.inr h⟩ ⟨B.returns, rfl⟩ s.heap [] _ hP hD0.self va_S.rf ?_
  rw [hml]
  exact hl
/-- what a method's own words and name give at any call of it -/
def MO (mt : wn_M) (n : Nat) : Prop := Cond.code mt.1 mt.2.1 mt.2.2.1 mt.2.2.2 ∈ gw ∧ Cond.initialized mt.1.cls ∈ gw ∧ (mt.1.cls ≠ "java/lang/invoke/MethodHandle" ∧ mt.1.cls ≠ "java/lang/invoke/VarHandle") ∧ (parseMethodDescriptor mt.1.desc).map (fun d => d.parameters.length) = some n ∧ mt.2.2.1 ≤ 40
def MV (mt : wn_M) (ci n : Nat) : Prop := MO mt n ∧ Cond.instanceMethod mt.1 ∈ gw ∧ Cond.selects mt.1.cls mt.1 mt.1 ∈ gw ∧ ∃ (T : u_T) (N : Nat), vwCl[ci]? = some (mt.1.cls, T, N)
def MS (mt : wn_M) (n : Nat) : Prop := MO mt n ∧ Cond.static mt.1 ∈ gw
def LM (own : String) (index : Nat) (y : MethodName) : Prop := Cond.methodLink own index y ∈ gw ∨ Cond.methodLinkNest own index y RX5 ∈ nws
section CALLS
variable {ρ : Type} {G : wn_G} {S : wn_S} {ad : Nat → Nat} {own : String} {cc : ByteArray} {nL d pc : Nat} {L : List (Nat × Value)} {st rest : List Value} {M M0 : Mm} {t : Option ρ} {K : ρ → Prop} {mt : wn_M} {dc n index : Nat} {As : List Value} {ro : Option Value}
theorem w_call {p : Program} {l : Launch} {e : Env} {R : Room} {s : State} {m : MethodId} {args : Array Value} {below : List Frame} {meth : Method} {c : Code} {H : Heap} {locs : List Loc} {cells slots : Nat} {Q : State → Prop} {A B : Nat → Prop} {ls : Array Slot} {a : Array Value}
    (hr : va_Run p l e R s m args below meth c H locs cells slots 0 0 (F0 m pc ls st) rest (Qs G S ad M0 ro B a) B) (hS : va_S A s.heap H locs) (hAB : ∀ q, B q → A q)
    (kk : ∀ (H1 : Heap) (locs1 : List Loc), va_P (gD G) vwCl (wo G S ad M0) H1 → H.size ≤ H1.size → (∀ q : Nat, q < H.size → ¬ B q → H1[q]? = H[q]?) → va_S A s.heap H1 locs1 → W p l e R s m args below meth c H1 locs1 cells slots Q (F0 m (pc + 3) ls (ro.toList ++ rest))) : W p l e R s m args below meth c H locs cells slots Q (F0 m pc ls st) := by
  intro T hT X
  obtain ⟨v, st₀, t, T', L, h0, X', hL, e1, e2, ⟨hv, hp, hz, hk⟩, stp⟩ := hr T hT X
  cases hv
  rw [h0] at hz hk
  obtain ⟨t2, a1, b1⟩ := kk T'.heap (locs ++ L) (by rw [e1]; exact hp) (by rw [e1]; exact hz) (fun q h1 h2 => by rw [e1]; exact hk q h1 h2)
    ⟨Nat.le_trans hS.1 (by rw [e1]; exact hz), fun q h1 h2 => by rw [e1, hk q (Nat.lt_of_lt_of_le h1 hS.1) (fun z => h2 (hAB q z))]; exact hS.2.1 q h1 h2, fun q hq => by
      rcases List.mem_append.mp hq with h | h
      · exact hS.2.2 q h
      · exact hAB _ (hL q h)⟩ T' rfl X'
  exact ⟨t2, stp t2 a1, b1⟩
theorem good_wy (hc : Cond.code mt.1 mt.2.1 mt.2.2.1 mt.2.2.2 ∈ gw) : GoodIn gw (wy mt) := by
  intro w hw
  rcases List.mem_cons.mp hw with rfl | hw
  · exact ⟨hc, gw_good _ hc⟩
  · exact ⟨hw, gw_good _ hw⟩
theorem p_callV {X : wn_X} (O : Ok G own cc nL d X) (o : Nat) {ci nn : Nat} {fk : List Nat} (hs : Sp G S ad mt dc (.ref (ad o) :: As) M M0 ro) (hd : decode cc pc = .ok (.invokevirtual index, 3)) (hm : MV mt ci n) (hl : LM own index mt.1) (ho : S[o]? = some (ci + 2, nn, fk)) (hn : As.length = n) (hst : st = As.reverse ++ .ref (ad o) :: rest) (hcat : (rest.map fun v => v.category).sum ≤ 8) (hdc : dc + 1 ≤ d)
    (kk : PW G S ad X (pc + 3) L (ro.toList ++ rest) M0) : PW G S ad X pc L st M := by
  subst hst
  obtain ⟨p, l, e, R, s, m, args, below, meth, c, cells, slots, Q, A⟩ := X
  obtain ⟨hx, hb, hml, hown, hts, hE, hlk, hfr, hlo, hce, hsl, hA⟩ := O
  intro H locs ls hP hD hS hv
  obtain ⟨⟨hcode, hini, hne, hpar, hnl⟩, hinst, hsel, T, N, hcl⟩ := hm
  have hAB : ∀ q, va_A (wo G S ad M) H.size q → A q := fun q h => by
    rcases h with ⟨k, ee, h⟩ | h
    · exact hD.2 k (q, ee) h
    · exact hA q (Nat.le_trans hS.1 h)
  have hPc : ∀ U : State, U.heap = H → s.WarmedH U.vm → Ps G S ad M H.size (.ref (ad o) :: As) (Value.ref (ad o) :: As).toArray U := fun U hU hW =>
    ⟨rfl, by rw [hU], by rw [hU]; exact hP, hD.weaken (fun _ _ _ _ => trivial), hE.call hW (fun a h1 h2 => by rw [hU]; exact hS.2.1 a h1 h2) hAB⟩
  have hrecv : ∃ cellB : Cell, H[ad o]? = some cellB ∧ cellB.vm.isStatics = false ∧ s.vm.findClass mt.1.cls = some cellB.cls := va_recv hE.1 hP hcl (wo_at (G := G) (ad := ad) (M := M) ho)
  have hR : (rmd dc).frames + 1 ≤ R.frames ∧ 8 + (mt.2.2.1 + 11) + (rmd dc).locals ≤ R.locals := ⟨by show dc + 1 ≤ _; omega, by show 8 + (mt.2.2.1 + 11) + 64 * dc ≤ _; omega⟩
  have hK : ∀ (H1 : Heap) (locs1 : List Loc), va_P (gD G) vwCl (wo G S ad M0) H1 → H.size ≤ H1.size → (∀ q : Nat, q < H.size → ¬ va_A (wo G S ad M) H.size q → H1[q]? = H[q]?) → va_S A s.heap H1 locs1 → W p l e R s m args below meth c H1 locs1 cells slots Q (F0 m (pc + 3) ls (ro.toList ++ rest)) :=
    fun H1 locs1 hP1 _ _ hS1 => kk H1 locs1 ls hP1 (wo_D hD) hS1 hv
  rcases hl with hl | hl
  · have cb : CallB R s args own index mt.1 mt.2.1 mt.2.2.1 mt.2.2.2 (wy mt) (rmd dc) 0 0 n := callB_of n hts (good_wy hcode) rfl rfl rfl (hts _ hini) (hts _ hl) ⟨hne.1, hne.2, hpar⟩ hR
    exact w_call (va_runV (C := mt.1.cls) (Ts := gw) ⟨hx, hb, hml, hown, hts⟩ (hs l H.size) ⟨cb, hts _ hinst, hts _ hsel⟩ ⟨ps_blind, hrecv, hPc⟩ rfl hn (hv.1.trans hml) rfl (lv_room hcat) hd ⟨hce, hsl⟩) hS hAB hK
  · have cb : va_CN R s args own index mt.1 RX5 mt.2.1 mt.2.2.1 mt.2.2.2 (wy mt) (rmd dc) 0 0 n := va_cnB n hts (good_wy hcode) rfl rfl rfl (hE.2.1 _ hl) (hts _ hini) ⟨hne.1, hne.2, hpar⟩ hR
    exact w_call (va_runVN (C := mt.1.cls) (Ts := gw) ⟨hx, hb, hml, hown, hts⟩ (hs l H.size) ⟨cb, hts _ hinst, hts _ hsel⟩ ⟨ps_blind, hrecv, hPc⟩ rfl hn (hv.1.trans hml) rfl (lv_room hcat) hd ⟨hce, hsl⟩) hS hAB hK
theorem p_callS {X : wn_X} (O : Ok G own cc nL d X) (hs : Sp G S ad mt dc As M M0 ro) (hd : decode cc pc = .ok (.invokestatic index, 3)) (hm : MS mt n) (hl : LM own index mt.1) (hn : As.length = n) (hst : st = As.reverse ++ rest) (hcat : (rest.map fun v => v.category).sum ≤ 8) (hdc : dc + 1 ≤ d)
    (kk : PW G S ad X (pc + 3) L (ro.toList ++ rest) M0) : PW G S ad X pc L st M := by
  subst hst
  obtain ⟨p, l, e, R, s, m, args, below, meth, c, cells, slots, Q, A⟩ := X
  obtain ⟨hx, hb, hml, hown, hts, hE, hlk, hfr, hlo, hce, hsl, hA⟩ := O
  intro H locs ls hP hD hS hv
  obtain ⟨⟨hcode, hini, hne, hpar, hnl⟩, hstat⟩ := hm
  have hAB : ∀ q, va_A (wo G S ad M) H.size q → A q := fun q h => by
    rcases h with ⟨k, ee, h⟩ | h
    · exact hD.2 k (q, ee) h
    · exact hA q (Nat.le_trans hS.1 h)
  have hPc : ∀ U : State, U.heap = H → s.WarmedH U.vm → Ps G S ad M H.size As As.toArray U := fun U hU hW =>
    ⟨rfl, by rw [hU], by rw [hU]; exact hP, hD.weaken (fun _ _ _ _ => trivial), hE.call hW (fun a h1 h2 => by rw [hU]; exact hS.2.1 a h1 h2) hAB⟩
  have hR : (rmd dc).frames + 1 ≤ R.frames ∧ 8 + (mt.2.2.1 + 11) + (rmd dc).locals ≤ R.locals := ⟨by show dc + 1 ≤ _; omega, by show 8 + (mt.2.2.1 + 11) + 64 * dc ≤ _; omega⟩
  have hK : ∀ (H1 : Heap) (locs1 : List Loc), va_P (gD G) vwCl (wo G S ad M0) H1 → H.size ≤ H1.size → (∀ q : Nat, q < H.size → ¬ va_A (wo G S ad M) H.size q → H1[q]? = H[q]?) → va_S A s.heap H1 locs1 → W p l e R s m args below meth c H1 locs1 cells slots Q (F0 m (pc + 3) ls (ro.toList ++ rest)) :=
    fun H1 locs1 hP1 _ _ hS1 => kk H1 locs1 ls hP1 (wo_D hD) hS1 hv
  rcases hl with hl | hl
  · have cb : CallB R s args own index mt.1 mt.2.1 mt.2.2.1 mt.2.2.2 (wy mt) (rmd dc) 0 0 n := callB_of n hts (good_wy hcode) rfl rfl rfl (hts _ hini) (hts _ hl) ⟨hne.1, hne.2, hpar⟩ hR
    exact w_call (va_runS (Ts := gw) ⟨hx, hb, hml, hown, hts⟩ (hs l H.size) ⟨cb, hts _ hstat⟩ ⟨ps_blind, hPc⟩ rfl hn (hv.1.trans hml) rfl (lv_room hcat) hd ⟨hce, hsl⟩) hS hAB hK
  · have cb : va_CN R s args own index mt.1 RX5 mt.2.1 mt.2.2.1 mt.2.2.2 (wy mt) (rmd dc) 0 0 n := va_cnB n hts (good_wy hcode) rfl rfl rfl (hE.2.1 _ hl) (hts _ hini) ⟨hne.1, hne.2, hpar⟩ hR
    exact w_call (va_runSN (Ts := gw) ⟨hx, hb, hml, hown, hts⟩ (hs l H.size) ⟨cb, hts _ hstat, trivial⟩ ⟨ps_blind, hPc⟩ rfl hn (hv.1.trans hml) rfl (lv_room hcat) hd ⟨hce, hsl⟩) hS hAB hK
theorem bd_some {α : Type} {x : Option (Int32 × Mm)} {k : Int32 → Mm → Option α} {z : α} (h : bd x k = some z) : ∃ r M1, x = some (r, M1) ∧ k r M1 = some z := by
  cases x with
  | none => cases h
  | some q => exact ⟨q.1, q.2, rfl, h⟩
theorem bdl_some {α : Type} {x : Option (Int64 × Mm)} {k : Int64 → Mm → Option α} {z : α} (h : bdl x k = some z) : ∃ r M1, x = some (r, M1) ∧ k r M1 = some z := by
  cases x with
  | none => cases h
  | some q => exact ⟨q.1, q.2, rfl, h⟩
theorem bds_some {α : Type} {x : Option (Nat × Mm)} {k : Nat → Mm → Option α} {z : α} (h : bds x k = some z) : ∃ r M1, x = some (r, M1) ∧ k r M1 = some z := by
  cases x with
  | none => cases h
  | some q => exact ⟨q.1, q.2, rfl, h⟩
theorem bv_some {α : Type} {x : Option Mm} {k : Mm → Option α} {z : α} (h : bv x k = some z) : ∃ M1, x = some M1 ∧ k M1 = some z := by
  cases x with
  | none => cases h
  | some q => exact ⟨q, rfl, h⟩
/-! a call, by what the method answers -/
theorem j_callVi {X : wn_X} (O : Ok G own cc nL d X) (o : Nat) {ci nn : Nat} {fk : List Nat} {f : Option (Int32 × Mm)} {kf : Int32 → Mm → Option ρ} (hs : ∀ r M1, f = some (r, M1) → Sp G S ad mt dc (.ref (ad o) :: As) M M1 (some (.int r))) (hd : decode cc pc = .ok (.invokevirtual index, 3)) (hm : MV mt ci n) (hl : LM own index mt.1) (ho : S[o]? = some (ci + 2, nn, fk)) (hn : As.length = n) (hst : st = As.reverse ++ .ref (ad o) :: rest) (hcat : (rest.map fun v => v.category).sum ≤ 8) (hdc : dc + 1 ≤ d)
    (kk : ∀ r M1, JW G S ad X (pc + 3) L (.int r :: rest) M1 (kf r M1) K) : JW G S ad X pc L st M (bd f kf) K := by
  intro z hz hK
  obtain ⟨r, M1, h1, h2⟩ := bd_some hz
  exact p_callV O o (hs r M1 h1) hd hm hl ho hn hst hcat hdc (kk r M1 z h2 hK)
theorem j_callVl {X : wn_X} (O : Ok G own cc nL d X) (o : Nat) {ci nn : Nat} {fk : List Nat} {f : Option (Int64 × Mm)} {kf : Int64 → Mm → Option ρ} (hs : ∀ r M1, f = some (r, M1) → Sp G S ad mt dc (.ref (ad o) :: As) M M1 (some (.long r))) (hd : decode cc pc = .ok (.invokevirtual index, 3)) (hm : MV mt ci n) (hl : LM own index mt.1) (ho : S[o]? = some (ci + 2, nn, fk)) (hn : As.length = n) (hst : st = As.reverse ++ .ref (ad o) :: rest) (hcat : (rest.map fun v => v.category).sum ≤ 8) (hdc : dc + 1 ≤ d)
    (kk : ∀ r M1, JW G S ad X (pc + 3) L (.long r :: rest) M1 (kf r M1) K) : JW G S ad X pc L st M (bdl f kf) K := by
  intro z hz hK
  obtain ⟨r, M1, h1, h2⟩ := bdl_some hz
  exact p_callV O o (hs r M1 h1) hd hm hl ho hn hst hcat hdc (kk r M1 z h2 hK)
theorem j_callVv {X : wn_X} (O : Ok G own cc nL d X) (o : Nat) {ci nn : Nat} {fk : List Nat} {f : Option Mm} {kf : Mm → Option ρ} (hs : ∀ M1, f = some M1 → Sp G S ad mt dc (.ref (ad o) :: As) M M1 none) (hd : decode cc pc = .ok (.invokevirtual index, 3)) (hm : MV mt ci n) (hl : LM own index mt.1) (ho : S[o]? = some (ci + 2, nn, fk)) (hn : As.length = n) (hst : st = As.reverse ++ .ref (ad o) :: rest) (hcat : (rest.map fun v => v.category).sum ≤ 8) (hdc : dc + 1 ≤ d)
    (kk : ∀ M1, JW G S ad X (pc + 3) L rest M1 (kf M1) K) : JW G S ad X pc L st M (bv f kf) K := by
  intro z hz hK
  obtain ⟨M1, h1, h2⟩ := bv_some hz
  exact p_callV O o (hs M1 h1) hd hm hl ho hn hst hcat hdc (kk M1 z h2 hK)
theorem j_callSi {X : wn_X} (O : Ok G own cc nL d X) {f : Option (Int32 × Mm)} {kf : Int32 → Mm → Option ρ} (hs : ∀ r M1, f = some (r, M1) → Sp G S ad mt dc As M M1 (some (.int r))) (hd : decode cc pc = .ok (.invokestatic index, 3)) (hm : MS mt n) (hl : LM own index mt.1) (hn : As.length = n) (hst : st = As.reverse ++ rest) (hcat : (rest.map fun v => v.category).sum ≤ 8) (hdc : dc + 1 ≤ d)
    (kk : ∀ r M1, JW G S ad X (pc + 3) L (.int r :: rest) M1 (kf r M1) K) : JW G S ad X pc L st M (bd f kf) K := by
  intro z hz hK
  obtain ⟨r, M1, h1, h2⟩ := bd_some hz
  exact p_callS O (hs r M1 h1) hd hm hl hn hst hcat hdc (kk r M1 z h2 hK)
theorem j_callSl {X : wn_X} (O : Ok G own cc nL d X) {f : Option (Int64 × Mm)} {kf : Int64 → Mm → Option ρ} (hs : ∀ r M1, f = some (r, M1) → Sp G S ad mt dc As M M1 (some (.long r))) (hd : decode cc pc = .ok (.invokestatic index, 3)) (hm : MS mt n) (hl : LM own index mt.1) (hn : As.length = n) (hst : st = As.reverse ++ rest) (hcat : (rest.map fun v => v.category).sum ≤ 8) (hdc : dc + 1 ≤ d)
    (kk : ∀ r M1, JW G S ad X (pc + 3) L (.long r :: rest) M1 (kf r M1) K) : JW G S ad X pc L st M (bdl f kf) K := by
  intro z hz hK
  obtain ⟨r, M1, h1, h2⟩ := bdl_some hz
  exact p_callS O (hs r M1 h1) hd hm hl hn hst hcat hdc (kk r M1 z h2 hK)
theorem j_callSs {X : wn_X} (O : Ok G own cc nL d X) {f : Option (Nat × Mm)} {kf : Nat → Mm → Option ρ} (hs : ∀ r M1, f = some (r, M1) → Sp G S ad mt dc As M M1 (some (.ref (gK G r)))) (hd : decode cc pc = .ok (.invokestatic index, 3)) (hm : MS mt n) (hl : LM own index mt.1) (hn : As.length = n) (hst : st = As.reverse ++ rest) (hcat : (rest.map fun v => v.category).sum ≤ 8) (hdc : dc + 1 ≤ d)
    (kk : ∀ r M1, JW G S ad X (pc + 3) L (.ref (gK G r) :: rest) M1 (kf r M1) K) : JW G S ad X pc L st M (bds f kf) K := by
  intro z hz hK
  obtain ⟨r, M1, h1, h2⟩ := bds_some hz
  exact p_callS O (hs r M1 h1) hd hm hl hn hst hcat hdc (kk r M1 z h2 hK)
theorem j_callSv {X : wn_X} (O : Ok G own cc nL d X) {f : Option Mm} {kf : Mm → Option ρ} (hs : ∀ M1, f = some M1 → Sp G S ad mt dc As M M1 none) (hd : decode cc pc = .ok (.invokestatic index, 3)) (hm : MS mt n) (hl : LM own index mt.1) (hn : As.length = n) (hst : st = As.reverse ++ rest) (hcat : (rest.map fun v => v.category).sum ≤ 8) (hdc : dc + 1 ≤ d)
    (kk : ∀ M1, JW G S ad X (pc + 3) L rest M1 (kf M1) K) : JW G S ad X pc L st M (bv f kf) K := by
  intro z hz hK
  obtain ⟨M1, h1, h2⟩ := bv_some hz
  exact p_callS O (hs M1 h1) hd hm hl hn hst hcat hdc (kk M1 z h2 hK)
end CALLS
