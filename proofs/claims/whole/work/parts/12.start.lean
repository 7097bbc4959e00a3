/-! THE CLAIM OUT OF ONE WALK OF THE LAW'S BODY. Your part is whole_start (and what it stands on); all else here is the same for every law, but numbers. -/
def R_law : String := "FirstOneLaw"
def lw_P (b : Addr) (xs : List Int32) (args : Array Value) (s : State) : Prop := args = #[.ref b] ∧ s.IntsAt b xs ∧ xs.length ≤ 3072 ∧ (Jvm.Cond.and given_1 narrow_1).before args s = true
def lw_Q (_ : Array Value) (s : State) (o : Outcome) (t : State) : Prop := o = .returned (some (.int 1)) ∧ Framed s o t [] 600000 7302250
def lw_Z (below : List Frame) (a : Array Value) (s : State) : State → Prop := fun t => ∃ o, t.status = .running ∧ Ended t below o ∧ lw_Q a s o t
/-- the law's own end, with 1 on the stack, nothing written that was there before, its room as the claim has it -/
theorem lw_ret {p : Program} {l : Launch} {e : Env} {s : State} {m : MethodId} {below : List Frame} {meth : Method} {c : Code} {b : Nat} (hx : p.tables.exec = Jvm.exec) (hb : c.code = code) (hr : meth.sig.returnType = ret) (hlocks : meth.locks = false) {pc : Nat} {H : Heap} {ls : Array Slot} (hdg : decode code pc = .ok (.ireturn, 1)) : W p l e room_1 s m #[Value.ref b] below meth c H [] 600000 7302250 (lw_Z below #[Value.ref b] s) (F0 m pc ls [.int 1]) := by
  intro T hT X
  obtain ⟨fs, hret, hrun, hended, hW, hframe⟩ := X.leave (v := some (.int 1)) (hlocks := hlocks) (fun h => by rw [hr] at h; cases h)
  have hmeth' : T.vm.method? m = some meth := X.method'
  refine ⟨T.setFrames fs, ?_, .returned (some (.int 1)), hrun, hended, rfl, ⟨_, rfl⟩, hW, hframe⟩
  jvm_step X.here [X.here.top, hx, hb, hdg, hmeth', hr, ret, narrow_b1]
  (try refine ⟨rfl, ?_⟩); (try refine ⟨rfl, ?_⟩)
  first | (intro acts; rw [hret _ acts rfl rfl rfl]) | rw [hret _ _ rfl rfl rfl]
  exact Steps.refl _
/-- what holds at the law's entry: the machine, the code, the tables' words (any of lw_tbl by 'hts w (by decide +kernel)'), the script of L ints xs at the cell b, what the Statement gives of the start (any of its parts by flat_of_before) -/
def lw_At (p : Program) (s : State) (m : MethodId) (meth : Method) (c : Code) (b L : Nat) (xs : Nat → Int32) : Prop :=
  p.tables.exec = Jvm.exec ∧ c.code = code ∧ meth.sig.returnType = ret ∧ c.maxLocals = 4 ∧ s.vm.findClass R_law = some m.cls ∧ (∀ w ∈ lw_tbl, w.before #[Value.ref b] s = true) ∧ va_X b L xs s s.heap ∧ b < s.heap.size ∧ meth.locks = false ∧ (Jvm.Cond.and given_1 narrow_1).before #[Value.ref b] s = true
set_option maxRecDepth 100000 in
set_option maxHeartbeats 8000000 in
/-- the law, from its entry, over a relation of the two memories that holds at first and is kept by every call -/
theorem law_start {Rel : Mm → Mm → Prop} (hst : Steps Rel) {N1 N2 : Mm} (hk1 : k_S1 = some N1) (hk2 : k_S2 = some N2) (hR : Rel N1 N2) {p : Program} {e : Env} {s : State} {m : MethodId} {below : List Frame} {meth : Method} {c : Code} (l : Launch) {b L : Nat} {xs : Nat → Int32} (hL : L ≤ 3072) (C0 : lw_At p s m meth c b L xs) : W p l e room_1 s m #[Value.ref b] below meth c s.heap [] 0 0 (lw_Z below #[Value.ref b] s) (entryFrame m ([Value.ref b] : List Value).toArray 4) := by
  obtain ⟨hx, hb, hr, hml, hown, hts, hX, hbl, hlocks, hgv⟩ := C0
  obtain ⟨G, hE⟩ := env_start hts hgv
  obtain ⟨X, hXe⟩ : ∃ X : wn_X, X = (p, l, e, room_1, s, m, #[Value.ref b], below, meth, c, 0, 0, lw_Z below #[Value.ref b] s, fun q => s.heap.size ≤ q) := ⟨_, rfl⟩
  have O : Oc G RL cL_law 4 1000 600000 7302250 X := by
    subst hXe
    exact ⟨hx, hb, hml, hown, fun w h => hts w (List.mem_filter.mp h).1, hE, hlocks, fun h => absurd rfl h, by decide, by decide, by decide, by decide, fun q h => h, fun h => absurd rfl h⟩
  have hOx : Ox X b L xs := by
    subst hXe
    exact ⟨hX, hbl, Nat.not_le.mpr hbl⟩
  have hend : ∀ (ad1 ad2 : Nat → Nat) (M1 M2 : Mm) (x : Int32), CW G X 969 (Lw b ad1 ad2 x) [] (wo G S1 ad1 M1 ++ wo G S2 ad2 M2) 53 7137 := by
    intro ad1 ad2 M1 M2 x
    refine c_iconst (pc := 969) (v := 1) O dL_law_969 (by decide) ?_
    subst hXe
    intro H locs ls hP hD hS hv
    refine va_forget (fun q hq => hS.2.2 q hq) ?_
    refine W.widen (k := 600000) (n := 7302250) (by decide) (by decide) ?_
    exact lw_ret hx hb hr hlocks dL_law_970
  have go : CW G X 0 [(0, .ref b)] [] [] 0 0 := by
    refine c_new (pc := 0) (C := RX5) (T := TX5) (N := 7) (ci := 5) [.null, .null, .int 0, .null, .null, .null, .null] tyX5 O dL_law_0 rfl wi_X5 tyX5_ok gx_L_7 gw_X5 gi_FirstOne fd_X5 (by decide) (by decide) (fun q1 => ?_)
    show CW G X 3 [(0, .ref b)] [.ref q1] [(q1, .inr (5, [.null, .null, .int 0, .null, .null, .null, .null]))] 1 7
    refine c_dup (pc := 3) O dL_law_3 rfl ?_
    refine c_ctor (pc := 4) (wr := []) (As := []) (rest := [.ref q1]) [] 0 O (sc_X5 q1 hk1) dL_law_4 mc_X5 lm_L_9 rfl rfl (by decide) (by decide) rfl rfl (Nat.le_of_ble_eq_true rfl) (by decide) (by decide) (by decide) (fun w1 hw1 => ?_)
    obtain ⟨ad1, had1, rfl⟩ := hw1
    subst had1
    show CW G X 7 [(0, .ref b)] [.ref (ad1 0)] (wo G S1 ad1 N1) 33 5689
    refine c_astore_n (pc := 7) (L' := [(1, .ref (ad1 0)), (0, .ref b)]) O dL_law_7 (by decide) rfl ?_
    refine c_new (pc := 8) (C := RX6) (T := TX6) (N := 52) (ci := 6) [.int 0, .null, .null, .int 0, .int 0, .null, .int 0, .int 0, .int 0, .null, .null, .null, .null, .int 0, .int 0, .int 0, .int 0, .int 0, .int 0, .int 0, .int 0, .int 0, .int 0, .int 0, .int 0, .int 0, .long 0, .int 0, .int 0, .int 0, .null, .null, .null, .null, .null, .null, .int 0, .int 0, .int 0, .int 0, .null, .int 0, .int 0, .null, .int 0, .int 0, .int 0, .int 0, .null, .null, .null, .null] tyX6 O dL_law_8 rfl wi_X6 tyX6_ok gx_L_10 gw_X6 gi_FirstOneModel fd_X6 (by decide) (by decide) (fun q2 => ?_)
    refine c_dup (pc := 11) O dL_law_11 rfl ?_
    refine c_ctor (pc := 12) (wr := wo G S1 ad1 N1) (As := []) (rest := [.ref q2]) [0, 1, 2, 3, 4, 5, 6, 7, 8, 9, 10, 11, 12, 13, 14, 15, 16, 17, 18, 19, 20, 21, 22, 23, 24, 25, 26, 27, 28, 29, 30, 31, 32] 33 O (sc_X6 q2 hk2) dL_law_12 mc_X6 lm_L_12 (by rw [wo_S1]; rfl) (by rw [wo_S1]; rfl) (by decide) (by decide) rfl rfl (Nat.le_of_ble_eq_true rfl) (by decide) (by decide) (by decide) (fun w1 hw1 => ?_)
    obtain ⟨ad2, had2, rfl⟩ := hw1
    subst had2
    show CW G X 15 [(1, .ref (ad1 0)), (0, .ref b)] [.ref (ad2 0)] (wo G S1 ad1 N1 ++ wo G S2 ad2 N2) 53 7137
    refine c_astore_n (pc := 15) (L' := [(2, .ref (ad2 0)), (1, .ref (ad1 0)), (0, .ref b)]) O dL_law_15 (by decide) rfl ?_
    refine c_iconst (pc := 16) (v := 0) O dL_law_16 (by decide) ?_
    refine c_istore_n (pc := 17) (L' := [(3, .int 0), (2, .ref (ad2 0)), (1, .ref (ad1 0)), (0, .ref b)]) O dL_law_17 (by decide) rfl ?_
    refine c_sub [3, 2, 1, 0] (L' := Lw b ad1 ad2 0) rfl ?_
    exact law_loop O hOx hL hst (hend ad1 ad2) (L + 1) 0 N1 N2 0 nI_0.symm (Nat.zero_le L) (by omega) hR
  have hl := lv_entry ([.ref b]) (n := 4) (Nat.le_of_ble_eq_true rfl)
  rw [lg_entry_eq]
  subst hXe
  exact go s.heap [] _ (fun k q h => by simp at h) ⟨fun i j p q h => by simp at h, fun k q h => by simp at h⟩ va_S.rf (by rw [hml]; exact hl)
