/-! ===== the law's own rows: two systems side by side ===== -/
section LROWS
variable {G : wn_G} {X : wn_X} {own : String} {cc : ByteArray} {nL d mc ms pc cells slots : Nat} {L L' : List (Nat × Value)} {st rest : List Value} {ws ws' : va_W}
theorem c_iload_n {k : Fin 4} {x : Int32} (O : Oc G own cc nL d mc ms X) (q : Nat) (hd : decode cc pc = .ok (.iload_n k, 1)) (hl : L[q]? = some (k.val, .int x)) (kk : CW G X (pc + 1) L (.int x :: st) ws cells slots) : CW G X pc L st ws cells slots := by
  obtain ⟨p, l, e, R, s, m, args, below, meth, c, c0, s0, Q, A⟩ := X
  obtain ⟨hx, hb, -⟩ := O
  exact fun H locs ls hP hD hS hv => lv_iload_n hx hb hd rfl (lv_at hv q hl) (kk H locs ls hP hD hS hv)
theorem c_istore_n {k : Fin 4} {x : Int32} (O : Oc G own cc nL d mc ms X) (hd : decode cc pc = .ok (.istore_n k, 1)) (hn : k.val < nL) (hl : (k.val, Value.int x) :: L.filter (fun q => !(q.1 == k.val) && !(q.1 + 1 == k.val && q.2.category == 2)) = L') (kk : CW G X (pc + 1) L' st ws cells slots) : CW G X pc L (.int x :: st) ws cells slots := by
  obtain ⟨p, l, e, R, s, m, args, below, meth, c, c0, s0, Q, A⟩ := X
  obtain ⟨hx, hb, hml, -⟩ := O
  exact fun H locs ls hP hD hS hv => lv_istore_n hx hb hd rfl hv (by rw [hml]; exact hn) hl (fun ls hv => kk H locs ls hP hD hS hv)
theorem c_astore_n {k : Fin 4} {x : Nat} (O : Oc G own cc nL d mc ms X) (hd : decode cc pc = .ok (.astore_n k, 1)) (hn : k.val < nL) (hl : (k.val, Value.ref x) :: L.filter (fun q => !(q.1 == k.val) && !(q.1 + 1 == k.val && q.2.category == 2)) = L') (kk : CW G X (pc + 1) L' st ws cells slots) : CW G X pc L (.ref x :: st) ws cells slots := by
  obtain ⟨p, l, e, R, s, m, args, below, meth, c, c0, s0, Q, A⟩ := X
  obtain ⟨hx, hb, hml, -⟩ := O
  exact fun H locs ls hP hD hS hv => lv_astore_n hx hb hd rfl hv (by rw [hml]; exact hn) hl (fun ls hv => kk H locs ls hP hD hS hv)
theorem c_iinc {i : Nat} {n : Int} {x y : Int32} (O : Oc G own cc nL d mc ms X) (q : Nat) (hd : decode cc pc = .ok (.iinc i n, 3)) (hq : L[q]? = some (i, .int x)) (hy : x + Int32.ofInt n = y) (hn : i < nL) (hl : (i, Value.int y) :: L.filter (fun q => !(q.1 == i) && !(q.1 + 1 == i && q.2.category == 2)) = L') (kk : CW G X (pc + 3) L' st ws cells slots) : CW G X pc L st ws cells slots := by
  obtain ⟨p, l, e, R, s, m, args, below, meth, c, c0, s0, Q, A⟩ := X
  obtain ⟨hx, hb, hml, -⟩ := O
  exact fun H locs ls hP hD hS hv => lv_iinc hx hb hd hv hq hy (by rw [hml]; exact hn) hl (fun ls hv => kk H locs ls hP hD hS hv)
theorem c_iadd {x y : Int32} (O : Oc G own cc nL d mc ms X) (hd : decode cc pc = .ok (.iadd, 1)) (kk : CW G X (pc + 1) L (.int (x + y) :: st) ws cells slots) : CW G X pc L (.int y :: .int x :: st) ws cells slots := by
  obtain ⟨p, l, e, R, s, m, args, below, meth, c, c0, s0, Q, A⟩ := X
  obtain ⟨hx, hb, -⟩ := O
  exact fun H locs ls hP hD hS hv => lv_iadd hx hb hd (kk H locs ls hP hD hS hv)
theorem c_isub {x y : Int32} (O : Oc G own cc nL d mc ms X) (hd : decode cc pc = .ok (.isub, 1)) (kk : CW G X (pc + 1) L (.int (x - y) :: st) ws cells slots) : CW G X pc L (.int y :: .int x :: st) ws cells slots := by
  obtain ⟨p, l, e, R, s, m, args, below, meth, c, c0, s0, Q, A⟩ := X
  obtain ⟨hx, hb, -⟩ := O
  exact fun H locs ls hP hD hS hv => lv_isub hx hb hd (kk H locs ls hP hD hS hv)
theorem c_iand {x y : Int32} (O : Oc G own cc nL d mc ms X) (hd : decode cc pc = .ok (.iand, 1)) (kk : CW G X (pc + 1) L (.int (x &&& y) :: st) ws cells slots) : CW G X pc L (.int y :: .int x :: st) ws cells slots := by
  obtain ⟨p, l, e, R, s, m, args, below, meth, c, c0, s0, Q, A⟩ := X
  obtain ⟨hx, hb, -⟩ := O
  exact fun H locs ls hP hD hS hv => lv_iand hx hb hd (kk H locs ls hP hD hS hv)
theorem c_goto {off : Int} {tgt : Nat} (O : Oc G own cc nL d mc ms X) (hd : decode cc pc = .ok (.goto off, 3)) (ht : (pc : Int) + off = (tgt : Int)) (kk : CW G X tgt L st ws cells slots) : CW G X pc L st ws cells slots := by
  obtain ⟨p, l, e, R, s, m, args, below, meth, c, c0, s0, Q, A⟩ := X
  obtain ⟨hx, hb, -⟩ := O
  exact fun H locs ls hP hD hS hv => lv_goto hx hb hd ht (kk H locs ls hP hD hS hv)
theorem c_gt {x y : Int32} {off : Int} {tgt : Nat} (O : Oc G own cc nL d mc ms X) (hd : decode cc pc = .ok (.if_icmp .gt off, 3)) (ht : (pc : Int) + off = (tgt : Int)) (kt : y < x → CW G X tgt L st ws cells slots) (kf : ¬ y < x → CW G X (pc + 3) L st ws cells slots) : CW G X pc L (.int y :: .int x :: st) ws cells slots := by
  obtain ⟨p, l, e, R, s, m, args, below, meth, c, c0, s0, Q, A⟩ := X
  obtain ⟨hx, hb, -⟩ := O
  exact fun H locs ls hP hD hS hv => lv_icmp_gt hx hb hd ht (fun h => kt h H locs ls hP hD hS hv) (fun h => kf h H locs ls hP hD hS hv)
theorem c_same {x : Int32} {off : Int} {tgt : Nat} (O : Oc G own cc nL d mc ms X) (hd : decode cc pc = .ok (.if_icmp .eq off, 3)) (ht : (pc : Int) + off = (tgt : Int)) (kt : CW G X tgt L st ws cells slots) : CW G X pc L (.int x :: .int x :: st) ws cells slots := by
  obtain ⟨p, l, e, R, s, m, args, below, meth, c, c0, s0, Q, A⟩ := X
  obtain ⟨hx, hb, -⟩ := O
  exact fun H locs ls hP hD hS hv => lv_icmp_eq hx hb hd ht (fun _ => kt H locs ls hP hD hS hv) (fun h => absurd rfl h)
theorem c_samel {x : Int64} {off : Int} {tgt : Nat} (O : Oc G own cc nL d mc ms X) (hd0 : decode cc pc = .ok (.lcmp, 1)) (hd : decode cc (pc + 1) = .ok (.ifCond .eq off, 3)) (ht : ((pc + 1 : Nat) : Int) + off = (tgt : Int)) (kt : CW G X tgt L st ws cells slots) : CW G X pc L (.long x :: .long x :: st) ws cells slots := by
  obtain ⟨p, l, e, R, s, m, args, below, meth, c, c0, s0, Q, A⟩ := X
  obtain ⟨hx, hb, -⟩ := O
  have e : lg_cmp x x = 0 := by simp [lg_cmp]
  exact fun H locs ls hP hD hS hv => W.lcmp hx hb hd0 (lv_if_eq hx hb hd ht (fun _ => kt H locs ls hP hD hS hv) (fun h => absurd e h))
theorem c_tin {dflt lo hi : Int} {offs : Array Int} {len : Nat} {x : Int32} {off : Int} {tgt : Nat} (O : Oc G own cc nL d mc ms X) (hd : decode cc pc = .ok (.tableswitch dflt lo hi offs, len)) (h1 : ¬ x.toInt < lo) (h2 : ¬ hi < x.toInt) (ho : offs[(x.toInt - lo).toNat]? = some off) (ht : (pc : Int) + off = (tgt : Int)) (k : CW G X tgt L st ws cells slots) : CW G X pc L (.int x :: st) ws cells slots := by
  obtain ⟨p, l, e, R, s, m, args, below, meth, c, c0, s0, Q, A⟩ := X
  obtain ⟨hx, hb, -⟩ := O
  exact fun H locs ls hP hD hS hv => lv_tableIn hx hb hd h1 h2 ho ht (k H locs ls hP hD hS hv)
theorem c_tout {dflt lo hi : Int} {offs : Array Int} {len : Nat} {x : Int32} {tgt : Nat} (O : Oc G own cc nL d mc ms X) (hd : decode cc pc = .ok (.tableswitch dflt lo hi offs, len)) (h : x.toInt < lo ∨ hi < x.toInt) (ht : (pc : Int) + dflt = (tgt : Int)) (k : CW G X tgt L st ws cells slots) : CW G X pc L (.int x :: st) ws cells slots := by
  obtain ⟨p, l, e, R, s, m, args, below, meth, c, c0, s0, Q, A⟩ := X
  obtain ⟨hx, hb, -⟩ := O
  exact fun H locs ls hP hD hS hv => lv_tableOut hx hb hd h ht (k H locs ls hP hD hS hv)
/-- the script, which no cell of the world is -/
def Ox (X : wn_X) (b n : Nat) (xs : Nat → Int32) : Prop := match X with
  | (_, _, _, _, s, _, _, _, _, _, _, _, _, A) => va_X b n xs s s.heap ∧ b < s.heap.size ∧ ¬ A b
theorem c_slen {b n : Nat} {xs : Nat → Int32} (O : Oc G own cc nL d mc ms X) (hX : Ox X b n xs) (hd : decode cc pc = .ok (.arraylength, 1)) (kk : CW G X (pc + 1) L (.int (nI n) :: st) ws cells slots) : CW G X pc L (.ref b :: st) ws cells slots := by
  obtain ⟨p, l, e, R, s, m, args, below, meth, c, c0, s0, Q, A⟩ := X
  obtain ⟨hx, hb, -⟩ := O
  obtain ⟨h1, h2, h3⟩ := hX
  exact fun H locs ls hP hD hS hv => va_slen hx hb h1 h2 h3 hS hd (kk H locs ls hP hD hS hv)
theorem c_sld {b n : Nat} {xs : Nat → Int32} {i : Int32} (O : Oc G own cc nL d mc ms X) (hX : Ox X b n xs) (hi : vp_in i n) (hd : decode cc pc = .ok (.iaload, 1)) (kk : CW G X (pc + 1) L (.int (xs i.toNatClampNeg) :: st) ws cells slots) : CW G X pc L (.int i :: .ref b :: st) ws cells slots := by
  obtain ⟨p, l, e, R, s, m, args, below, meth, c, c0, s0, Q, A⟩ := X
  obtain ⟨hx, hb, -⟩ := O
  obtain ⟨h1, h2, h3⟩ := hX
  exact fun H locs ls hP hD hS hv => va_sld hx hb h1 h2 h3 hS hi hd (kk H locs ls hP hD hS hv)
theorem c_sub (ks : List Nat) (hl : lv_pick L ks = L') (h : CW G X pc L' st ws cells slots) : CW G X pc L st ws cells slots := by
  obtain ⟨p, l, e, R, s, m, args, below, meth, c, c0, s0, Q, A⟩ := X
  exact fun H locs ls hP hD hS hv => h H locs ls hP hD hS (lv_sub hv ks hl)
theorem c_perm (is : List Nat) (hnd : va_nd is = true) (hs : is.map (fun i => ws[i]?) = ws'.map some) (h : CW G X pc L st ws' cells slots) : CW G X pc L st ws cells slots := by
  obtain ⟨p, l, e, R, s, m, args, below, meth, c, c0, s0, Q, A⟩ := X
  exact fun H locs ls hP hD hS hv => h H locs ls (fun k q hk => by
    obtain ⟨i, hi⟩ := pick_at hs k q hk
    exact hP i q hi) (hD.sub is hnd hs) hS hv
/-! a world in three parts -/
theorem va_D_fst {A : Nat → Prop} {w w' : va_W} (e : w.map (fun q => q.1) = w'.map (fun q => q.1)) (h : va_D A w) : va_D A w' := by
  have key : ∀ (k : Nat) (q : Nat × va_E), w'[k]? = some q → ∃ q0, w[k]? = some q0 ∧ q0.1 = q.1 := by
    intro k q hk
    have h1 : (w.map (fun q => q.1))[k]? = some q.1 := by rw [e, List.getElem?_map, hk]; rfl
    rw [List.getElem?_map] at h1
    cases hw : w[k]? with
    | none => rw [hw] at h1; cases h1
    | some q0 => rw [hw] at h1; exact ⟨q0, rfl, Option.some.inj h1⟩
  refine ⟨fun i j p q hi hj hpq => ?_, fun k q hk => ?_⟩
  · obtain ⟨p0, h1, h2⟩ := key i p hi
    obtain ⟨q0, h3, h4⟩ := key j q hj
    exact h.1 i j p0 q0 h1 h3 (by rw [h2, h4]; exact hpq)
  · obtain ⟨q0, h1, h2⟩ := key k q hk
    rw [← h2]
    exact h.2 k q0 h1
theorem wo_fst {S : wn_S} {ad : Nat → Nat} {M M' : Mm} : (wo G S ad M).map (fun q => q.1) = (wo G S ad M').map (fun q => q.1) := by
  refine List.ext_getElem? fun i => ?_
  rw [List.getElem?_map, List.getElem?_map, wo_get, wo_get]
  cases S[i]? <;> rfl
/-- a virtual call of the law on the object 0 of a system that is a part of the world -/
theorem c_callV {S : wn_S} {ad : Nat → Nat} {M M0 : Mm} {mt : wn_M} {dc n index ci nn : Nat} {fk : List Nat} {As : List Value} {ro : Option Value} {wl wr : va_W} (O : Oc G own cc nL d mc ms X) (hs : Sp G S ad mt dc (.ref (ad 0) :: As) M M0 ro) (hd : decode cc pc = .ok (.invokevirtual index, 3)) (hm : MV mt ci n) (hl : LM own index mt.1) (ho : S[0]? = some (ci + 2, nn, fk)) (hn : As.length = n) (hst : st = As.reverse ++ .ref (ad 0) :: rest) (hcat : (rest.map fun v => v.category).sum ≤ 8) (hdc : dc + 1 ≤ d) (hcc : cells ≤ mc) (hss : slots ≤ ms)
    (kk : CW G X (pc + 3) L (ro.toList ++ rest) (wl ++ (wo G S ad M0 ++ wr)) cells slots) : CW G X pc L st (wl ++ (wo G S ad M ++ wr)) cells slots := by
  subst hst
  obtain ⟨p, l, e, R, s, m, args, below, meth, c, c0, s0, Q, A⟩ := X
  obtain ⟨hx, hb, hml, hown, hts, hE, hlk, hnm, hfr, hlo, hmc, hms, hA, hr⟩ := O
  intro H locs ls hP hD hS hv
  obtain ⟨⟨hcode, hini, hne, hpar, hnl⟩, hinst, hsel, T, N, hcl⟩ := hm
  have atM : ∀ (k : Nat) (q : Nat × va_E), (wo G S ad M)[k]? = some q → (wl ++ (wo G S ad M ++ wr))[wl.length + k]? = some q := by
    intro k q hk
    have hlt := (List.getElem?_eq_some_iff.mp hk).1
    rw [List.getElem?_append_right (by omega), Nat.add_sub_cancel_left, List.getElem?_append_left hlt]
    exact hk
  have hPc : va_P (gD G) vwCl (wo G S ad M) H := fun k q hk => hP _ q (atM k q hk)
  have hDc : va_D A (wo G S ad M) := ⟨fun i j a b hi hj hab => by
    have := hD.1 _ _ a b (atM i a hi) (atM j b hj) hab
    omega, fun k q hk => hD.2 _ q (atM k q hk)⟩
  have hAB : ∀ q, va_A (wo G S ad M) H.size q → A q := fun q h => by
    rcases h with ⟨k, ee, h⟩ | h
    · exact hDc.2 k (q, ee) h
    · exact hA q (Nat.le_trans hS.1 h)
  have hPre : ∀ U : State, U.heap = H → s.WarmedH U.vm → Ps G S ad M H.size (.ref (ad 0) :: As) (Value.ref (ad 0) :: As).toArray U := fun U hU hW =>
    ⟨rfl, by rw [hU], by rw [hU]; exact hPc, hDc.weaken (fun _ _ _ _ => trivial), hE.call hW (fun a h1 h2 => by rw [hU]; exact hS.2.1 a h1 h2) hAB⟩
  have hrecv : ∃ cellB : Cell, H[ad 0]? = some cellB ∧ cellB.vm.isStatics = false ∧ s.vm.findClass mt.1.cls = some cellB.cls := va_recv hE.1 hPc hcl (wo_at (G := G) (ad := ad) (M := M) ho)
  have hR : (rmd dc).frames + 1 ≤ R.frames ∧ 8 + (mt.2.2.1 + 11) + (rmd dc).locals ≤ R.locals := ⟨by show dc + 1 ≤ _; omega, by show 8 + (mt.2.2.1 + 11) + 64 * dc ≤ _; omega⟩
  have out : ∀ (i : Nat) (q : Nat × va_E), (wl ++ (wo G S ad M ++ wr))[i]? = some q → (i < wl.length ∨ wl.length + (wo G S ad M).length ≤ i) → ¬ va_A (wo G S ad M) H.size q.1 := by
    intro i q hi hout hq
    rcases hq with ⟨k, ee, hk⟩ | hk
    · have hlt := (List.getElem?_eq_some_iff.mp hk).1
      have := hD.1 _ _ q (q.1, ee) hi (atM k _ hk) rfl
      omega
    · have := (hP i q hi).lt
      omega
  have hlen : (wo G S ad M).length = (wo G S ad M0).length := by
    have := congrArg List.length (wo_fst (G := G) (S := S) (ad := ad) (M := M) (M' := M0))
    simpa using this
  have hK : ∀ (H1 : Heap) (locs1 : List Loc), va_P (gD G) vwCl (wo G S ad M0) H1 → H.size ≤ H1.size → (∀ q : Nat, q < H.size → ¬ va_A (wo G S ad M) H.size q → H1[q]? = H[q]?) → va_S A s.heap H1 locs1 → W p l e R s m args below meth c H1 locs1 cells slots Q (F0 m (pc + 3) ls (ro.toList ++ rest)) := by
    intro H1 locs1 hP1 _ hk hS1
    refine kk H1 locs1 ls (fun i q hi => ?_) (va_D_fst (by rw [List.map_append, List.map_append, List.map_append, List.map_append, wo_fst (M := M) (M' := M0)]) hD) hS1 hv
    by_cases h1 : i < wl.length
    · rw [List.getElem?_append_left h1] at hi
      have h2 : (wl ++ (wo G S ad M ++ wr))[i]? = some q := by rw [List.getElem?_append_left h1]; exact hi
      exact (hP i q h2).kept (hk q.1 (hP i q h2).lt (out i q h2 (Or.inl h1)))
    · rw [List.getElem?_append_right (by omega)] at hi
      by_cases h3 : i - wl.length < (wo G S ad M0).length
      · rw [List.getElem?_append_left h3] at hi
        exact hP1 _ q hi
      · rw [List.getElem?_append_right (by omega)] at hi
        have h2 : (wl ++ (wo G S ad M ++ wr))[i]? = some q := by
          rw [List.getElem?_append_right (by omega), List.getElem?_append_right (by omega), hlen]
          exact hi
        exact (hP i q h2).kept (hk q.1 (hP i q h2).lt (out i q h2 (Or.inr (by omega))))
  have hce : cells ≤ R.cells := Nat.le_trans hcc hmc
  have hsl : slots ≤ R.slots := Nat.le_trans hss hms
  rcases hl with hl | hl
  · have cb : CallB R s args own index mt.1 mt.2.1 mt.2.2.1 mt.2.2.2 (wy mt) (rmd dc) 0 0 n := callB_of n hts (good_wy hcode) rfl rfl rfl (hts _ hini) (hts _ hl) ⟨hne.1, hne.2, hpar⟩ hR
    exact w_call (va_runV (C := mt.1.cls) (Ts := gw) ⟨hx, hb, hml, hown, hts⟩ (hs l H.size) ⟨cb, hts _ hinst, hts _ hsel⟩ ⟨ps_blind, hrecv, hPre⟩ rfl hn (hv.1.trans hml) rfl (lv_room hcat) hd ⟨hce, hsl⟩) hS hAB hK
  · have cb : va_CN R s args own index mt.1 RX5 mt.2.1 mt.2.2.1 mt.2.2.2 (wy mt) (rmd dc) 0 0 n := va_cnB n hts (good_wy hcode) rfl rfl rfl (hE.2.1 _ hl) (hts _ hini) ⟨hne.1, hne.2, hpar⟩ hR
    exact w_call (va_runVN (C := mt.1.cls) (Ts := gw) ⟨hx, hb, hml, hown, hts⟩ (hs l H.size) ⟨cb, hts _ hinst, hts _ hsel⟩ ⟨ps_blind, hrecv, hPre⟩ rfl hn (hv.1.trans hml) rfl (lv_room hcat) hd ⟨hce, hsl⟩) hS hAB hK
/-- index arithmetic of the script -/
theorem ix_in {i j n : Nat} {x : Int32} (hx : x = nI i) (h : i + j < n) (hn : n < 2 ^ 31) : vp_in (x + nI j) n ∧ (x + nI j).toNatClampNeg = i + j := by
  subst hx
  rw [nI_add]
  exact ⟨vp_in_nI h hn, nI_clamp (by omega)⟩
end LROWS
