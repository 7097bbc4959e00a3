/-! ===== String constants: length and charAt, walked through the JDK's own methods ===== -/
def fuel : Nat := 5000
def recs : Nat := 100
abbrev Kri (G : wn_G) (S : wn_S) (ad : Nat → Nat) (X : wn_X) : Int32 × Mm → Prop := fun z => Tg G S ad X (some .int) z.2 (some (.int z.1))
abbrev Krz (G : wn_G) (S : wn_S) (ad : Nat → Nat) (X : wn_X) : Int32 × Mm → Prop := fun z => Tg G S ad X (some .boolean) z.2 (some (.int z.1))
abbrev Krl (G : wn_G) (S : wn_S) (ad : Nat → Nat) (X : wn_X) : Int64 × Mm → Prop := fun z => Tg G S ad X (some .long) z.2 (some (.long z.1))
abbrev Krv (G : wn_G) (S : wn_S) (ad : Nat → Nat) (X : wn_X) : Mm → Prop := fun z => Tg G S ad X none z none
abbrev Krs (G : wn_G) (S : wn_S) (ad : Nat → Nat) (X : wn_X) : Nat × Mm → Prop := fun z => Tg G S ad X (some (.object "java/lang/String")) z.2 (some (.ref (gK G z.1)))
def sln (i : Nat) : Int32 := Int32.ofNat (sLen.getD i 0)
def sch (i : Nat) (k : Int32) : Int32 := ((((sByt.getD i []).getD k.toNatClampNeg 0) &&& 255).toUInt32 % 65536).toInt32
section STRS
variable {ρ : Type} {G : wn_G} {S : wn_S} {ad : Nat → Nat} {X : wn_X} {own : String} {cc : ByteArray} {nL d pc : Nat} {L : List (Nat × Value)} {st rest : List Value} {M M0 : Mm} {t : Option ρ} {K : ρ → Prop}
theorem pw_tret {ty : FieldType} {v : Int32} (O : Ok G own cc nL d X) (T : Tg G S ad X (some ty) M (some (.int v))) (hn : narrow ty (.int v) = .int v) (hd : decode cc pc = .ok (.ireturn, 1)) : PW G S ad X pc L [.int v] M := by
  obtain ⟨p, l, e, R, s, m, args, below, meth, c, cells, slots, Q, A⟩ := X
  obtain ⟨hx, hb, hml, hown, hts, hE, hlk, hfr, hlo, hce, hsl, hA⟩ := O
  obtain ⟨hr, hQ⟩ := T
  intro H locs ls hP hD hS hv
  rw [hQ]
  exact W.zret hx hb hr hn (fun t ht _ => ⟨rfl, by rw [ht]; exact hP, hS.F ht⟩) hS.2.2 hd hlk
theorem jw_none : JW G S ad X pc L st M (none : Option ρ) K := fun z h => by cases h
theorem jw_itf {c : Prop} {hc : Decidable c} {t1 t2 : Option ρ} (h : ¬ c) (k : JW G S ad X pc L st M (@ite _ c hc t1 t2) K) : JW G S ad X pc L st M t2 K := by rw [if_neg h] at k; exact k
theorem jw_itt {c : Prop} {hc : Decidable c} {t1 t2 : Option ρ} (h : c) (k : JW G S ad X pc L st M (@ite _ c hc t1 t2) K) : JW G S ad X pc L st M t1 K := by rw [if_pos h] at k; exact k
theorem j_compact {index : Nat} (O : Ok G own cc nL d X) (hd : decode cc pc = .ok (.getstatic index, 3)) (hw : Cond.fieldLink own index "java/lang/String" "COMPACT_STRINGS" "Z" ∈ gw) (kk : JW G S ad X (pc + 3) L (.int 1 :: st) M t K) : JW G S ad X pc L st M t K := by
  obtain ⟨p, l, e, R, s, m, args, below, meth, c, cells, slots, Q, A⟩ := X
  obtain ⟨hx, hb, hml, hown, hts, hE, hlk, hfr, hlo, hce, hsl, hA⟩ := O
  intro z hz hK H locs ls hP hD hS hv
  exact va_gets hx hb hE.2.2.2.2.2.2.1 hS hown (hts _ hw) (fun _ h => h) hd (kk z hz hK H locs ls hP hD hS hv)
theorem j_fmtq {index : Nat} (O : Ok G own cc nL d X) (hd : decode cc pc = .ok (.getstatic index, 3)) (hw : Cond.fieldLink own index "jdk/internal/util/Preconditions" "SIOOBE_FORMATTER" "Ljava/util/function/BiFunction;" ∈ gw) (kk : ∀ q : Value, q.category = 1 → JW G S ad X (pc + 3) L (q :: st) M t K) : JW G S ad X pc L st M t K := by
  obtain ⟨p, l, e, R, s, m, args, below, meth, c, cells, slots, Q, A⟩ := X
  obtain ⟨hx, hb, hml, hown, hts, hE, hlk, hfr, hlo, hce, hsl, hA⟩ := O
  intro z hz hK H locs ls hP hD hS hv
  rcases hE.2.2.2.2.2.2.2 with h | ⟨q, h⟩
  · exact va_gets hx hb h hS hown (hts _ hw) (fun _ h => h) hd (kk _ rfl z hz hK H locs ls hP hD hS hv)
  · exact va_gets hx hb h hS hown (hts _ hw) (fun _ h => h) hd (kk _ rfl z hz hK H locs ls hP hD hS hv)
theorem j_scoder {i index : Nat} (O : Ok G own cc nL d X) (hi : i < 13) (hd : decode cc pc = .ok (.getfield index, 3)) (hw : Cond.fieldLink own index "java/lang/String" "coder" "B" ∈ gw) (kk : JW G S ad X (pc + 3) L (.int 0 :: st) M t K) : JW G S ad X pc L (.ref (gK G i) :: st) M t K := by
  obtain ⟨p, l, e, R, s, m, args, below, meth, c, cells, slots, Q, A⟩ := X
  obtain ⟨hx, hb, hml, hown, hts, hE, hlk, hfr, hlo, hce, hsl, hA⟩ := O
  intro z hz hK H locs ls hP hD hS hv
  exact vk_getf hx hb (hE.2.2.1.1 i hi).2.1 hS hown (hts _ hw) (fun _ h => h) hd (kk z hz hK H locs ls hP hD hS hv)
theorem j_svalue {i index : Nat} (O : Ok G own cc nL d X) (hi : i < 13) (hd : decode cc pc = .ok (.getfield index, 3)) (hw : Cond.fieldLink own index "java/lang/String" "value" "[B" ∈ gw) (kk : JW G S ad X (pc + 3) L (.ref (gV G i) :: st) M t K) : JW G S ad X pc L (.ref (gK G i) :: st) M t K := by
  obtain ⟨p, l, e, R, s, m, args, below, meth, c, cells, slots, Q, A⟩ := X
  obtain ⟨hx, hb, hml, hown, hts, hE, hlk, hfr, hlo, hce, hsl, hA⟩ := O
  intro z hz hK H locs ls hP hD hS hv
  exact vk_getf hx hb (hE.2.2.1.1 i hi).2.2.1 hS hown (hts _ hw) (fun _ h => h) hd (kk z hz hK H locs ls hP hD hS hv)
theorem j_sblen {i : Nat} (O : Ok G own cc nL d X) (hi : i < 13) (hd : decode cc pc = .ok (.arraylength, 1)) (kk : JW G S ad X (pc + 1) L (.int (sln i) :: st) M t K) : JW G S ad X pc L (.ref (gV G i) :: st) M t K := by
  obtain ⟨p, l, e, R, s, m, args, below, meth, c, cells, slots, Q, A⟩ := X
  obtain ⟨hx, hb, hml, hown, hts, hE, hlk, hfr, hlo, hce, hsl, hA⟩ := O
  intro z hz hK H locs ls hP hD hS hv
  exact va_tlen hx hb (hE.2.2.1.1 i hi).2.2.2 hS rfl hd (kk z hz hK H locs ls hP hD hS hv)
theorem j_sbald {i : Nat} {k : Int32} (O : Ok G own cc nL d X) (hi : i < 13) (hk : bin k (sLen.getD i 0) = true) (hd : decode cc pc = .ok (.baload, 1)) (kk : JW G S ad X (pc + 1) L (.int ((sByt.getD i []).getD k.toNatClampNeg 0) :: st) M t K) : JW G S ad X pc L (.int k :: .ref (gV G i) :: st) M t K := by
  obtain ⟨p, l, e, R, s, m, args, below, meth, c, cells, slots, Q, A⟩ := X
  obtain ⟨hx, hb, hml, hown, hts, hE, hlk, hfr, hlo, hce, hsl, hA⟩ := O
  intro z hz hK H locs ls hP hD hS hv
  exact va_tb hx hb (hE.2.2.1.1 i hi).2.2.2 hS (bin_in hk) rfl hd (kk z hz hK H locs ls hP hD hS hv)
theorem j_i2c {x : Int32} (O : Ok G own cc nL d X) (hd : decode cc pc = .ok (.i2c, 1)) (kk : JW G S ad X (pc + 1) L (.int (x.toUInt32 % 65536).toInt32 :: st) M t K) : JW G S ad X pc L (.int x :: st) M t K := by
  obtain ⟨p, l, e, R, s, m, args, below, meth, c, cells, slots, Q, A⟩ := X
  obtain ⟨hx, hb, hml, hown, hts, hE, hlk, hfr, hlo, hce, hsl, hA⟩ := O
  intro z hz hK H locs ls hP hD hS hv
  exact lv_i2c hx hb hd rfl (kk z hz hK H locs ls hP hD hS hv)
theorem j_ishr {x y : Int32} (O : Ok G own cc nL d X) (hd : decode cc pc = .ok (.ishr, 1)) (kk : JW G S ad X (pc + 1) L (.int (x >>> (y &&& 31)) :: st) M t K) : JW G S ad X pc L (.int y :: .int x :: st) M t K := by
  obtain ⟨p, l, e, R, s, m, args, below, meth, c, cells, slots, Q, A⟩ := X
  obtain ⟨hx, hb, hml, hown, hts, hE, hlk, hfr, hlo, hce, hsl, hA⟩ := O
  intro z hz hK H locs ls hP hD hS hv
  exact lv_ishr hx hb hd (kk z hz hK H locs ls hP hD hS hv)
/-- a virtual call on a String constant; the callee has no world -/
theorem p_callK {mt : wn_M} {dc n index i : Nat} {As : List Value} {ro : Option Value} {ad2 : Nat → Nat} (O : Ok G own cc nL d X) (hs : Sp G [] ad2 mt dc (.ref (gK G i) :: As) M M ro) (hi : i < 13) (hd : decode cc pc = .ok (.invokevirtual index, 3)) (hm : MO mt n ∧ Cond.instanceMethod mt.1 ∈ gw ∧ Cond.selects mt.1.cls mt.1 mt.1 ∈ gw ∧ mt.1.cls = "java/lang/String") (hl : LM own index mt.1) (hn : As.length = n) (hst : st = As.reverse ++ .ref (gK G i) :: rest) (hcat : (rest.map fun v => v.category).sum ≤ 8) (hdc : dc + 1 ≤ d)
    (kk : PW G S ad X (pc + 3) L (ro.toList ++ rest) M) : PW G S ad X pc L st M := by
  subst hst
  obtain ⟨p, l, e, R, s, m, args, below, meth, c, cells, slots, Q, A⟩ := X
  obtain ⟨hx, hb, hml, hown, hts, hE, hlk, hfr, hlo, hce, hsl, hA⟩ := O
  intro H locs ls hP hD hS hv
  obtain ⟨⟨hcode, hini, hne, hpar, hnl⟩, hinst, hsel, hcls⟩ := hm
  have hAB : ∀ q, va_A (wo G [] ad2 M) H.size q → A q := fun q h => by
    rcases h with ⟨k, ee, h⟩ | h
    · simp [wo_get] at h
    · exact hA q (Nat.le_trans hS.1 h)
  have hPc : ∀ U : State, U.heap = H → s.WarmedH U.vm → Ps G [] ad2 M H.size (.ref (gK G i) :: As) (Value.ref (gK G i) :: As).toArray U := fun U hU hW =>
    ⟨rfl, by rw [hU], fun k q h => by simp [wo_get] at h, ⟨fun a b p q h => by simp [wo_get] at h, fun k q h => by simp [wo_get] at h⟩, hE.call hW (fun a h1 h2 => by rw [hU]; exact hS.2.1 a h1 h2) hAB⟩
  have hrecv : ∃ cellB : Cell, H[gK G i]? = some cellB ∧ cellB.vm.isStatics = false ∧ s.vm.findClass mt.1.cls = some cellB.cls := by rw [hcls]; exact vk_recv hE.2.2.1 hi hS
  have hR : (rmd dc).frames + 1 ≤ R.frames ∧ 8 + (mt.2.2.1 + 11) + (rmd dc).locals ≤ R.locals := ⟨by show dc + 1 ≤ _; omega, by show 8 + (mt.2.2.1 + 11) + 64 * dc ≤ _; omega⟩
  have hK : ∀ (H1 : Heap) (locs1 : List Loc), va_P (gD G) vwCl (wo G [] ad2 M) H1 → H.size ≤ H1.size → (∀ q : Nat, q < H.size → ¬ va_A (wo G [] ad2 M) H.size q → H1[q]? = H[q]?) → va_S A s.heap H1 locs1 → W p l e R s m args below meth c H1 locs1 cells slots Q (F0 m (pc + 3) ls (ro.toList ++ rest)) :=
    fun H1 locs1 _ _ hk hS1 => kk H1 locs1 ls (hP.kept fun k q hq => by
      have hlt := (hP k q hq).lt
      exact hk q.1 hlt (fun z => by
        rcases z with ⟨k, ee, z⟩ | z
        · simp [wo_get] at z
        · omega)) hD hS1 hv
  rcases hl with hl | hl
  · have cb : CallB R s args own index mt.1 mt.2.1 mt.2.2.1 mt.2.2.2 (wy mt) (rmd dc) 0 0 n := callB_of n hts (good_wy hcode) rfl rfl rfl (hts _ hini) (hts _ hl) ⟨hne.1, hne.2, hpar⟩ hR
    exact w_call (va_runV (C := mt.1.cls) (Ts := gw) ⟨hx, hb, hml, hown, hts⟩ (hs l H.size) ⟨cb, hts _ hinst, hts _ hsel⟩ ⟨ps_blind, hrecv, hPc⟩ rfl hn (hv.1.trans hml) rfl (lv_room hcat) hd ⟨hce, hsl⟩) hS hAB hK
  · have cb : va_CN R s args own index mt.1 RX5 mt.2.1 mt.2.2.1 mt.2.2.2 (wy mt) (rmd dc) 0 0 n := va_cnB n hts (good_wy hcode) rfl rfl rfl (hE.2.1 _ hl) (hts _ hini) ⟨hne.1, hne.2, hpar⟩ hR
    exact w_call (va_runVN (C := mt.1.cls) (Ts := gw) ⟨hx, hb, hml, hown, hts⟩ (hs l H.size) ⟨cb, hts _ hinst, hts _ hsel⟩ ⟨ps_blind, hrecv, hPc⟩ rfl hn (hv.1.trans hml) rfl (lv_room hcat) hd ⟨hce, hsl⟩) hS hAB hK
theorem t_coder {i : Nat} (hi : i < 13) : Sp G [] ad mJ0_coder_7d493 1 [.ref (gK G i)] M M (some (.int 0)) := by
  refine sp_intro (own := RJ0) (by decide +kernel) rfl (Nat.le_of_ble_eq_true rfl) (fun X O T => ?_)
  have h : JW G [] ad X 0 [(0, .ref (gK G i))] [] M (some ()) (fun _ => True) := by
    refine j_compact (pc := 0) O dJ0_coder_7d493_0 gf_J0_38 ?_
    refine jw_itf (hc := inferInstance) (t1 := none) (by decide) (j_if_eq (pc := 3) (tgt := 13) O dJ0_coder_7d493_3 (by decide) jw_none ?_)
    refine j_aload_n (pc := 6) O 0 dJ0_coder_7d493_6 rfl ?_
    refine j_scoder (pc := 7) O hi dJ0_coder_7d493_7 gf_J0_15 ?_
    refine j_goto (pc := 10) (tgt := 14) O dJ0_coder_7d493_10 (by decide) ?_
    exact jw_pw fun _ => pw_tret (pc := 14) O T rfl dJ0_coder_7d493_14
  exact h () rfl trivial
theorem t_isLatin1 {i : Nat} (hi : i < 13) : Sp G [] ad mJ0_isLatin1_aae02 1 [.ref (gK G i)] M M (some (.int 1)) := by
  refine sp_intro (own := RJ0) (by decide +kernel) rfl (Nat.le_of_ble_eq_true rfl) (fun X O T => ?_)
  have h : JW G [] ad X 0 [(0, .ref (gK G i))] [] M (some ()) (fun _ => True) := by
    refine j_compact (pc := 0) O dJ0_isLatin1_aae02_0 gf_J0_38 ?_
    refine jw_itf (hc := inferInstance) (t1 := none) (by decide) (j_if_eq (pc := 3) (tgt := 17) O dJ0_isLatin1_aae02_3 (by decide) jw_none ?_)
    refine j_aload_n (pc := 6) O 0 dJ0_isLatin1_aae02_6 rfl ?_
    refine j_scoder (pc := 7) O hi dJ0_isLatin1_aae02_7 gf_J0_15 ?_
    refine jw_itt (hc := inferInstance) (t2 := none) rfl (j_if_ne (pc := 10) (tgt := 17) O dJ0_isLatin1_aae02_10 (by decide) ?_ jw_none)
    refine j_iconst (pc := 13) (v := 1) O dJ0_isLatin1_aae02_13 (by decide) ?_
    refine j_goto (pc := 14) (tgt := 18) O dJ0_isLatin1_aae02_14 (by decide) ?_
    exact jw_pw fun _ => pw_tret (pc := 18) O T rfl dJ0_isLatin1_aae02_18
  exact h () rfl trivial
theorem t_length {i : Nat} (hi : i < 13) : Sp G [] ad mJ0_length_8abf5 2 [.ref (gK G i)] M M (some (.int (sln i))) := by
  refine sp_intro (own := RJ0) (by decide +kernel) rfl (Nat.le_of_ble_eq_true rfl) (fun X O T => ?_)
  have h : JW G [] ad X 0 [(0, .ref (gK G i))] [] M (some ()) (fun _ => True) := by
    refine j_aload_n (pc := 0) O 0 dJ0_length_8abf5_0 rfl ?_
    refine j_svalue (pc := 1) O hi dJ0_length_8abf5_1 gf_J0_9 ?_
    refine j_sblen (pc := 4) O hi dJ0_length_8abf5_4 ?_
    refine j_aload_n (pc := 5) O 0 dJ0_length_8abf5_5 rfl ?_
    refine fun z hz hK => p_callK (pc := 6) (rest := [.int (sln i)]) (As := []) O (t_coder (ad := ad) hi) hi dJ0_length_8abf5_6 mk_J0_coder_7d493 lm_J0_335 rfl rfl (Nat.le_of_ble_eq_true rfl) (Nat.le_refl 2) ((?_ : JW G [] ad X _ _ _ M (some ()) (fun _ => True)) z hz hK)
    refine j_ishr (pc := 9) O dJ0_length_8abf5_9 ?_
    rw [sb_shr0]
    exact jw_pw fun _ => pw_tret (pc := 10) O T rfl dJ0_length_8abf5_10
  exact h () rfl trivial
theorem t_pcheck {k n : Int32} {q : Value} (h0 : ¬ k < 0) (h1 : k < n) (hq : q.category = 1) : Sp G [] ad mJ3_checkIndex_8e157 1 [.int k, .int n, q] M M (some (.int k)) := by
  refine sp_intro (own := RJ3) (by decide +kernel) rfl ?_ (fun X O T => ?_)
  · cases q <;> simp_all [lg_sl, Value.category]
  have hl : lv_args 0 [.int k, .int n, q] = [(0, .int k), (1, .int n), (2, q)] := rfl
  rw [hl]
  have h : JW G [] ad X 0 [(0, .int k), (1, .int n), (2, q)] [] M (some ()) (fun _ => True) := by
    refine j_iload_n (pc := 0) O 0 dJ3_checkIndex_8e157_0 rfl ?_
    refine jw_itf (hc := inferInstance) (t1 := none) h0 (j_if_lt (pc := 1) (tgt := 9) O dJ3_checkIndex_8e157_1 (by decide) jw_none ?_)
    refine j_iload_n (pc := 4) O 0 dJ3_checkIndex_8e157_4 rfl ?_
    refine j_iload_n (pc := 5) O 1 dJ3_checkIndex_8e157_5 rfl ?_
    refine jw_itt (hc := inferInstance) (t2 := none) h1 (j_icmp_lt (pc := 6) (tgt := 16) O dJ3_checkIndex_8e157_6 (by decide) ?_ jw_none)
    refine j_iload_n (pc := 16) O 0 dJ3_checkIndex_8e157_16 rfl ?_
    exact jw_pw fun _ => pw_tret (pc := 17) O T rfl dJ3_checkIndex_8e157_17
  exact h () rfl trivial
theorem t_check {k n : Int32} (h0 : ¬ k < 0) (h1 : k < n) : Sp G [] ad mJ0_checkIndex_df160 2 [.int k, .int n] M M none := by
  refine sp_intro (own := RJ0) (by decide +kernel) rfl (Nat.le_of_ble_eq_true rfl) (fun X O T => ?_)
  have h : JW G [] ad X 0 [(0, .int k), (1, .int n)] [] M (some M) (Krv G [] ad X) := by
    refine j_iload_n (pc := 0) O 0 dJ0_checkIndex_df160_0 rfl ?_
    refine j_iload_n (pc := 1) O 1 dJ0_checkIndex_df160_1 rfl ?_
    refine j_fmtq (pc := 2) O dJ0_checkIndex_df160_2 gf_J0_1053 (fun q hq => ?_)
    refine fun z hz hK => p_callS (pc := 5) (As := [.int k, .int n, q]) (rest := []) O (t_pcheck h0 h1 hq) dJ0_checkIndex_df160_5 mst_J3_checkIndex_8e157 lm_J0_1059 rfl rfl (Nat.le_of_ble_eq_true rfl) (Nat.le_refl 2) ((?_ : JW G [] ad X _ _ _ M (some M) (Krv G [] ad X)) z hz hK)
    refine j_pop (pc := 8) O dJ0_checkIndex_df160_8 rfl ?_
    exact j_vret (pc := 9) O dJ0_checkIndex_df160_9
  exact h M rfl T
theorem bin_two {k : Int32} {n : Nat} (hn : n < 2 ^ 31) (h : bin k n = true) : ¬ k < 0 ∧ k < Int32.ofNat n := by
  have h1 := bin_in h
  have h2 := (vp_in_of h1 hn)
  obtain ⟨j, hj, rfl⟩ := h2
  exact ⟨nI_pos (by omega), nI_lt hj hn⟩
theorem sLen_lt (i : Nat) : sLen.getD i 0 < 2 ^ 31 := by
  by_cases h : i < 13
  · have : ∀ i, i < 13 → sLen.getD i 0 < 2 ^ 31 := by decide +kernel
    exact this i h
  · have e : sLen.getD i 0 = 0 := by
      rw [List.getD_eq_getElem?_getD, List.getElem?_eq_none]
      · rfl
      · show 13 ≤ i
        omega
    rw [e]; decide
theorem t_lcharAt {i : Nat} {k : Int32} (hi : i < 13) (hk : bin k (sLen.getD i 0) = true) : Sp G [] ad mJ1_charAt_3b067 3 [.ref (gV G i), .int k] M M (some (.int (sch i k))) := by
  refine sp_intro (own := RJ1) (by decide +kernel) rfl (Nat.le_of_ble_eq_true rfl) (fun X O T => ?_)
  have hb := bin_two (sLen_lt i) hk
  have h : JW G [] ad X 0 [(0, .ref (gV G i)), (1, .int k)] [] M (some ()) (fun _ => True) := by
    refine j_iload_n (pc := 0) O 1 dJ1_charAt_3b067_0 rfl ?_
    refine j_aload_n (pc := 1) O 0 dJ1_charAt_3b067_1 rfl ?_
    refine j_sblen (pc := 2) O hi dJ1_charAt_3b067_2 ?_
    refine fun z hz hK => p_callS (pc := 3) (As := [.int k, .int (sln i)]) (rest := []) O (t_check hb.1 hb.2) dJ1_charAt_3b067_3 mst_J0_checkIndex_df160 lm_J1_9 rfl rfl (Nat.le_of_ble_eq_true rfl) (Nat.le_refl 3) ((?_ : JW G [] ad X _ _ _ M (some ()) (fun _ => True)) z hz hK)
    refine j_aload_n (pc := 6) O 0 dJ1_charAt_3b067_6 rfl ?_
    refine j_iload_n (pc := 7) O 1 dJ1_charAt_3b067_7 rfl ?_
    refine j_sbald (pc := 8) O hi hk dJ1_charAt_3b067_8 ?_
    refine j_sipush (pc := 9) (v := 255) O dJ1_charAt_3b067_9 (by decide) ?_
    refine j_iand (pc := 12) O dJ1_charAt_3b067_12 ?_
    refine j_i2c (pc := 13) O dJ1_charAt_3b067_13 ?_
    exact jw_pw fun _ => pw_tret (pc := 14) O T (pk_nc _) dJ1_charAt_3b067_14
  exact h () rfl trivial
theorem t_charAt {i : Nat} {k : Int32} (hi : i < 13) (hk : bin k (sLen.getD i 0) = true) : Sp G [] ad mJ0_charAt_5068e 4 [.ref (gK G i), .int k] M M (some (.int (sch i k))) := by
  refine sp_intro (own := RJ0) (by decide +kernel) rfl (Nat.le_of_ble_eq_true rfl) (fun X O T => ?_)
  have h : JW G [] ad X 0 [(0, .ref (gK G i)), (1, .int k)] [] M (some ()) (fun _ => True) := by
    refine j_aload_n (pc := 0) O 0 dJ0_charAt_5068e_0 rfl ?_
    refine fun z hz hK => p_callK (pc := 1) (rest := []) (As := []) O (t_isLatin1 (ad := ad) hi) hi dJ0_charAt_5068e_1 mk_J0_isLatin1_aae02 lm_J0_492 rfl rfl (Nat.le_of_ble_eq_true rfl) (Nat.le_of_ble_eq_true rfl) ((?_ : JW G [] ad X _ _ _ M (some ()) (fun _ => True)) z hz hK)
    refine jw_itf (hc := inferInstance) (t1 := none) (by decide) (j_if_eq (pc := 4) (tgt := 16) O dJ0_charAt_5068e_4 (by decide) jw_none ?_)
    refine j_aload_n (pc := 7) O 0 dJ0_charAt_5068e_7 rfl ?_
    refine j_svalue (pc := 8) O hi dJ0_charAt_5068e_8 gf_J0_9 ?_
    refine j_iload_n (pc := 11) O 1 dJ0_charAt_5068e_11 rfl ?_
    refine fun z hz hK => p_callS (pc := 12) (As := [.ref (gV G i), .int k]) (rest := []) O (t_lcharAt hi hk) dJ0_charAt_5068e_12 mst_J1_charAt_3b067 lm_J0_495 rfl rfl (Nat.le_of_ble_eq_true rfl) (Nat.le_refl 4) ((?_ : JW G [] ad X _ _ _ M (some ()) (fun _ => True)) z hz hK)
    exact jw_pw fun _ => pw_tret (pc := 15) O T (pk_nc _) dJ0_charAt_5068e_15
  exact h () rfl trivial
theorem j_slen {i index : Nat} {hc : Decidable (i < 13)} (O : Ok G own cc nL d X) (hd : decode cc pc = .ok (.invokevirtual index, 3)) (hl : LM own index yJ0_length_8abf5) (hdc : 3 ≤ d) (hcat : (st.map fun v => v.category).sum ≤ 8) (kk : JW G S ad X (pc + 3) L (.int (sln i) :: st) M t K) : JW G S ad X pc L (.ref (gK G i) :: st) M (gd (i < 13) hc t) K :=
  jw_gd fun hi => fun z hz hK => p_callK (rest := st) (As := []) O (t_length (ad := ad) hi) hi hd mk_J0_length_8abf5 hl rfl rfl hcat hdc (kk z hz hK)
theorem j_schar {i index : Nat} {k : Int32} {hc : Decidable (i < 13 ∧ bin k (sLen.getD i 0) = true)} (O : Ok G own cc nL d X) (hd : decode cc pc = .ok (.invokevirtual index, 3)) (hl : LM own index yJ0_charAt_5068e) (hdc : 6 ≤ d) (hcat : (st.map fun v => v.category).sum ≤ 8) (kk : JW G S ad X (pc + 3) L (.int (sch i k) :: st) M t K) : JW G S ad X pc L (.int k :: .ref (gK G i) :: st) M (gd (i < 13 ∧ bin k (sLen.getD i 0) = true) hc t) K :=
  jw_gd fun hi => fun z hz hK => p_callK (rest := st) (As := [.int k]) O (t_charAt (ad := ad) hi.1 hi.2) hi.1 hd mk_J0_charAt_5068e hl rfl rfl hcat (Nat.le_trans (by decide) hdc) (kk z hz hK)
end STRS
