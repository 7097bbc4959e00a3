/-! ===== the start: both constructors, the first text ===== -/
def t40 : List Int32 := [116, 97, 107, 101, 115, 32, 52, 32, 59, 32, 104, 117, 110, 103, 101, 114, 32, 49, 32, 59, 32, 119, 111, 114, 116, 104, 32, 49, 48, 32, 45, 32, 108, 97, 116, 101, 32, 59, 32, 32]
def b40 : Nat → Int32 := fun i => t40.getD i 0
def Mz : Mm := (fun o k => if o = 15 then b40 k else if o = 3 ∧ k = 1 then nI 40 else 0, fun _ => 0)
def outz (r : Int32 × Mm) : Int32 × List Int32 × List Int32 := (r.1, (List.range 5).map (fun i => r.2.1 16 i), (List.range 3).map (fun i => r.2.1 17 i))
theorem ev_40 : (f_X0_reads Mz).map outz = some (1, [4, 1, 10, 10005, 20045], [1, 2, 5]) := by decide +kernel
def out1 (N : Mm) : List Int32 × List Int32 × List Int32 × List Int32 := ([N.1 0 2, N.1 1 0, N.1 1 1, N.1 1 2, N.1 1 3, N.1 3 1, N.1 4 0], (List.range 5).map (fun i => N.1 18 i), (List.range 3).map (fun i => N.1 19 i), (List.range 4).map (fun i => N.1 22 i))
theorem ev_S1 : k_S1.map out1 = some ([0, 8, 1, 0, 0, 0, 1], [4, 1, 10, 10005, 20045], [1, 2, 5], [-1, -1, -1, -1]) := by decide +kernel
def out2 (N : Mm) : List Int32 × List Int32 × List Int32 × Int32 := ([N.1 0 7, N.1 0 8, N.1 0 4, N.1 0 13, N.1 0 14, N.1 0 6, N.1 0 3, N.1 0 44], (List.range 40).map (fun i => N.1 1 i), (List.range 4).map (fun i => N.1 16 i), N.1 2 0)
theorem ev_S2 : k_S2.map out2 = some ([8, 1, 0, 0, -1, 0, 1, -1], t40, [0, 0, 0, 0], 40) := by decide +kernel
def z00 : Txt := ([4], [1], [10, 10005, 20045])
theorem byt40 : Byt b40 40 := by
  intro i hi
  have h : ∀ i : Nat, i < 40 → ¬ b40 i < 0 ∧ b40 i ≤ nI 255 := by decide
  exact rg_of (by omega) (h i hi).1 (h i hi).2
theorem td40 : TD b40 40 (.inr z00) := by
  obtain ⟨res, hC, hD⟩ := text_good byt40 (by omega)
  have hT : Tp b40 40 Mz := ⟨rfl, by omega, fun i _ => rfl⟩
  obtain ⟨r, er, -, -, hr⟩ := hC Mz hT
  have h := ev_40
  rw [er] at h
  have h : outz r = (1, [4, 1, 10, 10005, 20045], [1, 2, 5]) := Option.some.inj h
  have h1 : r.1 = 1 := congrArg Prod.fst h
  have h16 : (List.range 5).map (fun i => r.2.1 16 i) = [4, 1, 10, 10005, 20045] := congrArg (fun q => q.2.1) h
  have h17 : (List.range 3).map (fun i => r.2.1 17 i) = [1, 2, 5] := congrArg (fun q => q.2.2) h
  have h16 : [r.2.1 16 0, r.2.1 16 1, r.2.1 16 2, r.2.1 16 3, r.2.1 16 4] = [4, 1, 10, 10005, 20045] := h16
  have h17 : [r.2.1 17 0, r.2.1 17 1, r.2.1 17 2] = [1, 2, 5] := h17
  simp only [List.cons.injEq, and_true] at h16 h17
  obtain ⟨c0, c1, c2, c3, c4⟩ := h16
  obtain ⟨d0, d1, d2⟩ := h17
  cases res with
  | inl q =>
    have h0 : r.1 = 0 := hr.1
    rw [h1] at h0
    exact absurd h0 (by decide)
  | inr z =>
    obtain ⟨-, l1, l2, l3, l4, l5⟩ := hr
    obtain ⟨z1, z2, z3⟩ := z
    have l1 : (z1 ++ z2 ++ z3).length ≤ 160 := l1
    have l2 : ∀ i, i < (z1 ++ z2 ++ z3).length → r.2.1 16 i = (z1 ++ z2 ++ z3).getD i 0 := l2
    have l3 : r.2.1 17 0 = nI z1.length := l3
    have l4 : r.2.1 17 1 = nI (z1 ++ z2).length := l4
    have l5 : r.2.1 17 2 = nI (z1 ++ z2 ++ z3).length := l5
    rw [List.length_append, List.length_append] at l1 l5
    rw [List.length_append] at l4
    have e1 : z1.length = 1 := by
      rw [d0] at l3
      exact ((nI_eq (a := 1) (by omega) (by omega)).mp l3).symm
    have e2 : z2.length = 1 := by
      rw [d1] at l4
      have := (nI_eq (a := 2) (by omega) (by omega)).mp l4
      omega
    have e3 : z3.length = 3 := by
      rw [d2] at l5
      have := (nI_eq (a := 5) (by omega) (by omega)).mp l5
      omega
    obtain ⟨a, rfl⟩ := List.length_eq_one_iff.mp e1
    obtain ⟨b, rfl⟩ := List.length_eq_one_iff.mp e2
    obtain ⟨c, d, e, rfl⟩ : ∃ c d e, z3 = [c, d, e] := by
      match z3, e3 with
      | [c, d, e], _ => exact ⟨c, d, e, rfl⟩
    have f0 : r.2.1 16 0 = a := l2 0 (by show 0 < 5; omega)
    have f1 : r.2.1 16 1 = b := l2 1 (by show 1 < 5; omega)
    have f2 : r.2.1 16 2 = c := l2 2 (by show 2 < 5; omega)
    have f3 : r.2.1 16 3 = d := l2 3 (by show 3 < 5; omega)
    have f4 : r.2.1 16 4 = e := l2 4 (by show 4 < 5; omega)
    rw [c0] at f0
    rw [c1] at f1
    rw [c2] at f2
    rw [c3] at f3
    rw [c4] at f4
    subst f0 f1 f2 f3 f4
    exact hD
theorem start_rel : ∃ N1 N2, k_S1 = some N1 ∧ k_S2 = some N2 ∧ Rel N1 N2 := by
  have h1 := ev_S1
  have h2 := ev_S2
  cases e1 : k_S1 with
  | none => rw [e1] at h1; cases h1
  | some N1 =>
    cases e2 : k_S2 with
    | none => rw [e2] at h2; cases h2
    | some N2 =>
      rw [e1] at h1
      rw [e2] at h2
      have h1 : out1 N1 = ([0, 8, 1, 0, 0, 0, 1], [4, 1, 10, 10005, 20045], [1, 2, 5], [-1, -1, -1, -1]) := Option.some.inj h1
      have h2 : out2 N2 = ([8, 1, 0, 0, -1, 0, 1, -1], t40, [0, 0, 0, 0], 40) := Option.some.inj h2
      have a1 : [N1.1 0 2, N1.1 1 0, N1.1 1 1, N1.1 1 2, N1.1 1 3, N1.1 3 1, N1.1 4 0] = [0, 8, 1, 0, 0, 0, 1] := congrArg (fun q => q.1) h1
      have a2 : [N1.1 18 0, N1.1 18 1, N1.1 18 2, N1.1 18 3, N1.1 18 4] = [4, 1, 10, 10005, 20045] := congrArg (fun q => q.2.1) h1
      have a3 : [N1.1 19 0, N1.1 19 1, N1.1 19 2] = [1, 2, 5] := congrArg (fun q => q.2.2.1) h1
      have a4 : [N1.1 22 0, N1.1 22 1, N1.1 22 2, N1.1 22 3] = [-1, -1, -1, -1] := congrArg (fun q => q.2.2.2) h1
      have b1 : [N2.1 0 7, N2.1 0 8, N2.1 0 4, N2.1 0 13, N2.1 0 14, N2.1 0 6, N2.1 0 3, N2.1 0 44] = [8, 1, 0, 0, -1, 0, 1, -1] := congrArg (fun q => q.1) h2
      have b2 : (List.range 40).map (fun i => N2.1 1 i) = t40 := congrArg (fun q => q.2.1) h2
      have b3 : [N2.1 16 0, N2.1 16 1, N2.1 16 2, N2.1 16 3] = [0, 0, 0, 0] := congrArg (fun q => q.2.2.1) h2
      have b4 : N2.1 2 0 = 40 := congrArg (fun q => q.2.2.2) h2
      simp only [List.cons.injEq, and_true] at a1 a2 a3 a4 b1 b3
      obtain ⟨a10, a11, a12, a13, a14, a15, a16⟩ := a1
      obtain ⟨a20, a21, a22, a23, a24⟩ := a2
      obtain ⟨a30, a31, a32⟩ := a3
      obtain ⟨a40, a41, a42, a43⟩ := a4
      obtain ⟨b10, b11, b12, b13, b14, b15, b16, b17⟩ := b1
      obtain ⟨b30, b31, b32, b33⟩ := b3
      have b2' : ∀ i, i < 40 → N2.1 1 i = b40 i := by
        intro i hi
        unfold b40
        rw [← b2]
        simp [List.getD, hi]
      have hTc : TXc 0 z00 N1 := by
        refine ⟨by show 5 ≤ 160; omega, fun i hi => ?_, a30, a31, a32⟩
        have hi : i < 5 := hi
        rcases (by omega : i = 0 ∨ i = 1 ∨ i = 2 ∨ i = 3 ∨ i = 4) with rfl | rfl | rfl | rfl | rfl
        · exact a20
        · exact a21
        · exact a22
        · exact a23
        · exact a24
      have hTr : TXr 0 z00 N2 := ⟨b40, 40, by omega, b4, fun i hi => by rw [Nat.mul_zero, Nat.zero_add]; exact b2' i hi, td40⟩
      have hW : Wf z00 := wf_of td40
      refine ⟨N1, N2, rfl, rfl, ((8, 1, 0, 0), (fun _ => 0, fun _ => 0, fun _ => 0, fun _ => 0), z00), 1, fun _ => z00, ⟨⟨by show 8 ≤ 12; omega, Or.inl rfl, by show 0 ≤ 5; omega, by show 0 < 6; omega, fun e => ⟨Nat.zero_le _, Nat.zero_le _, Nat.zero_le _, Nat.zero_le _⟩, hW⟩, by show 0 < 1; omega, rfl⟩, ⟨a11, a12, a13, a14, fun e he => absurd he (Nat.not_lt_zero e)⟩, ⟨⟨b10, b11, b12, b13, fun e he => absurd he (Nat.not_lt_zero e)⟩, b14⟩, ⟨by omega, a16, b16, fun t ht => ?_⟩, ⟨b40, 0, fun i hi => by omega, ⟨a15, by omega, fun i hi => by omega⟩, b15, fun i hi => by omega⟩, fun s hs => Or.inl ?_, Or.inl ⟨a10, b17⟩⟩
      · have e : t = 0 := by omega
        subst e
        exact ⟨hW, hTc, hTr⟩
      · rcases (by omega : s = 0 ∨ s = 1 ∨ s = 2 ∨ s = 3) with rfl | rfl | rfl | rfl
        · exact ⟨a40, b30⟩
        · exact ⟨a41, b31⟩
        · exact ⟨a42, b32⟩
        · exact ⟨a43, b33⟩
theorem steps_all : Steps Rel := ⟨s_set, s_eater, s_told, s_ready, s_feed, s_text, s_force, s_supper, s_heap, s_best, s_keep, s_second, s_leave, s_plates, s_eaten, s_film, s_drawn, s_chance, s_image, s_back, s_count, s_sheet, s_cell, s_copy, s_eaters, s_taken⟩
