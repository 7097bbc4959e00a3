/-! ===== the mask of served minutes ===== -/
def mbit (x : Int64) (i : Nat) : Bool := x.toBitVec.getLsbD i
theorem shr_am : ∀ i, i < 60 → (((nI i).toInt64 &&& 63).toBitVec.smod 64).toNat = i := by decide +kernel
theorem shl_tp : ∀ k, k < 60 → (lsl' 1 (nI k)).toBitVec = BitVec.twoPow 64 k := by decide +kernel
theorem bv_and1 (y : BitVec 64) : y &&& 1#64 = 0#64 ↔ y.getLsbD 0 = false := by
  constructor
  · intro h
    have := congrArg (fun z => z.getLsbD 0) h
    simpa using this
  · intro h
    refine BitVec.eq_of_getLsbD_eq fun i hi => ?_
    rw [BitVec.getLsbD_and, BitVec.getLsbD_one]
    by_cases q : i = 0
    · subst q; rw [h]; simp
    · simp [q]
theorem mbit_get {x : Int64} {i : Nat} (hi : i < 60) : lg_cmp ((lsr x (nI i)) &&& 1) 0 = 0 ↔ mbit x i = false := by
  rw [lg_cmp_eq, ← Int64.toBitVec_inj]
  have h1 : (lsr x (nI i) &&& 1).toBitVec = x.toBitVec.sshiftRight i &&& 1#64 := by
    unfold lsr
    rw [Int64.toBitVec_and, Int64.toBitVec_shiftRight]
    show x.toBitVec.sshiftRight (((nI i).toInt64 &&& 63).toBitVec.smod 64).toNat &&& 1#64 = _
    rw [shr_am i hi]
  rw [h1]
  show _ = 0#64 ↔ _
  rw [bv_and1, BitVec.getLsbD_sshiftRight]
  unfold mbit
  simp
  omega
theorem mbit_or {x : Int64} {i k : Nat} (hk : k < 60) : mbit (x ||| lsl' 1 (nI k)) i = (mbit x i || decide (i = k)) := by
  unfold mbit
  rw [Int64.toBitVec_or, BitVec.getLsbD_or, shl_tp k hk, BitVec.getLsbD_twoPow]
  congr 1
  by_cases q : i = k
  · subst q; simp; omega
  · simp [q]; omega
theorem mbit_0 (i : Nat) : mbit 0 i = false := by
  unfold mbit
  simp
