/-! SETS OF NODES: an int with a bit for each -/
def bt (x : Int32) (j : Nat) : Bool := x.toBitVec.getLsbD j
theorem amt_m : ∀ j, j < 32 → ((Int32.ofNat j &&& 31 : Int32).toBitVec.smod 32).toNat = j := by decide +kernel
theorem amt_c : ∀ j, j < 32 → (((Int32.ofNat j).toUInt32 &&& Int32.toUInt32 31).toBitVec % 32).toNat = j := by decide +kernel
theorem bv_and1 (z : BitVec 32) : z &&& 1#32 = 1#32 ↔ z.getLsbD 0 = true := by
  constructor
  · intro h
    have h2 := congrArg (fun y => y.getLsbD 0) h
    simpa using h2
  · intro h
    apply BitVec.eq_of_getLsbD_eq
    intro i hi
    by_cases c : i = 0
    · rw [c]
      simp [h]
    · simp [c]
theorem i32_and1 (y : Int32) : y &&& 1 = 1 ↔ y.toBitVec.getLsbD 0 = true := by
  rw [← bv_and1, ← Int32.toBitVec_inj, Int32.toBitVec_and]
  rfl
theorem bt_c {x : Int32} {j : Nat} (hj : j < 32) : (((x.toUInt32 >>> ((Int32.ofNat j).toUInt32 &&& Int32.toUInt32 31)).toInt32) &&& 1 = 1) ↔ bt x j = true := by
  rw [i32_and1]
  unfold bt
  have e : ((x.toUInt32 >>> ((Int32.ofNat j).toUInt32 &&& Int32.toUInt32 31)).toInt32).toBitVec = x.toBitVec >>> (((Int32.ofNat j).toUInt32 &&& Int32.toUInt32 31).toBitVec % 32) := rfl
  rw [e, BitVec.ushiftRight_eq', amt_c j hj, BitVec.getLsbD_ushiftRight, Nat.add_zero]
theorem bt_m {x : Int32} {j : Nat} (hj : j < 32) : ((x >>> (Int32.ofNat j &&& 31)) &&& 1 = 1) ↔ bt x j = true := by
  rw [i32_and1]
  unfold bt
  have e : (x >>> (Int32.ofNat j &&& 31 : Int32)).toBitVec = x.toBitVec.sshiftRight' ((Int32.ofNat j &&& 31 : Int32).toBitVec.smod 32) := rfl
  rw [e, BitVec.sshiftRight_eq', amt_m j hj, BitVec.getLsbD_sshiftRight]
  simp [hj]
theorem f31_e {F j : Nat} {x : Int32} {σ : St} (hj : j < 32) : f31 F x (Int32.ofNat j) σ = oI (b2i (bt x j)) σ := by
  unfold f31
  by_cases h : bt x j = true
  · rw [if_pos ((bt_c hj).mpr h), h]
    rfl
  · rw [if_neg (fun g => h ((bt_c hj).mp g))]
    rw [Bool.not_eq_true] at h
    rw [h]
    rfl
theorem bt_0 {j : Nat} : bt 0 j = false := by
  unfold bt
  simp
