theorem z01 {v : Int32} (h : v &&& 1 = v) : v = 0 ∨ v = 1 := by
  have h1 : v.toBitVec &&& 1#32 = v.toBitVec := by
    have := congrArg Int32.toBitVec h
    simpa using this
  have h2 : v.toBitVec.toNat &&& 1 = v.toBitVec.toNat := by
    have := congrArg BitVec.toNat h1
    simpa using this
  have h3 : v.toBitVec.toNat < 2 := by
    rw [← h2, Nat.and_one_is_mod]; omega
  rcases (show v.toBitVec.toNat = 0 ∨ v.toBitVec.toNat = 1 by omega) with h4 | h4
  · left
    apply Int32.toBitVec_inj.mp
    apply BitVec.eq_of_toNat_eq
    rw [h4]; rfl
  · right
    apply Int32.toBitVec_inj.mp
    apply BitVec.eq_of_toNat_eq
    rw [h4]; rfl
theorem fitsZ {v : Int32} (h : v &&& 1 = v) : fits .boolean (.int v) = true := by
  rcases z01 h with rfl | rfl <;> rfl
