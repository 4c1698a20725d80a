theorem xor_I (x y : Nat) : nI x ^^^ nI y = nI (x ^^^ y) := by
  have h : (nI x ^^^ nI y).toBitVec = (nI (x ^^^ y)).toBitVec := by
    refine BitVec.eq_of_getLsbD_eq fun i hi => ?_
    rw [Int32.toBitVec_xor, BitVec.getLsbD_xor]
    show ((BitVec.ofNat 32 x).getLsbD i ^^ (BitVec.ofNat 32 y).getLsbD i) = (BitVec.ofNat 32 (x ^^^ y)).getLsbD i
    rw [BitVec.getLsbD_ofNat, BitVec.getLsbD_ofNat, BitVec.getLsbD_ofNat, Nat.testBit_xor, decide_eq_true hi, Bool.true_and, Bool.true_and, Bool.true_and]
  exact Int32.toBitVec_inj.1 h
