/-! the model's 'stayed' and the class's 'at the OTHERWISE' -/
theorem and_stay (a c : Int32) : a &&& ((a &&& c) ^^^ (-1 : Int32)) = a &&& (c ^^^ (-1 : Int32)) := by
  apply Int32.toBitVec_inj.mp
  show a.toBitVec &&& ((a.toBitVec &&& c.toBitVec) ^^^ (-1 : Int32).toBitVec) = a.toBitVec &&& (c.toBitVec ^^^ (-1 : Int32).toBitVec)
  apply BitVec.eq_of_getLsbD_eq
  intro i hi
  simp only [BitVec.getLsbD_and, BitVec.getLsbD_xor]
  cases a.toBitVec.getLsbD i <;> cases c.toBitVec.getLsbD i <;> simp
