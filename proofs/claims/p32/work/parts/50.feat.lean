def gX8_has (a0 : Int32) (a1 : Int32) : Int32 := if ((a0 >>> (a1 &&& 31)) &&& (1 : Int32)) = (1 : Int32) then ((1 : Int32)) else (0 : Int32)
def bitI (a x : Int32) : Int32 := (a >>> (x &&& 31)) &&& (1 : Int32)
theorem and1 (x : Int32) : x &&& (1 : Int32) = 0 ∨ x &&& (1 : Int32) = 1 := by
  have h : (x &&& (1 : Int32)).toBitVec = x.toBitVec &&& 1#32 := rfl
  rcases (show (x.toBitVec &&& 1#32) = 0#32 ∨ (x.toBitVec &&& 1#32) = 1#32 from by
    have h2 : (x.toBitVec &&& 1#32).toNat = x.toBitVec.toNat % 2 := by rw [BitVec.toNat_and]; exact Nat.and_one_is_mod _
    rcases Nat.mod_two_eq_zero_or_one x.toBitVec.toNat with e | e
    · exact Or.inl (BitVec.eq_of_toNat_eq (by rw [h2, e]; rfl))
    · exact Or.inr (BitVec.eq_of_toNat_eq (by rw [h2, e]; rfl))) with e | e
  · exact Or.inl (Int32.toBitVec_inj.mp (h.trans e))
  · exact Or.inr (Int32.toBitVec_inj.mp (h.trans e))
theorem has_b (a x : Int32) : gX8_has a x = if bitI a x = 1 then 1 else 0 := rfl
