theorem shr_t : ∀ c ∈ List.range 16, ((nI c &&& 31).toBitVec.smod 32).toNat = c := by decide +kernel
theorem bit0 (y : Int32) : (y &&& (1 : Int32) = 1) ↔ y.toBitVec.getLsbD 0 = true := by
  rw [← Int32.toBitVec_inj]
  have h : (y &&& (1 : Int32)).toBitVec = y.toBitVec &&& 1#32 := rfl
  have h1 : (1 : Int32).toBitVec = 1#32 := rfl
  rw [h, h1, ← BitVec.toNat_inj, BitVec.toNat_and]
  have h2 : y.toBitVec.toNat &&& (1#32).toNat = y.toBitVec.toNat % 2 := Nat.and_one_is_mod _
  rw [h2]
  show y.toBitVec.toNat % 2 = 1 ↔ y.toBitVec.toNat.testBit 0 = true
  rw [Nat.testBit_zero, decide_eq_true_iff]
theorem bth_bit {a : Int32} {c : Nat} (hc : c < 16) : bth a c = a.toBitVec.getLsbD c := by
  have e : (gX8_has a (nI c) = 1) ↔ a.toBitVec.getLsbD c = true := by
    rw [has_b]
    have h2 : bitI a (nI c) = 1 ↔ a.toBitVec.getLsbD c = true := by
      unfold bitI
      rw [bit0]
      have h3 : (a >>> (nI c &&& 31)).toBitVec = a.toBitVec.sshiftRight c := by
        show a.toBitVec.sshiftRight (((nI c &&& 31).toBitVec.smod 32).toNat) = _
        rw [shr_t c (List.mem_range.mpr hc)]
      rw [h3, BitVec.getLsbD_sshiftRight]
      rw [if_pos (by omega)]
      simp
    rw [← h2]
    by_cases z : bitI a (nI c) = 1
    · rw [if_pos z]; exact ⟨fun _ => z, fun _ => rfl⟩
    · rw [if_neg z]; exact ⟨fun w => absurd w (by decide), fun w => absurd w z⟩
  unfold bth
  cases h : a.toBitVec.getLsbD c with
  | true => exact decide_eq_true (e.mpr h)
  | false => exact decide_eq_false (fun w => by have := e.mp w; rw [h] at this; cases this)
theorem bth_and {a b : Int32} {c : Nat} (hc : c < 16) : bth (a &&& b) c = (bth a c && bth b c) := by
  rw [bth_bit hc, bth_bit hc, bth_bit hc]
  show (a.toBitVec &&& b.toBitVec).getLsbD c = _
  exact BitVec.getLsbD_and ..
theorem bth_msk : ∀ c ∈ List.range 16, ∀ b ∈ List.range 16, bth (((1 : Int32) <<< (nI c &&& 31)) ^^^ (-1 : Int32)) b = decide (b ≠ c) := by decide +kernel
theorem bth_all : ∀ c ∈ List.range 16, bth 65535 c = true ∧ bth 0 c = false := by decide +kernel
def dA (cd : Nat → Nat) (c i : Nat) : Int32 := match rd cd c i with
  | some s => nI s.length
  | none => -1
