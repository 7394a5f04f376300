theorem n64_of {r : UInt64} (h : r.toNat % 2 ^ 63 ≤ 9218868437227405312) : vf_n64 r := by
  unfold vf_n64
  rw [UInt64.le_iff_toNat_le, UInt64.toNat_and]
  have h1 : (0x7fffffffffffffff : UInt64).toNat = 2 ^ 63 - 1 := by decide
  have h2 : (0x7ff0000000000000 : UInt64).toNat = 9218868437227405312 := by decide
  rw [h1, h2, Nat.and_two_pow_sub_one_eq_mod]
  exact h
theorem div_n64 (a b : Int32) (hb : b ≠ 0) : vf_n64 (FP.ddiv (FP.i2d a) (FP.i2d b)) := by
  have fa := (Jvm.FP.Core.fin_bits _).mp (Jvm.FP.Core.i2d_fin a)
  have na : Jvm.FP.Core.dIsNaN (Jvm.FP.Core.i2d a) = false := by
    cases h : Jvm.FP.Core.dIsNaN (Jvm.FP.Core.i2d a) with
    | false => rfl
    | true => have := (Jvm.FP.Core.isNaN_bits _).mp h; omega
  have nz : ¬ Jvm.FP.Core.DZero (Jvm.FP.Core.i2d b) := fun h => Jvm.FP.Core.i2d_ne_zero hb ((Jvm.FP.Core.zero_bits2 _).mp h)
  have hd := Jvm.FP.Core.ddiv_out na (Jvm.FP.Core.i2d_fin b) nz
  refine n64_of ?_
  show (Jvm.FP.Core.ddiv (Jvm.FP.Core.i2d a) (Jvm.FP.Core.i2d b)).toNat % 2 ^ 63 ≤ _
  by_cases g : (Jvm.FP.Core.ddiv (Jvm.FP.Core.i2d a) (Jvm.FP.Core.i2d b)).toNat % 2 ^ 63 ≤ 9218868437227405312
  · exact g
  · have := (Jvm.FP.Core.isNaN_bits (Jvm.FP.Core.ddiv (Jvm.FP.Core.i2d a) (Jvm.FP.Core.i2d b))).mpr (by omega)
    rw [hd] at this
    cases this
theorem zero_n64 : vf_n64 FP.dconst0 := n64_of (by decide)
/-- the place of an error, against items -/
theorem er_spec {cd : Nat → Nat} {c : Nat} : ∀ {n : Nat}, rd cd c n = none → rd cd c (er cd c n) ≠ none ∧ rd cd c (er cd c n + 1) = none
  | 0, h => by cases h
  | n + 1, h => by
    show rd cd c (if rd cd c n ≠ none ∧ rd cd c (n + 1) = none then n else er cd c n) ≠ none ∧ rd cd c ((if rd cd c n ≠ none ∧ rd cd c (n + 1) = none then n else er cd c n) + 1) = none
    by_cases a : rd cd c n = none
    · rw [if_neg (fun w => w.1 a)]
      exact er_spec a
    · rw [if_pos ⟨a, h⟩]
      exact ⟨a, h⟩
theorem er_item {cd : Nat → Nat} {c n i : Nat} (hi : i < n) : (rd cd c i = none) ↔ (fin cd c n = false ∧ erP cd c n < i) := by
  cases h : rd cd c n with
  | some s =>
    have h1 : rd cd c i ≠ none := fun w => by have := rd_none w n (by omega); rw [h] at this; cases this
    have h2 : erP cd c n = n := by unfold erP; rw [h]
    rw [h2]
    exact ⟨fun w => absurd w h1, fun w => by omega⟩
  | none =>
    have h2 : erP cd c n = er cd c n := by unfold erP; rw [h]
    have h3 : fin cd c n = false := by unfold fin; rw [h]
    obtain ⟨e1, e2⟩ := er_spec h
    rw [h2, h3]
    constructor
    · intro w
      refine ⟨rfl, ?_⟩
      by_cases z : er cd c n < i
      · exact z
      · exact absurd (rd_none w (er cd c n) (by omega)) e1
    · intro ⟨_, w⟩
      exact rd_none e2 i (by omega)
theorem hgt_sum {cd : Nat → Nat} {c : Nat} (x : Int32) : ∀ n, itr (fun i y => y + bI (al cd c i)) n x = x + nI (hgt cd c n).length
  | 0 => (Int32.add_zero x).symm
  | n + 1 => by
    show itr (fun i y => y + bI (al cd c i)) n x + bI (al cd c n) = x + nI (if inV cd c n = true then (match rd cd c n with | some s => hgt cd c n ++ [s.length] | none => hgt cd c n) else hgt cd c n).length
    rw [hgt_sum x n]
    unfold al
    by_cases a : inV cd c n = true
    · rw [if_pos a, a, Bool.true_and]
      cases rd cd c n with
      | none => exact Int32.add_zero _
      | some s =>
        show x + nI (hgt cd c n).length + 1 = x + nI (hgt cd c n ++ [s.length]).length
        rw [List.length_append, Int32.add_assoc]
        congr 1
        exact nI_1 _
    · rw [if_neg a, show inV cd c n = false from by cases h : inV cd c n with
        | true => exact absurd h a
        | false => rfl, Bool.false_and]
      exact Int32.add_zero _
def aln (cd : Nat → Nat) (n : Nat) : Int32 := itr (fun c x => x + nI (hgt cd c n).length) 16 0
