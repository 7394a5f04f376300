def ixs : Nat → Int32
  | 0 => -8
  | j + 1 => nI (8 * j)
theorem ixs_dn {j : Nat} (h : j < 8) : nI (8 * j) + (-8 : Int32) = ixs j := by
  rcases (show j = 0 ∨ j = 1 ∨ j = 2 ∨ j = 3 ∨ j = 4 ∨ j = 5 ∨ j = 6 ∨ j = 7 by omega) with rfl | rfl | rfl | rfl | rfl | rfl | rfl | rfl <;> decide +kernel
def bt (a : Int64) (j : Nat) : Int32 := gX7_byteOf a (nI (8 * j))
def cnt (a : Int64) : Nat → Nat
  | 0 => 0
  | j + 1 => (if bt a j = 0 then 0 else 1) + cnt a j
def allT (a : Int64) (j : Nat) : Prop := ∀ i, i < j → bt a i = 0 ∨ gX0_isToken (bt a i) ≠ 0
theorem cnt_le (a : Int64) : ∀ j, cnt a j ≤ j
  | 0 => Nat.le_refl _
  | j + 1 => by
    have := cnt_le a j
    show (if bt a j = 0 then 0 else 1) + cnt a j ≤ j + 1
    split <;> omega
theorem wrC1 {a : Int64} {M : Mm} {E2 : Mm → Option ((Int32 ⊕ Nat) × Mm)} {E5 : Mm → Int32 → Option ((Int32 ⊕ Nat) × Mm)} : ∀ (j fuel x : Nat), j ≤ 8 → j < fuel → (allT a j → gX7_write_L6 a E2 E5 fuel M (nI x) (ixs j) = E5 M (nI (x + cnt a j))) ∧ (¬ allT a j → gX7_write_L6 a E2 E5 fuel M (nI x) (ixs j) = E2 M)
  | 0, fuel, x, _, hf => by
    obtain ⟨f, rfl⟩ : ∃ f, fuel = f + 1 := ⟨fuel - 1, by omega⟩
    refine ⟨fun _ => ?_, fun h => absurd (fun i hi => absurd hi (by omega)) h⟩
    rw [gX7_write_L6, if_pos (by decide)]
    rfl
  | j + 1, fuel, x, hj, hf => by
    obtain ⟨f, rfl⟩ : ∃ f, fuel = f + 1 := ⟨fuel - 1, by omega⟩
    have up : ∀ h : allT a (j + 1), allT a j := fun h i hi => h i (by omega)
    have e : gX7_byteOf a (ixs (j + 1)) = bt a j := rfl
    rw [gX7_write_L6, e, show ixs (j + 1) = nI (8 * j) from rfl, if_neg (nI_pos (by omega)), ixs_dn (by omega), lt_s9, lt_s9, lt_s9, up1]
    by_cases z : bt a j = 0
    · have hc : cnt a (j + 1) = cnt a j := by show (if bt a j = 0 then 0 else 1) + cnt a j = _; rw [if_pos z]; omega
      rw [if_pos z, hc]
      obtain ⟨h1, h2⟩ := wrC1 (a := a) (M := M) (E2 := E2) (E5 := E5) j f x (by omega) (by omega)
      refine ⟨fun h => h1 (up h), fun h => h2 (fun q => h (fun i hi => ?_))⟩
      by_cases ij : i = j
      · rw [ij]; exact Or.inl z
      · exact q i (by omega)
    · have hc : cnt a (j + 1) = 1 + cnt a j := by show (if bt a j = 0 then 0 else 1) + cnt a j = _; rw [if_neg z]
      rw [if_neg z, hc]
      by_cases t : gX0_isToken (bt a j) = 0
      · rw [if_pos t]
        refine ⟨fun h => ?_, fun _ => rfl⟩
        rcases h j (by omega) with q | q
        · exact absurd q z
        · exact absurd t q
      · rw [if_neg t]
        obtain ⟨h1, h2⟩ := wrC1 (a := a) (M := M) (E2 := E2) (E5 := E5) j f (x + 1) (by omega) (by omega)
        refine ⟨fun h => by rw [h1 (up h), show x + 1 + cnt a j = x + (1 + cnt a j) by omega], fun h => h2 (fun q => h (fun i hi => ?_))⟩
        by_cases ij : i = j
        · rw [ij]; exact Or.inr t
        · exact q i (by omega)
