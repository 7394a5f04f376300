theorem um_fn {M : Mm} {k j a : Nat} {v : Int32} (h : a ≠ k) : um M k j v a = M a := funext fun _ => um_cell h
theorem goOn (E : Mm → Option Mm) : ∀ (m f fuel : Nat) (M : Mm), f + m = 4 → m < fuel → ∃ M', gX6_goThrough_L13 E fuel M (nI f) = E M' ∧ (∀ g, f ≤ g → g < 4 → M' 10 g = onF g) ∧ (∀ g, g < f → M' 10 g = M 10 g) ∧ ∀ a, a ≠ 10 → M' a = M a
  | 0, f, fuel, M, h, hf => by
    obtain ⟨k, rfl⟩ : ∃ k, fuel = k + 1 := ⟨fuel - 1, by omega⟩
    obtain rfl : f = 4 := by omega
    exact ⟨M, by rw [gX6_goThrough_L13, if_pos (by decide)], fun g h1 h2 => by omega, fun g _ => rfl, fun a _ => rfl⟩
  | m + 1, f, fuel, M, h, hf => by
    obtain ⟨k, rfl⟩ : ∃ k, fuel = k + 1 := ⟨fuel - 1, by omega⟩
    rw [gX6_goThrough_L13, if_neg (show ¬ (4 : Int32) ≤ nI f from nI_ge (b := 4) (by omega) (by decide)), ckI (by omega) (by decide), cI (by omega), ckJ (by omega) (by decide), lt_s9, lt_s9, up1]
    obtain ⟨M', e1, e2, e3, e4⟩ := goOn E m (f + 1) k (um M 10 f (onF f)) (by omega) (by omega)
    refine ⟨M', e1, fun g h1 h2 => ?_, fun g h1 => ?_, fun a ha => (e4 a ha).trans (um_fn ha)⟩
    · by_cases gf : g = f
      · rw [gf, e3 f (by omega), um_hit]
      · exact e2 g (by omega) h2
    · rw [e3 g (by omega), um_place (by omega)]
theorem goRow (E : Mm → Int32 → Option Mm) {i : Nat} (hi : i < 80) : ∀ (m f fuel : Nat) (M : Mm), f + m = 4 → m < fuel → ∃ M', gX6_goThrough_L47 E fuel M (nI i) (nI f) = E M' (nI i) ∧ (∀ g, f ≤ g → g < 4 → M' (6 + g) i = M 10 g) ∧ (∀ g, g < f → M' (6 + g) i = M (6 + g) i) ∧ (∀ g j, j ≠ i → M' (6 + g) j = M (6 + g) j) ∧ ∀ a, (a < 6 ∨ 10 ≤ a) → M' a = M a
  | 0, f, fuel, M, h, hf => by
    obtain ⟨k, rfl⟩ : ∃ k, fuel = k + 1 := ⟨fuel - 1, by omega⟩
    obtain rfl : f = 4 := by omega
    exact ⟨M, by rw [gX6_goThrough_L47, if_pos (by decide)], fun g h1 h2 => by omega, fun g _ => rfl, fun g j _ => rfl, fun a _ => rfl⟩
  | m + 1, f, fuel, M, h, hf => by
    obtain ⟨k, rfl⟩ : ∃ k, fuel = k + 1 := ⟨fuel - 1, by omega⟩
    rw [gX6_goThrough_L47, if_neg (show ¬ (4 : Int32) ≤ nI f from nI_ge (b := 4) (by omega) (by decide)), ckI (show f < 4 by omega) (by decide), lt_s9, ckI (show f < 4 by omega) (by decide), ckI hi (by decide), cI (i := f) (by omega), cI (i := i) (by omega), lt_s9, lt_s9, up1]
    obtain ⟨M', e1, e2, e3, e4, e5⟩ := goRow E hi m (f + 1) k (um M (ob f) i (M 10 f)) (by omega) (by omega)
    refine ⟨M', e1, fun g h1 h2 => ?_, fun g h1 => ?_, fun g j hj => ?_, fun a ha => (e5 a ha).trans (um_fn (by unfold ob; omega))⟩
    · by_cases gf : g = f
      · rw [gf, e3 f (by omega)]
        exact um_hit
      · rw [e2 g (by omega) h2, um_cell (by unfold ob; omega)]
    · rw [e3 g (by omega), um_cell (by unfold ob; omega)]
    · rw [e4 g j hj, um_place hj]

