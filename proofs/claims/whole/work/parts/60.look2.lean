theorem mul4 (i : Nat) : (4 : Int32) * nI i = nI (4 * i) := (Int32.ofNat_mul 4 i).symm
theorem lookRow (E : Mm → (Nat → Int32) → (Nat → Int32) → (Nat → Int32) → Int32 → Int32 → Int32 → Option Mm) (u v w : Nat → Int32) (x y : Int32) {i : Nat} (hi : i < 80) : ∀ (m f fuel : Nat) (M : Mm), f + m = 4 → m < fuel → ∃ M', gX8_look_L78 E fuel M u v w x y (nI i) (nI f) = E M' u v w x y (nI i) ∧ (∀ g, f ≤ g → g < 4 → M' 3 (4 * i + g) = u g) ∧ (∀ j, (∀ g, f ≤ g → g < 4 → j ≠ 4 * i + g) → M' 3 j = M 3 j) ∧ ∀ a, a ≠ 3 → M' a = M a
  | 0, f, fuel, M, h, hf => by
    obtain ⟨k, rfl⟩ : ∃ k, fuel = k + 1 := ⟨fuel - 1, by omega⟩
    obtain rfl : f = 4 := by omega
    exact ⟨M, by rw [gX8_look_L78, if_pos (by decide)], fun g h1 h2 => by omega, fun j _ => rfl, fun a _ => rfl⟩
  | m + 1, f, fuel, M, h, hf => by
    obtain ⟨k, rfl⟩ : ∃ k, fuel = k + 1 := ⟨fuel - 1, by omega⟩
    rw [gX8_look_L78, if_neg (show ¬ (4 : Int32) ≤ nI f from nI_ge (b := 4) (by omega) (by decide)), ckI (show f < 4 by omega) (by decide), mul4, nI_add, ckI (show 4 * i + f < 320 by omega) (by decide), cI (i := f) (by omega), cI (i := 4 * i + f) (by omega), lt_s9, lt_s9, up1]
    obtain ⟨M', e1, e2, e3, e4⟩ := lookRow E u v w x y hi m (f + 1) k (um M 3 (4 * i + f) (u f)) (by omega) (by omega)
    refine ⟨M', e1, fun g h1 h2 => ?_, fun j hj => ?_, fun a ha => (e4 a ha).trans (um_fn ha)⟩
    · by_cases gf : g = f
      · rw [gf, e3 _ (fun g' h3 h4 => by omega), um_hit]
      · exact e2 g (by omega) h2
    · rw [e3 j (fun g h3 h4 => hj g (by omega) h4), um_place (hj f (Nat.le_refl _) (by omega))]
