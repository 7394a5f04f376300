/-- one row of the model's first table: the features of a configuration's number -/
theorem look_row (E : Mm → (Nat → Int32) → Int32 → Option Mm) (M : Mm) {c : Nat} : ∀ (m f fuel : Nat) (g : Nat → Int32), f + m = 4 → m < fuel → ∃ g', gX8_look_L14 E fuel M g (nI c) (nI f) = E M g' (nI c) ∧ ∀ k, k < 4 → g' k = if f ≤ k ∧ gX8_has (nI c) (nI k) ≠ 0 then g k ||| ((1 : Int32) <<< (nI c &&& 31)) else g k
  | 0, f, fuel, g, h, hf => by
    obtain ⟨n, rfl⟩ : ∃ n, fuel = n + 1 := ⟨fuel - 1, by omega⟩
    obtain rfl : f = 4 := by omega
    exact ⟨g, by rw [gX8_look_L14, if_pos (by decide)], fun k hk => by rw [if_neg (fun w => by omega)]⟩
  | m + 1, f, fuel, g, h, hf => by
    obtain ⟨n, rfl⟩ : ∃ n, fuel = n + 1 := ⟨fuel - 1, by omega⟩
    rw [gX8_look_L14, if_neg (show ¬ (4 : Int32) ≤ nI f from nI_ge (b := 4) (by omega) (by decide)), lt_s9, lt_s9, up1]
    by_cases q : gX8_has (nI c) (nI f) = 0
    · rw [if_pos q]
      obtain ⟨g', e1, e2⟩ := look_row E M (c := c) m (f + 1) n g (by omega) (by omega)
      refine ⟨g', e1, fun k hk => (e2 k hk).trans ?_⟩
      by_cases kf : k = f
      · rw [kf, if_neg (fun w => by omega), if_neg (fun w => w.2 q)]
      · by_cases w : f ≤ k ∧ gX8_has (nI c) (nI k) ≠ 0
        · rw [if_pos w, if_pos ⟨by omega, w.2⟩]
        · rw [if_neg w, if_neg (fun w' => w ⟨by omega, w'.2⟩)]
    · rw [if_neg q, ckI (by omega) (by decide), cI (by omega), ckJ (by omega) (by decide), lt_s9]
      obtain ⟨g', e1, e2⟩ := look_row E M (c := c) m (f + 1) n (upd g f (g f ||| ((1 : Int32) <<< (nI c &&& 31)))) (by omega) (by omega)
      refine ⟨g', e1, fun k hk => (e2 k hk).trans ?_⟩
      by_cases kf : k = f
      · rw [kf, if_neg (fun w => by omega), if_pos ⟨Nat.le_refl _, q⟩]
        exact if_pos rfl
      · have hu : upd g f (g f ||| ((1 : Int32) <<< (nI c &&& 31))) k = g k := if_neg kf
        rw [hu]
        by_cases w : f ≤ k ∧ gX8_has (nI c) (nI k) ≠ 0
        · rw [if_pos w, if_pos ⟨by omega, w.2⟩]
        · rw [if_neg w, if_neg (fun w' => w ⟨by omega, w'.2⟩)]
