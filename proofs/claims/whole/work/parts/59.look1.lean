def tb : Nat → Nat → Int32
  | 0, _ => 0
  | c + 1, k => if gX8_has (nI c) (nI k) ≠ 0 then tb c k ||| ((1 : Int32) <<< (nI c &&& 31)) else tb c k
set_option maxRecDepth 100000 in
theorem tb_on : ∀ k ∈ List.range 4, tb 16 k = onF k := by decide +kernel
theorem look_tab (E : Mm → (Nat → Int32) → Option Mm) (M : Mm) : ∀ (m c fuel : Nat) (g : Nat → Int32), c + m = 16 → m < fuel → (∀ k, k < 4 → g k = tb c k) → ∃ g', gX8_look_L6 E fuel M g (nI c) = E M g' ∧ ∀ k, k < 4 → g' k = tb 16 k
  | 0, c, fuel, g, h, hf, hg => by
    obtain ⟨n, rfl⟩ : ∃ n, fuel = n + 1 := ⟨fuel - 1, by omega⟩
    obtain rfl : c = 16 := by omega
    exact ⟨g, by rw [gX8_look_L6, if_pos (by decide)], hg⟩
  | m + 1, c, fuel, g, h, hf, hg => by
    obtain ⟨n, rfl⟩ : ∃ n, fuel = n + 1 := ⟨fuel - 1, by omega⟩
    rw [gX8_look_L6, if_neg (show ¬ (16 : Int32) ≤ nI c from nI_ge (b := 16) (by omega) (by decide)), lt_s9]
    obtain ⟨g1, a1, a2⟩ := look_row (fun M109 f110 x111 => lt (x111 + (1 : Int32)) fun x113 => gX8_look_L6 E n M109 f110 x113) M (c := c) 4 0 FU g (by decide) (by decide)
    rw [show nI 0 = (0 : Int32) from rfl] at a1
    rw [a1]
    try dsimp only
    rw [lt_s9, up1]
    refine look_tab E M m (c + 1) n g1 (by omega) (by omega) (fun k hk => ?_)
    rw [a2 k hk, hg k hk]
    show _ = if gX8_has (nI c) (nI k) ≠ 0 then tb c k ||| ((1 : Int32) <<< (nI c &&& 31)) else tb c k
    by_cases w : gX8_has (nI c) (nI k) ≠ 0
    · rw [if_pos w, if_pos ⟨Nat.zero_le _, w⟩]
    · rw [if_neg w, if_neg (fun w' => w w'.2)]
theorem look_on (E : Mm → (Nat → Int32) → Option Mm) (M : Mm) : ∃ g', gX8_look_L6 E FU M (fun _ => 0) (0 : Int32) = E M g' ∧ ∀ k, k < 4 → g' k = onF k := by
  obtain ⟨g', e1, e2⟩ := look_tab E M 16 0 FU (fun _ => 0) (by decide) (by decide) (fun k _ => rfl)
  exact ⟨g', e1, fun k hk => (e2 k hk).trans (tb_on k (List.mem_range.mpr hk))⟩
