theorem ok_tok {k : Nat} (h : ok k) (h31 : k < 2 ^ 31) : (gX0_isToken (nI k) = 0 ↔ nI k ≤ (17 : Int32)) := by
  have h17 : nI k ≤ (17 : Int32) ↔ k ≤ 17 := nI_leI (b := 17) h31 (by decide)
  rw [h17]
  constructor
  · intro e
    rcases h with h | h
    · exact h
    · exact absurd e h
  · intro hk
    rcases zb_tok (nI k) with e | e
    · exact e
    · obtain ⟨j, h1, h2, h3⟩ := tok_range (x := nI k) (by rw [e]; decide)
      have := (nI_eq h31 (by omega)).mp h3
      omega
theorem tok_big {k : Nat} (h : gX0_isToken (nI k) ≠ 0) (h31 : k < 2 ^ 31) : 33 ≤ k ∧ k ≤ 125 := by
  obtain ⟨j, h1, h2, h3⟩ := tok_range h
  have := (nI_eq h31 (by omega)).mp h3
  omega
