/-- the class's walk over the whole source -/
theorem goL {n : Nat} {cd : Nat → Nat} (hV : Val n cd) : ∀ (m i fuel : Nat) (M : Mm), i + m = n → m < fuel → SrcC M n cd → WkC M (ws cd i) → ∃ M', gX6_goThrough_L37 fuel M (nI i) = some M' ∧ (∀ j, i ≤ j → j < n → M' 4 j = pres cd j ∧ ∀ f, f < 4 → M' (6 + f) j = onA cd f j) ∧ (∀ j, j < i → M' 4 j = M 4 j ∧ ∀ f, f < 4 → M' (6 + f) j = M (6 + f) j) ∧ ∀ a, (a < 3 ∨ 13 ≤ a) → M' a = M a
  | 0, i, fuel, M, h, hf, hC, hW => by
    obtain ⟨k, rfl⟩ : ∃ k, fuel = k + 1 := ⟨fuel - 1, by omega⟩
    obtain rfl : i = n := by omega
    exact ⟨M, by rw [gX6_goThrough_L37, hC.1, if_pos (nI_le (Nat.le_refl _) (by have := hV.1; omega))], fun j h1 h2 => by omega, fun j _ => ⟨rfl, fun f _ => rfl⟩, fun a _ => rfl⟩
  | m + 1, i, fuel, M, h, hf, hC, hW => by
    obtain ⟨k, rfl⟩ : ∃ k, fuel = k + 1 := ⟨fuel - 1, by omega⟩
    have hn := hV.1
    have hi : i < n := by omega
    obtain ⟨ln, hln⟩ := hV.2.2
    obtain ⟨l, hl⟩ := st_le hln i (by omega)
    obtain ⟨l', hl'⟩ := st_le hln (i + 1) (by omega)
    have hs := (st_s hl).symm.trans hl'
    have hc := (hV.2.1 i hi).2
    rw [gX6_goThrough_L37, hC.1, if_neg (nI_ge hi (by omega)), lt_s9]
    obtain ⟨M1, a1, a2, -, a4, a5⟩ := goRow (fun M9 x10 => if (x10 < 0 ∨ 80 ≤ (x10).toNatClampNeg) then none else lt (um M9 4 (x10).toNatClampNeg (M9 3 5)) fun M13 => if (x10 < 0 ∨ 80 ≤ (x10).toNatClampNeg) then none else bd (gX6_step M13 (M13 2 (x10).toNatClampNeg) x10) fun M16 => lt (x10 + (1 : Int32)) fun x17 => gX6_goThrough_L37 k M16 x17) (i := i) (by omega) 4 0 FU M (by decide) (by decide)
    rw [show nI 0 = (0 : Int32) from rfl] at a1
    rw [a1]
    try dsimp only
    rw [ckI (show i < 80 by omega) (by decide), lt_s9, ckI (show i < 80 by omega) (by decide), cI (i := i) (by omega)]
    have w3 : M1 3 = M 3 := a5 3 (Or.inl (by decide))
    have hM2 : um M1 4 i (M1 3 5) 2 i = nI (cd i) := by rw [um_cell (by decide), a5 2 (Or.inl (by decide))]; exact hC.2 i hi
    have hW2 : WkC (um M1 4 i (M1 3 5)) (ws cd i) := by
      obtain ⟨w1, w2, w4, w5⟩ := hW
      refine ⟨by rw [um_cell (by decide), w3]; exact w1, by rw [um_cell (by decide), w3]; exact w2, fun f hf => by rw [um_cell (by decide), a5 10 (Or.inr (by decide))]; exact w4 f hf, StkC_c w5 (fun j hj => ⟨by rw [um_cell (by decide), a5 11 (Or.inr (by decide))], by rw [um_cell (by decide), a5 12 (Or.inr (by decide))]⟩)⟩
    obtain ⟨M3, b1, b2, b3, b4, b5⟩ := stepC (i := i) hW2 (by omega) hc (ws_len hl) (st_len hl) hs
    rw [hM2, bd_s9 b1, lt_s9, up1]
    have hC3 : SrcC M3 n cd := ⟨by rw [b3 1 1 (by decide) (by decide) (by decide) (by decide) (by decide), um_cell (by decide), a5 1 (Or.inl (by decide))]; exact hC.1, fun j hj => by rw [b3 2 j (by decide) (by decide) (by decide) (by decide) (by decide), um_cell (by decide), a5 2 (Or.inl (by decide))]; exact hC.2 j hj⟩
    obtain ⟨M4, c1, c2, c3, c4⟩ := goL hV m (i + 1) k M3 (by omega) (by omega) hC3 b2
    have row : ∀ f j, f < 4 → M3 (6 + f) j = M1 (6 + f) j := fun f j hf => by rw [b3 (6 + f) j (by omega) (by omega) (by omega) (by omega) (by omega), um_cell (by omega)]
    refine ⟨M4, c1, fun j h1 h2 => ?_, fun j h1 => ?_, fun a ha => ?_⟩
    · by_cases ji : j = i
      · subst ji
        obtain ⟨d1, d2⟩ := c3 j (by omega)
        refine ⟨?_, fun f hf => ?_⟩
        · rw [d1, b5, um_hit, w3, hW.1]
          rfl
        · rw [d2 f hf, row f j hf, a2 f (Nat.zero_le _) hf]
          exact hW.2.2.1 f hf
      · exact c2 j (by omega) h2
    · obtain ⟨d1, d2⟩ := c3 j (by omega)
      refine ⟨by rw [d1, b4 j (by omega), um_place (by omega), a5 4 (Or.inl (by decide))], fun f hf => by rw [d2 f hf, row f j hf, a4 f j (by omega)]⟩
    · rw [c4 a ha]
      funext x
      rw [b3 a x (by omega) (by omega) (by omega) (by omega) (by omega), um_cell (by omega), a5 a (by omega)]
theorem goC {M : Mm} {n : Nat} {cd : Nat → Nat} (hC : SrcC M n cd) (hV : Val n cd) : ∃ M', gX6_goThrough M = some M' ∧ (∀ j, j < n → M' 4 j = pres cd j ∧ ∀ f, f < 4 → M' (6 + f) j = onA cd f j) ∧ ∀ a, (a < 3 ∨ 13 ≤ a) → M' a = M a := by
  have hn := hV.1
  unfold gX6_goThrough
  rw [lt_s9, lt_s9, lt_s9]
  obtain ⟨M1, a1, a2, -, a4⟩ := goOn (fun M3 => gX6_goThrough_L37 FU M3 (0 : Int32)) 4 0 FU (um (um M 3 5 65535) 3 6 0) (by decide) (by decide)
  rw [show (0 : Int32) = nI 0 from rfl] at a1 ⊢
  rw [a1]
  have e3 : M1 3 = um (um M 3 5 65535) 3 6 (nI 0) 3 := a4 3 (by decide)
  have hC1 : SrcC M1 n cd := ⟨by rw [a4 1 (by decide), um_cell (by decide), um_cell (by decide)]; exact hC.1, fun i hi => by rw [a4 2 (by decide), um_cell (by decide), um_cell (by decide)]; exact hC.2 i hi⟩
  have hW : WkC M1 (ws cd 0) := ⟨by rw [e3, um_place (by decide), um_hit]; rfl, by rw [e3, um_hit]; rfl, fun f hf => a2 f (Nat.zero_le _) hf, trivial⟩
  obtain ⟨M2, b1, b2, -, b4⟩ := goL hV n 0 FU M1 (by omega) (by unfold FU; omega) hC1 hW
  refine ⟨M2, b1, fun j hj => b2 j (Nat.zero_le _) hj, fun a ha => ?_⟩
  rw [b4 a ha, a4 a (by omega), um_fn (by omega), um_fn (by omega)]

