/-- what the walk writes: its own cells and, at an OTHERWISE or a DONE, the item's presence -/
def OwnW (M M' : Mm) : Prop := ∀ a i, a ≠ 3 → a ≠ 10 → a ≠ 11 → a ≠ 12 → a ≠ 4 → M' a i = M a i
theorem enterC {M : Mm} {w : Wst} {k : Nat} (hW : WkC M w) (hk : k < 8) (hl : w.2.2.length < 5) : ∃ M', gX6_enter M (nI k) = some M' ∧ WkC M' (wstep k w) ∧ OwnW M M' ∧ M' 4 = M 4 := by
  obtain ⟨hA, hD, hO, hS⟩ := hW
  obtain ⟨f1, f2, -⟩ := feat_n k (List.mem_range.mpr (by omega))
  have hf4 : k % 8 / 2 < 4 := by omega
  obtain ⟨h, hh⟩ : ∃ h, h = w.2.2.length := ⟨_, rfl⟩
  rw [← hh] at hD hl
  have J : ∀ x : Int32, x = chz k w.1 → ∃ M', (if ((M 3 6) < 0 ∨ 5 ≤ ((M 3 6)).toNatClampNeg) then none else lt (um M 11 ((M 3 6)).toNatClampNeg (M 3 5)) fun M10 => if ((M10 3 6) < 0 ∨ 5 ≤ ((M10 3 6)).toNatClampNeg) then none else lt (um M10 12 ((M10 3 6)).toNatClampNeg ((M10 3 5) &&& (x ^^^ (-1 : Int32)))) fun M12 => lt (um M12 3 5 ((M12 3 5) &&& x)) fun M13 => lt (um M13 3 6 ((M13 3 6) + (1 : Int32))) fun M14 => some M14) = some M' ∧ WkC M' (wstep k w) ∧ OwnW M M' ∧ M' 4 = M 4 := by
    intro x hx
    have e1 : um M 11 h (M 3 5) 3 6 = nI h := by rw [um_cell (by decide)]; exact hD
    have e2 : um M 11 h (M 3 5) 3 5 = w.2.1 := by rw [um_cell (by decide)]; exact hA
    rw [hD, ckI hl (by decide), cI (by omega), lt_s9, e1, ckI hl (by decide), cI (by omega), e2, lt_s9]
    have e3 : um (um M 11 h (M 3 5)) 12 h (w.2.1 &&& (x ^^^ (-1 : Int32))) 3 5 = w.2.1 := by rw [um_cell (by decide)]; exact e2
    have e4 : um (um M 11 h (M 3 5)) 12 h (w.2.1 &&& (x ^^^ (-1 : Int32))) 3 6 = nI h := by rw [um_cell (by decide)]; exact e1
    rw [e3, lt_s9, um_place (show (6 : Nat) ≠ 5 by decide), e4, lt_s9, up1]
    refine ⟨_, rfl, ⟨?_, ?_, fun f hf => ?_, ?_⟩, fun a i n3 n10 n11 n12 n4 => ?_, ?_⟩
    · rw [um_place (by decide), um_hit]
      unfold wstep
      rw [if_pos hk, hx]
    · rw [um_hit]
      unfold wstep
      rw [if_pos hk, hh]
      rfl
    · rw [um_cell (by decide), um_cell (by decide), um_cell (by decide), um_cell (by decide)]
      unfold wstep
      rw [if_pos hk]
      exact hO f hf
    · unfold wstep
      rw [if_pos hk]
      refine ⟨?_, ?_, ?_⟩
      · rw [← hh, um_cell (by decide), um_cell (by decide), um_cell (by decide), um_hit]
        exact hA
      · rw [← hh, um_cell (by decide), um_cell (by decide), um_hit, hx]
      · refine StkC_c hS (fun j hj => ?_)
        rw [um_cell (by decide), um_cell (by decide), um_cell (by decide), um_place (by omega), um_cell (by decide), um_cell (by decide), um_place (by omega), um_cell (by decide)]
        exact ⟨rfl, rfl⟩
    · rw [um_cell n3, um_cell n3, um_cell n12, um_cell n11]
    · funext i
      rw [um_cell (by decide), um_cell (by decide), um_cell (by decide), um_cell (by decide)]
  unfold gX6_enter
  rw [hD, if_neg (nI_pos (by omega)), if_pos (show nI h < (5 : Int32) from nI_lt (b := 5) hl (by decide)), f1, ckI hf4 (by decide), cI (by omega), hO _ hf4, lt_s9, lt_s9, f2]
  rw [hD] at J
  by_cases o : k % 2 = 1
  · rw [if_pos o, if_neg (by decide)]
    dsimp only
    rw [hD]
    exact J _ (by unfold chz; rw [if_pos o])
  · rw [if_neg o, if_pos rfl]
    dsimp only
    rw [hD]
    exact J _ (by unfold chz; rw [if_neg o])

