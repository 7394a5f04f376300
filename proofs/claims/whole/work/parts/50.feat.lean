/-! the features that matter to a set -/
def bitI (a x : Int32) : Int32 := (a >>> (x &&& 31)) &&& (1 : Int32)
theorem and1 (x : Int32) : x &&& (1 : Int32) = 0 ∨ x &&& (1 : Int32) = 1 := by
  have h : (x &&& (1 : Int32)).toBitVec = x.toBitVec &&& 1#32 := rfl
  rcases (show (x.toBitVec &&& 1#32) = 0#32 ∨ (x.toBitVec &&& 1#32) = 1#32 from by
    have h2 : (x.toBitVec &&& 1#32).toNat = x.toBitVec.toNat % 2 := by rw [BitVec.toNat_and]; exact Nat.and_one_is_mod _
    rcases Nat.mod_two_eq_zero_or_one x.toBitVec.toNat with e | e
    · exact Or.inl (BitVec.eq_of_toNat_eq (by rw [h2, e]; rfl))
    · exact Or.inr (BitVec.eq_of_toNat_eq (by rw [h2, e]; rfl))) with e | e
  · exact Or.inl (Int32.toBitVec_inj.mp (h.trans e))
  · exact Or.inr (Int32.toBitVec_inj.mp (h.trans e))
theorem has_b (a x : Int32) : gX8_has a x = if bitI a x = 1 then 1 else 0 := rfl
def tw (c f : Nat) : Nat := if c / 2 ^ f % 2 = 0 then c + 2 ^ f else c - 2 ^ f
theorem tw_x : ∀ c ∈ List.range 16, ∀ f ∈ List.range 4, nI c ^^^ ((1 : Int32) <<< (nI f &&& 31)) = nI (tw c f) ∧ tw c f < 16 ∧ tw (tw c f) f = c := by decide +kernel
/-- a feature that matters -/
def mt (a : Int32) (f : Nat) : Prop := ∃ c, c < 16 ∧ bitI a (nI c) = 1 ∧ bitI a (nI (tw c f)) ≠ 1
theorem mat_s (a : Int32) (f : Nat) (hf : f < 4) (M : Mm) : (mt a f → gX7_matters M (nI f) a = some 1) ∧ (¬ mt a f → gX7_matters M (nI f) a = some 0) := by
  have key : ∀ m c fuel, c + m = 16 → m < fuel → ((∃ d, c ≤ d ∧ d < 16 ∧ bitI a (nI d) ≠ bitI a (nI (tw d f))) → gX7_matters_L2 M (nI f) a fuel (nI c) = some 1) ∧ (¬ (∃ d, c ≤ d ∧ d < 16 ∧ bitI a (nI d) ≠ bitI a (nI (tw d f))) → gX7_matters_L2 M (nI f) a fuel (nI c) = some 0) := by
    intro m
    induction m with
    | zero =>
      intro c fuel h1 h2
      obtain ⟨g, rfl⟩ : ∃ g, fuel = g + 1 := ⟨fuel - 1, by omega⟩
      obtain rfl : c = 16 := by omega
      rw [gX7_matters_L2, if_pos (by decide)]
      exact ⟨fun ⟨d, h3, h4, _⟩ => absurd h4 (by omega), fun _ => rfl⟩
    | succ m ih =>
      intro c fuel h1 h2
      obtain ⟨g, rfl⟩ : ∃ g, fuel = g + 1 := ⟨fuel - 1, by omega⟩
      rw [gX7_matters_L2, if_neg (show ¬ (16 : Int32) ≤ nI c from nI_ge (b := 16) (by omega) (by decide)), lt_s9, (tw_x c (List.mem_range.mpr (by omega)) f (List.mem_range.mpr hf)).1, lt_s9, up1]
      by_cases e : bitI a (nI c) = bitI a (nI (tw c f))
      · have e9 : ((a >>> (nI c &&& 31)) &&& (1 : Int32)) = ((a >>> (nI (tw c f) &&& 31)) &&& (1 : Int32)) := e
        rw [if_pos e9]
        obtain ⟨i1, i2⟩ := ih (c + 1) g (by omega) (by omega)
        refine ⟨fun ⟨d, h3, h4, h5⟩ => i1 ⟨d, ?_, h4, h5⟩, fun h => i2 (fun ⟨d, h3, h4, h5⟩ => h ⟨d, by omega, h4, h5⟩)⟩
        by_cases dc : d = c
        · rw [dc] at h5; exact absurd e h5
        · omega
      · have e9 : ¬ ((a >>> (nI c &&& 31)) &&& (1 : Int32)) = ((a >>> (nI (tw c f) &&& 31)) &&& (1 : Int32)) := e
        rw [if_neg e9]
        exact ⟨fun _ => rfl, fun h => absurd ⟨c, Nat.le_refl _, by omega, e⟩ h⟩
  have eqv : (∃ d, 0 ≤ d ∧ d < 16 ∧ bitI a (nI d) ≠ bitI a (nI (tw d f))) ↔ mt a f := by
    constructor
    · rintro ⟨d, -, h, h2⟩
      obtain ⟨-, t1, t2⟩ := tw_x d (List.mem_range.mpr h) f (List.mem_range.mpr hf)
      rcases and1 (a >>> (nI d &&& 31)) with e | e
      · refine ⟨tw d f, t1, ?_, by rw [t2]; show bitI a (nI d) ≠ 1; rw [show bitI a (nI d) = 0 from e]; decide⟩
        rcases and1 (a >>> (nI (tw d f) &&& 31)) with e2 | e2
        · exact absurd ((show bitI a (nI d) = 0 from e).trans (show bitI a (nI (tw d f)) = 0 from e2).symm) h2
        · exact e2
      · exact ⟨d, h, e, fun e2 => h2 ((show bitI a (nI d) = 1 from e).trans e2.symm)⟩
    · rintro ⟨d, h, h1, h2⟩
      exact ⟨d, Nat.zero_le _, h, fun e => h2 (e.symm.trans h1)⟩
  obtain ⟨k1, k2⟩ := key 16 0 FU (by decide) (by decide)
  exact ⟨fun h => k1 (eqv.mpr h), fun h => k2 (fun q => h (eqv.mp q))⟩
/-- a set of features as its number -/
def mk4 (s : Nat → Bool) : Int32 := (if s 0 then 1 else 0) ||| (if s 1 then 2 else 0) ||| (if s 2 then 4 else 0) ||| (if s 3 then 8 else 0)
def mkB (p q r s : Bool) : Int32 := (if p then 1 else 0) ||| (if q then 2 else 0) ||| (if r then 4 else 0) ||| (if s then 8 else 0)
theorem mkB_or : ∀ p q r s : Bool, mkB p q r s ||| ((1 : Int32) <<< (nI 0 &&& 31)) = mkB true q r s ∧ mkB p q r s ||| ((1 : Int32) <<< (nI 1 &&& 31)) = mkB p true r s ∧ mkB p q r s ||| ((1 : Int32) <<< (nI 2 &&& 31)) = mkB p q true s ∧ mkB p q r s ||| ((1 : Int32) <<< (nI 3 &&& 31)) = mkB p q r true := by decide +kernel
theorem mk4_or (s : Nat → Bool) {f : Nat} (hf : f < 4) : mk4 s ||| ((1 : Int32) <<< (nI f &&& 31)) = mk4 (fun g => if g = f then true else s g) := by
  obtain ⟨h0, h1, h2, h3⟩ := mkB_or (s 0) (s 1) (s 2) (s 3)
  rcases (show f = 0 ∨ f = 1 ∨ f = 2 ∨ f = 3 by omega) with rfl | rfl | rfl | rfl
  · exact h0
  · exact h1
  · exact h2
  · exact h3
theorem mk4_c {s s' : Nat → Bool} (h : ∀ f, f < 4 → s f = s' f) : mk4 s = mk4 s' := by
  unfold mk4
  rw [h 0 (by decide), h 1 (by decide), h 2 (by decide), h 3 (by decide)]
