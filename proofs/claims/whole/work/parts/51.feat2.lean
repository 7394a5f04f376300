def Pf (a : Int32) (c f : Nat) : Prop := bitI a (nI c) = 1 ∧ bitI a (nI (tw c f)) ≠ 1
theorem ftC (a : Int32) (M : Mm) : ∀ (m f fuel : Nat) (s : Nat → Bool), f + m = 4 → m < fuel → ∃ s' : Nat → Bool, gX7_features_L24 a fuel M (mk4 s) (nI f) = some (.inl (mk4 s'), M) ∧ ∀ g, g < 4 → (s' g = true ↔ (s g = true ∨ (f ≤ g ∧ mt a g)))
  | 0, f, fuel, s, h, hf => by
    obtain ⟨k, rfl⟩ : ∃ k, fuel = k + 1 := ⟨fuel - 1, by omega⟩
    obtain rfl : f = 4 := by omega
    refine ⟨s, by rw [gX7_features_L24, if_pos (by decide)], fun g hg => ⟨Or.inl, fun q => q.resolve_right (fun w => by omega)⟩⟩
  | m + 1, f, fuel, s, h, hf => by
    obtain ⟨k, rfl⟩ : ∃ k, fuel = k + 1 := ⟨fuel - 1, by omega⟩
    obtain ⟨t1, t2⟩ := mat_s a f (by omega) M
    rw [gX7_features_L24, if_neg (show ¬ (4 : Int32) ≤ nI f from nI_ge (b := 4) (by omega) (by decide))]
    by_cases q : mt a f
    · rw [t1 q, bd_s9 rfl, if_neg (by decide), lt_s9, lt_s9, up1, mk4_or s (by omega)]
      obtain ⟨s', e1, e2⟩ := ftC a M m (f + 1) k (fun g => if g = f then true else s g) (by omega) (by omega)
      refine ⟨s', e1, fun g hg => (e2 g hg).trans ?_⟩
      try dsimp only
      by_cases gf : g = f
      · subst gf
        rw [if_pos rfl]
        exact ⟨fun _ => Or.inr ⟨Nat.le_refl _, q⟩, fun _ => Or.inl rfl⟩
      · rw [if_neg gf]
        exact ⟨fun w => w.imp id (fun w => ⟨by omega, w.2⟩), fun w => w.imp id (fun w => ⟨by omega, w.2⟩)⟩
    · rw [t2 q, bd_s9 rfl, if_pos rfl, lt_s9, up1]
      obtain ⟨s', e1, e2⟩ := ftC a M m (f + 1) k s (by omega) (by omega)
      refine ⟨s', e1, fun g hg => (e2 g hg).trans ⟨fun w => w.imp id (fun w => ⟨by omega, w.2⟩), fun w => w.imp id (fun w => ⟨?_, w.2⟩)⟩⟩
      by_cases gf : g = f
      · subst gf
        exact absurd w.2 q
      · omega
theorem ftI (a : Int32) (N : Mm) (E : Mm → Int32 → Int32 → Option (Int32 × Mm)) {c : Nat} (hc : c < 16) : ∀ (m f fuel : Nat) (s : Nat → Bool), f + m = 4 → m < fuel → ∃ s' : Nat → Bool, gX8_features_L34 a E fuel N (mk4 s) (nI c) (nI f) = E N (mk4 s') (nI c) ∧ ∀ g, g < 4 → (s' g = true ↔ (s g = true ∨ (f ≤ g ∧ Pf a c g)))
  | 0, f, fuel, s, h, hf => by
    obtain ⟨k, rfl⟩ : ∃ k, fuel = k + 1 := ⟨fuel - 1, by omega⟩
    obtain rfl : f = 4 := by omega
    refine ⟨s, by rw [gX8_features_L34, if_pos (by decide)], fun g hg => ⟨Or.inl, fun q => q.resolve_right (fun w => by omega)⟩⟩
  | m + 1, f, fuel, s, h, hf => by
    obtain ⟨k, rfl⟩ : ∃ k, fuel = k + 1 := ⟨fuel - 1, by omega⟩
    have tx := (tw_x c (List.mem_range.mpr hc) f (List.mem_range.mpr (by omega))).1
    have skip : ¬ Pf a c f → ∃ s' : Nat → Bool, gX8_features_L34 a E k N (mk4 s) (nI c) (nI (f + 1)) = E N (mk4 s') (nI c) ∧ ∀ g, g < 4 → (s' g = true ↔ (s g = true ∨ (f ≤ g ∧ Pf a c g))) := fun q => by
      obtain ⟨s', e1, e2⟩ := ftI a N E hc m (f + 1) k s (by omega) (by omega)
      refine ⟨s', e1, fun g hg => (e2 g hg).trans ⟨fun w => w.imp id (fun w => ⟨by omega, w.2⟩), fun w => w.imp id (fun w => ⟨?_, w.2⟩)⟩⟩
      by_cases gf : g = f
      · subst gf
        exact absurd w.2 q
      · omega
    rw [gX8_features_L34, if_neg (show ¬ (4 : Int32) ≤ nI f from nI_ge (b := 4) (by omega) (by decide)), tx, has_b, has_b, lt_s9, lt_s9, lt_s9, up1]
    by_cases b1 : bitI a (nI c) = 1
    · rw [if_pos b1, if_neg (show ¬ (1 : Int32) = 0 by decide)]
      by_cases b2 : bitI a (nI (tw c f)) = 1
      · rw [if_pos b2, if_neg (show ¬ (1 : Int32) = 0 by decide)]
        exact skip (fun q => q.2 b2)
      · rw [if_neg b2, if_pos rfl, mk4_or s (by omega)]
        obtain ⟨s', e1, e2⟩ := ftI a N E hc m (f + 1) k (fun g => if g = f then true else s g) (by omega) (by omega)
        refine ⟨s', e1, fun g hg => (e2 g hg).trans ?_⟩
        try dsimp only
        by_cases gf : g = f
        · subst gf
          rw [if_pos rfl]
          exact ⟨fun _ => Or.inr ⟨Nat.le_refl _, b1, b2⟩, fun _ => Or.inl rfl⟩
        · rw [if_neg gf]
          exact ⟨fun w => w.imp id (fun w => ⟨by omega, w.2⟩), fun w => w.imp id (fun w => ⟨by omega, w.2⟩)⟩
    · rw [if_neg b1, if_pos rfl]
      exact skip (fun q => b1 q.1)
theorem ftM (a : Int32) (N : Mm) : ∀ (m c fuel : Nat) (s : Nat → Bool), c + m = 16 → m < fuel → ∃ s' : Nat → Bool, gX8_features_L25 a fuel N (mk4 s) (nI c) = some (mk4 s', N) ∧ ∀ g, g < 4 → (s' g = true ↔ (s g = true ∨ ∃ d, c ≤ d ∧ d < 16 ∧ Pf a d g))
  | 0, c, fuel, s, h, hf => by
    obtain ⟨k, rfl⟩ : ∃ k, fuel = k + 1 := ⟨fuel - 1, by omega⟩
    obtain rfl : c = 16 := by omega
    refine ⟨s, by rw [gX8_features_L25, if_pos (by decide)], fun g hg => ⟨Or.inl, fun q => q.resolve_right (fun ⟨d, w1, w2, _⟩ => by omega)⟩⟩
  | m + 1, c, fuel, s, h, hf => by
    obtain ⟨k, rfl⟩ : ∃ k, fuel = k + 1 := ⟨fuel - 1, by omega⟩
    rw [gX8_features_L25, if_neg (show ¬ (16 : Int32) ≤ nI c from nI_ge (b := 16) (by omega) (by decide)), lt_s9]
    obtain ⟨s1, e1, e2⟩ := ftI a N (fun M8 x9 x10 => lt (x10 + (1 : Int32)) fun x12 => gX8_features_L25 a k M8 x9 x12) (c := c) (by omega) 4 0 FU s (by decide) (by decide)
    rw [show (0 : Int32) = nI 0 from rfl, e1]
    try dsimp only
    rw [lt_s9, up1]
    obtain ⟨s2, e3, e4⟩ := ftM a N m (c + 1) k s1 (by omega) (by omega)
    refine ⟨s2, e3, fun g hg => (e4 g hg).trans ?_⟩
    rw [e2 g hg]
    constructor
    · rintro ((w | ⟨-, w⟩) | ⟨d, w1, w2, w3⟩)
      · exact Or.inl w
      · exact Or.inr ⟨c, Nat.le_refl _, by omega, w⟩
      · exact Or.inr ⟨d, by omega, w2, w3⟩
    · rintro (w | ⟨d, w1, w2, w3⟩)
      · exact Or.inl (Or.inl w)
      · by_cases dc : d = c
        · rw [dc] at w3
          exact Or.inl (Or.inr ⟨Nat.zero_le _, w3⟩)
        · exact Or.inr ⟨d, by omega, w2, w3⟩
theorem a_features {Fr : Nat → (Nat → Nat) → Mm → Prop} (x1 x2 : Int32) : agT (Rl Fr) (fun M => gX7_features M x1) (fun N => gX8_features N x1) [0] (fun _ => True) := by
  intro M N ⟨n, cd, hC, hM, hV, hF⟩
  try dsimp only
  by_cases a : x1 < 0
  · refine ref_s (M := M) (N := N) (k := 0) (v := 1) ?_ ?_ (by decide) (by decide) ⟨n, cd, hC, hM, hV, hF⟩
    · unfold gX7_features
      rw [if_pos a]
    · unfold gX8_features gX8_isIn
      rw [lt_s9, if_pos (show x1 < (0 : Int32) from a), if_pos rfl, no_s]
  by_cases b : x1 ≤ (65535 : Int32)
  · obtain ⟨s1, p1, p2⟩ := ftC x1 M 4 0 FU (fun _ => false) (by decide) (by decide)
    obtain ⟨s2, q1, q2⟩ := ftM x1 (um N 0 0 0) 16 0 FU (fun _ => false) (by decide) (by decide)
    have e : mk4 s1 = mk4 s2 := mk4_c (fun f hf => by
      rw [Bool.eq_iff_iff, p2 f hf, q2 f hf]
      exact ⟨fun w => Or.inr (by
        rcases w with w | ⟨-, c, w1, w2, w3⟩
        · cases w
        · exact ⟨c, Nat.zero_le _, w1, w2, w3⟩), fun w => Or.inr (by
        rcases w with w | ⟨c, -, w1, w2, w3⟩
        · cases w
        · exact ⟨Nat.zero_le _, c, w1, w2, w3⟩)⟩)
    have z : (0 : Int32) = mk4 (fun _ => false) := rfl
    refine ⟨.inl (mk4 s1), M, mk4 s2, um N 0 0 0, ?_, (fun k h => by cases h), ?_, um_hit, (fun v h => by cases h; exact ⟨e, trivial⟩), n, cd, hC, hM.thr 0, hV, hF⟩
    · unfold gX7_features
      rw [if_neg a, if_pos b]
      exact p1
    · unfold gX8_features gX8_isIn
      rw [lt_s9, if_neg (show ¬ x1 < (0 : Int32) from a), if_neg (show ¬ (65535 : Int32) < x1 from by rw [i32_lt]; rw [i32_le] at b; omega), if_neg (by decide)]
      exact q1
  · refine ref_s (M := M) (N := N) (k := 0) (v := 1) ?_ ?_ (by decide) (by decide) ⟨n, cd, hC, hM, hV, hF⟩
    · unfold gX7_features
      rw [if_neg a, if_neg b]
    · unfold gX8_features gX8_isIn
      rw [lt_s9, if_neg (show ¬ x1 < (0 : Int32) from a), if_pos (show (65535 : Int32) < x1 from by rw [i32_lt]; rw [i32_le] at b; omega), if_pos rfl, no_s]
