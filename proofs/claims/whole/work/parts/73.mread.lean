/-! THE MODEL'S READING -/
def SkM (row : Nat → Int32) (o : Nat) : List Nat → Prop
  | [] => True
  | x :: r => row (o + r.length) = nI x ∧ SkM row o r
theorem SkM_c {row row' : Nat → Int32} {o : Nat} : ∀ {s : List Nat}, SkM row o s → (∀ j, j < s.length → row' (o + j) = row (o + j)) → SkM row' o s
  | [], _, _ => trivial
  | x :: r, h, e => ⟨(e r.length (Nat.lt_succ_self _)).trans h.1, SkM_c h.2 (fun j hj => e j (Nat.lt_succ_of_lt hj))⟩
def RdM (N : Mm) (c : Nat) (s : List Nat) : Prop := N 5 c = nI s.length ∧ SkM (N 4) (400 * c) s
def FrM (c : Nat) (N N' : Mm) : Prop := (∀ a, a ≠ 4 → a ≠ 5 → N' a = N a) ∧ (∀ b, b ≠ c → N' 5 b = N 5 b) ∧ ∀ j, (j < 400 * c ∨ 400 * c + 400 ≤ j) → N' 4 j = N 4 j
theorem FrM.tr {c : Nat} {M M' M'' : Mm} (h : FrM c M M') (h' : FrM c M' M'') : FrM c M M'' := ⟨fun a b1 b2 => (h'.1 a b1 b2).trans (h.1 a b1 b2), fun i hi => (h'.2.1 i hi).trans (h.2.1 i hi), fun i hi => (h'.2.2 i hi).trans (h.2.2 i hi)⟩
theorem FrM.rf {c : Nat} {M : Mm} : FrM c M M := ⟨fun _ _ _ => rfl, fun _ _ => rfl, fun _ _ => rfl⟩
theorem FrM.oth {b c : Nat} {N N' : Mm} {s : List Nat} (h : FrM c N N') (hb : b ≠ c) (hl : s.length ≤ 400) (hR : RdM N b s) : RdM N' b s := by
  refine ⟨(h.2.1 b hb).trans hR.1, SkM_c hR.2 (fun j hj => h.2.2 _ ?_)⟩
  omega
theorem pushM {N : Mm} {c x : Nat} {s : List Nat} (h : RdM N c s) (hc : c < 16) (hl : s.length < 400) : ∃ N', gX8_push N (nI c) (nI x) = some N' ∧ RdM N' c (x :: s) ∧ FrM c N N' := by
  obtain ⟨h1, h2⟩ := h
  refine ⟨um (um N 4 (400 * c + s.length) (nI x)) 5 c (nI (s.length + 1)), ?_, ⟨um_hit, ?_, ?_⟩, fun a b1 b2 => ?_, fun b hb => ?_, fun j hj => ?_⟩
  · unfold gX8_push
    simp (disch := omega) only [↓lt_n, ↓reduceIte, q0, q1, q400, s_cl, s_lt, s_ltF, s_leF, or_self, h1, s_mul, s_add]
    rw [um_fn (show (5 : Nat) ≠ 4 by decide), h1, s_add]
  · rw [um_fn (by decide), um_hit]
  · refine SkM_c h2 (fun j hj => ?_)
    rw [um_fn (by decide), um_place (by omega)]
  · rw [um_fn b2, um_fn b1]
  · rw [um_place hb, um_fn (by decide)]
  · rw [um_fn (by decide), um_place (by omega)]
/-- what one replacement does in the model: with the symbols q, or a refusal -/
def EX (N : Mm) (c : Nat) (r : List Nat) (o : Option (Int32 × Mm)) (q : Option (List Nat)) : Prop := match q with
  | some q => ∃ N', o = some (1, N') ∧ RdM N' c (q ++ r) ∧ FrM c N N'
  | none => ∃ N', o = some (0, N') ∧ FrM c N N'
theorem push2 {N : Mm} {c x y : Nat} {s : List Nat} (h : RdM N c s) (hc : c < 16) (hl : s.length + 1 < 400) : ∃ N1 N', gX8_push N (nI c) (nI y) = some N1 ∧ gX8_push N1 (nI c) (nI x) = some N' ∧ RdM N' c (x :: y :: s) ∧ FrM c N N' := by
  obtain ⟨N1, e1, R1, F1⟩ := pushM (x := y) h hc (by omega)
  obtain ⟨N2, e2, R2, F2⟩ := pushM (x := x) R1 hc (by simp only [List.length_cons]; omega)
  exact ⟨N1, N2, e1, e2, R2, F1.tr F2⟩
theorem push3 {N : Mm} {c x y z : Nat} {s : List Nat} (h : RdM N c s) (hc : c < 16) (hl : s.length + 2 < 400) : ∃ N1 N2 N', gX8_push N (nI c) (nI z) = some N1 ∧ gX8_push N1 (nI c) (nI y) = some N2 ∧ gX8_push N2 (nI c) (nI x) = some N' ∧ RdM N' c (x :: y :: z :: s) ∧ FrM c N N' := by
  obtain ⟨N1, N2, e1, e2, R2, F2⟩ := push2 (x := y) (y := z) h hc (by omega)
  obtain ⟨N3, e3, R3, F3⟩ := pushM (x := x) R2 hc (by simp only [List.length_cons]; omega)
  exact ⟨N1, N2, N3, e1, e2, e3, R3, F2.tr F3⟩
theorem push4 {N : Mm} {c x y z w : Nat} {s : List Nat} (h : RdM N c s) (hc : c < 16) (hl : s.length + 3 < 400) : ∃ N1 N2 N3 N', gX8_push N (nI c) (nI w) = some N1 ∧ gX8_push N1 (nI c) (nI z) = some N2 ∧ gX8_push N2 (nI c) (nI y) = some N3 ∧ gX8_push N3 (nI c) (nI x) = some N' ∧ RdM N' c (x :: y :: z :: w :: s) ∧ FrM c N N' := by
  obtain ⟨N1, N2, N3, e1, e2, e3, R3, F3⟩ := push3 (x := y) (y := z) (z := w) h hc (by omega)
  obtain ⟨N4, e4, R4, F4⟩ := pushM (x := x) R3 hc (by simp only [List.length_cons]; omega)
  exact ⟨N1, N2, N3, N4, e1, e2, e3, e4, R4, F3.tr F4⟩
theorem canB {t : Nat} (ht : t < 126) : gX8_canBegin (nI t) = bI (decide (cb t)) := (show ∀ t ∈ List.range 126, gX8_canBegin (nI t) = bI (decide (cb t)) from by decide +kernel) t (List.mem_range.mpr ht)
theorem exS {N : Mm} {c t : Nat} {r : List Nat} (h : RdM N c r) (hc : c < 16) (ht : t < 126) (hl : r.length + 4 < 400) : EX N c r (gX8_expandStatement N (nI c) (nI t)) ((bS t).map (t :: ·)) := by
  have hnm := (dg_n t (List.mem_range.mpr ht)).2.2.2.1
  unfold gX8_expandStatement
  rw [canB ht, hnm]
  unfold bS
  by_cases a1 : nm t
  · obtain ⟨N1, N2, N3, N4, e1, e2, e3, e4, R, F⟩ := push4 (x := t) (y := 61) (z := 4) (w := 59) h hc (by omega)
    rw [if_pos a1, s_bT (Or.inl a1), s_bT a1]
    simp (disch := omega) only [↓reduceIte, q0, q1, q123, q63, q59, q4, q61, s_eq, s_eqF, bd_some, e1, e2, e3, e4]
    exact ⟨N4, rfl, R, F⟩
  rw [if_neg a1, s_bF a1]
  by_cases a2 : t = 123
  · obtain ⟨N1, N2, N3, e1, e2, e3, R, F⟩ := push3 (x := t) (y := 1) (z := 125) h hc (by omega)
    rw [if_pos a2, s_bT (Or.inr (Or.inl a2))]
    simp (disch := omega) only [↓reduceIte, q0, q1, q123, q125, s_eq, s_eqF, s_eqT, bd_some, e1, e2, e3]
    exact ⟨N3, rfl, R, F⟩
  rw [if_neg a2]
  by_cases a3 : t = 63
  · obtain ⟨N1, N2, N3, N4, e1, e2, e3, e4, R, F⟩ := push4 (x := t) (y := 4) (z := 2) (w := 3) h hc (by omega)
    rw [if_pos a3, s_bT (Or.inr (Or.inr (Or.inl a3)))]
    simp (disch := omega) only [↓reduceIte, q0, q1, q2, q3, q4, q123, q63, s_eq, s_eqF, s_eqT, bd_some, e1, e2, e3, e4]
    exact ⟨N4, rfl, R, F⟩
  rw [if_neg a3]
  by_cases a4 : t = 33
  · obtain ⟨N1, N2, N3, e1, e2, e3, R, F⟩ := push3 (x := t) (y := 4) (z := 59) h hc (by omega)
    rw [if_pos a4, s_bT (Or.inr (Or.inr (Or.inr a4)))]
    simp (disch := omega) only [↓reduceIte, q0, q1, q4, q59, q123, q63, s_eq, s_eqF, s_eqT, bd_some, e1, e2, e3]
    exact ⟨N3, rfl, R, F⟩
  rw [if_neg a4, s_bF (by omega)]
  exact ⟨N, rfl, FrM.rf⟩
theorem exF {N : Mm} {c t : Nat} {r : List Nat} (h : RdM N c r) (hc : c < 16) (ht : t < 126) (hl : r.length + 4 < 400) : EX N c r (gX8_expandFactor N (nI c) (nI t)) ((bF t).map (t :: ·)) := by
  have hnm := (dg_n t (List.mem_range.mpr ht)).2.2.2.1
  have z1 : ¬ (¬ (nI 1 = nI 0 ∨ nI 1 = nI 1)) := fun w => w (Or.inr rfl)
  have z0 : ¬ (¬ (nI 0 = nI 0 ∨ nI 0 = nI 1)) := fun w => w (Or.inl rfl)
  unfold gX8_expandFactor
  rw [hnm]
  unfold bF
  by_cases a1 : dg t ∨ nm t
  · obtain ⟨N1, e1, R, F⟩ := pushM (x := t) h hc (by omega)
    rw [if_pos a1]
    refine ⟨N1, ?_, R, F⟩
    by_cases a2 : dg t
    · rw [s_bF (show ¬ nm t by omega)]
      simp (disch := omega) only [↓lt_n, ↓reduceIte, q0, q1, q48, show (57 : Int32) = nI 57 from by decide +kernel, q40, q45, s_lt, s_ltF, s_le, s_leT, s_eq, s_eqF, s_eqT, or_true, not_t, bd_some, e1]
    · have a3 : nm t := a1.resolve_left a2
      rw [s_bT a3]
      simp (disch := omega) only [↓lt_n, ↓reduceIte, q0, q1, q48, show (57 : Int32) = nI 57 from by decide +kernel, q40, q45, s_lt, s_ltF, s_le, s_leF, s_eq, s_eqF, s_eqT, or_true, not_t, bd_some, e1]
  rw [if_neg a1, s_bF (show ¬ nm t by omega)]
  by_cases a2 : t = 40
  · obtain ⟨N1, N2, N3, e1, e2, e3, R, F⟩ := push3 (x := t) (y := 4) (z := 41) h hc (by omega)
    rw [if_pos a2]
    refine ⟨N3, ?_, R, F⟩
    simp (disch := omega) only [↓lt_n, ↓reduceIte, q0, q1, q4, q41, q48, show (57 : Int32) = nI 57 from by decide +kernel, q40, q45, s_lt, s_ltT, s_le, s_leF, s_eq, s_eqF, s_eqT, or_true, not_t, bd_some, e1, e2, e3]
  rw [if_neg a2]
  by_cases a3 : t = 45
  · obtain ⟨N1, N2, e1, e2, R, F⟩ := push2 (x := t) (y := 8) h hc (by omega)
    rw [if_pos a3]
    refine ⟨N2, ?_, R, F⟩
    simp (disch := omega) only [↓lt_n, ↓reduceIte, q0, q1, q8, q48, show (57 : Int32) = nI 57 from by decide +kernel, q40, q45, s_lt, s_ltT, s_le, s_leF, s_eq, s_eqF, s_eqT, or_true, not_t, bd_some, e1, e2]
  rw [if_neg a3]
  obtain ⟨N1, e1, R, F⟩ := pushM (x := t) h hc (by omega)
  refine ⟨N1, ?_, F⟩
  by_cases b : t < 48
  · simp (disch := omega) only [↓lt_n, ↓reduceIte, q0, q1, q48, show (57 : Int32) = nI 57 from by decide +kernel, q40, q45, s_lt, s_ltT, s_eq, s_eqF, s_eqT, true_or, not_t, bd_some, e1]
  · simp (disch := omega) only [↓lt_n, ↓reduceIte, q0, q1, q48, show (57 : Int32) = nI 57 from by decide +kernel, q40, q45, s_lt, s_ltF, s_le, s_leF, s_eq, s_eqF, s_eqT, true_or, not_t, bd_some, e1]
theorem dropN {N : Mm} {c x : Nat} {s : List Nat} (h : RdM N c (x :: s)) : RdM (um N 5 c (nI s.length)) c s ∧ FrM c N (um N 5 c (nI s.length)) := by
  refine ⟨⟨um_hit, ?_⟩, fun a b1 b2 => um_fn b2, fun b hb => um_place hb, fun j hj => by rw [um_fn (by decide)]⟩
  rw [um_fn (by decide)]; exact h.2.2
theorem exM {N : Mm} {c t x : Nat} {r : List Nat} (h : RdM N c (x :: r)) (hc : c < 16) (ht : t < 126) (hx : 1 ≤ x) (hx8 : x ≤ 8) (hl : r.length + 4 < 400) : EX N c r (gX8_expand N (nI c) (nI t)) (stp1 t x) := by
  obtain ⟨R0, F0⟩ := dropN h
  have h1 : N 5 c = nI (r.length + 1) := h.1
  have h2 : N 4 (400 * c + r.length) = nI x := h.2.1
  obtain ⟨N0, hN0⟩ : ∃ N0, um N 5 c (nI r.length) = N0 := ⟨_, rfl⟩
  have h5 : N0 5 c = nI r.length := by rw [← hN0, um_hit]
  have h4 : N0 4 = N 4 := by rw [← hN0, um_fn (by decide)]
  rw [hN0] at R0 F0
  have lift : ∀ {o : Option (Int32 × Mm)} {q : Option (List Nat)}, EX N0 c r o q → EX N c r o q := by
    intro o q hE
    cases q with
    | none => obtain ⟨N', a, b⟩ := hE; exact ⟨N', a, F0.tr b⟩
    | some q => obtain ⟨N', a, b, d⟩ := hE; exact ⟨N', a, b, F0.tr d⟩
  have rec2 : ∀ {o : Option (Int32 × Mm)} {q : Option (List Nat)}, EX N0 c r o q → EX N0 c r (bd2 o fun r20 M19 => if ¬ (r20 = nI 0 ∨ r20 = nI 1) then none else some (r20, M19)) q := by
    intro o q hE
    cases q with
    | none => obtain ⟨N', a, b⟩ := hE; exact ⟨N', by rw [a, bd2_some, if_neg (fun w => w (Or.inl rfl))], b⟩
    | some q => obtain ⟨N', a, b, d⟩ := hE; exact ⟨N', by rw [a, bd2_some, if_neg (fun w => w (Or.inr rfl))], b, d⟩
  refine lift ?_
  unfold gX8_expand
  simp (disch := omega) only [↓lt_n, ↓reduceIte, q0, q1, q400, s_cl, s_lt, s_ltF, s_leF, or_self, h1, s_sub, s_mul, Nat.add_sub_cancel, hN0, h5, s_add, h4, h2]
  rw [canB ht]
  rcases (show x = 1 ∨ x = 2 ∨ x = 3 ∨ x = 4 ∨ x = 5 ∨ x = 6 ∨ x = 7 ∨ x = 8 by omega) with rfl | rfl | rfl | rfl | rfl | rfl | rfl | rfl
  · rw [if_pos rfl]
    by_cases b : cb t
    · obtain ⟨N1, N2, e1, e2, R, F⟩ := push2 (x := 2) (y := 1) R0 hc (by omega)
      rw [s_bT b, show stp1 t 1 = some [2, 1] by simp [stp1, b]]
      simp (disch := omega) only [↓reduceIte, q2, s_eq, s_eqF, bd_some, e1, e2]
      exact ⟨N2, rfl, R, F⟩
    · rw [s_bF b, show stp1 t 1 = some [] by simp [stp1, b]]
      simp (disch := omega) only [↓reduceIte]
      exact ⟨N0, rfl, R0, FrM.rf⟩
  · simp (disch := omega) only [↓reduceIte, q2, s_eq, s_eqF]
    exact rec2 (exS R0 hc ht hl)
  · simp (disch := omega) only [↓reduceIte, q2, q3, q58, s_eq, s_eqF, s_eqT]
    by_cases b : t = 58
    · obtain ⟨N1, N2, e1, e2, R, F⟩ := push2 (x := 58) (y := 2) R0 hc (by omega)
      rw [show stp1 t 3 = some [58, 2] by simp [stp1, b]]
      simp (disch := omega) only [↓reduceIte, b, bd_some, e1, e2]
      exact ⟨N2, rfl, R, F⟩
    · rw [show stp1 t 3 = some [] by simp [stp1, b]]
      simp (disch := omega) only [↓reduceIte, b]
      exact ⟨N0, rfl, R0, FrM.rf⟩
  · obtain ⟨N1, N2, e1, e2, R, F⟩ := push2 (x := 6) (y := 5) R0 hc (by omega)
    simp (disch := omega) only [↓reduceIte, q2, q3, q4, q5, q6, s_eq, s_eqF, s_eqT, bd_some, e1, e2]
    exact ⟨N2, rfl, R, F⟩
  · simp (disch := omega) only [↓reduceIte, q2, q3, q4, q5, q43, q45, s_eq, s_eqF, s_eqT]
    by_cases b : t = 43
    · obtain ⟨N1, N2, N3, e1, e2, e3, R, F⟩ := push3 (x := t) (y := 6) (z := 5) R0 hc (by omega)
      rw [show stp1 t 5 = some [t, 6, 5] by simp [stp1, b]]
      simp (disch := omega) only [↓reduceIte, q6, s_eqT, bd_some, e1, e2, e3]
      exact ⟨N3, rfl, R, F⟩
    by_cases b2 : t = 45
    · obtain ⟨N1, N2, N3, e1, e2, e3, R, F⟩ := push3 (x := t) (y := 6) (z := 5) R0 hc (by omega)
      rw [show stp1 t 5 = some [t, 6, 5] by simp [stp1, b2]]
      simp (disch := omega) only [↓reduceIte, q6, s_eqT, s_eqF, bd_some, e1, e2, e3]
      exact ⟨N3, rfl, R, F⟩
    · rw [show stp1 t 5 = some [] by simp [stp1, b, b2]]
      simp (disch := omega) only [↓reduceIte, s_eqF]
      exact ⟨N0, rfl, R0, FrM.rf⟩
  · obtain ⟨N1, N2, e1, e2, R, F⟩ := push2 (x := 8) (y := 7) R0 hc (by omega)
    simp (disch := omega) only [↓reduceIte, q2, q3, q4, q5, q6, q7, q8, s_eq, s_eqF, s_eqT, bd_some, e1, e2]
    exact ⟨N2, rfl, R, F⟩
  · simp (disch := omega) only [↓reduceIte, q2, q3, q4, q5, q6, q7, q42, s_eq, s_eqF, s_eqT]
    by_cases b : t = 42
    · obtain ⟨N1, N2, N3, e1, e2, e3, R, F⟩ := push3 (x := t) (y := 8) (z := 7) R0 hc (by omega)
      rw [show stp1 t 7 = some [t, 8, 7] by simp [stp1, b]]
      simp (disch := omega) only [↓reduceIte, q8, s_eqT, bd_some, e1, e2, e3]
      exact ⟨N3, rfl, R, F⟩
    · rw [show stp1 t 7 = some [] by simp [stp1, b]]
      simp (disch := omega) only [↓reduceIte, s_eqF]
      exact ⟨N0, rfl, R0, FrM.rf⟩
  · simp (disch := omega) only [↓reduceIte, q2, q3, q4, q5, q6, q7, s_eq, s_eqF]
    exact rec2 (exF R0 hc ht hl)
theorem m_rt {c t : Nat} (hc : c < 16) (ht : t < 126) {E : Mm → Option (Int32 × Mm)} : ∀ (k fuel : Nat) (N : Mm) (s : List Nat), k < fuel → svv s → s.length ≤ 320 → RdM N c s → (rt t k s).1 ≠ [0] → ((rt t k s).2 = false ∨ ∀ y r, (rt t k s).1 = y :: r → 8 < y) → ∃ N', FrM c N N' ∧ (if (rt t k s).2 = true then gX8_readOne_L0 (nI c) (nI t) E fuel N = E N' ∧ RdM N' c (rt t k s).1 else gX8_readOne_L0 (nI c) (nI t) E fuel N = some (0, N')) := by
  intro k
  have stop : ∀ (fuel : Nat) (N : Mm) (s : List Nat), 0 < fuel → s.length ≤ 320 → svv s → RdM N c s → (∀ y r, s = y :: r → 8 < y) → gX8_readOne_L0 (nI c) (nI t) E fuel N = E N := by
    intro fuel N s hf hl hs hR hy
    obtain ⟨g, rfl⟩ : ∃ g, fuel = g + 1 := ⟨fuel - 1, by omega⟩
    rw [gX8_readOne_L0]
    cases s with
    | nil =>
      have h5 : N 5 c = nI 0 := hR.1
      simp (disch := omega) only [↓reduceIte, q0, s_cl, s_lt, s_ltF, s_leF, or_self, h5, s_le, s_leT]
    | cons y r =>
      have h5 : N 5 c = nI (r.length + 1) := hR.1
      have h4 : N 4 (400 * c + r.length) = nI y := hR.2.1
      have := hy y r rfl
      have hs2 := hs y List.mem_cons_self
      simp only [List.length_cons] at hl
      have e : 400 * c + (r.length + 1) - 1 = 400 * c + r.length := by omega
      simp (disch := omega) only [↓reduceIte, q0, q1, q8, q400, s_cl, s_lt, s_ltF, s_ltT, s_leF, or_self, h5, s_le, s_mul, s_add, s_sub, e, h4]
  induction k with
  | zero =>
    intro fuel N s h1 hs hl hR hn hfin
    refine ⟨N, FrM.rf, ?_⟩
    rw [if_pos (show (rt t 0 s).2 = true from rfl)]
    refine ⟨stop fuel N s h1 hl hs hR ?_, hR⟩
    rcases hfin with h | h
    · cases h
    · exact h
  | succ k ih =>
    intro fuel N s h1 hs hl hR hn hfin
    obtain ⟨g, rfl⟩ : ∃ g, fuel = g + 1 := ⟨fuel - 1, by omega⟩
    cases s with
    | nil =>
      refine ⟨N, FrM.rf, ?_⟩
      rw [if_pos (show (rt t (k + 1) []).2 = true from rfl)]
      exact ⟨stop (g + 1) N [] (by omega) hl hs hR (fun y r h => by cases h), hR⟩
    | cons x r =>
      have hx := hs x List.mem_cons_self
      by_cases a : 8 < x
      · have e : rt t (k + 1) (x :: r) = (x :: r, true) := by rw [rt, if_pos a]
        rw [e]
        exact ⟨N, FrM.rf, by rw [if_pos rfl]; exact ⟨stop (g + 1) N (x :: r) (by omega) hl hs hR (fun y r' h => by cases h; exact a), hR⟩⟩
      simp only [List.length_cons] at hl
      have h5 : N 5 c = nI (r.length + 1) := hR.1
      have h4 : N 4 (400 * c + r.length) = nI x := hR.2.1
      have e9 : 400 * c + (r.length + 1) - 1 = 400 * c + r.length := by omega
      have hex := exM (t := t) hR hc ht (by omega) (by omega) (by omega)
      have e0 : gX8_readOne_L0 (nI c) (nI t) E (g + 1) N = bd2 (gX8_expand N (nI c) (nI t)) fun r23 M22 => if r23 = nI 0 then (some (nI 0, M22)) else gX8_readOne_L0 (nI c) (nI t) E g M22 := by
        rw [gX8_readOne_L0]
        simp (disch := omega) only [↓reduceIte, q0, q1, q8, q400, s_cl, s_lt, s_ltF, s_leF, or_self, h5, s_le, s_mul, s_add, s_sub, e9, h4]
      have hsy := stp1_sym t (List.mem_range.mpr ht) x (List.mem_range.mpr (by omega))
      cases hq : stp1 t x with
      | none =>
        have e : rt t (k + 1) (x :: r) = (x :: r, false) := by rw [rt, if_neg a, hq]
        rw [hq] at hex
        obtain ⟨N', a1, a2⟩ := hex
        rw [e]
        refine ⟨N', a2, ?_⟩
        rw [if_neg (show ¬ (x :: r, false).2 = true from Bool.false_ne_true), e0, a1, bd2_some, if_pos (show (0 : Int32) = nI 0 from rfl)]
        rfl
      | some q =>
        have e : rt t (k + 1) (x :: r) = if 320 < q.length + r.length then ([0], false) else rt t k (q ++ r) := by rw [rt, if_neg a, hq]
        rw [hq] at hex hsy
        have hsy : (q.all (fun y => decide (sym y)) && decide (q.length ≤ 4)) = true := hsy
        simp only [Bool.and_eq_true, decide_eq_true_iff, List.all_eq_true] at hsy
        obtain ⟨N', a1, a2, a3⟩ := hex
        rw [e] at hn hfin ⊢
        by_cases gd : 320 < q.length + r.length
        · rw [if_pos gd] at hn; exact absurd rfl hn
        rw [if_neg gd] at hn hfin ⊢
        obtain ⟨N2, F2, b2⟩ := ih g N' (q ++ r) (by omega) (fun y hy => by
          rcases List.mem_append.mp hy with h | h
          · exact hsy.1 y h
          · exact hs y (List.mem_cons_of_mem _ h)) (by rw [List.length_append]; omega) a2 hn hfin
        refine ⟨N2, a3.tr F2, ?_⟩
        rw [e0, a1, bd2_some, if_neg (show ¬ (1 : Int32) = nI 0 by decide)]
        exact b2
