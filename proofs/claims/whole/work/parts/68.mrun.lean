/-! THE MODEL'S RUN: expressions -/
theorem gme0 {f : Nat} {M : Mm} {a b : Int32} : gME (f + 1) 0 M a b = gX8_expression (gME f) M := by rw [gME, if_pos rfl]
theorem gme1 {f : Nat} {M : Mm} {a b : Int32} : gME (f + 1) 1 M a b = gX8_term (gME f) M := by rw [gME, if_neg (by decide), if_pos rfl]
theorem gme2 {f : Nat} {M : Mm} {a b : Int32} : gME (f + 1) 2 M a b = gX8_factor (gME f) M := by rw [gME, if_neg (by decide), if_neg (by decide), if_pos rfl]
theorem gms0 {f : Nat} {M : Mm} {a b : Int32} : gMS (f + 1) 0 M a b = bd (gX8_statement (gMS f) M a) fun M1 => some (0, M1) := by rw [gMS, if_pos rfl]
theorem At_hd {row : Nat → Int32} {cnt p : Nat} {ts : List Nat} (hA : At row cnt p ts) (h0 : row cnt = nI 0) : row p = nI (hd ts) ∧ hd ts < 126 := by
  cases ts with
  | nil => rw [show p = cnt from hA]; exact ⟨h0, by decide⟩
  | cons t r => exact ⟨hA.1, hA.2.1⟩
theorem passM {t p : Nat} {M : Mm} {x : Nat} (hp : p ≤ 80) (h1 : M 0 11 = nI p) (h2 : M 9 p = nI x) (hx : x < 126) (ht : t < 126) : gX8_passes M (nI t) = if x = t then some (nI 1, um M 0 11 (nI (p + 1))) else some (nI 0, M) := by
  unfold gX8_passes
  rw [h1]
  simp (disch := omega) only [↓lt_n, ↓reduceIte, q0, q1, s_cl, s_lt, s_ltF, s_leF, or_self, h2, s_eq, s_add]
theorem mE {N : Mm} {cnt : Nat} (hcnt : cnt ≤ 80) (h0 : N 9 cnt = nI 0) {vs : Nat → Int32} (hv : ∀ v, v < 4 → N 10 v = vs v) : ∀ (d w dep : Nat) (a v : Int32) (ts r : List Nat) (p : Nat), ev vs d w dep a ts = some (v, r) → At (N 9) cnt p ts → ∃ p', At (N 9) cnt p' r ∧
    (w = 4 → ∀ f x y, 3 * ts.length + 3 ≤ f → gME f 0 (um N 0 11 (nI p)) x y = some (v, um N 0 11 (nI p'))) ∧
    (w = 5 → ∀ f fuel, 3 * ts.length + 2 ≤ f → ts.length < fuel → gX8_expression_L5 (gME f) fuel (um N 0 11 (nI p)) a = some (v, um N 0 11 (nI p'))) ∧
    (w = 6 → ∀ f x y, 3 * ts.length + 2 ≤ f → gME f 1 (um N 0 11 (nI p)) x y = some (v, um N 0 11 (nI p'))) ∧
    (w = 7 → ∀ f fuel, 3 * ts.length + 1 ≤ f → ts.length < fuel → gX8_term_L5 (gME f) fuel (um N 0 11 (nI p)) a = some (v, um N 0 11 (nI p'))) ∧
    (w = 8 → ∀ f x y, 3 * ts.length + 1 ≤ f → gME f 2 (um N 0 11 (nI p)) x y = some (v, um N 0 11 (nI p')))
  | 0, w, dep, a, v, ts, r, p, h, hA => by cases h
  | d + 1, w, dep, a, v, ts, r, p, h, hA => by
    have hlen := At_len hA
    have hr9 : um N 0 11 (nI p) 9 = N 9 := um_fn (by decide)
    obtain ⟨hrow, ht⟩ := At_hd hA h0
    have hp : um N 0 11 (nI p) 0 11 = nI p := um_hit
    have hp80 : p ≤ 80 := by omega
    rw [ev_s] at h
    by_cases w4 : w = 4
    · subst w4
      rw [if_pos rfl] at h
      obtain ⟨⟨v1, r1⟩, e1, e2⟩ := ob_s h
      have l1 := (evL e1).1
      obtain ⟨p1, A1, -, -, i6, -, -⟩ := mE hcnt h0 hv d 6 dep 0 v1 ts r1 p e1 hA
      obtain ⟨p2, A2, -, i5, -, -, -⟩ := mE hcnt h0 hv d 5 dep v1 v r1 r p1 e2 A1
      refine ⟨p2, A2, fun _ f x y hf => ?_, fun h => absurd h (by decide), fun h => absurd h (by decide), fun h => absurd h (by decide), fun h => absurd h (by decide)⟩
      obtain ⟨g, rfl⟩ : ∃ g, f = g + 1 := ⟨f - 1, by omega⟩
      rw [gme0]
      unfold gX8_expression
      rw [i6 rfl g 0 0 (by omega), bd2_some]
      exact i5 rfl g FU (by omega) (by unfold FU; omega)
    rw [if_neg w4] at h
    by_cases w5 : w = 5
    · subst w5
      rw [if_pos rfl] at h
      have done : v = a → r = ts → hd ts ≠ 43 → hd ts ≠ 45 → ∀ f fuel, 3 * ts.length + 2 ≤ f → ts.length < fuel → gX8_expression_L5 (gME f) fuel (um N 0 11 (nI p)) a = some (v, um N 0 11 (nI p)) := by
        intro ev er n1 n2 f fuel hf hfu
        subst ev
        obtain ⟨g, rfl⟩ : ∃ g, fuel = g + 1 := ⟨fuel - 1, by omega⟩
        rw [gX8_expression_L5, hp, hr9]
        simp (disch := omega) only [↓lt_n, ↓reduceIte, q0, q43, q45, s_cl, s_lt, s_ltF, s_leF, or_self, hrow, s_eq, s_eqF]
      cases ts with
      | nil => cases h; exact ⟨p, hA, fun h => absurd h (by decide), fun _ => done rfl rfl (by decide) (by decide), fun h => absurd h (by decide), fun h => absurd h (by decide), fun h => absurd h (by decide)⟩
      | cons t r1 =>
        have h : (if t = 43 then (ev vs d 6 dep 0 r1).bind fun q => ev vs d 5 dep (a + q.1) q.2 else if t = 45 then (ev vs d 6 dep 0 r1).bind fun q => ev vs d 5 dep (a - q.1) q.2 else some (a, t :: r1)) = some (v, r) := h
        have hrow : N 9 p = nI t := hrow
        have ht : t < 126 := ht
        by_cases b : t = 43
        · rw [if_pos b] at h
          obtain ⟨⟨v1, r2⟩, e1, e2⟩ := ob_s h
          have l1 := (evL e1).2 (by decide) (by decide)
          obtain ⟨p1, A1, -, -, i6, -, -⟩ := mE hcnt h0 hv d 6 dep 0 v1 r1 r2 (p + 1) e1 hA.2.2.2
          obtain ⟨p2, A2, -, i5, -, -, -⟩ := mE hcnt h0 hv d 5 dep (a + v1) v r2 r p1 e2 A1
          refine ⟨p2, A2, fun h => absurd h (by decide), fun _ f fuel hf hfu => ?_, fun h => absurd h (by decide), fun h => absurd h (by decide), fun h => absurd h (by decide)⟩
          simp only [List.length_cons] at hf hfu
          obtain ⟨g, rfl⟩ : ∃ g, fuel = g + 1 := ⟨fuel - 1, by omega⟩
          rw [gX8_expression_L5, hp, hr9]
          simp (disch := omega) only [↓lt_n, ↓reduceIte, q0, q1, q43, s_cl, s_lt, s_ltF, s_leF, or_self, hrow, s_eq, s_eqT, s_eqF, hp, s_add, um_um]
          rw [i6 rfl f _ _ (by omega), bd2_some]
          exact i5 rfl f g (by omega) (by omega)
        rw [if_neg b] at h
        by_cases b2 : t = 45
        · rw [if_pos b2] at h
          obtain ⟨⟨v1, r2⟩, e1, e2⟩ := ob_s h
          have l1 := (evL e1).2 (by decide) (by decide)
          obtain ⟨p1, A1, -, -, i6, -, -⟩ := mE hcnt h0 hv d 6 dep 0 v1 r1 r2 (p + 1) e1 hA.2.2.2
          obtain ⟨p2, A2, -, i5, -, -, -⟩ := mE hcnt h0 hv d 5 dep (a - v1) v r2 r p1 e2 A1
          refine ⟨p2, A2, fun h => absurd h (by decide), fun _ f fuel hf hfu => ?_, fun h => absurd h (by decide), fun h => absurd h (by decide), fun h => absurd h (by decide)⟩
          simp only [List.length_cons] at hf hfu
          obtain ⟨g, rfl⟩ : ∃ g, fuel = g + 1 := ⟨fuel - 1, by omega⟩
          rw [gX8_expression_L5, hp, hr9]
          simp (disch := omega) only [↓lt_n, ↓reduceIte, q0, q1, q43, q45, s_cl, s_lt, s_ltF, s_leF, or_self, hrow, s_eq, s_eqT, s_eqF, hp, s_add, um_um]
          rw [i6 rfl f _ _ (by omega), bd2_some]
          exact i5 rfl f g (by omega) (by omega)
        · rw [if_neg b2] at h
          cases h
          exact ⟨p, hA, fun h => absurd h (by decide), fun _ => done rfl rfl b b2, fun h => absurd h (by decide), fun h => absurd h (by decide), fun h => absurd h (by decide)⟩
    rw [if_neg w5] at h
    by_cases w6 : w = 6
    · subst w6
      rw [if_pos rfl] at h
      obtain ⟨⟨v1, r1⟩, e1, e2⟩ := ob_s h
      have l1 := (evL e1).1
      obtain ⟨p1, A1, -, -, -, -, i8⟩ := mE hcnt h0 hv d 8 dep 0 v1 ts r1 p e1 hA
      obtain ⟨p2, A2, -, -, -, i7, -⟩ := mE hcnt h0 hv d 7 dep v1 v r1 r p1 e2 A1
      refine ⟨p2, A2, fun h => absurd h (by decide), fun h => absurd h (by decide), fun _ f x y hf => ?_, fun h => absurd h (by decide), fun h => absurd h (by decide)⟩
      obtain ⟨g, rfl⟩ : ∃ g, f = g + 1 := ⟨f - 1, by omega⟩
      rw [gme1]
      unfold gX8_term
      rw [i8 rfl g 0 0 (by omega), bd2_some]
      exact i7 rfl g FU (by omega) (by unfold FU; omega)
    rw [if_neg w6] at h
    have ps := passM (t := 42) hp80 hp (by rw [hr9]; exact hrow) ht (by decide)
    rw [um_um, show nI 42 = (42 : Int32) from rfl] at ps
    by_cases w7 : w = 7
    · subst w7
      rw [if_pos rfl] at h
      have done : v = a → r = ts → hd ts ≠ 42 → ∀ f fuel, 3 * ts.length + 1 ≤ f → ts.length < fuel → gX8_term_L5 (gME f) fuel (um N 0 11 (nI p)) a = some (v, um N 0 11 (nI p)) := by
        intro ev er n1 f fuel hf hfu
        subst ev
        obtain ⟨g, rfl⟩ : ∃ g, fuel = g + 1 := ⟨fuel - 1, by omega⟩
        rw [if_neg n1] at ps
        rw [gX8_term_L5, ps, bd2_some, if_pos (show nI 0 = 0 from rfl)]
      cases ts with
      | nil => cases h; exact ⟨p, hA, fun h => absurd h (by decide), fun h => absurd h (by decide), fun h => absurd h (by decide), fun _ => done rfl rfl (by decide), fun h => absurd h (by decide)⟩
      | cons t r1 =>
        have h : (if t = 42 then (ev vs d 8 dep 0 r1).bind fun q => ev vs d 7 dep (a * q.1) q.2 else some (a, t :: r1)) = some (v, r) := h
        by_cases b : t = 42
        · rw [if_pos b] at h
          obtain ⟨⟨v1, r2⟩, e1, e2⟩ := ob_s h
          have l1 := (evL e1).2 (by decide) (by decide)
          obtain ⟨p1, A1, -, -, -, -, i8⟩ := mE hcnt h0 hv d 8 dep 0 v1 r1 r2 (p + 1) e1 hA.2.2.2
          obtain ⟨p2, A2, -, -, -, i7, -⟩ := mE hcnt h0 hv d 7 dep (a * v1) v r2 r p1 e2 A1
          refine ⟨p2, A2, fun h => absurd h (by decide), fun h => absurd h (by decide), fun h => absurd h (by decide), fun _ f fuel hf hfu => ?_, fun h => absurd h (by decide)⟩
          simp only [List.length_cons] at hf hfu
          obtain ⟨g, rfl⟩ : ∃ g, fuel = g + 1 := ⟨fuel - 1, by omega⟩
          rw [show hd (t :: r1) = t from rfl, if_pos b] at ps
          rw [gX8_term_L5, ps, bd2_some, if_neg (show ¬ nI 1 = 0 by decide), i8 rfl f 0 0 (by omega), bd2_some]
          exact i7 rfl f g (by omega) (by omega)
        · rw [if_neg b] at h
          cases h
          exact ⟨p, hA, fun h => absurd h (by decide), fun h => absurd h (by decide), fun h => absurd h (by decide), fun _ => done rfl rfl b, fun h => absurd h (by decide)⟩
    rw [if_neg w7] at h
    cases ts with
    | nil => cases h
    | cons t r1 =>
      have h : (if t = 45 then (ev vs d 8 dep 0 r1).bind fun q => some (-q.1, q.2) else if t = 40 then (if 40 < dep then none else (ev vs d 4 (dep + 1) 0 r1).bind fun q => (tl 41 q.2).bind fun r' => some (q.1, r')) else if dg t then some (nI (t - 48), r1) else if nm t then some (vs (t - 97), r1) else none) = some (v, r) := h
      have hrow : N 9 p = nI t := hrow
      have ht : t < 126 := ht
      obtain ⟨-, -, -, g4, g5⟩ := dg_n t (List.mem_range.mpr ht)
      have body : ∀ p', (∀ f, 3 * (r1.length + 1) ≤ f → (if nI t = nI 45 then (bd2 (gME f 2 (um N 0 11 (nI (p + 1))) 0 0) fun r14 M13 => some ((-r14), M13)) else if nI t = nI 40 then (bd2 (gME f 0 (um N 0 11 (nI (p + 1))) 0 0) fun r10 M9 => lt (um M9 0 11 ((M9 0 11) + (1 : Int32))) fun M11 => some (r10, M11)) else if (gX8_isName (nI t)) = 0 then (some ((nI t - (48 : Int32)), um N 0 11 (nI (p + 1)))) else if ((nI t - (97 : Int32)) < 0 ∨ 4 ≤ ((nI t - (97 : Int32))).toNatClampNeg) then none else some ((um N 0 11 (nI (p + 1)) 10 ((nI t - (97 : Int32))).toNatClampNeg), um N 0 11 (nI (p + 1)))) = some (v, um N 0 11 (nI p'))) → ∀ f x y, 3 * (t :: r1).length + 1 ≤ f → gME f 2 (um N 0 11 (nI p)) x y = some (v, um N 0 11 (nI p')) := by
        intro p' hb f x y hf
        simp only [List.length_cons] at hf
        obtain ⟨g, rfl⟩ : ∃ g, f = g + 1 := ⟨f - 1, by omega⟩
        rw [gme2]
        unfold gX8_factor
        rw [hp, hr9, ckI (show p < 81 by omega) (by decide), cI (by omega), hrow, lt_s9, up1, um_um, lt_s9]
        exact hb g (by omega)
      by_cases b : t = 45
      · rw [if_pos b] at h
        obtain ⟨⟨v1, r2⟩, e1, e2⟩ := ob_s h
        cases e2
        obtain ⟨p1, A1, -, -, -, -, i8⟩ := mE hcnt h0 hv d 8 dep 0 v1 r1 r2 (p + 1) e1 hA.2.2.2
        refine ⟨p1, A1, fun h => absurd h w4, fun h => absurd h w5, fun h => absurd h w6, fun h => absurd h w7, fun _ => body p1 (fun f hf => ?_)⟩
        rw [if_pos (by rw [b]), i8 rfl f 0 0 (by omega), bd2_some]
      rw [if_neg b] at h
      have n45 : ¬ nI t = nI 45 := by rw [s_eq (by omega) (by omega)]; exact b
      by_cases b2 : t = 40
      · rw [if_pos b2] at h
        by_cases hd40 : 40 < dep
        · rw [if_pos hd40] at h; cases h
        rw [if_neg hd40] at h
        obtain ⟨⟨v1, r2⟩, e1, e2⟩ := ob_s h
        obtain ⟨r', e3, e4⟩ := ob_s e2
        cases e4
        obtain ⟨t3, u, hu, hu2⟩ := tl_len e3
        dsimp only at hu
        subst hu
        obtain ⟨p1, A1, i4, -, -, -, -⟩ := mE hcnt h0 hv d 4 (dep + 1) 0 v1 r1 (u :: r) (p + 1) e1 hA.2.2.2
        refine ⟨p1 + 1, A1.2.2.2, fun h => absurd h w4, fun h => absurd h w5, fun h => absurd h w6, fun h => absurd h w7, fun _ => body (p1 + 1) (fun f hf => ?_)⟩
        rw [if_neg n45, if_pos (by rw [b2]), i4 rfl f 0 0 (by omega), bd2_some, lt_s9, um_hit, up1, um_um]
      rw [if_neg b2] at h
      have n40 : ¬ nI t = nI 40 := by rw [s_eq (by omega) (by omega)]; exact b2
      by_cases b3 : dg t
      · rw [if_pos b3] at h
        cases h
        refine ⟨p + 1, hA.2.2.2, fun h => absurd h w4, fun h => absurd h w5, fun h => absurd h w6, fun h => absurd h w7, fun _ => body (p + 1) (fun f hf => ?_)⟩
        rw [if_neg n45, if_neg n40, if_pos (by rw [g4]; exact s_bF (by omega)), ← g5 b3]
        rfl
      rw [if_neg b3] at h
      by_cases b4 : nm t
      · rw [if_pos b4] at h
        cases h
        refine ⟨p + 1, hA.2.2.2, fun h => absurd h w4, fun h => absurd h w5, fun h => absurd h w6, fun h => absurd h w7, fun _ => body (p + 1) (fun f hf => ?_)⟩
        rw [if_neg n45, if_neg n40, if_neg (by rw [g4, s_bT b4]; decide), q97, s_sub (by omega), ckI (by omega) (by decide), cI (by omega), um_fn (by decide), hv _ (by omega)]
      · rw [if_neg b4] at h; cases h
