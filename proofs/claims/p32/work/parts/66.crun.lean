/-- lengths, for statements -/
theorem xsL : ∀ {d w dep : Nat} {lv : Bool} {vs vs' : Nat → Int32} {os os' : List Int32} {ts r : List Nat}, xst d w dep lv vs os ts = some (vs', os', r) → r.length ≤ ts.length ∧ (w = 2 → r.length < ts.length) ∧ os'.length + r.length ≤ os.length + ts.length
  | 0, w, dep, lv, vs, vs', os, os', ts, r, h => by cases h
  | d + 1, w, dep, lv, vs, vs', os, os', ts, r, h => by
    rw [xst_s] at h
    by_cases w1 : w = 1
    · rw [if_pos w1] at h
      cases ts with
      | nil => cases h; exact ⟨Nat.le_refl _, fun e => absurd (w1.symm.trans e) (by decide), Nat.le_refl _⟩
      | cons t r1 =>
        have h : (if cb t then (xst d 2 dep lv vs os (t :: r1)).bind fun q => xst d 1 dep lv q.1 q.2.1 q.2.2 else some (vs, os, t :: r1)) = some (vs', os', r) := h
        by_cases b : cb t
        · rw [if_pos b] at h
          obtain ⟨⟨a1, a2, a3⟩, h1, h2⟩ := ob_s h
          have i1 := xsL h1
          have i2 := xsL h2
          dsimp only at i1 i2
          exact ⟨by omega, fun e => by omega, by omega⟩
        · rw [if_neg b] at h; cases h; exact ⟨Nat.le_refl _, fun e => absurd (w1.symm.trans e) (by decide), Nat.le_refl _⟩
    rw [if_neg w1] at h
    by_cases w2 : w = 2
    · rw [if_pos w2] at h
      by_cases hd : 40 < dep
      · rw [if_pos hd] at h; cases h
      rw [if_neg hd] at h
      cases ts with
      | nil => cases h
      | cons t r1 =>
        simp only [List.length_cons]
        have h : (if t = 123 then (xst d 1 (dep + 1) lv vs os r1).bind fun q => (tl 125 q.2.2).bind fun r' => some (q.1, q.2.1, r')
          else if t = 63 then (ev vs d 4 (dep + 1) 0 r1).bind fun q => (xst d 2 (dep + 1) (lv && !decide (q.1 = 0)) vs os q.2).bind fun p => xst d 3 (dep + 1) (lv && decide (q.1 = 0)) p.1 p.2.1 p.2.2
          else if t = 33 then (ev vs d 4 dep 0 r1).bind fun q => (tl 59 q.2).bind fun r' => some (vs, (if lv then os ++ [q.1] else os), r')
          else if nm t then (tl 61 r1).bind fun r1 => (ev vs d 4 dep 0 r1).bind fun q => (tl 59 q.2).bind fun r' => some ((if lv then upd vs (t - 97) q.1 else vs), os, r')
          else none) = some (vs', os', r) := h
        by_cases a1 : t = 123
        · rw [if_pos a1] at h
          obtain ⟨⟨b1, b2, b3⟩, h1, h2⟩ := ob_s h
          obtain ⟨r', h3, h4⟩ := ob_s h2
          have i1 := xsL h1
          have i2 := (tl_len h3).1
          cases h4
          dsimp only at i1 i2 ⊢
          exact ⟨by omega, fun _ => by omega, by omega⟩
        rw [if_neg a1] at h
        by_cases a2 : t = 63
        · rw [if_pos a2] at h
          obtain ⟨⟨b1, b2⟩, h1, h2⟩ := ob_s h
          obtain ⟨⟨c1, c2, c3⟩, h3, h4⟩ := ob_s h2
          have i1 := (evL h1).1
          have i2 := xsL h3
          have i3 := xsL h4
          dsimp only at i2 i3
          exact ⟨by omega, fun _ => by omega, by omega⟩
        rw [if_neg a2] at h
        by_cases a3 : t = 33
        · rw [if_pos a3] at h
          obtain ⟨⟨b1, b2⟩, h1, h2⟩ := ob_s h
          obtain ⟨r', h3, h4⟩ := ob_s h2
          have i1 := (evL h1).1
          have i2 := (tl_len h3).1
          cases h4
          dsimp only at i2
          refine ⟨by omega, fun _ => by omega, ?_⟩
          cases lv
          · show os.length + _ ≤ _; omega
          · show (os ++ [b1]).length + _ ≤ _
            simp only [List.length_append, List.length_singleton]; omega
        rw [if_neg a3] at h
        by_cases a4 : nm t
        · rw [if_pos a4] at h
          obtain ⟨r2, h0, h⟩ := ob_s h
          obtain ⟨⟨b1, b2⟩, h1, h2⟩ := ob_s h
          obtain ⟨r', h3, h4⟩ := ob_s h2
          have i0 := (tl_len h0).1
          have i1 := (evL h1).1
          have i2 := (tl_len h3).1
          cases h4
          dsimp only at i2
          exact ⟨by omega, fun _ => by omega, by omega⟩
        · rw [if_neg a4] at h; cases h
    rw [if_neg w2] at h
    cases ts with
    | nil => cases h; exact ⟨Nat.le_refl _, fun e => absurd e w2, Nat.le_refl _⟩
    | cons t r1 =>
      have h : (if t = 58 then xst d 2 dep lv vs os r1 else some (vs, os, t :: r1)) = some (vs', os', r) := h
      simp only [List.length_cons]
      by_cases b : t = 58
      · rw [if_pos b] at h
        have i1 := xsL h
        exact ⟨by omega, fun e => absurd e w2, by omega⟩
      · rw [if_neg b] at h; cases h; exact ⟨Nat.le_refl _, fun e => absurd e w2, Nat.le_refl _⟩
/-! THE CLASS'S RUN: expressions. `At row cnt p ts`: from place p on, the row holds the tokens ts, which end at cnt -/
def At (row : Nat → Int32) (cnt : Nat) : Nat → List Nat → Prop
  | p, [] => p = cnt
  | p, t :: r => row p = nI t ∧ t < 126 ∧ p < cnt ∧ At row cnt (p + 1) r
theorem At_len {row : Nat → Int32} {cnt : Nat} : ∀ {ts : List Nat} {p : Nat}, At row cnt p ts → p + ts.length = cnt
  | [], p, h => h
  | t :: r, p, h => by
    have := At_len h.2.2.2
    simp only [List.length_cons]; omega
def hd : List Nat → Nat
  | [] => 0
  | t :: _ => t
theorem um_um {M : Mm} {k j : Nat} {a b : Int32} : um (um M k j a) k j b = um M k j b := by
  funext x y
  rw [um_a, um_a, um_a]
  by_cases h : x = k <;> by_cases h2 : y = j <;> simp [h, h2]
theorem um_self {M : Mm} {k j : Nat} {a : Int32} (h : M k j = a) : um M k j a = M := by
  funext x y
  rw [um_a]
  by_cases h1 : x = k
  · by_cases h2 : y = j
    · rw [if_pos h1, if_pos h2, h1, h2, h]
    · rw [if_pos h1, if_neg h2]
  · rw [if_neg h1]
theorem gcr0 {c f : Nat} {M : Mm} {a b : Int32} : gCR c (f + 1) 0 M a b = bd (gX3_runStatements (gCR c f) M c a b) fun M1 => some (0, M1) := by rw [gCR, if_pos rfl]
theorem gcr1 {c f : Nat} {M : Mm} {a b : Int32} : gCR c (f + 1) 1 M a b = bd (gX3_runStatement (gCR c f) M c a b) fun M1 => some (0, M1) := by rw [gCR, if_neg (by decide), if_pos rfl]
theorem gcr2 {c f : Nat} {M : Mm} {a b : Int32} : gCR c (f + 1) 2 M a b = bd (gX3_runChoice (gCR c f) M c a b) fun M1 => some (0, M1) := by rw [gCR, if_neg (by decide), if_neg (by decide), if_pos rfl]
theorem gcr3 {c f : Nat} {M : Mm} {a b : Int32} : gCR c (f + 1) 3 M a b = gX3_sum (gCR c f) M c a := by rw [gCR, if_neg (by decide), if_neg (by decide), if_neg (by decide), if_pos rfl]
theorem gcr4 {c f : Nat} {M : Mm} {a b : Int32} : gCR c (f + 1) 4 M a b = gX3_product (gCR c f) M c a := by rw [gCR, if_neg (by decide), if_neg (by decide), if_neg (by decide), if_neg (by decide), if_pos rfl]
theorem gcr5 {c f : Nat} {M : Mm} {a b : Int32} : gCR c (f + 1) 5 M a b = gX3_factor (gCR c f) M c a := by rw [gCR, if_neg (by decide), if_neg (by decide), if_neg (by decide), if_neg (by decide), if_neg (by decide), if_pos rfl]
theorem gcr6 {c f : Nat} {M : Mm} {a b : Int32} : gCR c (f + 1) 6 M a b = gX3_operand (gCR c f) M c a := by rw [gCR, if_neg (by decide), if_neg (by decide), if_neg (by decide), if_neg (by decide), if_neg (by decide), if_neg (by decide), if_pos rfl]
/-- the class's look at the next token, and its step over it -/
theorem peekC {c p cnt : Nat} {M : Mm} {ts : List Nat} (hcnt : cnt ≤ 80) (h1 : M (vb c + 6) 1 = nI cnt) (h2 : M (vb c + 6) 2 = nI p) (hA : At (M (vb c + 7)) cnt p ts) : gX3_peek M c = some (nI (hd ts)) := by
  have hl := At_len hA
  unfold gX3_peek
  rw [h1, h2]
  cases ts with
  | nil =>
    have hl : p = cnt := hl
    simp (disch := omega) only [↓reduceIte, q0, s_lt, s_le, s_ltF, s_leT]
    rfl
  | cons t r =>
    simp only [List.length_cons] at hl
    simp (disch := omega) only [↓reduceIte, q0, s_lt, s_le, s_ltF, s_leF, s_cl, or_self]
    rw [hA.1]
    rfl
theorem advC {c p cnt t : Nat} {M : Mm} {r : List Nat} (hcnt : cnt ≤ 80) (h1 : M (vb c + 6) 1 = nI cnt) (h2 : M (vb c + 6) 2 = nI p) (hA : At (M (vb c + 7)) cnt p (t :: r)) : gX3_advance M c = some (nI t, um M (vb c + 6) 2 (nI (p + 1))) := by
  have hl := At_len hA
  simp only [List.length_cons] at hl
  unfold gX3_advance
  rw [peekC hcnt h1 h2 hA, bd_some, h1, h2]
  simp (disch := omega) only [↓lt_n, ↓reduceIte, q1, s_le, s_leF, s_add]
  rfl
theorem dg_n : ∀ t ∈ List.range 126, gX0_isDigit (nI t) = bI (decide (dg t)) ∧ gX0_isName (nI t) = bI (decide (nm t)) ∧ gX0_canBeginStatement (nI t) = bI (decide (cb t)) ∧ True ∧ (dg t → nI t - nI 48 = nI (t - 48)) := by decide +kernel
theorem s_bT {p : Prop} [Decidable p] (h : p) : bI (decide p) = nI 1 := by rw [decide_eq_true h]; rfl
theorem s_bF {p : Prop} [Decidable p] (h : ¬ p) : bI (decide p) = nI 0 := by rw [decide_eq_false h]; rfl
theorem cE {c : Nat} {M : Mm} {cnt : Nat} (hcnt : cnt ≤ 80) (h1 : M (vb c + 6) 1 = nI cnt) {vs : Nat → Int32} (hv : ∀ v, v < 4 → M (vb c + 8) v = vs v) : ∀ (d w dep : Nat) (a v : Int32) (ts r : List Nat) (p : Nat), ev vs d w dep a ts = some (v, r) → At (M (vb c + 7)) cnt p ts → dep ≤ 41 → ∃ p', At (M (vb c + 7)) cnt p' r ∧
    (w = 4 → ∀ f b, 4 * ts.length + 4 ≤ f → gCR c f 3 (um M (vb c + 6) 2 (nI p)) (nI dep) b = some (v, um M (vb c + 6) 2 (nI p'))) ∧
    (w = 5 → ∀ f fuel k, 4 * ts.length + 3 ≤ f → k + ts.length ≤ 80 → ts.length < fuel → gX3_sum_L8 (gCR c f) c (nI dep) fuel (um M (vb c + 6) 2 (nI p)) a (nI k) = some (v, um M (vb c + 6) 2 (nI p'))) ∧
    (w = 6 → ∀ f b, 4 * ts.length + 3 ≤ f → gCR c f 4 (um M (vb c + 6) 2 (nI p)) (nI dep) b = some (v, um M (vb c + 6) 2 (nI p'))) ∧
    (w = 7 → ∀ f fuel k, 4 * ts.length + 2 ≤ f → k + ts.length ≤ 80 → ts.length < fuel → gX3_product_L8 (gCR c f) c (nI dep) fuel (um M (vb c + 6) 2 (nI p)) a (nI k) = some (v, um M (vb c + 6) 2 (nI p'))) ∧
    (w = 8 → ∀ f fuel k s, 4 * ts.length + 1 ≤ f → k + ts.length ≤ 81 → ts.length < fuel → gX3_factor_L4 (gCR c f) c (nI dep) (fun (M1 : Mm) (x2 : Int32) => bd2 (gCR c f 6 M1 (nI dep) 0) fun r6 M5 => if x2 = 0 then (some (r6, M5)) else some ((-r6), M5)) fuel (um M (vb c + 6) 2 (nI p)) (bI s) (nI k) = some ((if s then -v else v), um M (vb c + 6) 2 (nI p')))
  | 0, w, dep, a, v, ts, r, p, h, hA, hdep => by cases h
  | d + 1, w, dep, a, v, ts, r, p, h, hA, hdep => by
    have hlen := At_len hA
    have pk : gX3_peek (um M (vb c + 6) 2 (nI p)) c = some (nI (hd ts)) := peekC hcnt (by rw [um_place (by decide)]; exact h1) um_hit (by rw [um_fn (by omega)]; exact hA)
    have av : ∀ t r, ts = t :: r → gX3_advance (um M (vb c + 6) 2 (nI p)) c = some (nI t, um M (vb c + 6) 2 (nI (p + 1))) := by
      intro t r e
      rw [advC (r := r) (t := t) hcnt (by rw [um_place (by decide)]; exact h1) um_hit (by rw [um_fn (by omega), ← e]; exact hA), um_um]
    rw [ev_s] at h
    by_cases w4 : w = 4
    · subst w4
      rw [if_pos rfl] at h
      obtain ⟨⟨v1, r1⟩, e1, e2⟩ := ob_s h
      have l1 := (evL e1).1
      obtain ⟨p1, A1, -, -, i6, -, -⟩ := cE hcnt h1 hv d 6 dep 0 v1 ts r1 p e1 hA hdep
      obtain ⟨p2, A2, -, i5, -, -, -⟩ := cE hcnt h1 hv d 5 dep v1 v r1 r p1 e2 A1 hdep
      refine ⟨p2, A2, fun _ f b hf => ?_, fun h => absurd h (by decide), fun h => absurd h (by decide), fun h => absurd h (by decide), fun h => absurd h (by decide)⟩
      obtain ⟨g, rfl⟩ : ∃ g, f = g + 1 := ⟨f - 1, by omega⟩
      rw [gcr3]
      unfold gX3_sum
      rw [i6 rfl g 0 (by omega), bd2_some]
      exact i5 rfl g FU 0 (by omega) (by omega) (by unfold FU; omega)
    rw [if_neg w4] at h
    by_cases w5 : w = 5
    · subst w5
      rw [if_pos rfl] at h
      have done : v = a → r = ts → hd ts ≠ 43 → hd ts ≠ 45 → hd ts < 126 → ∃ p', At (M (vb c + 7)) cnt p' r ∧ (5 = 4 → ∀ f b, 4 * ts.length + 4 ≤ f → gCR c f 3 (um M (vb c + 6) 2 (nI p)) (nI dep) b = some (v, um M (vb c + 6) 2 (nI p'))) ∧ (5 = 5 → ∀ f fuel k, 4 * ts.length + 3 ≤ f → k + ts.length ≤ 80 → ts.length < fuel → gX3_sum_L8 (gCR c f) c (nI dep) fuel (um M (vb c + 6) 2 (nI p)) a (nI k) = some (v, um M (vb c + 6) 2 (nI p'))) ∧ (5 = 6 → ∀ f b, 4 * ts.length + 3 ≤ f → gCR c f 4 (um M (vb c + 6) 2 (nI p)) (nI dep) b = some (v, um M (vb c + 6) 2 (nI p'))) ∧ (5 = 7 → ∀ f fuel k, 4 * ts.length + 2 ≤ f → k + ts.length ≤ 80 → ts.length < fuel → gX3_product_L8 (gCR c f) c (nI dep) fuel (um M (vb c + 6) 2 (nI p)) a (nI k) = some (v, um M (vb c + 6) 2 (nI p'))) ∧ (5 = 8 → ∀ f fuel k s, 4 * ts.length + 1 ≤ f → k + ts.length ≤ 81 → ts.length < fuel → gX3_factor_L4 (gCR c f) c (nI dep) (fun (M1 : Mm) (x2 : Int32) => bd2 (gCR c f 6 M1 (nI dep) 0) fun r6 M5 => if x2 = 0 then (some (r6, M5)) else some ((-r6), M5)) fuel (um M (vb c + 6) 2 (nI p)) (bI s) (nI k) = some ((if s then -v else v), um M (vb c + 6) 2 (nI p'))) := by
        intro ev er n1 n2 n3
        subst ev er
        refine ⟨p, hA, fun h => absurd h (by decide), fun _ f fuel k hf hk hfu => ?_, fun h => absurd h (by decide), fun h => absurd h (by decide), fun h => absurd h (by decide)⟩
        obtain ⟨g, rfl⟩ : ∃ g, fuel = g + 1 := ⟨fuel - 1, by omega⟩
        rw [gX3_sum_L8]
        by_cases k80 : (80 : Int32) ≤ nI k
        · rw [if_pos k80]
        · rw [if_neg k80, pk]
          simp (disch := omega) only [↓reduceIte, q43, q45, s_eq, s_eqF, bd_some]
      cases ts with
      | nil => cases h; exact done rfl rfl (by decide) (by decide) (by decide)
      | cons t r1 =>
        have h : (if t = 43 then (ev vs d 6 dep 0 r1).bind fun q => ev vs d 5 dep (a + q.1) q.2 else if t = 45 then (ev vs d 6 dep 0 r1).bind fun q => ev vs d 5 dep (a - q.1) q.2 else some (a, t :: r1)) = some (v, r) := h
        have ht := hA.2.1
        by_cases b : t = 43
        · rw [if_pos b] at h
          obtain ⟨⟨v1, r2⟩, e1, e2⟩ := ob_s h
          have l1 := (evL e1).2 (by decide) (by decide)
          obtain ⟨p1, A1, -, -, i6, -, -⟩ := cE hcnt h1 hv d 6 dep 0 v1 r1 r2 (p + 1) e1 hA.2.2.2 hdep
          obtain ⟨p2, A2, -, i5, -, -, -⟩ := cE hcnt h1 hv d 5 dep (a + v1) v r2 r p1 e2 A1 hdep
          refine ⟨p2, A2, fun h => absurd h (by decide), fun _ f fuel k hf hk hfu => ?_, fun h => absurd h (by decide), fun h => absurd h (by decide), fun h => absurd h (by decide)⟩
          simp only [List.length_cons] at hf hk hfu
          obtain ⟨g, rfl⟩ : ∃ g, fuel = g + 1 := ⟨fuel - 1, by omega⟩
          rw [gX3_sum_L8, pk, av t r1 rfl, show hd (t :: r1) = t from rfl]
          simp (disch := omega) only [↓lt_n, ↓reduceIte, q80, q43, q1, s_le, s_leF, s_eq, s_eqT, s_add, bd_some, bd2_some]
          rw [i6 rfl f 0 (by omega), bd2_some]
          exact i5 rfl f g (k + 1) (by omega) (by omega) (by omega)
        rw [if_neg b] at h
        by_cases b2 : t = 45
        · rw [if_pos b2] at h
          obtain ⟨⟨v1, r2⟩, e1, e2⟩ := ob_s h
          have l1 := (evL e1).2 (by decide) (by decide)
          obtain ⟨p1, A1, -, -, i6, -, -⟩ := cE hcnt h1 hv d 6 dep 0 v1 r1 r2 (p + 1) e1 hA.2.2.2 hdep
          obtain ⟨p2, A2, -, i5, -, -, -⟩ := cE hcnt h1 hv d 5 dep (a - v1) v r2 r p1 e2 A1 hdep
          refine ⟨p2, A2, fun h => absurd h (by decide), fun _ f fuel k hf hk hfu => ?_, fun h => absurd h (by decide), fun h => absurd h (by decide), fun h => absurd h (by decide)⟩
          simp only [List.length_cons] at hf hk hfu
          obtain ⟨g, rfl⟩ : ∃ g, fuel = g + 1 := ⟨fuel - 1, by omega⟩
          rw [gX3_sum_L8, pk, av t r1 rfl, show hd (t :: r1) = t from rfl]
          simp (disch := omega) only [↓lt_n, ↓reduceIte, q80, q43, q45, q1, s_le, s_leF, s_eq, s_eqT, s_eqF, s_add, bd_some, bd2_some]
          rw [i6 rfl f 0 (by omega), bd2_some]
          exact i5 rfl f g (k + 1) (by omega) (by omega) (by omega)
        · rw [if_neg b2] at h
          cases h
          exact done rfl rfl b b2 ht
    rw [if_neg w5] at h
    by_cases w6 : w = 6
    · subst w6
      rw [if_pos rfl] at h
      obtain ⟨⟨v1, r1⟩, e1, e2⟩ := ob_s h
      have l1 := (evL e1).1
      obtain ⟨p1, A1, -, -, -, -, i8⟩ := cE hcnt h1 hv d 8 dep 0 v1 ts r1 p e1 hA hdep
      obtain ⟨p2, A2, -, -, -, i7, -⟩ := cE hcnt h1 hv d 7 dep v1 v r1 r p1 e2 A1 hdep
      refine ⟨p2, A2, fun h => absurd h (by decide), fun h => absurd h (by decide), fun _ f b hf => ?_, fun h => absurd h (by decide), fun h => absurd h (by decide)⟩
      obtain ⟨g, rfl⟩ : ∃ g, f = g + 2 := ⟨f - 2, by omega⟩
      rw [gcr4]
      unfold gX3_product
      rw [gcr5]
      unfold gX3_factor
      rw [lt_s9]
      have e8 := i8 rfl g FU 0 false (by omega) (by omega) (by unfold FU; omega)
      rw [show bI false = (0 : Int32) from rfl, show nI 0 = (0 : Int32) from rfl] at e8
      rw [e8, bd2_some]
      exact i7 rfl (g + 1) FU 0 (by omega) (by omega) (by unfold FU; omega)
    rw [if_neg w6] at h
    by_cases w7 : w = 7
    · subst w7
      rw [if_pos rfl] at h
      have done : v = a → r = ts → hd ts ≠ 42 → hd ts < 126 → ∀ f fuel k, 4 * ts.length + 2 ≤ f → k + ts.length ≤ 80 → ts.length < fuel → gX3_product_L8 (gCR c f) c (nI dep) fuel (um M (vb c + 6) 2 (nI p)) a (nI k) = some (v, um M (vb c + 6) 2 (nI p)) := by
        intro ev er n1 n3 f fuel k hf hk hfu
        subst ev er
        obtain ⟨g, rfl⟩ : ∃ g, fuel = g + 1 := ⟨fuel - 1, by omega⟩
        rw [gX3_product_L8]
        by_cases k80 : (80 : Int32) ≤ nI k
        · rw [if_pos k80]
        · rw [if_neg k80, pk]
          simp (disch := omega) only [↓reduceIte, q42, s_eq, s_eqF, bd_some]
      cases ts with
      | nil => cases h; exact ⟨p, hA, fun h => absurd h (by decide), fun h => absurd h (by decide), fun h => absurd h (by decide), fun _ => done rfl rfl (by decide) (by decide), fun h => absurd h (by decide)⟩
      | cons t r1 =>
        have h : (if t = 42 then (ev vs d 8 dep 0 r1).bind fun q => ev vs d 7 dep (a * q.1) q.2 else some (a, t :: r1)) = some (v, r) := h
        have ht := hA.2.1
        by_cases b : t = 42
        · rw [if_pos b] at h
          obtain ⟨⟨v1, r2⟩, e1, e2⟩ := ob_s h
          have l1 := (evL e1).2 (by decide) (by decide)
          obtain ⟨p1, A1, -, -, -, -, i8⟩ := cE hcnt h1 hv d 8 dep 0 v1 r1 r2 (p + 1) e1 hA.2.2.2 hdep
          obtain ⟨p2, A2, -, -, -, i7, -⟩ := cE hcnt h1 hv d 7 dep (a * v1) v r2 r p1 e2 A1 hdep
          refine ⟨p2, A2, fun h => absurd h (by decide), fun h => absurd h (by decide), fun h => absurd h (by decide), fun _ f fuel k hf hk hfu => ?_, fun h => absurd h (by decide)⟩
          simp only [List.length_cons] at hf hk hfu
          obtain ⟨g, rfl⟩ : ∃ g, fuel = g + 1 := ⟨fuel - 1, by omega⟩
          obtain ⟨f', rfl⟩ : ∃ f', f = f' + 1 := ⟨f - 1, by omega⟩
          rw [gX3_product_L8, pk, av t r1 rfl, show hd (t :: r1) = t from rfl]
          simp (disch := omega) only [↓lt_n, ↓reduceIte, q80, q42, q1, s_le, s_leF, s_eq, s_eqT, s_add, bd_some, bd2_some]
          rw [gcr5]
          unfold gX3_factor
          rw [lt_s9]
          have e8 := i8 rfl f' FU 0 false (by omega) (by omega) (by unfold FU; omega)
          rw [show bI false = (0 : Int32) from rfl, show nI 0 = (0 : Int32) from rfl] at e8
          rw [e8, bd2_some]
          exact i7 rfl (f' + 1) g (k + 1) (by omega) (by omega) (by omega)
        · rw [if_neg b] at h
          cases h
          exact ⟨p, hA, fun h => absurd h (by decide), fun h => absurd h (by decide), fun h => absurd h (by decide), fun _ => done rfl rfl b ht, fun h => absurd h (by decide)⟩
    rw [if_neg w7] at h
    cases ts with
    | nil => cases h
    | cons t r1 =>
      have h : (if t = 45 then (ev vs d 8 dep 0 r1).bind fun q => some (-q.1, q.2) else if t = 40 then (if 40 < dep then none else (ev vs d 4 (dep + 1) 0 r1).bind fun q => (tl 41 q.2).bind fun r' => some (q.1, r')) else if dg t then some (nI (t - 48), r1) else if nm t then some (vs (t - 97), r1) else none) = some (v, r) := h
      have ht := hA.2.1
      obtain ⟨g1, g2, g3, g4, g5⟩ := dg_n t (List.mem_range.mpr ht)
      by_cases b : t = 45
      · rw [if_pos b] at h
        obtain ⟨⟨v1, r2⟩, e1, e2⟩ := ob_s h
        cases e2
        obtain ⟨p1, A1, -, -, -, -, i8⟩ := cE hcnt h1 hv d 8 dep 0 v1 r1 r2 (p + 1) e1 hA.2.2.2 hdep
        refine ⟨p1, A1, fun h => absurd h w4, fun h => absurd h w5, fun h => absurd h w6, fun h => absurd h w7, fun _ f fuel k s hf hk hfu => ?_⟩
        simp only [List.length_cons] at hf hk hfu hlen
        obtain ⟨g, rfl⟩ : ∃ g, fuel = g + 1 := ⟨fuel - 1, by omega⟩
        have l1 := (evL e1).2 (by decide) (by decide)
        have e9 := i8 rfl f g (k + 1) (!s) (by omega) (by omega) (by omega)
        rw [gX3_factor_L4, pk, av t r1 rfl, show hd (t :: r1) = t from rfl]
        simp (disch := omega) only [↓lt_n, ↓reduceIte, q80, q45, s_le, s_leF, s_eq, s_eqT, bd_some, bd2_some]
        rw [show nI k + (1 : Int32) = nI (k + 1) from nI_1 k]
        cases s
        · rw [if_pos (show bI false = 0 from rfl)]
          exact e9
        · rw [if_neg (show ¬ bI true = 0 by decide)]
          refine Eq.trans e9 ?_
          show some (v1, _) = some (- -v1, _)
          rw [Int32.neg_neg]
      rw [if_neg b] at h
      -- an operand
      have op : ∀ p', (∀ f b, 4 * (r1.length + 1) + 1 ≤ f → gCR c f 6 (um M (vb c + 6) 2 (nI p)) (nI dep) b = some (v, um M (vb c + 6) 2 (nI p'))) → ∀ f fuel k s, 4 * (t :: r1).length + 1 ≤ f → k + (t :: r1).length ≤ 81 → (t :: r1).length < fuel → gX3_factor_L4 (gCR c f) c (nI dep) (fun (M1 : Mm) (x2 : Int32) => bd2 (gCR c f 6 M1 (nI dep) 0) fun r6 M5 => if x2 = 0 then (some (r6, M5)) else some ((-r6), M5)) fuel (um M (vb c + 6) 2 (nI p)) (bI s) (nI k) = some ((if s then -v else v), um M (vb c + 6) 2 (nI p')) := by
        intro p' ho f fuel k s hf hk hfu
        simp only [List.length_cons] at hf hk hfu
        obtain ⟨g, rfl⟩ : ∃ g, fuel = g + 1 := ⟨fuel - 1, by omega⟩
        rw [gX3_factor_L4]
        have fin : (bd2 (gCR c f 6 (um M (vb c + 6) 2 (nI p)) (nI dep) 0) fun r6 M5 => if bI s = 0 then (some (r6, M5)) else some ((-r6), M5)) = some ((if s then -v else v), um M (vb c + 6) 2 (nI p')) := by
          rw [ho f 0 hf, bd2_some]
          cases s <;> rfl
        by_cases k80 : (80 : Int32) ≤ nI k
        · rw [if_pos k80]; exact fin
        · rw [if_neg k80, pk, show hd (t :: r1) = t from rfl]
          simp (disch := omega) only [↓reduceIte, q45, s_eq, s_eqF, bd_some]
          exact fin
      by_cases b2 : t = 40
      · rw [if_pos b2] at h
        by_cases hd40 : 40 < dep
        · rw [if_pos hd40] at h; cases h
        rw [if_neg hd40] at h
        obtain ⟨⟨v1, r2⟩, e1, e2⟩ := ob_s h
        obtain ⟨r', e3, e4⟩ := ob_s e2
        cases e4
        obtain ⟨t3, u, hu, hu2⟩ := tl_len e3
        dsimp only at hu
        subst hu
        obtain ⟨p1, A1, i4, -, -, -, -⟩ := cE hcnt h1 hv d 4 (dep + 1) 0 v1 r1 (u :: r) (p + 1) e1 hA.2.2.2 (by omega)
        refine ⟨p1 + 1, A1.2.2.2, fun h => absurd h w4, fun h => absurd h w5, fun h => absurd h w6, fun h => absurd h w7, fun _ => op (p1 + 1) (fun f b9 hf => ?_)⟩
        obtain ⟨g, rfl⟩ : ∃ g, f = g + 1 := ⟨f - 1, by omega⟩
        have hd1 : gX0_isDigit (nI t) = nI 0 := by rw [g1]; exact s_bF (by omega)
        have hn1 : gX0_isName (nI t) = nI 0 := by rw [g2]; exact s_bF (by omega)
        rw [gcr6]
        unfold gX3_operand
        rw [av t r1 rfl]
        simp (disch := omega) only [↓reduceIte, q0, q40, q1, hd1, hn1, s_le, s_leT, s_add, bd2_some]
        have e5 := i4 rfl g (nI 0) (by omega)
        rw [e5, bd2_some, advC (r := r) (t := u) hcnt (by rw [um_place (by decide)]; exact h1) um_hit (by rw [um_fn (by omega)]; exact A1), um_um, bd2_some]
      rw [if_neg b2] at h
      by_cases b3 : dg t
      · rw [if_pos b3] at h
        cases h
        refine ⟨p + 1, hA.2.2.2, fun h => absurd h w4, fun h => absurd h w5, fun h => absurd h w6, fun h => absurd h w7, fun _ => op (p + 1) (fun f b9 hf => ?_)⟩
        obtain ⟨g, rfl⟩ : ∃ g, f = g + 1 := ⟨f - 1, by omega⟩
        have hd1 : gX0_isDigit (nI t) = nI 1 := by rw [g1]; exact s_bT b3
        rw [gcr6]
        unfold gX3_operand
        rw [av t _ rfl]
        simp (disch := omega) only [↓reduceIte, q0, q48, hd1, s_eq, s_eqF, bd2_some]
        rw [g5 b3]
      rw [if_neg b3] at h
      by_cases b4 : nm t
      · rw [if_pos b4] at h
        cases h
        refine ⟨p + 1, hA.2.2.2, fun h => absurd h w4, fun h => absurd h w5, fun h => absurd h w6, fun h => absurd h w7, fun _ => op (p + 1) (fun f b9 hf => ?_)⟩
        obtain ⟨g, rfl⟩ : ∃ g, f = g + 1 := ⟨f - 1, by omega⟩
        have hd1 : gX0_isDigit (nI t) = nI 0 := by rw [g1]; exact s_bF b3
        have hn1 : gX0_isName (nI t) = nI 1 := by rw [g2]; exact s_bT b4
        rw [gcr6]
        unfold gX3_operand
        rw [av t _ rfl]
        simp (disch := omega) only [↓reduceIte, q0, q97, hd1, hn1, s_eq, s_eqF, s_sub, s_cl, s_lt, s_ltF, s_leF, or_self, bd2_some]
        rw [um_fn (by omega), hv (t - 97) (by omega)]
      · rw [if_neg b4] at h; cases h

