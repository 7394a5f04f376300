/-! THE CLASS'S RUN: statements -/
def RowL (row : Nat → Int32) (os : List Int32) : Prop := ∀ k, k < os.length → row k = os.getD k 0
theorem RowL_app {row : Nat → Int32} {os : List Int32} {v : Int32} (h : RowL row os) : RowL (upd row os.length v) (os ++ [v]) := by
  intro k hk
  simp only [List.length_append, List.length_singleton] at hk
  unfold upd
  by_cases e : k = os.length
  · rw [if_pos e, e]; simp [List.getD]
  · rw [if_neg e, h k (by omega)]
    simp [List.getD, List.getElem?_append_left (show k < os.length by omega)]
def StC (c cnt : Nat) (row : Nat → Int32) (B M : Mm) (p : Nat) (vs : Nat → Int32) (os : List Int32) : Prop := M (vb c + 6) 1 = nI cnt ∧ M (vb c + 6) 2 = nI p ∧ M (vb c + 6) 5 = nI os.length ∧ RowL (M (vb c + 9)) os ∧ (∀ v, v < 4 → M (vb c + 8) v = vs v) ∧ M (vb c + 7) = row ∧ ∀ a, a ≠ vb c + 6 → a ≠ vb c + 8 → a ≠ vb c + 9 → M a = B a
theorem StC.step {c cnt : Nat} {row : Nat → Int32} {B M : Mm} {p : Nat} {vs : Nat → Int32} {os : List Int32} (h : StC c cnt row B M p vs os) (q : Nat) : StC c cnt row B (um M (vb c + 6) 2 (nI q)) q vs os := by
  obtain ⟨h1, h2, h3, h4, h5, h6, h7⟩ := h
  refine ⟨by rw [um_place (by decide)]; exact h1, um_hit, by rw [um_place (by decide)]; exact h3, by rw [um_fn (by omega)]; exact h4, fun v hv => by rw [um_fn (by omega)]; exact h5 v hv, by rw [um_fn (by omega)]; exact h6, fun a b1 b2 b3 => by rw [um_fn b1]; exact h7 a b1 b2 b3⟩
theorem bT9 : bI true = (1 : Int32) := rfl
theorem bF9 : bI false = (0 : Int32) := rfl
theorem one_ne : ((1 : Int32) = 0) = False := eq_false (by decide)
theorem putC {c cnt : Nat} {row : Nat → Int32} {B M : Mm} {p : Nat} {vs : Nat → Int32} {os : List Int32} (v : Int32) (h : StC c cnt row B M p vs os) (ho : os.length < 80) : ∃ M', gX3_put M c v = some M' ∧ StC c cnt row B M' p vs (os ++ [v]) := by
  obtain ⟨h1, h2, h3, h4, h5, h6, h7⟩ := h
  refine ⟨um (um M (vb c + 9) os.length v) (vb c + 6) 5 (nI (os.length + 1)), ?_, ?_, ?_, ?_, ?_, ?_, ?_, ?_⟩
  · unfold gX3_put
    rw [h3, if_neg (show ¬ (80 : Int32) ≤ nI os.length from nI_ge (b := 80) ho (by decide)), ckI ho (by decide), cI (by omega), lt_s9, um_fn (show vb c + 6 ≠ vb c + 9 by omega), h3, up1, lt_s9]
  · rw [um_place (by decide), um_fn (by omega)]; exact h1
  · rw [um_place (by decide), um_fn (by omega)]; exact h2
  · rw [um_hit]; simp only [List.length_append, List.length_singleton]
  · have e : um (um M (vb c + 9) os.length v) (vb c + 6) 5 (nI (os.length + 1)) (vb c + 9) = upd (M (vb c + 9)) os.length v := by
      rw [um_fn (by omega)]
      unfold um
      exact if_pos rfl
    rw [e]
    exact RowL_app h4
  · intro v hv
    rw [um_fn (by omega), um_fn (by omega)]; exact h5 v hv
  · rw [um_fn (by omega), um_fn (by omega)]; exact h6
  · intro a b1 b2 b3
    rw [um_fn b1, um_fn b3]; exact h7 a b1 b2 b3
theorem asgC {c cnt t : Nat} {row : Nat → Int32} {B M : Mm} {p : Nat} {vs : Nat → Int32} {os : List Int32} (v : Int32) (h : StC c cnt row B M p vs os) (ht : nm t) : ∃ M', gX3_assign M c (nI t) v = some M' ∧ StC c cnt row B M' p (upd vs (t - 97) v) os := by
  obtain ⟨h1, h2, h3, h4, h5, h6, h7⟩ := h
  refine ⟨um M (vb c + 8) (t - 97) v, ?_, ?_, ?_, ?_, ?_, ?_, ?_, ?_⟩
  · unfold gX3_assign
    rw [(dg_n t (List.mem_range.mpr (by omega))).2.1, s_bT ht]
    simp (disch := omega) only [↓lt_n, ↓reduceIte, q0, q97, s_eq, s_eqF, s_sub, s_cl, s_lt, s_ltF, s_leF, or_self]
  · rw [um_fn (by omega)]; exact h1
  · rw [um_fn (by omega)]; exact h2
  · rw [um_fn (by omega)]; exact h3
  · rw [um_fn (by omega)]; exact h4
  · intro w hw
    unfold upd
    by_cases e : w = t - 97
    · rw [e, um_hit, if_pos rfl]
    · rw [um_place e, if_neg e]; exact h5 w hw
  · rw [um_fn (by omega)]; exact h6
  · intro a b1 b2 b3
    rw [um_fn b2]; exact h7 a b1 b2 b3
theorem cX {c cnt : Nat} {row : Nat → Int32} {B : Mm} (hcnt : cnt ≤ 80) : ∀ (d w dep : Nat) (lv : Bool) (vs vs' : Nat → Int32) (os os' : List Int32) (ts r : List Nat) (M : Mm) (p : Nat), xst d w dep lv vs os ts = some (vs', os', r) → At row cnt p ts → StC c cnt row B M p vs os → dep ≤ 41 → os.length + ts.length ≤ 80 → ∃ M' p', At row cnt p' r ∧ StC c cnt row B M' p' vs' os' ∧
    (w = 1 → ∀ f fuel k, 4 * ts.length + 6 ≤ f → k + ts.length ≤ 80 → ts.length < fuel → gX3_runStatements_L2 (gCR c f) c (bI lv) (nI dep) fuel M (nI k) = some M') ∧
    (w = 2 → ∀ f, 4 * ts.length + 6 ≤ f → gCR c f 1 M (bI lv) (nI dep) = some (0, M')) ∧
    (w = 3 → ∀ f, 4 * ts.length + 2 ≤ f → (bd (gX3_peek M c) fun r16 => if r16 = (58 : Int32) then (bd2 (gX3_advance M c) fun _ M20 => bd2 (gCR c f 1 M20 (bI lv) (nI dep)) fun _ M24 => some M24) else some M) = some M')
  | 0, w, dep, lv, vs, vs', os, os', ts, r, M, p, h, hA, hS, hdep, hos => by cases h
  | d + 1, w, dep, lv, vs, vs', os, os', ts, r, M, p, h, hA, hS, hdep, hos => by
    have hlen := At_len hA
    have hA7 : At (M (vb c + 7)) cnt p ts := by rw [hS.2.2.2.2.2.1]; exact hA
    have pk : gX3_peek M c = some (nI (hd ts)) := peekC hcnt hS.1 hS.2.1 hA7
    have av : ∀ t r, ts = t :: r → gX3_advance M c = some (nI t, um M (vb c + 6) 2 (nI (p + 1))) := fun t r e => advC (r := r) (t := t) hcnt hS.1 hS.2.1 (by rw [← e]; exact hA7)
    rw [xst_s] at h
    by_cases w1 : w = 1
    · subst w1
      rw [if_pos rfl] at h
      have done : vs' = vs → os' = os → r = ts → ¬ cb (hd ts) → hd ts < 126 → ∀ f fuel k, 4 * ts.length + 6 ≤ f → k + ts.length ≤ 80 → ts.length < fuel → gX3_runStatements_L2 (gCR c f) c (bI lv) (nI dep) fuel M (nI k) = some M := by
        intro _ _ _ n1 n2 f fuel k hf hk hfu
        obtain ⟨g, rfl⟩ : ∃ g, fuel = g + 1 := ⟨fuel - 1, by omega⟩
        rw [gX3_runStatements_L2]
        by_cases k80 : (80 : Int32) ≤ nI k
        · rw [if_pos k80]
        · have hc : gX0_canBeginStatement (nI (hd ts)) = 0 := by rw [(dg_n _ (List.mem_range.mpr n2)).2.2.1]; exact s_bF n1
          rw [if_neg k80, pk, bd_some, if_pos hc]
      cases ts with
      | nil => cases h; exact ⟨M, p, hA, hS, fun _ => done rfl rfl rfl (by decide) (by decide), fun h => absurd h (by decide), fun h => absurd h (by decide)⟩
      | cons t r1 =>
        have h : (if cb t then (xst d 2 dep lv vs os (t :: r1)).bind fun q => xst d 1 dep lv q.1 q.2.1 q.2.2 else some (vs, os, t :: r1)) = some (vs', os', r) := h
        by_cases b : cb t
        · rw [if_pos b] at h
          obtain ⟨⟨va, oa, ra⟩, e1, e2⟩ := ob_s h
          have l1 := xsL e1
          have l2 := l1.2.1 rfl
          simp only [List.length_cons] at l1 l2 hos
          obtain ⟨M1, p1, A1, S1, -, i2, -⟩ := cX hcnt d 2 dep lv vs va os oa (t :: r1) ra M p e1 hA hS hdep hos
          obtain ⟨M2, p2, A2, S2, j1, -, -⟩ := cX hcnt d 1 dep lv va vs' oa os' ra r M1 p1 e2 A1 S1 hdep (by omega)
          refine ⟨M2, p2, A2, S2, fun _ f fuel k hf hk hfu => ?_, fun h => absurd h (by decide), fun h => absurd h (by decide)⟩
          simp only [List.length_cons] at hf hk hfu
          obtain ⟨g, rfl⟩ : ∃ g, fuel = g + 1 := ⟨fuel - 1, by omega⟩
          have hc : ¬ gX0_canBeginStatement (nI t) = 0 := by rw [(dg_n _ (List.mem_range.mpr hA.2.1)).2.2.1, s_bT b]; decide
          rw [gX3_runStatements_L2, if_neg (show ¬ (80 : Int32) ≤ nI k from nI_ge (b := 80) (by omega) (by decide)), pk, bd_some, show hd (t :: r1) = t from rfl, if_neg hc, i2 rfl f (by simp only [List.length_cons]; omega), bd2_some, lt_s9, up1]
          exact j1 rfl f g (k + 1) (by omega) (by omega) (by omega)
        · rw [if_neg b] at h; cases h
          exact ⟨M, p, hA, hS, fun _ => done rfl rfl rfl b hA.2.1, fun h => absurd h (by decide), fun h => absurd h (by decide)⟩
    rw [if_neg w1] at h
    by_cases w2 : w = 2
    · rw [if_pos w2] at h
      by_cases hd40 : 40 < dep
      · rw [if_pos hd40] at h; cases h
      rw [if_neg hd40] at h
      cases ts with
      | nil => cases h
      | cons t r1 =>
        have h : (if t = 123 then (xst d 1 (dep + 1) lv vs os r1).bind fun q => (tl 125 q.2.2).bind fun r' => some (q.1, q.2.1, r')
          else if t = 63 then (ev vs d 4 (dep + 1) 0 r1).bind fun q => (xst d 2 (dep + 1) (lv && !decide (q.1 = 0)) vs os q.2).bind fun p => xst d 3 (dep + 1) (lv && decide (q.1 = 0)) p.1 p.2.1 p.2.2
          else if t = 33 then (ev vs d 4 dep 0 r1).bind fun q => (tl 59 q.2).bind fun r' => some (vs, (if lv then os ++ [q.1] else os), r')
          else if nm t then (tl 61 r1).bind fun r1 => (ev vs d 4 dep 0 r1).bind fun q => (tl 59 q.2).bind fun r' => some ((if lv then upd vs (t - 97) q.1 else vs), os, r')
          else none) = some (vs', os', r) := h
        have ht := hA.2.1
        simp only [List.length_cons] at hos hlen
        have S0 := hS.step (p + 1)
        have hz : (nI dep : Int32) ≤ 40 := by rw [q40, s_le (by omega) (by omega)]; omega
        have A0 : At (um M (vb c + 6) 2 (nI (p + 1)) (vb c + 7)) cnt (p + 1) r1 := by rw [S0.2.2.2.2.2.1]; exact hA.2.2.2
        by_cases a1 : t = 123
        · rw [if_pos a1] at h
          obtain ⟨⟨va, oa, ra⟩, e1, h2⟩ := ob_s h
          obtain ⟨r', e3, e4⟩ := ob_s h2
          cases e4
          obtain ⟨t3, u, hu, hu2⟩ := tl_len e3
          dsimp only at hu
          subst hu
          obtain ⟨M1, p1, A1, S1, i1, -, -⟩ := cX hcnt d 1 (dep + 1) lv vs va os oa r1 (u :: r) _ (p + 1) e1 hA.2.2.2 S0 (by omega) (by omega)
          refine ⟨um M1 (vb c + 6) 2 (nI (p1 + 1)), p1 + 1, A1.2.2.2, S1.step (p1 + 1), fun h => absurd h w1, fun _ f hf => ?_, fun h => absurd (w2.symm.trans h) (by decide)⟩
          simp only [List.length_cons] at hf
          obtain ⟨g, rfl⟩ : ∃ g, f = g + 2 := ⟨f - 2, by omega⟩
          rw [gcr1]
          unfold gX3_runStatement
          rw [if_pos hz, av t r1 rfl, bd2_some, if_pos (show nI t = (123 : Int32) by rw [a1]; rfl), up1, gcr0]
          unfold gX3_runStatements
          have e5 := i1 rfl g FU 0 (by omega) (by omega) (by unfold FU; omega)
          rw [show nI 0 = (0 : Int32) from rfl] at e5
          rw [e5, bd_some, bd2_some, advC (r := r) (t := u) hcnt S1.1 S1.2.1 (by rw [S1.2.2.2.2.2.1]; exact A1), bd2_some, bd_some]
        rw [if_neg a1] at h
        have n123 : ¬ nI t = (123 : Int32) := by rw [q123, s_eq (by omega) (by omega)]; exact a1
        by_cases a2 : t = 63
        · rw [if_pos a2] at h
          obtain ⟨⟨v1, r2⟩, e1, h2⟩ := ob_s h
          obtain ⟨⟨va, oa, ra⟩, e3, e4⟩ := ob_s h2
          have l1 := (evL e1).2 (by decide) (by decide)
          have l3 := xsL e3
          dsimp only at e3 e4 l3
          obtain ⟨p1, A1, i4, -, -, -, -⟩ := cE hcnt S0.1 (fun v hv => S0.2.2.2.2.1 v hv) d 4 (dep + 1) 0 v1 r1 r2 (p + 1) e1 A0 (by omega)
          have i4 := i4 rfl
          simp only [um_um] at i4
          have A1' : At row cnt p1 r2 := by rw [S0.2.2.2.2.2.1] at A1; exact A1
          obtain ⟨M2, p2, A2, S2, -, j2, -⟩ := cX hcnt d 2 (dep + 1) (lv && !decide (v1 = 0)) vs va os oa r2 ra _ p1 e3 A1' (hS.step p1) (by omega) (by omega)
          obtain ⟨M3, p3, A3, S3, -, -, k3⟩ := cX hcnt d 3 (dep + 1) (lv && decide (v1 = 0)) va vs' oa os' ra r M2 p2 e4 A2 S2 (by omega) (by omega)
          refine ⟨M3, p3, A3, S3, fun h => absurd h w1, fun _ f hf => ?_, fun h => absurd (w2.symm.trans h) (by decide)⟩
          simp only [List.length_cons] at hf
          obtain ⟨g, rfl⟩ : ∃ g, f = g + 2 := ⟨f - 2, by omega⟩
          have k4 := k3 rfl g (by omega)
          have j4 := j2 rfl g (by omega)
          have hRC : gX3_runChoice (gCR c g) (um M (vb c + 6) 2 (nI (p + 1))) c (bI lv) (nI (dep + 1)) = some M3 := by
            unfold gX3_runChoice
            rw [i4 g 0 (by omega), bd2_some]
            by_cases z : v1 = 0
            · rw [decide_eq_true z] at k4 j4
              cases lv with
              | false =>
                have k4 : (bd (gX3_peek M2 c) fun r16 => if r16 = (58 : Int32) then (bd2 (gX3_advance M2 c) fun _ M20 => bd2 (gCR c g 1 M20 (0 : Int32) (nI (dep + 1))) fun _ M24 => some M24) else some M2) = some M3 := k4
                have j4 : gCR c g 1 (um M (vb c + 6) 2 (nI p1)) (0 : Int32) (nI (dep + 1)) = some (0, M2) := j4
                simp only [↓lt_n, ↓reduceIte, z, bF9]
                rw [j4]
                exact k4
              | true =>
                have k4 : (bd (gX3_peek M2 c) fun r16 => if r16 = (58 : Int32) then (bd2 (gX3_advance M2 c) fun _ M20 => bd2 (gCR c g 1 M20 (1 : Int32) (nI (dep + 1))) fun _ M24 => some M24) else some M2) = some M3 := k4
                have j4 : gCR c g 1 (um M (vb c + 6) 2 (nI p1)) (0 : Int32) (nI (dep + 1)) = some (0, M2) := j4
                simp only [↓lt_n, ↓reduceIte, z, bT9, one_ne]
                rw [j4]
                exact k4
            · rw [decide_eq_false z] at k4 j4
              cases lv with
              | false =>
                have k4 : (bd (gX3_peek M2 c) fun r16 => if r16 = (58 : Int32) then (bd2 (gX3_advance M2 c) fun _ M20 => bd2 (gCR c g 1 M20 (0 : Int32) (nI (dep + 1))) fun _ M24 => some M24) else some M2) = some M3 := k4
                have j4 : gCR c g 1 (um M (vb c + 6) 2 (nI p1)) (0 : Int32) (nI (dep + 1)) = some (0, M2) := j4
                simp only [↓lt_n, ↓reduceIte, z, bF9]
                rw [j4]
                exact k4
              | true =>
                have k4 : (bd (gX3_peek M2 c) fun r16 => if r16 = (58 : Int32) then (bd2 (gX3_advance M2 c) fun _ M20 => bd2 (gCR c g 1 M20 (0 : Int32) (nI (dep + 1))) fun _ M24 => some M24) else some M2) = some M3 := k4
                have j4 : gCR c g 1 (um M (vb c + 6) 2 (nI p1)) (1 : Int32) (nI (dep + 1)) = some (0, M2) := j4
                simp only [↓lt_n, ↓reduceIte, z, bT9, one_ne]
                rw [j4]
                exact k4
          rw [gcr1]
          unfold gX3_runStatement
          rw [if_pos hz, av t r1 rfl, bd2_some, if_neg n123, if_pos (show nI t = (63 : Int32) by rw [a2]; rfl), up1, gcr2, hRC]
          rfl
        rw [if_neg a2] at h
        have n63 : ¬ nI t = (63 : Int32) := by rw [q63, s_eq (by omega) (by omega)]; exact a2
        by_cases a3 : t = 33
        · rw [if_pos a3] at h
          obtain ⟨⟨v1, r2⟩, e1, h2⟩ := ob_s h
          obtain ⟨r', e3, e4⟩ := ob_s h2
          cases e4
          obtain ⟨t3, u, hu, hu2⟩ := tl_len e3
          dsimp only at hu
          subst hu
          have l1 := (evL e1).2 (by decide) (by decide)
          obtain ⟨p1, A1, i4, -, -, -, -⟩ := cE hcnt S0.1 (fun v hv => S0.2.2.2.2.1 v hv) d 4 dep 0 v1 r1 (u :: r) (p + 1) e1 A0 hdep
          have i4 := i4 rfl
          simp only [um_um] at i4
          have A1' : At row cnt p1 (u :: r) := by rw [S0.2.2.2.2.2.1] at A1; exact A1
          have S1 := hS.step p1
          have av1 := advC (r := r) (t := u) hcnt S1.1 S1.2.1 (by rw [S1.2.2.2.2.2.1]; exact A1')
          rw [um_um] at av1
          have S2 := hS.step (p1 + 1)
          obtain ⟨M3, e9, S3⟩ := putC v1 S2 (by omega)
          refine ⟨(if lv then M3 else um M (vb c + 6) 2 (nI (p1 + 1))), p1 + 1, A1'.2.2.2, by cases lv; exact S2; exact S3, fun h => absurd h w1, fun _ f hf => ?_, fun h => absurd (w2.symm.trans h) (by decide)⟩
          simp only [List.length_cons] at hf
          obtain ⟨g, rfl⟩ : ∃ g, f = g + 1 := ⟨f - 1, by omega⟩
          rw [gcr1]
          unfold gX3_runStatement
          rw [if_pos hz, av t r1 rfl, bd2_some, if_neg n123, if_neg n63, if_pos (show nI t = (33 : Int32) by rw [a3]; rfl), i4 g 0 (by omega), bd2_some, av1, bd2_some]
          cases lv with
          | false => rfl
          | true => rw [if_neg (show ¬ bI true = 0 by decide), e9]; rfl
        rw [if_neg a3] at h
        have n33 : ¬ nI t = (33 : Int32) := by rw [q33, s_eq (by omega) (by omega)]; exact a3
        by_cases a4 : nm t
        · rw [if_pos a4] at h
          obtain ⟨r0, e0, h⟩ := ob_s h
          obtain ⟨⟨v1, r2⟩, e1, h2⟩ := ob_s h
          obtain ⟨r', e3, e4⟩ := ob_s h2
          cases e4
          obtain ⟨t0, w0, hw0, hw2⟩ := tl_len e0
          subst hw0
          obtain ⟨t3, u, hu, hu2⟩ := tl_len e3
          dsimp only at hu
          subst hu
          have l1 := (evL e1).2 (by decide) (by decide)
          have av0 := advC (r := r0) (t := w0) hcnt S0.1 S0.2.1 A0
          rw [um_um] at av0
          have S9 := hS.step (p + 1 + 1)
          obtain ⟨p1, A1, i4, -, -, -, -⟩ := cE hcnt S9.1 (fun v hv => S9.2.2.2.2.1 v hv) d 4 dep 0 v1 r0 (u :: r) (p + 1 + 1) e1 (by rw [S9.2.2.2.2.2.1]; exact hA.2.2.2.2.2.2) hdep
          have i4 := i4 rfl
          simp only [um_um] at i4
          have A1' : At row cnt p1 (u :: r) := by rw [S9.2.2.2.2.2.1] at A1; exact A1
          have S1 := hS.step p1
          have av1 := advC (r := r) (t := u) hcnt S1.1 S1.2.1 (by rw [S1.2.2.2.2.2.1]; exact A1')
          rw [um_um] at av1
          have S2 := hS.step (p1 + 1)
          obtain ⟨M3, e9, S3⟩ := asgC v1 S2 a4
          refine ⟨(if lv then M3 else um M (vb c + 6) 2 (nI (p1 + 1))), p1 + 1, A1'.2.2.2, by cases lv; exact S2; exact S3, fun h => absurd h w1, fun _ f hf => ?_, fun h => absurd (w2.symm.trans h) (by decide)⟩
          simp only [List.length_cons] at hf
          obtain ⟨g, rfl⟩ : ∃ g, f = g + 1 := ⟨f - 1, by omega⟩
          rw [gcr1]
          unfold gX3_runStatement
          rw [if_pos hz, av t _ rfl, bd2_some, if_neg n123, if_neg n63, if_neg n33, av0, bd2_some, i4 g 0 (by simp only [List.length_cons] at *; omega), bd2_some, av1, bd2_some]
          cases lv with
          | false => rfl
          | true => rw [if_neg (show ¬ bI true = 0 by decide), e9]; rfl
        · rw [if_neg a4] at h; cases h
    rw [if_neg w2] at h
    cases ts with
    | nil =>
      cases h
      refine ⟨M, p, hA, hS, fun h => absurd h w1, fun h => absurd h w2, fun _ f hf => ?_⟩
      rw [pk, bd_some, if_neg (show ¬ nI (hd []) = (58 : Int32) by decide)]
    | cons t r1 =>
      have h : (if t = 58 then xst d 2 dep lv vs os r1 else some (vs, os, t :: r1)) = some (vs', os', r) := h
      simp only [List.length_cons] at hos
      have ht := hA.2.1
      by_cases b : t = 58
      · rw [if_pos b] at h
        obtain ⟨M1, p1, A1, S1, -, i2, -⟩ := cX hcnt d 2 dep lv vs vs' os os' r1 r _ (p + 1) h hA.2.2.2 (hS.step (p + 1)) hdep (by omega)
        refine ⟨M1, p1, A1, S1, fun h => absurd h w1, fun h => absurd h w2, fun _ f hf => ?_⟩
        simp only [List.length_cons] at hf
        rw [pk, bd_some, if_pos (show nI (hd (t :: r1)) = (58 : Int32) by show nI t = _; rw [b]; rfl), av t r1 rfl, bd2_some, i2 rfl f (by omega), bd2_some]
      · rw [if_neg b] at h; cases h
        refine ⟨M, p, hA, hS, fun h => absurd h w1, fun h => absurd h w2, fun _ f hf => ?_⟩
        rw [pk, bd_some, if_neg (show ¬ nI (hd (t :: r1)) = (58 : Int32) by show ¬ nI t = _; rw [q58, s_eq (by omega) (by omega)]; exact b)]

