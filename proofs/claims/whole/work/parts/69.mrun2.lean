/-! THE MODEL'S RUN: statements -/
def StM (row : Nat → Int32) (B M : Mm) (p : Nat) (vs : Nat → Int32) (os : List Int32) : Prop := M 0 11 = nI p ∧ M 0 13 = nI os.length ∧ RowL (M 11) os ∧ (∀ v, v < 4 → M 10 v = vs v) ∧ M 9 = row ∧ (∀ a, a ≠ 0 → a ≠ 10 → a ≠ 11 → M a = B a) ∧ (∀ i, i ≠ 11 → i ≠ 13 → M 0 i = B 0 i)
theorem StM.step {row : Nat → Int32} {B M : Mm} {p : Nat} {vs : Nat → Int32} {os : List Int32} (h : StM row B M p vs os) (q : Nat) : StM row B (um M 0 11 (nI q)) q vs os := by
  obtain ⟨h1, h2, h3, h4, h5, h6, h7⟩ := h
  exact ⟨um_hit, by rw [um_place (by decide)]; exact h2, by rw [um_fn (by decide)]; exact h3, fun v hv => by rw [um_fn (by decide)]; exact h4 v hv, by rw [um_fn (by decide)]; exact h5, fun a b1 b2 b3 => by rw [um_fn b1]; exact h6 a b1 b2 b3, fun i b1 b2 => by rw [um_place b1]; exact h7 i b1 b2⟩
theorem outM {row : Nat → Int32} {B M : Mm} {p : Nat} {vs : Nat → Int32} {os : List Int32} (v : Int32) (h : StM row B M p vs os) : StM row B (um (um M 11 os.length v) 0 13 (nI (os.length + 1))) p vs (os ++ [v]) := by
  obtain ⟨h1, h2, h3, h4, h5, h6, h7⟩ := h
  refine ⟨?_, ?_, ?_, ?_, ?_, ?_, ?_⟩
  · rw [um_place (by decide), um_fn (by decide)]; exact h1
  · rw [um_hit]; simp only [List.length_append, List.length_singleton]
  · have e : um (um M 11 os.length v) 0 13 (nI (os.length + 1)) 11 = upd (M 11) os.length v := by
      rw [um_fn (by decide)]
      unfold um
      exact if_pos rfl
    rw [e]
    exact RowL_app h3
  · intro v hv
    rw [um_fn (by decide), um_fn (by decide)]; exact h4 v hv
  · rw [um_fn (by decide), um_fn (by decide)]; exact h5
  · intro a b1 b2 b3
    rw [um_fn b1, um_fn b3]; exact h6 a b1 b2 b3
  · intro i b1 b2
    rw [um_place b2, um_fn (by decide)]; exact h7 i b1 b2
theorem asgM {row : Nat → Int32} {B M : Mm} {p t : Nat} {vs : Nat → Int32} {os : List Int32} (v : Int32) (h : StM row B M p vs os) : StM row B (um M 10 t v) p (upd vs t v) os := by
  obtain ⟨h1, h2, h3, h4, h5, h6, h7⟩ := h
  refine ⟨?_, ?_, ?_, ?_, ?_, ?_, ?_⟩
  · rw [um_fn (by decide)]; exact h1
  · rw [um_fn (by decide)]; exact h2
  · rw [um_fn (by decide)]; exact h3
  · intro w hw
    unfold upd
    by_cases e : w = t
    · rw [e, um_hit, if_pos rfl]
    · rw [um_place e, if_neg e]; exact h4 w hw
  · rw [um_fn (by decide)]; exact h5
  · intro a b1 b2 b3
    rw [um_fn b2]; exact h6 a b1 b2 b3
  · intro i b1 b2
    rw [um_fn (by decide)]; exact h7 i b1 b2
theorem mX {cnt : Nat} {row : Nat → Int32} {B : Mm} (hcnt : cnt ≤ 80) (h0 : row cnt = nI 0) : ∀ (d w dep : Nat) (lv : Bool) (vs vs' : Nat → Int32) (os os' : List Int32) (ts r : List Nat) (M : Mm) (p : Nat), xst d w dep lv vs os ts = some (vs', os', r) → At row cnt p ts → StM row B M p vs os → os.length + ts.length ≤ 80 → ∃ M' p', At row cnt p' r ∧ StM row B M' p' vs' os' ∧
    (w = 1 → hd r = 125 → ∀ E f fuel, ts.length + 1 ≤ f → ts.length < fuel → gX8_statement_L26 (gMS f) (bI lv) E fuel M = E M') ∧
    (w = 1 → r = [] → lv = true → ∀ a fuel, ts.length < fuel → gX8_run_L94 a fuel M (nI cnt) = some M') ∧
    (w = 2 → ∀ f y, ts.length + 1 ≤ f → gMS f 0 M (bI lv) y = some (0, M')) ∧
    (w = 3 → ∀ f, ts.length + 1 ≤ f → (bd2 (gX8_passes M (58 : Int32)) fun r45 M44 => if r45 = 0 then (some M44) else bd2 (gMS f 0 M44 (bI lv) 0) fun _ M49 => some M49) = some M')
  | 0, w, dep, lv, vs, vs', os, os', ts, r, M, p, h, hA, hS, hos => by cases h
  | d + 1, w, dep, lv, vs, vs', os, os', ts, r, M, p, h, hA, hS, hos => by
    have hlen := At_len hA
    obtain ⟨hrow, ht⟩ := At_hd hA h0
    have hr9 : M 9 = row := hS.2.2.2.2.1
    have hp : M 0 11 = nI p := hS.1
    have hp80 : p ≤ 80 := by omega
    have ck : ∀ {α : Type} {x : Option α}, (if (nI p < 0 ∨ 81 ≤ (nI p).toNatClampNeg) then none else x) = x := ckI (show p < 81 by omega) (by decide)
    rw [xst_s] at h
    by_cases w1 : w = 1
    · subst w1
      rw [if_pos rfl] at h
      have done : r = ts → ¬ cb (hd ts) → (hd r = 125 → ∀ E f fuel, ts.length + 1 ≤ f → ts.length < fuel → gX8_statement_L26 (gMS f) (bI lv) E fuel M = E M) ∧ (r = [] → lv = true → ∀ a fuel, ts.length < fuel → gX8_run_L94 a fuel M (nI cnt) = some M) := by
        intro er n1
        subst er
        refine ⟨fun h125 E f fuel hf hfu => ?_, fun hr hl a fuel hfu => ?_⟩
        · obtain ⟨g, rfl⟩ : ∃ g, fuel = g + 1 := ⟨fuel - 1, by omega⟩
          rw [gX8_statement_L26, hp, ck, cI (by omega), hr9, hrow, h125, if_pos (show nI 125 = (125 : Int32) from rfl)]
        · obtain ⟨g, rfl⟩ : ∃ g, fuel = g + 1 := ⟨fuel - 1, by omega⟩
          subst hr
          have hpc : p = cnt := hA
          rw [gX8_run_L94, hp, hpc, if_pos (nI_le (Nat.le_refl _) (by omega))]
      cases ts with
      | nil => cases h; exact ⟨M, p, hA, hS, fun _ => (done rfl (by decide)).1, fun _ => (done rfl (by decide)).2, fun h => absurd h (by decide), fun h => absurd h (by decide)⟩
      | cons t r1 =>
        have h : (if cb t then (xst d 2 dep lv vs os (t :: r1)).bind fun q => xst d 1 dep lv q.1 q.2.1 q.2.2 else some (vs, os, t :: r1)) = some (vs', os', r) := h
        by_cases b : cb t
        · rw [if_pos b] at h
          obtain ⟨⟨va, oa, ra⟩, e1, e2⟩ := ob_s h
          have l1 := xsL e1
          have l2 := l1.2.1 rfl
          simp only [List.length_cons] at l1 l2 hos hlen
          obtain ⟨M1, p1, A1, S1, -, -, i2, -⟩ := mX hcnt h0 d 2 dep lv vs va os oa (t :: r1) ra M p e1 hA hS hos
          obtain ⟨M2, p2, A2, S2, j1, j2, -, -⟩ := mX hcnt h0 d 1 dep lv va vs' oa os' ra r M1 p1 e2 A1 S1 (by omega)
          refine ⟨M2, p2, A2, S2, fun _ h125 E f fuel hf hfu => ?_, fun _ hr hl a fuel hfu => ?_, fun h => absurd h (by decide), fun h => absurd h (by decide)⟩
          · simp only [List.length_cons] at hf hfu
            obtain ⟨g, rfl⟩ : ∃ g, fuel = g + 1 := ⟨fuel - 1, by omega⟩
            have hrow : row p = nI t := hrow
            have n125 : ¬ nI t = (125 : Int32) := by rw [q125, s_eq (by have := hA.2.1; omega) (by omega)]; omega
            rw [gX8_statement_L26, hp, ck, cI (by omega), hr9, hrow, if_neg n125, i2 rfl f 0 (by simp only [List.length_cons]; omega), bd2_some]
            exact j1 rfl h125 E f g (by omega) (by omega)
          · simp only [List.length_cons] at hfu
            obtain ⟨g, rfl⟩ : ∃ g, fuel = g + 1 := ⟨fuel - 1, by omega⟩
            have i3 := i2 rfl 400 0 (by simp only [List.length_cons]; omega)
            rw [hl] at i3
            rw [gX8_run_L94, hp, if_neg (nI_ge (by omega) (by omega)), show (1 : Int32) = bI true from rfl, i3, bd2_some]
            exact j2 rfl hr hl a g (by omega)
        · rw [if_neg b] at h; cases h
          exact ⟨M, p, hA, hS, fun _ => (done rfl b).1, fun _ => (done rfl b).2, fun h => absurd h (by decide), fun h => absurd h (by decide)⟩
    rw [if_neg w1] at h
    by_cases w2 : w = 2
    · rw [if_pos w2] at h
      by_cases hd40 : 40 < dep
      · rw [if_pos hd40] at h; cases h
      rw [if_neg hd40] at h
      cases ts with
      | nil => cases h
      | cons t r1 =>
        have h : (if t = 123 then (xst d 1 (dep + 1) lv vs os r1).bind fun q => (tl 125 q.2.2).bind fun r' => some (q.1, q.2.1, r')
          else if t = 63 then (ev vs d 4 (dep + 1) 0 r1).bind fun q => (xst d 2 (dep + 1) (lv && !decide (q.1 = 0)) vs os q.2).bind fun p => xst d 3 (dep + 1) (lv && decide (q.1 = 0)) p.1 p.2.1 p.2.2
          else if t = 33 then (ev vs d 4 dep 0 r1).bind fun q => (tl 59 q.2).bind fun r' => some (vs, (if lv then os ++ [q.1] else os), r')
          else if nm t then (tl 61 r1).bind fun r1 => (ev vs d 4 dep 0 r1).bind fun q => (tl 59 q.2).bind fun r' => some ((if lv then upd vs (t - 97) q.1 else vs), os, r')
          else none) = some (vs', os', r) := h
        have ht : t < 126 := ht
        have hrow : row p = nI t := hrow
        simp only [List.length_cons] at hos hlen
        have S0 := hS.step (p + 1)
        -- the beginning of a statement
        have beg : ∀ (g : Nat) (y : Int32) (M9 : Mm), (if nI t = (123 : Int32) then (lt (fun (M59 : Mm) => lt (um M59 0 11 ((M59 0 11) + (1 : Int32))) fun M61 => some M61) fun E60 => gX8_statement_L26 (gMS g) (bI lv) E60 FU (um M 0 11 (nI (p + 1)))) else if nI t = (63 : Int32) then (bd2 (gME 400 0 (um M 0 11 (nI (p + 1))) 0 0) fun r30 M29 => lt (fun (M32 : Mm) (s33 : Int32) => lt (fun (M36 : Mm) (x37 : Int32) (s38 : Int32) => bd2 (gMS g 0 M36 s38 0) fun r42 M41 => bd2 (gX8_passes M41 (58 : Int32)) fun r45 M44 => if r45 = 0 then (some M44) else if bI lv = 0 then (bd2 (gMS g 0 M44 (0 : Int32) 0) fun r50 M49 => some M49) else if x37 = 0 then (bd2 (gMS g 0 M44 (1 : Int32) 0) fun r57 M56 => some M56) else bd2 (gMS g 0 M44 (0 : Int32) 0) fun r54 M53 => some M53) fun J39 => if bI lv = 0 then (J39 M32 s33 (0 : Int32)) else if s33 = 0 then (J39 M32 s33 (0 : Int32)) else J39 M32 s33 (1 : Int32)) fun J34 => if r30 = 0 then (J34 M29 (0 : Int32)) else J34 M29 (1 : Int32)) else lt (fun (M7 : Mm) (x8 : Int32) => bd2 (gME 400 0 M7 0 0) fun r12 M11 => lt (um M11 0 11 ((M11 0 11) + (1 : Int32))) fun M13 => lt (fun (M15 : Mm) (x16 : Int32) (x17 : Int32) => if bI lv = 0 then (some M15) else if x16 = (33 : Int32) then (if ((M15 0 13) < 0 ∨ 80 ≤ ((M15 0 13)).toNatClampNeg) then none else lt (um M15 11 ((M15 0 13)).toNatClampNeg x17) fun M22 => lt (um M22 0 13 ((M22 0 13) + (1 : Int32))) fun M23 => some M23) else some M15) fun J18 => if bI lv = 0 then (J18 M13 x8 r12) else if (gX8_isName x8) = 0 then (J18 M13 x8 r12) else if ((x8 - (97 : Int32)) < 0 ∨ 4 ≤ ((x8 - (97 : Int32))).toNatClampNeg) then none else lt (um M13 10 ((x8 - (97 : Int32))).toNatClampNeg r12) fun M26 => J18 M26 x8 r12) fun J9 => if (gX8_isName (nI t)) = 0 then (J9 (um M 0 11 (nI (p + 1))) (nI t)) else lt (um (um M 0 11 (nI (p + 1))) 0 11 ((um M 0 11 (nI (p + 1)) 0 11) + (1 : Int32))) fun M27 => J9 M27 (nI t)) = some M9 → gMS (g + 1) 0 M (bI lv) y = some (0, M9) := by
          intro g y M9 h9
          rw [gms0]
          unfold gX8_statement
          rw [hp, ck, cI (by omega), hr9, hrow, lt_s9, up1, lt_s9, h9]
          rfl
        have v0 : ∀ v, v < 4 → um M 0 11 (nI (p + 1)) 10 v = vs v := fun v hv => S0.2.2.2.1 v hv
        have A0 : At (um M 0 11 (nI (p + 1)) 9) cnt (p + 1) r1 := by rw [S0.2.2.2.2.1]; exact hA.2.2.2
        have z0 : um M 0 11 (nI (p + 1)) 9 cnt = nI 0 := by rw [S0.2.2.2.2.1]; exact h0
        by_cases a1 : t = 123
        · rw [if_pos a1] at h
          obtain ⟨⟨va, oa, ra⟩, e1, h2⟩ := ob_s h
          obtain ⟨r', e3, e4⟩ := ob_s h2
          cases e4
          obtain ⟨t3, u, hu, hu2⟩ := tl_len e3
          dsimp only at hu
          subst hu
          obtain ⟨M1, p1, A1, S1, i1, -, -, -⟩ := mX hcnt h0 d 1 (dep + 1) lv vs va os oa r1 (u :: r) _ (p + 1) e1 hA.2.2.2 S0 (by omega)
          refine ⟨um M1 0 11 (nI (p1 + 1)), p1 + 1, A1.2.2.2, S1.step (p1 + 1), fun h => absurd h w1, fun h => absurd h w1, fun _ f y hf => ?_, fun h => absurd (w2.symm.trans h) (by decide)⟩
          simp only [List.length_cons] at hf
          obtain ⟨g, rfl⟩ : ∃ g, f = g + 1 := ⟨f - 1, by omega⟩
          refine beg g y _ ?_
          rw [if_pos (show nI t = (123 : Int32) by rw [a1]; rfl), lt_s9, i1 rfl hu2 _ g FU (by omega) (by unfold FU; omega), lt_s9, S1.1, up1]
        rw [if_neg a1] at h
        have n123 : ¬ nI t = (123 : Int32) := by rw [q123, s_eq (by omega) (by omega)]; exact a1
        by_cases a2 : t = 63
        · rw [if_pos a2] at h
          obtain ⟨⟨v1, r2⟩, e1, h2⟩ := ob_s h
          obtain ⟨⟨va, oa, ra⟩, e3, e4⟩ := ob_s h2
          have l1 := (evL e1).2 (by decide) (by decide)
          have l3 := xsL e3
          dsimp only at e3 e4 l3
          obtain ⟨p1, A1, i4, -, -, -, -⟩ := mE hcnt z0 v0 d 4 (dep + 1) 0 v1 r1 r2 (p + 1) e1 A0
          have i4 := i4 rfl 400 0 0 (by omega)
          simp only [um_um] at i4
          have A1' : At row cnt p1 r2 := by rw [S0.2.2.2.2.1] at A1; exact A1
          obtain ⟨M2, p2, A2, S2, -, -, j2, -⟩ := mX hcnt h0 d 2 (dep + 1) (lv && !decide (v1 = 0)) vs va os oa r2 ra _ p1 e3 A1' (hS.step p1) (by omega)
          obtain ⟨M3, p3, A3, S3, -, -, -, k3⟩ := mX hcnt h0 d 3 (dep + 1) (lv && decide (v1 = 0)) va vs' oa os' ra r M2 p2 e4 A2 S2 (by omega)
          refine ⟨M3, p3, A3, S3, fun h => absurd h w1, fun h => absurd h w1, fun _ f y hf => ?_, fun h => absurd (w2.symm.trans h) (by decide)⟩
          simp only [List.length_cons] at hf
          obtain ⟨g, rfl⟩ : ∃ g, f = g + 1 := ⟨f - 1, by omega⟩
          have k4 := k3 rfl g (by omega)
          have j4 := j2 rfl g 0 (by omega)
          refine beg g y _ ?_
          rw [if_neg n123, if_pos (show nI t = (63 : Int32) by rw [a2]; rfl), i4, bd2_some]
          by_cases z : v1 = 0
          · rw [decide_eq_true z] at k4 j4
            cases lv with
            | false =>
              have k4 : (bd2 (gX8_passes M2 (58 : Int32)) fun r45 M44 => if r45 = 0 then (some M44) else bd2 (gMS g 0 M44 (0 : Int32) 0) fun _ M49 => some M49) = some M3 := k4
              have j4 : gMS g 0 (um M 0 11 (nI p1)) (0 : Int32) 0 = some (0, M2) := j4
              simp only [↓lt_n, ↓reduceIte, z, bF9]
              rw [j4]
              exact k4
            | true =>
              have k4 : (bd2 (gX8_passes M2 (58 : Int32)) fun r45 M44 => if r45 = 0 then (some M44) else bd2 (gMS g 0 M44 (1 : Int32) 0) fun _ M49 => some M49) = some M3 := k4
              have j4 : gMS g 0 (um M 0 11 (nI p1)) (0 : Int32) 0 = some (0, M2) := j4
              simp only [↓lt_n, ↓reduceIte, z, bT9, one_ne]
              rw [j4]
              exact k4
          · rw [decide_eq_false z] at k4 j4
            cases lv with
            | false =>
              have k4 : (bd2 (gX8_passes M2 (58 : Int32)) fun r45 M44 => if r45 = 0 then (some M44) else bd2 (gMS g 0 M44 (0 : Int32) 0) fun _ M49 => some M49) = some M3 := k4
              have j4 : gMS g 0 (um M 0 11 (nI p1)) (0 : Int32) 0 = some (0, M2) := j4
              simp only [↓lt_n, ↓reduceIte, z, bF9]
              rw [j4]
              exact k4
            | true =>
              have k4 : (bd2 (gX8_passes M2 (58 : Int32)) fun r45 M44 => if r45 = 0 then (some M44) else bd2 (gMS g 0 M44 (0 : Int32) 0) fun _ M49 => some M49) = some M3 := k4
              have j4 : gMS g 0 (um M 0 11 (nI p1)) (1 : Int32) 0 = some (0, M2) := j4
              simp only [↓lt_n, ↓reduceIte, z, bT9, one_ne]
              rw [j4]
              exact k4
        rw [if_neg a2] at h
        have n63 : ¬ nI t = (63 : Int32) := by rw [q63, s_eq (by omega) (by omega)]; exact a2
        obtain ⟨-, -, -, g4, -⟩ := dg_n t (List.mem_range.mpr ht)
        by_cases a3 : t = 33
        · rw [if_pos a3] at h
          obtain ⟨⟨v1, r2⟩, e1, h2⟩ := ob_s h
          obtain ⟨r', e3, e4⟩ := ob_s h2
          cases e4
          obtain ⟨t3, u, hu, hu2⟩ := tl_len e3
          dsimp only at hu
          subst hu
          have l1 := (evL e1).2 (by decide) (by decide)
          obtain ⟨p1, A1, i4, -, -, -, -⟩ := mE hcnt z0 v0 d 4 dep 0 v1 r1 (u :: r) (p + 1) e1 A0
          have i4 := i4 rfl 400 0 0 (by omega)
          simp only [um_um] at i4
          have A1' : At row cnt p1 (u :: r) := by rw [S0.2.2.2.2.1] at A1; exact A1
          have S2 := hS.step (p1 + 1)
          have S3 := outM v1 S2
          refine ⟨(if lv then um (um (um M 0 11 (nI (p1 + 1))) 11 os.length v1) 0 13 (nI (os.length + 1)) else um M 0 11 (nI (p1 + 1))), p1 + 1, A1'.2.2.2, by cases lv; exact S2; exact S3, fun h => absurd h w1, fun h => absurd h w1, fun _ f y hf => ?_, fun h => absurd (w2.symm.trans h) (by decide)⟩
          simp only [List.length_cons] at hf
          obtain ⟨g, rfl⟩ : ∃ g, f = g + 1 := ⟨f - 1, by omega⟩
          refine beg g y _ ?_
          have nn : gX8_isName (nI t) = 0 := by rw [g4]; exact s_bF (by omega)
          rw [if_neg n123, if_neg n63, lt_s9, if_pos nn]
          dsimp only
          rw [i4, bd2_some, um_hit, up1, um_um, lt_s9, lt_s9, if_pos nn]
          cases lv with
          | false => rfl
          | true =>
            rw [if_neg (show ¬ bI true = 0 by decide)]
            dsimp only
            rw [if_neg (show ¬ bI true = 0 by decide), if_pos (show nI t = (33 : Int32) by rw [a3]; rfl), S2.2.1, ckI (show os.length < 80 by omega) (by decide), cI (by omega), lt_s9, um_fn (show (0 : Nat) ≠ 11 by decide), S2.2.1, up1, lt_s9]
            rfl
        rw [if_neg a3] at h
        have n33 : ¬ nI t = (33 : Int32) := by rw [q33, s_eq (by omega) (by omega)]; exact a3
        by_cases a4 : nm t
        · rw [if_pos a4] at h
          obtain ⟨r0, e0, h⟩ := ob_s h
          obtain ⟨⟨v1, r2⟩, e1, h2⟩ := ob_s h
          obtain ⟨r', e3, e4⟩ := ob_s h2
          cases e4
          obtain ⟨t0, w0, hw0, hw2⟩ := tl_len e0
          subst hw0
          obtain ⟨t3, u, hu, hu2⟩ := tl_len e3
          dsimp only at hu
          subst hu
          have l1 := (evL e1).2 (by decide) (by decide)
          have S9 := hS.step (p + 1 + 1)
          simp only [List.length_cons] at hos hlen
          obtain ⟨p1, A1, i4, -, -, -, -⟩ := mE hcnt (N := um M 0 11 (nI (p + 1 + 1))) (by rw [S9.2.2.2.2.1]; exact h0) (fun v hv => S9.2.2.2.1 v hv) d 4 dep 0 v1 r0 (u :: r) (p + 1 + 1) e1 (by rw [S9.2.2.2.2.1]; exact hA.2.2.2.2.2.2)
          have i4 := i4 rfl 400 0 0 (by omega)
          simp only [um_um] at i4
          have A1' : At row cnt p1 (u :: r) := by rw [S9.2.2.2.2.1] at A1; exact A1
          have S2 := hS.step (p1 + 1)
          have S3 := asgM (t := t - 97) v1 S2
          refine ⟨(if lv then um (um M 0 11 (nI (p1 + 1))) 10 (t - 97) v1 else um M 0 11 (nI (p1 + 1))), p1 + 1, A1'.2.2.2, by cases lv; exact S2; exact S3, fun h => absurd h w1, fun h => absurd h w1, fun _ f y hf => ?_, fun h => absurd (w2.symm.trans h) (by decide)⟩
          obtain ⟨g, rfl⟩ : ∃ g, f = g + 1 := ⟨f - 1, by omega⟩
          refine beg g y _ ?_
          have nn : ¬ gX8_isName (nI t) = 0 := by rw [g4, s_bT a4]; decide
          rw [if_neg n123, if_neg n63, lt_s9, if_neg nn, um_hit, up1, um_um, lt_s9]
          dsimp only
          rw [i4, bd2_some, um_hit, up1, um_um, lt_s9, lt_s9, if_neg nn, q97, s_sub (by omega), ckI (show t - 97 < 4 by omega) (by decide), cI (by omega)]
          cases lv with
          | false => rfl
          | true =>
            rw [if_neg (show ¬ bI true = 0 by decide), lt_s9]
            dsimp only
            rw [if_neg (show ¬ bI true = 0 by decide), if_neg n33]
            rfl
        · rw [if_neg a4] at h; cases h
    rw [if_neg w2] at h
    have ps := passM (t := 58) hp80 hp (by rw [hr9]; exact hrow) ht (by decide)
    rw [show nI 58 = (58 : Int32) from rfl] at ps
    cases ts with
    | nil =>
      cases h
      refine ⟨M, p, hA, hS, fun h => absurd h w1, fun h => absurd h w1, fun h => absurd h w2, fun _ f hf => ?_⟩
      rw [if_neg (show ¬ hd [] = 58 by decide)] at ps
      rw [ps, bd2_some, if_pos (show nI 0 = 0 from rfl)]
    | cons t r1 =>
      have h : (if t = 58 then xst d 2 dep lv vs os r1 else some (vs, os, t :: r1)) = some (vs', os', r) := h
      simp only [List.length_cons] at hos
      by_cases b : t = 58
      · rw [if_pos b] at h
        obtain ⟨M1, p1, A1, S1, -, -, i2, -⟩ := mX hcnt h0 d 2 dep lv vs vs' os os' r1 r _ (p + 1) h hA.2.2.2 (hS.step (p + 1)) (by omega)
        refine ⟨M1, p1, A1, S1, fun h => absurd h w1, fun h => absurd h w1, fun h => absurd h w2, fun _ f hf => ?_⟩
        simp only [List.length_cons] at hf
        rw [show hd (t :: r1) = t from rfl, if_pos b] at ps
        rw [ps, bd2_some, if_neg (show ¬ nI 1 = 0 by decide), i2 rfl f 0 (by omega), bd2_some]
      · rw [if_neg b] at h; cases h
        refine ⟨M, p, hA, hS, fun h => absurd h w1, fun h => absurd h w1, fun h => absurd h w2, fun _ f hf => ?_⟩
        rw [show hd (t :: r1) = t from rfl, if_neg b] at ps
        rw [ps, bd2_some, if_pos (show nI 0 = 0 from rfl)]
