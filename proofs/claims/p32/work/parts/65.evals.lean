/-- statements of an accepted text are found -/
theorem xsK : ∀ (L : Nat) (ts : List Nat), ts.length ≤ L → ∀ (s : List Nat) (dep : Nat) (lv : Bool) (vs : Nat → Int32) (os : List Int32), 2 * dep + ts.length ≤ 80 + owe s →
    (acc (1 :: s) ts = true → ∃ vs' os' r, (∀ d, 5 * ts.length + 2 ≤ d → xst d 1 dep lv vs os ts = some (vs', os', r)) ∧ acc s r = true ∧ r.length ≤ ts.length ∧ os'.length + r.length ≤ os.length + ts.length) ∧
    (acc (2 :: s) ts = true → ∃ vs' os' r, (∀ d, 5 * ts.length + 1 ≤ d → xst d 2 dep lv vs os ts = some (vs', os', r)) ∧ acc s r = true ∧ r.length < ts.length ∧ os'.length + r.length ≤ os.length + ts.length) ∧
    (acc (3 :: s) ts = true → ∃ vs' os' r, (∀ d, 5 * ts.length + 1 ≤ d → xst d 3 dep lv vs os ts = some (vs', os', r)) ∧ acc s r = true ∧ r.length ≤ ts.length ∧ os'.length + r.length ≤ os.length + ts.length)
  | 0, ts, hL, s, dep, lv, vs, os, hd => by
    obtain rfl : ts = [] := List.length_eq_zero_iff.mp (by omega)
    refine ⟨fun h => ?_, fun h => ?_, fun h => ?_⟩
    · refine ⟨vs, os, [], fun d hd => ?_, (acc_nil h).2, Nat.le_refl _, Nat.le_refl _⟩
      obtain ⟨e, rfl⟩ : ∃ e, d = e + 1 := ⟨d - 1, by omega⟩
      rfl
    · have := (acc_nil h).1; omega
    · refine ⟨vs, os, [], fun d hd => ?_, (acc_nil h).2, Nat.le_refl _, Nat.le_refl _⟩
      obtain ⟨e, rfl⟩ : ∃ e, d = e + 1 := ⟨d - 1, by omega⟩
      rfl
  | L + 1, [], hL, s, dep, lv, vs, os, hd => xsK L [] (Nat.zero_le _) s dep lv vs os hd
  | L + 1, t :: r, hL, s, dep, lv, vs, os, hd => by
    have hL' : r.length ≤ L := by simp only [List.length_cons] at hL; omega
    simp only [List.length_cons] at hd ⊢
    have c2 : ∀ (s : List Nat) (vs : Nat → Int32) (os : List Int32), 2 * dep + (r.length + 1) ≤ 80 + owe s → acc (2 :: s) (t :: r) = true → ∃ vs' os' r', (∀ d, 5 * (r.length + 1) + 1 ≤ d → xst d 2 dep lv vs os (t :: r) = some (vs', os', r')) ∧ acc s r' = true ∧ r'.length < r.length + 1 ∧ os'.length + r'.length ≤ os.length + (r.length + 1) := by
      intro s vs os hd h
      obtain ⟨q, hq, hacc⟩ := acc_bod (by decide) (by omega) h
      have hq : bS t = some q := hq
      have h40 : ¬ 40 < dep := by
        have h1 := owe_acc hacc
        rw [owe_app] at h1
        omega
      unfold bS at hq
      by_cases a1 : nm t
      · rw [if_pos a1] at hq
        cases hq
        obtain ⟨r1, e1, e2, e3⟩ := acc_tok (by decide) hacc
        obtain ⟨v, r2, f1, f2, f3⟩ := (evK vs L r1 (by omega) (59 :: s) dep (by show _ ≤ 81 + (0 + owe s); omega)).1 e2
        obtain ⟨r3, g1, g2, g3⟩ := acc_tok (by decide) f2
        refine ⟨(if lv then upd vs (t - 97) v else vs), os, r3, fun d h9 => ?_, g2, by omega, by omega⟩
        obtain ⟨e, rfl⟩ : ∃ e, d = e + 1 := ⟨d - 1, by omega⟩
        simp only [xst]
        rw [if_neg (by decide), if_pos (by decide), if_neg h40, if_neg (by omega), if_neg (by omega), if_neg (by omega), if_pos a1, e1]
        simp [f1 e (by omega), g1]
      rw [if_neg a1] at hq
      by_cases a2 : t = 123
      · rw [if_pos a2] at hq
        cases hq
        obtain ⟨vs', os', r1, e1, e2, e3, e4⟩ := (xsK L r hL' (125 :: s) (dep + 1) lv vs os (by show _ ≤ 80 + (1 + owe s); omega)).1 hacc
        obtain ⟨r3, g1, g2, g3⟩ := acc_tok (by decide) e2
        refine ⟨vs', os', r3, fun d h9 => ?_, g2, by omega, by omega⟩
        obtain ⟨e, rfl⟩ : ∃ e, d = e + 1 := ⟨d - 1, by omega⟩
        simp only [xst]
        rw [if_neg (by decide), if_pos (by decide), if_neg h40, if_pos a2, e1 e (by omega)]
        simp [g1]
      rw [if_neg a2] at hq
      by_cases a3 : t = 63
      · rw [if_pos a3] at hq
        cases hq
        obtain ⟨v, r1, e1, e2, e3⟩ := (evK vs L r hL' (2 :: 3 :: s) (dep + 1) (by show _ ≤ 81 + (0 + (0 + owe s)); omega)).1 hacc
        obtain ⟨vs1, os1, r2, f1, f2, f3, f4⟩ := (xsK L r1 (by omega) (3 :: s) (dep + 1) (lv && !decide (v = 0)) vs os (by show _ ≤ 80 + (0 + owe s); omega)).2.1 e2
        obtain ⟨vs2, os2, r3, g1, g2, g3, g4⟩ := (xsK L r2 (by omega) s (dep + 1) (lv && decide (v = 0)) vs1 os1 (by omega)).2.2 f2
        refine ⟨vs2, os2, r3, fun d h9 => ?_, g2, by omega, by omega⟩
        obtain ⟨e, rfl⟩ : ∃ e, d = e + 1 := ⟨d - 1, by omega⟩
        simp only [xst]
        rw [if_neg (by decide), if_pos (by decide), if_neg h40, if_neg a2, if_pos a3, e1 e (by omega)]
        simp only [Option.bind_some]
        rw [f1 e (by omega)]
        simp only [Option.bind_some]
        exact g1 e (by omega)
      rw [if_neg a3] at hq
      by_cases a4 : t = 33
      · rw [if_pos a4] at hq
        cases hq
        obtain ⟨v, r2, f1, f2, f3⟩ := (evK vs L r hL' (59 :: s) dep (by show _ ≤ 81 + (0 + owe s); omega)).1 hacc
        obtain ⟨r3, g1, g2, g3⟩ := acc_tok (by decide) f2
        refine ⟨vs, (if lv then os ++ [v] else os), r3, fun d h9 => ?_, g2, by omega, ?_⟩
        · obtain ⟨e, rfl⟩ : ∃ e, d = e + 1 := ⟨d - 1, by omega⟩
          simp only [xst]
          rw [if_neg (by decide), if_pos (by decide), if_neg h40, if_neg a2, if_neg a3, if_pos a4, f1 e (by omega)]
          simp [g1]
        · cases lv
          · show os.length + _ ≤ _; omega
          · show (os ++ [v]).length + _ ≤ _
            simp only [List.length_append, List.length_singleton]; omega
      · rw [if_neg a4] at hq; cases hq
    refine ⟨fun h => ?_, c2 s vs os hd, fun h => ?_⟩
    · by_cases hv : van t 1
      · refine ⟨vs, os, t :: r, fun d h9 => ?_, acc_van (by decide) hv h, Nat.le_refl _, Nat.le_refl _⟩
        obtain ⟨e, rfl⟩ : ∃ e, d = e + 1 := ⟨d - 1, by omega⟩
        simp only [xst]
        rw [if_pos (by decide), if_neg (by omega)]
      · have hc : cb t := by omega
        have h2 : acc (2 :: 1 :: s) (t :: r) = true := by
          obtain ⟨q, hq, hacc⟩ := acc_bod (by decide) hv h
          have hq : (bS t).map (· ++ [1]) = some q := hq
          cases hb : bS t with
          | none => rw [hb] at hq; cases hq
          | some p =>
            rw [hb] at hq
            cases hq
            rw [acc, feed, if_neg (by decide), if_neg (by omega)]
            show (match (bS t).map (· ++ 1 :: s) with | none => false | some s' => acc s' r) = true
            rw [hb]
            show acc (p ++ 1 :: s) r = true
            rw [List.append_assoc] at hacc
            exact hacc
        have ho : owe (1 :: s) = owe s := by show 0 + owe s = _; omega
        obtain ⟨vs1, os1, r1, e1, e2, e3, e4⟩ := c2 (1 :: s) vs os (by rw [ho]; exact hd) h2
        obtain ⟨vs2, os2, r2, f1, f2, f3, f4⟩ := (xsK L r1 (by omega) s dep lv vs1 os1 (by omega)).1 e2
        refine ⟨vs2, os2, r2, fun d h9 => ?_, f2, by omega, by omega⟩
        obtain ⟨e, rfl⟩ : ∃ e, d = e + 1 := ⟨d - 1, by omega⟩
        rw [xst, if_pos rfl]
        show (if cb t then _ else _) = _
        rw [if_pos hc, e1 e (by omega)]
        exact f1 e (by omega)
    · by_cases hv : van t 3
      · refine ⟨vs, os, t :: r, fun d h9 => ?_, acc_van (by decide) hv h, Nat.le_refl _, Nat.le_refl _⟩
        obtain ⟨e, rfl⟩ : ∃ e, d = e + 1 := ⟨d - 1, by omega⟩
        simp only [xst]
        rw [if_neg (by decide), if_neg (by decide), if_neg (by omega)]
      · have hc : t = 58 := by omega
        obtain ⟨q, hq, hacc⟩ := acc_bod (by decide) hv h
        cases hq
        obtain ⟨vs1, os1, r1, e1, e2, e3, e4⟩ := (xsK L r hL' s dep lv vs os (by omega)).2.1 hacc
        refine ⟨vs1, os1, r1, fun d h9 => ?_, e2, by omega, by omega⟩
        obtain ⟨e, rfl⟩ : ∃ e, d = e + 1 := ⟨d - 1, by omega⟩
        simp only [xst]
        rw [if_neg (by decide), if_neg (by decide), if_pos hc]
        exact e1 e (by omega)
theorem tl_len {t : Nat} {ts r : List Nat} (h : tl t ts = some r) : ts.length = r.length + 1 ∧ ∃ u, ts = u :: r ∧ u = t := by
  cases ts with
  | nil => cases h
  | cons x q =>
    have h : (if x = t then some q else none) = some r := h
    by_cases a : x = t
    · rw [if_pos a] at h; cases h; exact ⟨rfl, x, rfl, a⟩
    · rw [if_neg a] at h; cases h
theorem ob_s {α β : Type} {o : Option α} {f : α → Option β} {b : β} (h : o.bind f = some b) : ∃ a, o = some a ∧ f a = some b := by
  cases o with
  | none => cases h
  | some a => exact ⟨a, rfl, h⟩
/-- lengths -/
theorem evL {vs : Nat → Int32} : ∀ {d w dep : Nat} {a v : Int32} {ts r : List Nat}, ev vs d w dep a ts = some (v, r) → r.length ≤ ts.length ∧ (w ≠ 5 → w ≠ 7 → r.length < ts.length)
  | 0, w, dep, a, v, ts, r, h => by cases h
  | d + 1, w, dep, a, v, ts, r, h => by
    rw [ev_s] at h
    by_cases w4 : w = 4
    · rw [if_pos w4] at h
      obtain ⟨q, h1, h2⟩ := ob_s h
      have e1 := evL h1
      have e2 := evL h2
      have := e1.2 (by decide) (by decide)
      have := e2.1
      omega
    rw [if_neg w4] at h
    by_cases w5 : w = 5
    · rw [if_pos w5] at h
      cases ts with
      | nil => cases h; exact ⟨Nat.le_refl _, fun h => absurd w5 h⟩
      | cons t r1 =>
        refine ⟨?_, fun h => absurd w5 h⟩
        have h : (if t = 43 then (ev vs d 6 dep 0 r1).bind fun q => ev vs d 5 dep (a + q.1) q.2 else if t = 45 then (ev vs d 6 dep 0 r1).bind fun q => ev vs d 5 dep (a - q.1) q.2 else some (a, t :: r1)) = some (v, r) := h
        simp only [List.length_cons]
        by_cases b : t = 43
        · rw [if_pos b] at h
          obtain ⟨q, h1, h2⟩ := ob_s h
          have := (evL h1).1
          have := (evL h2).1
          omega
        rw [if_neg b] at h
        by_cases c : t = 45
        · rw [if_pos c] at h
          obtain ⟨q, h1, h2⟩ := ob_s h
          have := (evL h1).1
          have := (evL h2).1
          omega
        rw [if_neg c] at h
        cases h
        simp only [List.length_cons]; omega
    rw [if_neg w5] at h
    by_cases w6 : w = 6
    · rw [if_pos w6] at h
      obtain ⟨q, h1, h2⟩ := ob_s h
      have e1 := evL h1
      have e2 := evL h2
      have := e1.2 (by decide) (by decide)
      have := e2.1
      omega
    rw [if_neg w6] at h
    by_cases w7 : w = 7
    · rw [if_pos w7] at h
      cases ts with
      | nil => cases h; exact ⟨Nat.le_refl _, fun _ h => absurd w7 h⟩
      | cons t r1 =>
        refine ⟨?_, fun _ h => absurd w7 h⟩
        have h : (if t = 42 then (ev vs d 8 dep 0 r1).bind fun q => ev vs d 7 dep (a * q.1) q.2 else some (a, t :: r1)) = some (v, r) := h
        simp only [List.length_cons]
        by_cases b : t = 42
        · rw [if_pos b] at h
          obtain ⟨q, h1, h2⟩ := ob_s h
          have := (evL h1).1
          have := (evL h2).1
          omega
        rw [if_neg b] at h
        cases h
        simp only [List.length_cons]; omega
    rw [if_neg w7] at h
    cases ts with
    | nil => cases h
    | cons t r1 =>
      simp only [List.length_cons]
      have h : (if t = 45 then (ev vs d 8 dep 0 r1).bind fun q => some (-q.1, q.2) else if t = 40 then (if 40 < dep then none else (ev vs d 4 (dep + 1) 0 r1).bind fun q => (tl 41 q.2).bind fun r' => some (q.1, r')) else if dg t then some (nI (t - 48), r1) else if nm t then some (vs (t - 97), r1) else none) = some (v, r) := h
      by_cases b : t = 45
      · rw [if_pos b] at h
        obtain ⟨q, h1, h2⟩ := ob_s h
        have := (evL h1).1
        cases h2
        exact ⟨by omega, fun _ _ => by omega⟩
      rw [if_neg b] at h
      by_cases c : t = 40
      · rw [if_pos c] at h
        by_cases e : 40 < dep
        · rw [if_pos e] at h; cases h
        rw [if_neg e] at h
        obtain ⟨q, h1, h2⟩ := ob_s h
        obtain ⟨r', h3, h4⟩ := ob_s h2
        have := (evL h1).1
        have := (tl_len h3).1
        cases h4
        exact ⟨by omega, fun _ _ => by omega⟩
      rw [if_neg c] at h
      by_cases e : dg t
      · rw [if_pos e] at h; cases h; exact ⟨by omega, fun _ _ => by omega⟩
      rw [if_neg e] at h
      by_cases f : nm t
      · rw [if_pos f] at h; cases h; exact ⟨by omega, fun _ _ => by omega⟩
      rw [if_neg f] at h; cases h

