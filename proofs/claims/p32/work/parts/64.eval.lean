/-! WHAT AN ACCEPTED TEXT DOES: an evaluation by the grammar's symbols, over the tokens that are left; with the depth that the class counts -/
def tl (t : Nat) : List Nat → Option (List Nat)
  | [] => none
  | x :: r => if x = t then some r else none
def ev (vs : Nat → Int32) : Nat → Nat → Nat → Int32 → List Nat → Option (Int32 × List Nat)
  | 0, _, _, _, _ => none
  | d + 1, w, dep, a, ts =>
    if w = 4 then (ev vs d 6 dep 0 ts).bind fun q => ev vs d 5 dep q.1 q.2
    else if w = 5 then (match ts with
      | [] => some (a, [])
      | t :: r => if t = 43 then (ev vs d 6 dep 0 r).bind fun q => ev vs d 5 dep (a + q.1) q.2
        else if t = 45 then (ev vs d 6 dep 0 r).bind fun q => ev vs d 5 dep (a - q.1) q.2
        else some (a, t :: r))
    else if w = 6 then (ev vs d 8 dep 0 ts).bind fun q => ev vs d 7 dep q.1 q.2
    else if w = 7 then (match ts with
      | [] => some (a, [])
      | t :: r => if t = 42 then (ev vs d 8 dep 0 r).bind fun q => ev vs d 7 dep (a * q.1) q.2 else some (a, t :: r))
    else (match ts with
      | [] => none
      | t :: r => if t = 45 then (ev vs d 8 dep 0 r).bind fun q => some (-q.1, q.2)
        else if t = 40 then (if 40 < dep then none else (ev vs d 4 (dep + 1) 0 r).bind fun q => (tl 41 q.2).bind fun r' => some (q.1, r'))
        else if dg t then some (nI (t - 48), r)
        else if nm t then some (vs (t - 97), r)
        else none)
abbrev Sg : Type := (Nat → Int32) × List Int32 × List Nat
def xst : Nat → Nat → Nat → Bool → (Nat → Int32) → List Int32 → List Nat → Option Sg
  | 0, _, _, _, _, _, _ => none
  | d + 1, w, dep, lv, vs, os, ts =>
    if w = 1 then (match ts with
      | [] => some (vs, os, [])
      | t :: r => if cb t then (xst d 2 dep lv vs os (t :: r)).bind fun q => xst d 1 dep lv q.1 q.2.1 q.2.2 else some (vs, os, t :: r))
    else if w = 2 then (if 40 < dep then none else match ts with
      | [] => none
      | t :: r =>
        if t = 123 then (xst d 1 (dep + 1) lv vs os r).bind fun q => (tl 125 q.2.2).bind fun r' => some (q.1, q.2.1, r')
        else if t = 63 then (ev vs d 4 (dep + 1) 0 r).bind fun q => (xst d 2 (dep + 1) (lv && !decide (q.1 = 0)) vs os q.2).bind fun p => xst d 3 (dep + 1) (lv && decide (q.1 = 0)) p.1 p.2.1 p.2.2
        else if t = 33 then (ev vs d 4 dep 0 r).bind fun q => (tl 59 q.2).bind fun r' => some (vs, (if lv then os ++ [q.1] else os), r')
        else if nm t then (tl 61 r).bind fun r1 => (ev vs d 4 dep 0 r1).bind fun q => (tl 59 q.2).bind fun r' => some ((if lv then upd vs (t - 97) q.1 else vs), os, r')
        else none)
    else (match ts with
      | [] => some (vs, os, [])
      | t :: r => if t = 58 then xst d 2 dep lv vs os r else some (vs, os, t :: r))
/-- brackets that a stack still wants -/
def owe : List Nat → Nat
  | [] => 0
  | x :: s => (if x = 41 ∨ x = 125 then 1 else 0) + owe s
theorem owe_app : ∀ (a b : List Nat), owe (a ++ b) = owe a + owe b
  | [], b => by show _ = 0 + _; rw [Nat.zero_add]; rfl
  | x :: a, b => by
    show _ + owe (a ++ b) = _ + owe a + owe b
    rw [owe_app a b]; omega
theorem owe_feed {t : Nat} : ∀ {s s' : List Nat}, feed t s = some s' → owe s ≤ owe s' + 1
  | [], s', h => by cases h
  | x :: s, s', h => by
    rw [feed] at h
    by_cases a : 8 < x
    · rw [if_pos a] at h
      by_cases b : x = t
      · rw [if_pos b] at h; cases h
        show (if _ then 1 else 0) + owe s ≤ _
        by_cases c : x = 41 ∨ x = 125
        · rw [if_pos c]; omega
        · rw [if_neg c]; omega
      · rw [if_neg b] at h; cases h
    rw [if_neg a] at h
    have e : owe (x :: s) = owe s := by
      show (if _ then 1 else 0) + owe s = _
      rw [if_neg (by omega), Nat.zero_add]
    rw [e]
    by_cases b : van t x
    · rw [if_pos b] at h; exact owe_feed h
    rw [if_neg b] at h
    cases hb : bod t x with
    | none => rw [hb] at h; cases h
    | some q =>
      rw [hb] at h; cases h
      rw [owe_app]; omega
theorem owe_fe : ∀ {s : List Nat}, fe s = true → owe s = 0
  | [], _ => rfl
  | x :: s, h => by
    have h : ((x == 1 || x == 3 || x == 5 || x == 7) && fe s) = true := h
    rw [Bool.and_eq_true] at h
    have hx := h.1
    simp only [Bool.or_eq_true, beq_iff_eq] at hx
    show (if _ then 1 else 0) + owe s = 0
    rw [if_neg (by omega), owe_fe h.2]
theorem owe_acc : ∀ {ts s : List Nat}, acc s ts = true → owe s ≤ ts.length
  | [], s, h => by rw [owe_fe h]; exact Nat.le_refl _
  | t :: ts, s, h => by
    rw [acc] at h
    cases hf : feed t s with
    | none => rw [hf] at h; cases h
    | some s' =>
      rw [hf] at h
      have h1 := owe_feed hf
      have h2 := owe_acc (ts := ts) (s := s') h
      simp only [List.length_cons]; omega
/-- how a stack with one symbol on top accepts -/
theorem acc_tok {x : Nat} (hx : 8 < x) {s ts : List Nat} (h : acc (x :: s) ts = true) : ∃ r, tl x ts = some r ∧ acc s r = true ∧ ts.length = r.length + 1 := by
  cases ts with
  | nil =>
    have h : fe (x :: s) = true := h
    have h : ((x == 1 || x == 3 || x == 5 || x == 7) && fe s) = true := h
    rw [Bool.and_eq_true] at h
    have hx2 := h.1
    simp only [Bool.or_eq_true, beq_iff_eq] at hx2
    omega
  | cons t r =>
    rw [acc, feed, if_pos hx] at h
    by_cases b : x = t
    · rw [if_pos b] at h
      exact ⟨r, if_pos b.symm, h, rfl⟩
    · rw [if_neg b] at h; cases h
theorem acc_van {x t : Nat} (hx : x ≤ 8) (hv : van t x) {s r : List Nat} (h : acc (x :: s) (t :: r) = true) : acc s (t :: r) = true := by
  rw [acc, feed, if_neg (by omega), if_pos hv] at h
  rw [acc]; exact h
theorem acc_bod {x t : Nat} (hx : x ≤ 8) (hv : ¬ van t x) {s r : List Nat} (h : acc (x :: s) (t :: r) = true) : ∃ q, bod t x = some q ∧ acc (q ++ s) r = true := by
  rw [acc, feed, if_neg (by omega), if_neg hv] at h
  cases hb : bod t x with
  | none => rw [hb] at h; cases h
  | some q => rw [hb] at h; exact ⟨q, rfl, h⟩
theorem acc_nil {x : Nat} {s : List Nat} (h : acc (x :: s) [] = true) : (x = 1 ∨ x = 3 ∨ x = 5 ∨ x = 7) ∧ acc s [] = true := by
  have h : ((x == 1 || x == 3 || x == 5 || x == 7) && fe s) = true := h
  rw [Bool.and_eq_true] at h
  have hx := h.1
  simp only [Bool.or_eq_true, beq_iff_eq] at hx
  exact ⟨by omega, h.2⟩
/-- expressions of an accepted text are found -/
theorem evK (vs : Nat → Int32) : ∀ (L : Nat) (ts : List Nat), ts.length ≤ L → ∀ (s : List Nat) (dep : Nat), 2 * dep + ts.length ≤ 81 + owe s →
    (acc (4 :: s) ts = true → ∃ v r, (∀ d, 5 * ts.length + 3 ≤ d → ev vs d 4 dep 0 ts = some (v, r)) ∧ acc s r = true ∧ r.length < ts.length) ∧
    (acc (5 :: s) ts = true → ∀ a, ∃ v r, (∀ d, 5 * ts.length + 1 ≤ d → ev vs d 5 dep a ts = some (v, r)) ∧ acc s r = true ∧ r.length ≤ ts.length) ∧
    (acc (6 :: s) ts = true → ∃ v r, (∀ d, 5 * ts.length + 2 ≤ d → ev vs d 6 dep 0 ts = some (v, r)) ∧ acc s r = true ∧ r.length < ts.length) ∧
    (acc (7 :: s) ts = true → ∀ a, ∃ v r, (∀ d, 5 * ts.length + 1 ≤ d → ev vs d 7 dep a ts = some (v, r)) ∧ acc s r = true ∧ r.length ≤ ts.length) ∧
    (acc (8 :: s) ts = true → ∃ v r, (∀ d, 5 * ts.length + 1 ≤ d → ev vs d 8 dep 0 ts = some (v, r)) ∧ acc s r = true ∧ r.length < ts.length)
  | 0, ts, hL, s, dep, hd => by
    obtain rfl : ts = [] := List.length_eq_zero_iff.mp (by omega)
    refine ⟨fun h => ?_, fun h a => ?_, fun h => ?_, fun h a => ?_, fun h => ?_⟩
    · have := (acc_nil h).1; omega
    · refine ⟨a, [], fun d hd => ?_, (acc_nil h).2, Nat.le_refl _⟩
      obtain ⟨e, rfl⟩ : ∃ e, d = e + 1 := ⟨d - 1, by omega⟩
      rfl
    · have := (acc_nil h).1; omega
    · refine ⟨a, [], fun d hd => ?_, (acc_nil h).2, Nat.le_refl _⟩
      obtain ⟨e, rfl⟩ : ∃ e, d = e + 1 := ⟨d - 1, by omega⟩
      rfl
    · have := (acc_nil h).1; omega
  | L + 1, [], hL, s, dep, hd => evK vs L [] (Nat.zero_le _) s dep hd
  | L + 1, t :: r, hL, s, dep, hd => by
    have hL' : r.length ≤ L := by simp only [List.length_cons] at hL; omega
    simp only [List.length_cons] at hd ⊢
    -- F
    have c8 : ∀ s : List Nat, 2 * dep + (r.length + 1) ≤ 81 + owe s → acc (8 :: s) (t :: r) = true → ∃ v r', (∀ d, 5 * (r.length + 1) + 1 ≤ d → ev vs d 8 dep 0 (t :: r) = some (v, r')) ∧ acc s r' = true ∧ r'.length < r.length + 1 := by
      intro s hd h
      obtain ⟨q, hq, hacc⟩ := acc_bod (by decide) (by omega) h
      have hq : bF t = some q := hq
      unfold bF at hq
      by_cases a1 : dg t ∨ nm t
      · rw [if_pos a1] at hq
        cases hq
        by_cases a2 : dg t
        · refine ⟨nI (t - 48), r, fun d h9 => ?_, hacc, Nat.lt_succ_self _⟩
          obtain ⟨e, rfl⟩ : ∃ e, d = e + 1 := ⟨d - 1, by omega⟩
          simp only [ev]
          rw [if_neg (by decide), if_neg (by decide), if_neg (by decide), if_neg (by decide), if_neg (by omega), if_neg (by omega), if_pos a2]
        · have a3 : nm t := a1.resolve_left a2
          refine ⟨vs (t - 97), r, fun d h9 => ?_, hacc, Nat.lt_succ_self _⟩
          obtain ⟨e, rfl⟩ : ∃ e, d = e + 1 := ⟨d - 1, by omega⟩
          simp only [ev]
          rw [if_neg (by decide), if_neg (by decide), if_neg (by decide), if_neg (by decide), if_neg (by omega), if_neg (by omega), if_neg a2, if_pos a3]
      rw [if_neg a1] at hq
      by_cases a2 : t = 40
      · rw [if_pos a2] at hq
        cases hq
        have ho : owe (41 :: s) = 1 + owe s := rfl
        obtain ⟨v, r1, e1, e2, e3⟩ := (evK vs L r hL' (41 :: s) (dep + 1) (by rw [ho]; omega)).1 hacc
        obtain ⟨r2, f1, f2, f3⟩ := acc_tok (by decide) e2
        have h40 : ¬ 40 < dep := by
          have := owe_acc hacc
          have e4 : owe ([4, 41] ++ s) = 1 + owe s := by
            show 0 + (1 + owe s) = _; omega
          omega
        refine ⟨v, r2, fun d h9 => ?_, f2, by omega⟩
        obtain ⟨e, rfl⟩ : ∃ e, d = e + 1 := ⟨d - 1, by omega⟩
        simp only [ev]
        rw [if_neg (by decide), if_neg (by decide), if_neg (by decide), if_neg (by decide), if_neg (by omega), if_pos a2, if_neg h40, e1 e (by omega)]
        simp [f1]
      rw [if_neg a2] at hq
      by_cases a3 : t = 45
      · rw [if_pos a3] at hq
        cases hq
        obtain ⟨v, r1, e1, e2, e3⟩ := (evK vs L r hL' s dep (by omega)).2.2.2.2 hacc
        refine ⟨-v, r1, fun d h9 => ?_, e2, by omega⟩
        obtain ⟨e, rfl⟩ : ∃ e, d = e + 1 := ⟨d - 1, by omega⟩
        simp only [ev]
        rw [if_neg (by decide), if_neg (by decide), if_neg (by decide), if_neg (by decide), if_pos a3, e1 e (by omega)]
        rfl
      · rw [if_neg a3] at hq; cases hq
    -- T
    have c6 : ∀ s : List Nat, 2 * dep + (r.length + 1) ≤ 81 + owe s → acc (6 :: s) (t :: r) = true → ∃ v r', (∀ d, 5 * (r.length + 1) + 2 ≤ d → ev vs d 6 dep 0 (t :: r) = some (v, r')) ∧ acc s r' = true ∧ r'.length < r.length + 1 := by
      intro s hd h
      have h2 : acc (8 :: 7 :: s) (t :: r) = true := by
        obtain ⟨q, hq, hacc⟩ := acc_bod (by decide) (by omega) h
        have hq : (bF t).map (· ++ [7]) = some q := hq
        cases hb : bF t with
        | none => rw [hb] at hq; cases hq
        | some p =>
          rw [hb] at hq
          cases hq
          rw [acc, feed, if_neg (by decide), if_neg (by omega)]
          show (match (bF t).map (· ++ 7 :: s) with | none => false | some s' => acc s' r) = true
          rw [hb]
          show acc (p ++ 7 :: s) r = true
          rw [List.append_assoc] at hacc
          exact hacc
      have ho : owe (7 :: s) = owe s := by show 0 + owe s = _; omega
      obtain ⟨v, r1, e1, e2, e3⟩ := c8 (7 :: s) (by rw [ho]; exact hd) h2
      obtain ⟨v2, r2, f1, f2, f3⟩ := (evK vs L r1 (by omega) s dep (by omega)).2.2.2.1 e2 v
      refine ⟨v2, r2, fun d h9 => ?_, f2, by omega⟩
      obtain ⟨e, rfl⟩ : ∃ e, d = e + 1 := ⟨d - 1, by omega⟩
      rw [ev, if_neg (by decide), if_neg (by decide), if_pos rfl, e1 e (by omega)]
      exact f1 e (by omega)
    refine ⟨fun h => ?_, fun h a => ?_, c6 s hd, fun h a => ?_, c8 s hd⟩
    · have h2 : acc (6 :: 5 :: s) (t :: r) = true := by
        obtain ⟨q, hq, hacc⟩ := acc_bod (by decide) (by omega) h
        have hq : (bF t).map (· ++ [7, 5]) = some q := hq
        cases hb : bF t with
        | none => rw [hb] at hq; cases hq
        | some p =>
          rw [hb] at hq
          cases hq
          rw [acc, feed, if_neg (by decide), if_neg (by omega)]
          show (match ((bF t).map (· ++ [7])).map (· ++ 5 :: s) with | none => false | some s' => acc s' r) = true
          rw [hb]
          show acc ((p ++ [7]) ++ 5 :: s) r = true
          rw [List.append_assoc] at hacc ⊢
          exact hacc
      have ho : owe (5 :: s) = owe s := by show 0 + owe s = _; omega
      obtain ⟨v, r1, e1, e2, e3⟩ := c6 (5 :: s) (by rw [ho]; exact hd) h2
      obtain ⟨v2, r2, f1, f2, f3⟩ := (evK vs L r1 (by omega) s dep (by omega)).2.1 e2 v
      refine ⟨v2, r2, fun d h9 => ?_, f2, by omega⟩
      obtain ⟨e, rfl⟩ : ∃ e, d = e + 1 := ⟨d - 1, by omega⟩
      rw [ev, if_pos rfl, e1 e (by omega)]
      exact f1 e (by omega)
    · by_cases hv : van t 5
      · refine ⟨a, t :: r, fun d h9 => ?_, acc_van (by decide) hv h, Nat.le_refl _⟩
        obtain ⟨e, rfl⟩ : ∃ e, d = e + 1 := ⟨d - 1, by omega⟩
        simp only [ev]
        rw [if_neg (by decide), if_pos (by decide), if_neg (by omega), if_neg (by omega)]
      · obtain ⟨q, hq, hacc⟩ := acc_bod (by decide) hv h
        cases hq
        have ho : owe (5 :: s) = owe s := by show 0 + owe s = _; omega
        obtain ⟨v, r1, e1, e2, e3⟩ := (evK vs L r hL' (5 :: s) dep (by rw [ho]; omega)).2.2.1 hacc
        have hc : t = 43 ∨ t = 45 := by omega
        rcases hc with hc | hc
        · obtain ⟨v2, r2, f1, f2, f3⟩ := (evK vs L r1 (by omega) s dep (by omega)).2.1 e2 (a + v)
          refine ⟨v2, r2, fun d h9 => ?_, f2, by omega⟩
          obtain ⟨e, rfl⟩ : ∃ e, d = e + 1 := ⟨d - 1, by omega⟩
          simp only [ev]
          rw [if_neg (by decide), if_pos (by decide), if_pos hc, e1 e (by omega)]
          exact f1 e (by omega)
        · obtain ⟨v2, r2, f1, f2, f3⟩ := (evK vs L r1 (by omega) s dep (by omega)).2.1 e2 (a - v)
          refine ⟨v2, r2, fun d h9 => ?_, f2, by omega⟩
          obtain ⟨e, rfl⟩ : ∃ e, d = e + 1 := ⟨d - 1, by omega⟩
          simp only [ev]
          rw [if_neg (by decide), if_pos (by decide), if_neg (by omega), if_pos hc, e1 e (by omega)]
          exact f1 e (by omega)
    · by_cases hv : van t 7
      · refine ⟨a, t :: r, fun d h9 => ?_, acc_van (by decide) hv h, Nat.le_refl _⟩
        obtain ⟨e, rfl⟩ : ∃ e, d = e + 1 := ⟨d - 1, by omega⟩
        simp only [ev]
        rw [if_neg (by decide), if_neg (by decide), if_neg (by decide), if_pos (by decide), if_neg (by omega)]
      · obtain ⟨q, hq, hacc⟩ := acc_bod (by decide) hv h
        cases hq
        have ho : owe (7 :: s) = owe s := by show 0 + owe s = _; omega
        obtain ⟨v, r1, e1, e2, e3⟩ := (evK vs L r hL' (7 :: s) dep (by rw [ho]; omega)).2.2.2.2 hacc
        have hc : t = 42 := by omega
        obtain ⟨v2, r2, f1, f2, f3⟩ := (evK vs L r1 (by omega) s dep (by omega)).2.2.2.1 e2 (a * v)
        refine ⟨v2, r2, fun d h9 => ?_, f2, by omega⟩
        obtain ⟨e, rfl⟩ : ∃ e, d = e + 1 := ⟨d - 1, by omega⟩
        simp only [ev]
        rw [if_neg (by decide), if_neg (by decide), if_neg (by decide), if_pos (by decide), if_pos hc, e1 e (by omega)]
        exact f1 e (by omega)
theorem ev_s {vs : Nat → Int32} {d w dep : Nat} {a : Int32} {ts : List Nat} : ev vs (d + 1) w dep a ts = (
    if w = 4 then (ev vs d 6 dep 0 ts).bind fun q => ev vs d 5 dep q.1 q.2
    else if w = 5 then (match ts with
      | [] => some (a, [])
      | t :: r => if t = 43 then (ev vs d 6 dep 0 r).bind fun q => ev vs d 5 dep (a + q.1) q.2
        else if t = 45 then (ev vs d 6 dep 0 r).bind fun q => ev vs d 5 dep (a - q.1) q.2
        else some (a, t :: r))
    else if w = 6 then (ev vs d 8 dep 0 ts).bind fun q => ev vs d 7 dep q.1 q.2
    else if w = 7 then (match ts with
      | [] => some (a, [])
      | t :: r => if t = 42 then (ev vs d 8 dep 0 r).bind fun q => ev vs d 7 dep (a * q.1) q.2 else some (a, t :: r))
    else (match ts with
      | [] => none
      | t :: r => if t = 45 then (ev vs d 8 dep 0 r).bind fun q => some (-q.1, q.2)
        else if t = 40 then (if 40 < dep then none else (ev vs d 4 (dep + 1) 0 r).bind fun q => (tl 41 q.2).bind fun r' => some (q.1, r'))
        else if dg t then some (nI (t - 48), r)
        else if nm t then some (vs (t - 97), r)
        else none)) := rfl
theorem xst_s {d w dep : Nat} {lv : Bool} {vs : Nat → Int32} {os : List Int32} {ts : List Nat} : xst (d + 1) w dep lv vs os ts = (
    if w = 1 then (match ts with
      | [] => some (vs, os, [])
      | t :: r => if cb t then (xst d 2 dep lv vs os (t :: r)).bind fun q => xst d 1 dep lv q.1 q.2.1 q.2.2 else some (vs, os, t :: r))
    else if w = 2 then (if 40 < dep then none else match ts with
      | [] => none
      | t :: r =>
        if t = 123 then (xst d 1 (dep + 1) lv vs os r).bind fun q => (tl 125 q.2.2).bind fun r' => some (q.1, q.2.1, r')
        else if t = 63 then (ev vs d 4 (dep + 1) 0 r).bind fun q => (xst d 2 (dep + 1) (lv && !decide (q.1 = 0)) vs os q.2).bind fun p => xst d 3 (dep + 1) (lv && decide (q.1 = 0)) p.1 p.2.1 p.2.2
        else if t = 33 then (ev vs d 4 dep 0 r).bind fun q => (tl 59 q.2).bind fun r' => some (vs, (if lv then os ++ [q.1] else os), r')
        else if nm t then (tl 61 r).bind fun r1 => (ev vs d 4 dep 0 r1).bind fun q => (tl 59 q.2).bind fun r' => some ((if lv then upd vs (t - 97) q.1 else vs), os, r')
        else none)
    else (match ts with
      | [] => some (vs, os, [])
      | t :: r => if t = 58 then xst d 2 dep lv vs os r else some (vs, os, t :: r))) := rfl

