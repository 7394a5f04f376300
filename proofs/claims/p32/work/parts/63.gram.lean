/-! THE GRAMMAR, in numbers: 1..8 for P S R E Q T U F, tokens as their characters, 0 for the end -/
abbrev dg (t : Nat) : Prop := 48 ≤ t ∧ t ≤ 57
abbrev nm (t : Nat) : Prop := 97 ≤ t ∧ t ≤ 100
abbrev cb (t : Nat) : Prop := nm t ∨ t = 123 ∨ t = 63 ∨ t = 33
/-- what stands for S, for F behind its first token -/
def bS (t : Nat) : Option (List Nat) := if nm t then some [61, 4, 59] else if t = 123 then some [1, 125] else if t = 63 then some [4, 2, 3] else if t = 33 then some [4, 59] else none
def bF (t : Nat) : Option (List Nat) := if dg t ∨ nm t then some [] else if t = 40 then some [4, 41] else if t = 45 then some [8] else none
/-- one replacement -/
def stp1 (t x : Nat) : Option (List Nat) :=
  if x = 1 then (if cb t then some [2, 1] else some [])
  else if x = 2 then (bS t).map (t :: ·)
  else if x = 3 then (if t = 58 then some [58, 2] else some [])
  else if x = 4 then some [6, 5]
  else if x = 5 then (if t = 43 then some [43, 6, 5] else if t = 45 then some [45, 6, 5] else some [])
  else if x = 6 then some [8, 7]
  else if x = 7 then (if t = 42 then some [42, 8, 7] else some [])
  else if x = 8 then (bF t).map (t :: ·)
  else none
abbrev van (t x : Nat) : Prop := (x = 1 ∧ ¬ cb t) ∨ (x = 3 ∧ t ≠ 58) ∨ (x = 5 ∧ t ≠ 43 ∧ t ≠ 45) ∨ (x = 7 ∧ t ≠ 42)
/-- what stands for a symbol behind the token t, where it doesn't vanish -/
def bod (t x : Nat) : Option (List Nat) :=
  if x = 1 then (bS t).map (· ++ [1])
  else if x = 2 then bS t
  else if x = 3 then some [2]
  else if x = 4 then (bF t).map (· ++ [7, 5])
  else if x = 5 then some [6, 5]
  else if x = 6 then (bF t).map (· ++ [7])
  else if x = 7 then some [8, 7]
  else bF t
/-- a token is read -/
def feed (t : Nat) : List Nat → Option (List Nat)
  | [] => none
  | x :: s => if 8 < x then (if x = t then some s else none) else if van t x then feed t s else (bod t x).map (· ++ s)
/-- the end is read -/
def fe : List Nat → Bool
  | [] => true
  | x :: s => (x == 1 || x == 3 || x == 5 || x == 7) && fe s
/-- a text is accepted -/
def acc : List Nat → List Nat → Bool
  | s, [] => fe s
  | s, t :: ts => match feed t s with
    | none => false
    | some s' => acc s' ts
/-- replacements until the top is a token, at most so many; whether without an error -/
def rt (t : Nat) : Nat → List Nat → List Nat × Bool
  | 0, s => (s, true)
  | _ + 1, [] => ([], true)
  | k + 1, x :: r => if 8 < x then (x :: r, true) else match stp1 t x with
    | none => (x :: r, false)
    | some q => if 320 < q.length + r.length then ([0], false) else rt t k (q ++ r)
theorem bS_len {t : Nat} {q : List Nat} (h : bS t = some q) : q.length ≤ 3 ∧ cb t := by
  unfold bS at h
  by_cases a : nm t
  · rw [if_pos a] at h; cases h; exact ⟨by decide, Or.inl a⟩
  rw [if_neg a] at h
  by_cases b : t = 123
  · rw [if_pos b] at h; cases h; exact ⟨by decide, Or.inr (Or.inl b)⟩
  rw [if_neg b] at h
  by_cases c : t = 63
  · rw [if_pos c] at h; cases h; exact ⟨by decide, Or.inr (Or.inr (Or.inl c))⟩
  rw [if_neg c] at h
  by_cases d : t = 33
  · rw [if_pos d] at h; cases h; exact ⟨by decide, Or.inr (Or.inr (Or.inr d))⟩
  rw [if_neg d] at h; cases h
theorem bF_len {t : Nat} {q : List Nat} (h : bF t = some q) : q.length ≤ 2 := by
  unfold bF at h
  by_cases a : dg t ∨ nm t
  · rw [if_pos a] at h; cases h; decide
  rw [if_neg a] at h
  by_cases b : t = 40
  · rw [if_pos b] at h; cases h; decide
  rw [if_neg b] at h
  by_cases c : t = 45
  · rw [if_pos c] at h; cases h; decide
  rw [if_neg c] at h; cases h
theorem bS_cb {t : Nat} (h : cb t) : ∃ q, bS t = some q := by
  unfold bS
  rcases h with h | h | h | h
  · exact ⟨_, if_pos h⟩
  · exact ⟨_, by rw [if_neg (show ¬ nm t by rw [h]; decide), if_pos h]⟩
  · exact ⟨_, by rw [if_neg (show ¬ nm t by rw [h]; decide), if_neg (by omega), if_pos h]⟩
  · exact ⟨_, by rw [if_neg (show ¬ nm t by rw [h]; decide), if_neg (by omega), if_neg (by omega), if_pos h]⟩
theorem bod_len {t x : Nat} {q : List Nat} (h : bod t x = some q) : q.length ≤ 4 := by
  unfold bod at h
  have mp : ∀ {o : Option (List Nat)} {f : List Nat → List Nat} {m : Nat}, o.map f = some q → (∀ p, o = some p → (f p).length ≤ m) → q.length ≤ m := by
    intro o f m e hp
    cases o with
    | none => cases e
    | some p => cases e; exact hp p rfl
  by_cases c1 : x = 1
  · rw [if_pos c1] at h; exact mp h (fun p e => by have := (bS_len e).1; simp; omega)
  rw [if_neg c1] at h
  by_cases c2 : x = 2
  · rw [if_pos c2] at h; have := (bS_len h).1; omega
  rw [if_neg c2] at h
  by_cases c3 : x = 3
  · rw [if_pos c3] at h; cases h; decide
  rw [if_neg c3] at h
  by_cases c4 : x = 4
  · rw [if_pos c4] at h; exact mp h (fun p e => by have := bF_len e; simp; omega)
  rw [if_neg c4] at h
  by_cases c5 : x = 5
  · rw [if_pos c5] at h; cases h; decide
  rw [if_neg c5] at h
  by_cases c6 : x = 6
  · rw [if_pos c6] at h; exact mp h (fun p e => by have := bF_len e; simp; omega)
  rw [if_neg c6] at h
  by_cases c7 : x = 7
  · rw [if_pos c7] at h; cases h; decide
  rw [if_neg c7] at h
  have := bF_len h; omega
theorem feed_len {t : Nat} : ∀ {s s' : List Nat}, feed t s = some s' → s'.length ≤ s.length + 3
  | [], s', h => by cases h
  | x :: s, s', h => by
    rw [feed] at h
    by_cases a : 8 < x
    · rw [if_pos a] at h
      by_cases b : x = t
      · rw [if_pos b] at h; cases h; simp only [List.length_cons]; omega
      · rw [if_neg b] at h; cases h
    rw [if_neg a] at h
    by_cases b : van t x
    · rw [if_pos b] at h
      have := feed_len h
      simp only [List.length_cons]; omega
    rw [if_neg b] at h
    cases hb : bod t x with
    | none => rw [hb] at h; cases h
    | some q =>
      rw [hb] at h; cases h
      have := bod_len hb
      simp only [List.length_cons, List.length_append]; omega
/-- a symbol that doesn't vanish, in at most three replacements -/
theorem rt_bod {t x k : Nat} {s : List Nat} (ht : 8 < t) (h0 : 1 ≤ x) (h8 : x ≤ 8) (hv : ¬ van t x) (hl : s.length + 5 ≤ 320) : match bod t x with
    | some q => rt t (k + 4) (x :: s) = (t :: (q ++ s), true)
    | none => (rt t (k + 4) (x :: s)).2 = false ∧ ∃ y r, (rt t (k + 4) (x :: s)).1 = y :: r ∧ 1 ≤ y ∧ y ≤ 8 := by
  have hF : ∀ {k : Nat} {s : List Nat}, s.length + 3 ≤ 320 → match bF t with
      | some q => rt t (k + 2) (8 :: s) = (t :: (q ++ s), true)
      | none => rt t (k + 2) (8 :: s) = (8 :: s, false) := by
    intro k s hl
    cases hb : bF t with
    | none => simp [rt, stp1, hb]
    | some q =>
      have := bF_len hb
      have h9 : ¬ 320 < q.length + 1 + s.length := by omega
      simp [rt, stp1, hb, h9, ht]
  have hS : ∀ {k : Nat} {s : List Nat}, s.length + 4 ≤ 320 → match bS t with
      | some q => rt t (k + 2) (2 :: s) = (t :: (q ++ s), true)
      | none => rt t (k + 2) (2 :: s) = (2 :: s, false) := by
    intro k s hl
    cases hb : bS t with
    | none => simp [rt, stp1, hb]
    | some q =>
      have := (bS_len hb).1
      have h9 : ¬ 320 < q.length + 1 + s.length := by omega
      simp [rt, stp1, hb, h9, ht]
  rcases (show x = 1 ∨ x = 2 ∨ x = 3 ∨ x = 4 ∨ x = 5 ∨ x = 6 ∨ x = 7 ∨ x = 8 by omega) with rfl | rfl | rfl | rfl | rfl | rfl | rfl | rfl
  · have hc : cb t := Decidable.byContradiction (fun h => hv (Or.inl ⟨rfl, h⟩))
    obtain ⟨q, hq⟩ := bS_cb hc
    have := hS (k := k + 1) (s := 1 :: s) (by simp only [List.length_cons]; omega)
    rw [hq] at this
    have h9 : ¬ 320 < 2 + s.length := by omega
    have e : rt t (k + 4) (1 :: s) = rt t (k + 3) (2 :: 1 :: s) := by
      rw [rt, if_neg (by decide)]
      simp [stp1, hc, h9]
    have e2 : bod t 1 = some (q ++ [1]) := by simp [bod, hq]
    rw [e2]
    show rt t (k + 4) (1 :: s) = _
    rw [e, this]
    simp
  · have := hS (k := k + 2) (s := s) (by omega)
    have e2 : bod t 2 = bS t := rfl
    rw [e2]
    cases hb : bS t with
    | none =>
      rw [hb] at this
      have this : rt t (k + 4) (2 :: s) = (2 :: s, false) := this
      rw [this]
      exact ⟨rfl, 2, s, rfl, by decide, by decide⟩
    | some q => rw [hb] at this; exact this
  · have hc : t = 58 := Decidable.byContradiction (fun h => hv (Or.inr (Or.inl ⟨rfl, h⟩)))
    subst hc
    have h9 : ¬ 320 < 2 + s.length := by omega
    show rt 58 (k + 4) (3 :: s) = _
    simp [rt, stp1, h9]
  · have h9 : ¬ 320 < 2 + s.length := by omega
    have h9' : ¬ 320 < 2 + (s.length + 1) := by omega
    have e : rt t (k + 4) (4 :: s) = rt t (k + 2) (8 :: 7 :: 5 :: s) := by
      rw [rt, if_neg (by decide)]
      simp only [stp1]
      simp [h9, rt, stp1, h9']
    have := hF (k := k) (s := 7 :: 5 :: s) (by simp only [List.length_cons]; omega)
    have e2 : bod t 4 = (bF t).map (· ++ [7, 5]) := rfl
    rw [e2, e]
    cases hb : bF t with
    | none =>
      rw [hb] at this
      have this : rt t (k + 2) (8 :: 7 :: 5 :: s) = (8 :: 7 :: 5 :: s, false) := this
      rw [this]
      exact ⟨rfl, 8, _, rfl, by decide, by decide⟩
    | some q =>
      rw [hb] at this
      have this : rt t (k + 2) (8 :: 7 :: 5 :: s) = _ := this
      simp [this]
  · have h9 : ¬ 320 < 3 + s.length := by omega
    have hc : t = 43 ∨ t = 45 := by
      by_cases a : t = 43
      · exact Or.inl a
      by_cases b : t = 45
      · exact Or.inr b
      exact absurd (Or.inr (Or.inr (Or.inl ⟨rfl, a, b⟩))) hv
    show rt t (k + 4) (5 :: s) = _
    rcases hc with rfl | rfl <;> simp [rt, stp1, h9]
  · have h9 : ¬ 320 < 2 + s.length := by omega
    have e : rt t (k + 4) (6 :: s) = rt t (k + 3) (8 :: 7 :: s) := by
      rw [rt, if_neg (by decide)]
      simp [stp1, h9]
    have := hF (k := k + 1) (s := 7 :: s) (by simp only [List.length_cons]; omega)
    have e2 : bod t 6 = (bF t).map (· ++ [7]) := rfl
    rw [e2, e]
    cases hb : bF t with
    | none =>
      rw [hb] at this
      have this : rt t (k + 3) (8 :: 7 :: s) = (8 :: 7 :: s, false) := this
      rw [this]
      exact ⟨rfl, 8, _, rfl, by decide, by decide⟩
    | some q =>
      rw [hb] at this
      have this : rt t (k + 3) (8 :: 7 :: s) = _ := this
      simp [this]
  · have h9 : ¬ 320 < 3 + s.length := by omega
    have hc : t = 42 := Decidable.byContradiction (fun h => hv (Or.inr (Or.inr (Or.inr ⟨rfl, h⟩))))
    subst hc
    show rt 42 (k + 4) (7 :: s) = _
    simp [rt, stp1, h9]
  · have := hF (k := k + 2) (s := s) (by omega)
    have e2 : bod t 8 = bF t := rfl
    rw [e2]
    cases hb : bF t with
    | none =>
      rw [hb] at this
      have this : rt t (k + 4) (8 :: s) = (8 :: s, false) := this
      rw [this]
      exact ⟨rfl, 8, s, rfl, by decide, by decide⟩
    | some q => rw [hb] at this; exact this
theorem stp_van {t x : Nat} (h : van t x) : stp1 t x = some [] := by
  unfold stp1
  rcases h with ⟨rfl, h⟩ | ⟨rfl, h⟩ | ⟨rfl, h, h'⟩ | ⟨rfl, h⟩
  · rw [if_pos rfl, if_neg h]
  · simp [h]
  · simp [h, h']
  · simp [h]
/-- the symbols of a stack -/
def sv (s : List Nat) : Prop := ∀ x, x ∈ s → 1 ≤ x
theorem rt_feed {t : Nat} (ht : 8 < t) : ∀ {s : List Nat} {k : Nat}, sv s → s.length + 4 ≤ 320 → s.length + 3 ≤ k → match feed t s with
    | some s' => rt t k s = (t :: s', true)
    | none => ((rt t k s).2 = false ∧ ∃ y r, (rt t k s).1 = y :: r ∧ 1 ≤ y ∧ y ≤ 8) ∨ rt t k s = ([], true) ∨ ∃ y r, rt t k s = (y :: r, true) ∧ 8 < y ∧ y ≠ t
  | [], k, _, _, hk => by
    obtain ⟨j, rfl⟩ : ∃ j, k = j + 1 := ⟨k - 1, by simp at hk; omega⟩
    exact Or.inr (Or.inl rfl)
  | x :: s, k, hs, hl, hk => by
    simp only [List.length_cons] at hl hk
    rw [feed]
    by_cases a : 8 < x
    · obtain ⟨j, rfl⟩ : ∃ j, k = j + 1 := ⟨k - 1, by omega⟩
      rw [if_pos a]
      have e : rt t (j + 1) (x :: s) = (x :: s, true) := by rw [rt, if_pos a]
      by_cases b : x = t
      · rw [if_pos b, e, b]
      · rw [if_neg b, e]; exact Or.inr (Or.inr ⟨x, s, rfl, a, b⟩)
    rw [if_neg a]
    by_cases b : van t x
    · obtain ⟨j, rfl⟩ : ∃ j, k = j + 1 := ⟨k - 1, by omega⟩
      rw [if_pos b]
      have e : rt t (j + 1) (x :: s) = rt t j s := by
        have h9 : ¬ 320 < ([] : List Nat).length + s.length := by simp only [List.length_nil]; omega
        rw [rt, if_neg a, stp_van b]
        show (if 320 < ([] : List Nat).length + s.length then _ else _) = _
        rw [if_neg h9]
        rfl
      rw [e]
      exact rt_feed ht (fun y hy => hs y (List.mem_cons_of_mem _ hy)) (by omega) (by omega)
    rw [if_neg b]
    obtain ⟨j, rfl⟩ : ∃ j, k = j + 4 := ⟨k - 4, by omega⟩
    have := rt_bod (k := j) (s := s) ht (hs x List.mem_cons_self) (by omega) b (by omega)
    cases hb : bod t x with
    | none => rw [hb] at this; exact Or.inl this
    | some q => rw [hb] at this; exact this
theorem rt_end : ∀ {s : List Nat} {k : Nat}, sv s → s.length + 4 ≤ 320 → s.length + 3 ≤ k → if fe s then rt 0 k s = ([], true) else ((rt 0 k s).2 = false ∧ ∃ y r, (rt 0 k s).1 = y :: r ∧ 1 ≤ y ∧ y ≤ 8) ∨ ∃ y r, rt 0 k s = (y :: r, true) ∧ 8 < y
  | [], k, _, _, hk => by
    obtain ⟨j, rfl⟩ : ∃ j, k = j + 1 := ⟨k - 1, by simp at hk; omega⟩
    rfl
  | x :: s, k, hs, hl, hk => by
    simp only [List.length_cons] at hl hk
    by_cases a : 8 < x
    · obtain ⟨j, rfl⟩ : ∃ j, k = j + 1 := ⟨k - 1, by omega⟩
      have e : rt 0 (j + 1) (x :: s) = (x :: s, true) := by rw [rt, if_pos a]
      have f : fe (x :: s) = false := by
        simp only [fe, Bool.and_eq_false_iff]
        left
        simp only [Bool.or_eq_false_iff, beq_eq_false_iff_ne]
        omega
      rw [f, e]
      exact Or.inr ⟨x, s, rfl, a⟩
    have hx := hs x List.mem_cons_self
    by_cases b : van 0 x
    · obtain ⟨j, rfl⟩ : ∃ j, k = j + 1 := ⟨k - 1, by omega⟩
      have e : rt 0 (j + 1) (x :: s) = rt 0 j s := by
        have h9 : ¬ 320 < ([] : List Nat).length + s.length := by simp only [List.length_nil]; omega
        rw [rt, if_neg a, stp_van b]
        show (if 320 < ([] : List Nat).length + s.length then _ else _) = _
        rw [if_neg h9]
        rfl
      have f : fe (x :: s) = fe s := by
        rcases b with ⟨rfl, -⟩ | ⟨rfl, -⟩ | ⟨rfl, -⟩ | ⟨rfl, -⟩ <;> rfl
      rw [e, f]
      exact rt_end (fun y hy => hs y (List.mem_cons_of_mem _ hy)) (by omega) (by omega)
    obtain ⟨j, rfl⟩ : ∃ j, k = j + 4 := ⟨k - 4, by omega⟩
    have h9 : ¬ 320 < 2 + s.length := by omega
    have h9' : ¬ 320 < 2 + (s.length + 1) := by omega
    rcases (show x = 1 ∨ x = 2 ∨ x = 3 ∨ x = 4 ∨ x = 5 ∨ x = 6 ∨ x = 7 ∨ x = 8 by omega) with rfl | rfl | rfl | rfl | rfl | rfl | rfl | rfl
    · exact absurd (Or.inl ⟨rfl, by decide⟩) b
    · exact Or.inl ⟨rfl, 2, s, rfl, by decide, by decide⟩
    · exact absurd (Or.inr (Or.inl ⟨rfl, by decide⟩)) b
    · have e : rt 0 (j + 4) (4 :: s) = (8 :: 7 :: 5 :: s, false) := by simp [rt, stp1, show bF 0 = none from by decide, h9, h9']
      rw [e]
      exact Or.inl ⟨rfl, 8, _, rfl, by decide, by decide⟩
    · exact absurd (Or.inr (Or.inr (Or.inl ⟨rfl, by decide, by decide⟩))) b
    · have e : rt 0 (j + 4) (6 :: s) = (8 :: 7 :: s, false) := by simp [rt, stp1, show bF 0 = none from by decide, h9]
      rw [e]
      exact Or.inl ⟨rfl, 8, _, rfl, by decide, by decide⟩
    · exact absurd (Or.inr (Or.inr (Or.inr ⟨rfl, by decide⟩))) b
    · exact Or.inl ⟨rfl, 8, s, rfl, by decide, by decide⟩

