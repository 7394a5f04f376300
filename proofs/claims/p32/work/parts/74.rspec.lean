/-! WHAT READING IS: for a configuration, after so many items -/
def rd (cd : Nat → Nat) (c : Nat) : Nat → Option (List Nat)
  | 0 => some [1]
  | i + 1 => if inV cd c i = true then (rd cd c i).bind (feed (cd i)) else rd cd c i
def hgt (cd : Nat → Nat) (c : Nat) : Nat → List Nat
  | 0 => []
  | i + 1 => if inV cd c i = true then (match rd cd c i with
    | some s => hgt cd c i ++ [s.length]
    | none => hgt cd c i) else hgt cd c i
def er (cd : Nat → Nat) (c : Nat) : Nat → Nat
  | 0 => 0
  | i + 1 => if rd cd c i ≠ none ∧ rd cd c (i + 1) = none then i else er cd c i
theorem inV_tok {cd : Nat → Nat} {c i n : Nat} (hV : Val n cd) (hi : i < n) (h : inV cd c i = true) : cd i < 126 ∧ 33 ≤ cd i ∧ sym (cd i) := by
  unfold inV at h
  rw [Bool.and_eq_true, decide_eq_true_iff] at h
  obtain ⟨h1, h2⟩ := hV.2.1 i hi
  have h3 : gX0_isToken (nI (cd i)) ≠ 0 := by
    rcases h1 with h1 | h1
    · omega
    · exact h1
  have h4 := tok_big h3 h2
  have h5 := (show ∀ t ∈ List.range 126, gX0_isToken (nI t) ≠ 0 → t < 65 ∨ 90 < t from by decide +kernel) (cd i) (List.mem_range.mpr (by omega)) h3
  exact ⟨by omega, h4.1, by omega⟩
theorem rd_pre {cd : Nat → Nat} {c i : Nat} (h : rd cd c i = none) : rd cd c (i + 1) = none := by
  show (if inV cd c i = true then (rd cd c i).bind (feed (cd i)) else rd cd c i) = none
  rw [h]
  by_cases a : inV cd c i = true
  · rw [if_pos a]; rfl
  · rw [if_neg a]
theorem rd_some {cd : Nat → Nat} {c n : Nat} (hV : Val n cd) : ∀ {i : Nat} {s : List Nat}, i ≤ n → rd cd c i = some s → svv s ∧ s.length ≤ 1 + 3 * i ∧ (hgt cd c i).length = (vl cd c i).length
  | 0, s, _, h => by
    cases h
    exact ⟨fun x hx => by rcases List.mem_singleton.mp hx with rfl; decide, by decide, rfl⟩
  | i + 1, s, hi, h => by
    have h : (if inV cd c i = true then (rd cd c i).bind (feed (cd i)) else rd cd c i) = some s := h
    show _ ∧ _ ∧ (if inV cd c i = true then (match rd cd c i with | some s => hgt cd c i ++ [s.length] | none => hgt cd c i) else hgt cd c i).length = (if inV cd c i then vl cd c i ++ [i] else vl cd c i).length
    by_cases a : inV cd c i = true
    · rw [if_pos a] at h ⊢
      rw [if_pos a]
      obtain ⟨s0, h1, h2⟩ := ob_s h
      obtain ⟨b1, b2, b3⟩ := rd_some hV (by omega) h1
      have := feed_len h2
      refine ⟨feed_svv (inV_tok hV (by omega) a).1 b1 h2, by omega, ?_⟩
      rw [h1]
      show (hgt cd c i ++ [s0.length]).length = _
      simp [b3]
    · rw [if_neg a] at h ⊢
      rw [if_neg a]
      obtain ⟨b1, b2, b3⟩ := rd_some hV (by omega) h
      exact ⟨b1, by omega, b3⟩
theorem hgt_len {cd : Nat → Nat} {c : Nat} : ∀ i, (hgt cd c i).length ≤ i
  | 0 => Nat.le_refl _
  | i + 1 => by
    have := hgt_len (cd := cd) (c := c) i
    show (if inV cd c i = true then (match rd cd c i with | some s => hgt cd c i ++ [s.length] | none => hgt cd c i) else hgt cd c i).length ≤ _
    by_cases a : inV cd c i = true
    · rw [if_pos a]
      cases rd cd c i with
      | none => show (hgt cd c i).length ≤ _; omega
      | some s => show (hgt cd c i ++ [s.length]).length ≤ _; simp only [List.length_append, List.length_singleton]; omega
    · rw [if_neg a]; omega
theorem er_lt {cd : Nat → Nat} {c : Nat} : ∀ {i : Nat}, rd cd c i = none → er cd c i < i
  | 0, h => by cases h
  | i + 1, h => by
    show (if rd cd c i ≠ none ∧ rd cd c (i + 1) = none then i else er cd c i) < _
    by_cases a : rd cd c i = none
    · rw [if_neg (fun w => w.1 a)]
      have := er_lt a
      omega
    · rw [if_pos ⟨a, h⟩]; omega
/-- the end: no error, or its place -/
def fin (cd : Nat → Nat) (c n : Nat) : Bool := match rd cd c n with
  | some s => fe s
  | none => false
def erP (cd : Nat → Nat) (c n : Nat) : Nat := match rd cd c n with
  | some _ => n
  | none => er cd c n
def eI (cd : Nat → Nat) (c n : Nat) : Int32 := if fin cd c n = true then -1 else nI (erP cd c n)
theorem erP_le {cd : Nat → Nat} {c n : Nat} : erP cd c n ≤ n := by
  unfold erP
  cases h : rd cd c n with
  | some _ => exact Nat.le_refl _
  | none => have := er_lt h; show er cd c n ≤ n; omega
theorem eI_m {cd : Nat → Nat} {c n : Nat} (hn : n ≤ 80) : (eI cd c n = -1) = (fin cd c n = true) := by
  unfold eI
  have := erP_le (cd := cd) (c := c) (n := n)
  by_cases h : fin cd c n = true
  · rw [if_pos h]; simp [h]
  · rw [if_neg h, qm', s_em (by omega)]; simp [h]
/-- alive at an item -/
def al (cd : Nat → Nat) (c i : Nat) : Bool := inV cd c i && (rd cd c i).isSome
def gr (cd : Nat → Nat) (i : Nat) : Int32 := itr (fun c x => x + bI (al cd c i && fi (fun b => al cd b i && decide (rd cd b i = rd cd c i)) c)) 16 0

