/-! PRESENCE: the walk over the items. A state: which configurations have each feature on; the active ones; for each open WHEN, the last first, those active ahead of it and those at its OTHERWISE -/
abbrev Wst : Type := (Nat → Int32) × Int32 × List (Int32 × Int32)
def chz (k : Nat) (on : Nat → Int32) : Int32 := if k % 2 = 1 then on (k % 8 / 2) else on (k % 8 / 2) ^^^ (-1 : Int32)
def wstep (k : Nat) (w : Wst) : Wst :=
  if k < 8 then (w.1, w.2.1 &&& chz k w.1, (w.2.1, w.2.1 &&& (chz k w.1 ^^^ (-1 : Int32))) :: w.2.2)
  else if k < 16 then (upd w.1 (k % 8 / 2) (if k % 2 = 1 then w.1 (k % 8 / 2) ||| w.2.1 else w.1 (k % 8 / 2) &&& (w.2.1 ^^^ (-1 : Int32))), w.2.1, w.2.2)
  else if k = 16 then (w.1, (w.2.2.headD (0, 0)).2, w.2.2)
  else if k = 17 then (w.1, (w.2.2.headD (0, 0)).1, w.2.2.tail)
  else w
def ws (cd : Nat → Nat) : Nat → Wst
  | 0 => (onF, 65535, [])
  | i + 1 => wstep (cd i) (ws cd i)
/-- where an item is present -/
def pres (cd : Nat → Nat) (i : Nat) : Int32 := if cd i = 16 ∨ cd i = 17 then ((ws cd i).2.2.headD (0, 0)).1 else (ws cd i).2.1
/-- the configurations with a feature on ahead of an item -/
def onA (cd : Nat → Nat) (f i : Nat) : Int32 := (ws cd i).1 f
theorem ws_len {cd : Nat → Nat} : ∀ {n : Nat} {l : List (Nat × Bool)}, st cd n = some l → (ws cd n).2.2.length = l.length
  | 0, l, h => by cases h; rfl
  | n + 1, l, h => by
    obtain ⟨l', h1, h2⟩ := st_pre h
    have ih := ws_len h1
    show (wstep (cd n) (ws cd n)).2.2.length = _
    unfold wstep
    by_cases a : cd n < 8
    · obtain ⟨-, rfl⟩ := stp_when a h2
      rw [if_pos a]
      simp [ih]
    rw [if_neg a]
    by_cases a2 : cd n < 16
    · rw [if_pos a2, stp_else a (by omega) (by omega) h2]
      exact ih
    rw [if_neg a2]
    by_cases b : cd n = 16
    · rw [if_pos b]
      rw [b] at h2
      obtain ⟨p, r, rfl, rfl⟩ := stp_oth h2
      exact ih
    rw [if_neg b]
    by_cases c : cd n = 17
    · rw [if_pos c]
      rw [c] at h2
      obtain ⟨q, rfl⟩ := stp_done h2
      simp [ih]
    · rw [if_neg c, stp_else a b c h2]
      exact ih
/-- the class's stack of them: the last one stands at its height -/
def StkC (M : Mm) : List (Int32 × Int32) → Prop
  | [] => True
  | x :: r => M 11 r.length = x.1 ∧ M 12 r.length = x.2 ∧ StkC M r
theorem StkC_c {M M' : Mm} : ∀ {l : List (Int32 × Int32)}, StkC M l → (∀ j, j < l.length → M' 11 j = M 11 j ∧ M' 12 j = M 12 j) → StkC M' l
  | [], _, _ => trivial
  | x :: r, h, e => by
    obtain ⟨h1, h2, h3⟩ := h
    obtain ⟨e1, e2⟩ := e r.length (Nat.lt_succ_self _)
    exact ⟨e1.trans h1, e2.trans h2, StkC_c h3 (fun j hj => e j (Nat.lt_succ_of_lt hj))⟩
def WkC (M : Mm) (w : Wst) : Prop := M 3 5 = w.2.1 ∧ M 3 6 = nI w.2.2.length ∧ (∀ f, f < 4 → M 10 f = w.1 f) ∧ StkC M w.2.2
theorem feat_n : ∀ k ∈ List.range 16, gX4_featureOf (nI k) = nI (k % 8 / 2) ∧ (gX4_isForOn (nI k) = if k % 2 = 1 then 1 else 0) ∧ (gX4_isSet (nI k) = if k < 8 then 0 else 1) := by decide +kernel
theorem isSet_n {k : Nat} (h : k < 2 ^ 31) : gX4_isSet (nI k) = if 8 ≤ k ∧ k < 16 then 1 else 0 := by
  unfold gX4_isSet
  by_cases a : k < 8
  · rw [if_pos (show nI k < (8 : Int32) from nI_lt (b := 8) a (by decide)), if_neg (by omega)]
  · rw [if_neg (show ¬ nI k < (8 : Int32) from nI_nlt (b := 8) (by omega) h)]
    by_cases b : k < 16
    · rw [if_neg (show ¬ (16 : Int32) ≤ nI k from nI_ge (b := 16) b (by decide)), if_pos (by omega)]
    · rw [if_pos (show (16 : Int32) ≤ nI k from nI_le (a := 16) (by omega) h), if_neg (by omega)]

