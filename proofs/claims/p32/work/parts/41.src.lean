/-! THE SOURCE: its codes as numbers; the WHENs that are open after so many items, the last first, each with whether it has an OTHERWISE -/
def ok (k : Nat) : Prop := k ≤ 17 ∨ gX0_isToken (nI k) ≠ 0
def stp (k i : Nat) (l : List (Nat × Bool)) : Option (List (Nat × Bool)) :=
  if k < 8 then (if l.length < 5 then some ((i, false) :: l) else none)
  else if k = 16 then (match l with
    | (p, false) :: r => some ((p, true) :: r)
    | _ => none)
  else if k = 17 then (match l with
    | _ :: r => some r
    | [] => none)
  else some l
def st (cd : Nat → Nat) : Nat → Option (List (Nat × Bool))
  | 0 => some []
  | i + 1 => (st cd i).bind (stp (cd i) i)
def Val (n : Nat) (cd : Nat → Nat) : Prop := n ≤ 80 ∧ (∀ i, i < n → ok (cd i) ∧ cd i < 2 ^ 31) ∧ ∃ l, st cd n = some l
def SrcC (M : Mm) (n : Nat) (cd : Nat → Nat) : Prop := M 1 1 = nI n ∧ ∀ i, i < n → M 2 i = nI (cd i)
theorem st_s {cd : Nat → Nat} {i : Nat} {l : List (Nat × Bool)} (h : st cd i = some l) : st cd (i + 1) = stp (cd i) i l := by
  show (st cd i).bind _ = _
  rw [h]
  rfl
theorem st_pre {cd : Nat → Nat} {i : Nat} {l : List (Nat × Bool)} (h : st cd (i + 1) = some l) : ∃ l', st cd i = some l' ∧ stp (cd i) i l' = some l := by
  cases h2 : st cd i with
  | none =>
    have : st cd (i + 1) = none := by show (st cd i).bind _ = none; rw [h2]; rfl
    rw [this] at h
    cases h
  | some l' => exact ⟨l', rfl, by rw [← st_s h2]; exact h⟩
theorem st_le {cd : Nat → Nat} : ∀ {n : Nat} {l : List (Nat × Bool)}, st cd n = some l → ∀ i, i ≤ n → ∃ l', st cd i = some l'
  | 0, l, h, i, hi => ⟨l, by rw [show i = 0 by omega]; exact h⟩
  | n + 1, l, h, i, hi => by
    by_cases h2 : i = n + 1
    · exact ⟨l, by rw [h2]; exact h⟩
    · obtain ⟨l', h3, -⟩ := st_pre h
      exact st_le h3 i (by omega)
/-- what each kind of item does to the open ones -/
theorem stp_when {k i : Nat} {l l' : List (Nat × Bool)} (hk : k < 8) (h : stp k i l = some l') : l.length < 5 ∧ l' = (i, false) :: l := by
  unfold stp at h
  rw [if_pos hk] at h
  by_cases h2 : l.length < 5
  · rw [if_pos h2] at h
    exact ⟨h2, (Option.some.inj h).symm⟩
  · rw [if_neg h2] at h
    cases h
theorem stp_oth {i : Nat} {l l' : List (Nat × Bool)} (h : stp 16 i l = some l') : ∃ p r, l = (p, false) :: r ∧ l' = (p, true) :: r := by
  unfold stp at h
  rw [if_neg (by decide), if_pos rfl] at h
  match l, h with
  | (p, false) :: r, h => exact ⟨p, r, rfl, (Option.some.inj h).symm⟩
theorem stp_done {i : Nat} {l l' : List (Nat × Bool)} (h : stp 17 i l = some l') : ∃ q, l = q :: l' := by
  unfold stp at h
  rw [if_neg (by decide), if_neg (by decide), if_pos rfl] at h
  match l, h with
  | q :: r, h => exact ⟨q, by rw [Option.some.inj h]⟩
theorem stp_else {k i : Nat} {l l' : List (Nat × Bool)} (h8 : ¬ k < 8) (h16 : k ≠ 16) (h17 : k ≠ 17) (h : stp k i l = some l') : l' = l := by
  unfold stp at h
  rw [if_neg h8, if_neg h16, if_neg h17] at h
  exact (Option.some.inj h).symm
theorem st_len {cd : Nat → Nat} : ∀ {n : Nat} {l : List (Nat × Bool)}, st cd n = some l → l.length ≤ 5
  | 0, l, h => by cases h; decide
  | n + 1, l, h => by
    obtain ⟨l', h1, h2⟩ := st_pre h
    have ih := st_len h1
    by_cases a : cd n < 8
    · obtain ⟨b, rfl⟩ := stp_when a h2
      simp only [List.length_cons]
      omega
    by_cases b : cd n = 16
    · rw [b] at h2
      obtain ⟨p, r, rfl, rfl⟩ := stp_oth h2
      exact ih
    by_cases c : cd n = 17
    · rw [c] at h2
      obtain ⟨q, rfl⟩ := stp_done h2
      simp only [List.length_cons] at ih
      omega
    · rw [stp_else a b c h2]
      exact ih
/-! comparisons of codes -/
theorem isWhen_n {k : Nat} (h : k < 2 ^ 31) : gX4_isWhen (nI k) = if k < 8 then 1 else 0 := by
  unfold gX4_isWhen
  rw [if_neg (nI_pos h)]
  by_cases a : k < 8
  · rw [if_neg (show ¬ (8 : Int32) ≤ nI k from nI_ge a (by decide)), if_pos a]
  · rw [if_pos (show (8 : Int32) ≤ nI k from nI_le (a := 8) (by omega) h), if_neg a]
theorem c17 {k : Nat} (h : k < 2 ^ 31) : nI k = (17 : Int32) ↔ k = 17 := nI_eq (b := 17) h (by decide)
theorem c16 {k : Nat} (h : k < 2 ^ 31) : nI k = (16 : Int32) ↔ k = 16 := nI_eq (b := 16) h (by decide)
theorem c8 {k : Nat} (h : k < 2 ^ 31) : (8 : Int32) ≤ nI k ↔ 8 ≤ k := nI_leI (a := 8) (by decide) h
/-- the class's count of open WHENs -/
theorem cntC {M : Mm} {n : Nat} {cd : Nat → Nat} (hS : SrcC M n cd) (hV : Val n cd) {l : List (Nat × Bool)} (hl : st cd n = some l) : gX4_countUnfinished M = some (nI l.length) := by
  have key : ∀ m fuel i li, i + m = n → m < fuel → st cd i = some li → gX4_countUnfinished_L4 M fuel (nI li.length) (nI i) = some (nI l.length) := by
    intro m
    induction m with
    | zero =>
      intro fuel i li h1 h2 h3
      obtain ⟨f, rfl⟩ : ∃ f, fuel = f + 1 := ⟨fuel - 1, by omega⟩
      obtain rfl : i = n := by omega
      rw [gX4_countUnfinished_L4, hS.1, if_pos (nI_le (Nat.le_refl _) (by have := hV.1; omega))]
      rw [hl] at h3
      rw [Option.some.inj h3]
    | succ m ih =>
      intro fuel i li h1 h2 h3
      obtain ⟨f, rfl⟩ : ∃ f, fuel = f + 1 := ⟨fuel - 1, by omega⟩
      have hn := hV.1
      have hi : i < n := by omega
      obtain ⟨lj, h4⟩ := st_le hl (i + 1) (by omega)
      have h5 := (st_s h3).symm.trans h4
      have hc := (hV.2.1 i hi).2
      rw [gX4_countUnfinished_L4, hS.1, if_neg (nI_ge hi (by omega)), ckI (by omega) (by decide), cI (by omega), hS.2 i hi, isWhen_n hc]
      by_cases a : cd i < 8
      · obtain ⟨b, rfl⟩ := stp_when a h5
        rw [if_pos a, if_neg (by decide), lt_s9, lt_s9, up1, up1]
        exact ih f (i + 1) _ (by omega) (by omega) h4
      · rw [if_neg a, if_pos rfl, ckJ (by omega) (by decide)]
        by_cases b : cd i = 17
        · rw [if_pos ((c17 hc).mpr b), lt_s9, lt_s9, up1]
          rw [b] at h5
          obtain ⟨q, rfl⟩ := stp_done h5
          rw [List.length_cons, dn1]
          exact ih f (i + 1) _ (by omega) (by omega) h4
        · rw [if_neg (fun e => b ((c17 hc).mp e)), lt_s9, up1]
          have e : lj.length = li.length := by
            by_cases d : cd i = 16
            · rw [d] at h5
              obtain ⟨p, r, rfl, rfl⟩ := stp_oth h5
              rfl
            · rw [stp_else a d b h5]
          rw [← e]
          exact ih f (i + 1) _ (by omega) (by omega) h4
  exact key n FU 0 [] (by omega) (by have := hV.1; unfold FU; omega) rfl
