/-! A VARIANT ALONE: its tokens as a source of their own -/
def Al (cd : Nat → Nat) (c n : Nat) (cd' : Nat → Nat) : Prop := ∀ k, k < (vl cd c n).length → cd' k = cd ((vl cd c n).getD k 0)
theorem ws_tok {cd : Nat → Nat} : ∀ {k : Nat}, (∀ j, j < k → 18 ≤ cd j) → ws cd k = (onF, 65535, [])
  | 0, _ => rfl
  | k + 1, h => by
    show wstep (cd k) (ws cd k) = _
    rw [ws_tok (fun j hj => h j (by omega))]
    have := h k (by omega)
    unfold wstep
    rw [if_neg (by omega), if_neg (by omega), if_neg (by omega), if_neg (by omega)]
theorem pres_tok {cd : Nat → Nat} {k m : Nat} (h : ∀ j, j < m → 18 ≤ cd j) (hk : k < m) : pres cd k = 65535 := by
  have := h k hk
  unfold pres
  rw [if_neg (by omega), ws_tok (fun j hj => h j (by omega))]
theorem inV_all {cd : Nat → Nat} {o k m : Nat} (ho : o < 16) (h : ∀ j, j < m → 18 ≤ cd j) (hk : k < m) : inV cd o k = true := by
  unfold inV
  rw [pres_tok h hk, (bth_all o (List.mem_range.mpr ho)).1, decide_eq_true (h k hk)]
  rfl
theorem vl_all {cd : Nat → Nat} {o m : Nat} (ho : o < 16) (h : ∀ j, j < m → 18 ≤ cd j) : ∀ {k : Nat}, k ≤ m → vl cd o k = List.range k
  | 0, _ => rfl
  | k + 1, hk => by
    show (if inV cd o k then vl cd o k ++ [k] else vl cd o k) = _
    rw [if_pos (inV_all ho h (by omega)), vl_all ho h (by omega), List.range_succ]
theorem vl_18 {cd : Nat → Nat} {c n k : Nat} (hk : k < (vl cd c n).length) : 18 ≤ cd ((vl cd c n).getD k 0) := by
  have h := (vl_get hk).2
  unfold inV at h
  rw [Bool.and_eq_true, decide_eq_true_iff] at h
  exact h.1
theorem vl_inc {cd : Nat → Nat} {c : Nat} : ∀ {i k : Nat}, k + 1 < (vl cd c i).length → (vl cd c i).getD k 0 < (vl cd c i).getD (k + 1) 0
  | 0, k, h => absurd h (Nat.not_lt_zero _)
  | i + 1, k, h => by
    have e : vl cd c (i + 1) = if inV cd c i then vl cd c i ++ [i] else vl cd c i := rfl
    rw [e] at h ⊢
    by_cases a : inV cd c i = true
    · rw [if_pos a] at h ⊢
      rw [List.length_append, List.length_singleton] at h
      have vget : ∀ k, k < (vl cd c i).length → (vl cd c i ++ [i]).getD k 0 = (vl cd c i).getD k 0 := fun k hk => by simp [List.getD, List.getElem?_append_left hk]
      have vlast : (vl cd c i ++ [i]).getD (vl cd c i).length 0 = i := by simp [List.getD]
      rw [vget k (by omega)]
      by_cases b : k + 1 < (vl cd c i).length
      · rw [vget (k + 1) b]
        exact vl_inc b
      · rw [show k + 1 = (vl cd c i).length by omega, vlast]
        exact (vl_get (by omega)).1
    · rw [if_neg a] at h ⊢
      exact vl_inc h
section AL
variable {cd cd' : Nat → Nat} {c o n : Nat}
theorem al_18 (hA : Al cd c n cd') : ∀ j, j < (vl cd c n).length → 18 ≤ cd' j := fun j hj => by rw [hA j hj]; exact vl_18 hj
theorem al_rd (ho : o < 16) (hA : Al cd c n cd') : ∀ i, i ≤ n → rd cd' o (vl cd c i).length = rd cd c i ∧ hgt cd' o (vl cd c i).length = hgt cd c i ∧ (rd cd c i = none → er cd' o (vl cd c i).length < (vl cd c i).length ∧ er cd c i = (vl cd c n).getD (er cd' o (vl cd c i).length) 0)
  | 0, _ => ⟨rfl, rfl, fun h => by cases h⟩
  | i + 1, hi => by
    obtain ⟨h1, h2, h3⟩ := al_rd ho hA i (by omega)
    have hp := vl_pre (cd := cd) (c := c) hi
    have ev : vl cd c (i + 1) = if inV cd c i then vl cd c i ++ [i] else vl cd c i := rfl
    have er1 : rd cd c (i + 1) = if inV cd c i = true then (rd cd c i).bind (feed (cd i)) else rd cd c i := rfl
    have eh1 : hgt cd c (i + 1) = if inV cd c i = true then (match rd cd c i with | some s => hgt cd c i ++ [s.length] | none => hgt cd c i) else hgt cd c i := rfl
    have ee1 : er cd c (i + 1) = if rd cd c i ≠ none ∧ rd cd c (i + 1) = none then i else er cd c i := rfl
    by_cases a : inV cd c i = true
    · rw [if_pos a] at ev er1 eh1
      have hl : (vl cd c (i + 1)).length = (vl cd c i).length + 1 := by rw [ev, List.length_append, List.length_singleton]
      have hk : (vl cd c i).length < (vl cd c n).length := by have := hp.1; omega
      have hg : (vl cd c n).getD (vl cd c i).length 0 = i := by
        rw [hp.2 _ (by omega), ev]
        simp [List.getD]
      have hcd : cd' (vl cd c i).length = cd i := by rw [hA _ hk, hg]
      have hin : inV cd' o (vl cd c i).length = true := inV_all ho (al_18 hA) hk
      have r2 : rd cd' o ((vl cd c i).length + 1) = if inV cd' o (vl cd c i).length = true then (rd cd' o (vl cd c i).length).bind (feed (cd' (vl cd c i).length)) else rd cd' o (vl cd c i).length := rfl
      have g2 : hgt cd' o ((vl cd c i).length + 1) = if inV cd' o (vl cd c i).length = true then (match rd cd' o (vl cd c i).length with | some s => hgt cd' o (vl cd c i).length ++ [s.length] | none => hgt cd' o (vl cd c i).length) else hgt cd' o (vl cd c i).length := rfl
      have e2 : er cd' o ((vl cd c i).length + 1) = if rd cd' o (vl cd c i).length ≠ none ∧ rd cd' o ((vl cd c i).length + 1) = none then (vl cd c i).length else er cd' o (vl cd c i).length := rfl
      rw [if_pos hin, h1, hcd] at r2
      rw [if_pos hin, h1, h2] at g2
      have hr : rd cd' o ((vl cd c i).length + 1) = rd cd c (i + 1) := by rw [r2, er1]
      rw [hl]
      refine ⟨hr, by rw [g2, eh1], fun hn => ?_⟩
      rw [e2, ee1, h1, hr]
      by_cases b : rd cd c i = none
      · rw [if_neg (fun w => w.1 b), if_neg (fun w => w.1 b)]
        obtain ⟨p1, p2⟩ := h3 b
        exact ⟨by omega, p2⟩
      · rw [if_pos ⟨b, hn⟩, if_pos ⟨b, hn⟩]
        exact ⟨by omega, hg.symm⟩
    · rw [if_neg a] at ev er1 eh1
      rw [ev, er1, eh1]
      refine ⟨h1, h2, fun hn => ?_⟩
      rw [ee1, er1, if_neg (fun w => w.1 w.2)]
      exact h3 hn
theorem al_fin (ho : o < 16) (hA : Al cd c n cd') : fin cd' o (vl cd c n).length = fin cd c n := by
  unfold fin
  rw [(al_rd ho hA n (Nat.le_refl _)).1]
theorem al_stk (ho : o < 16) (hA : Al cd c n cd') (k : Nat) : stk cd' o (vl cd c n).length k = stk cd c n k := by
  unfold stk
  rw [(al_rd ho hA n (Nat.le_refl _)).2.1]
theorem al_err (ho : o < 16) (hA : Al cd c n cd') : (fin cd c n = true ∧ eI cd' o (vl cd c n).length = -1 ∧ eI cd c n = -1) ∨ (fin cd c n = false ∧ eI cd' o (vl cd c n).length = nI (vl cd c n).length ∧ eI cd c n = nI n) ∨ ∃ k, k < (vl cd c n).length ∧ fin cd c n = false ∧ eI cd' o (vl cd c n).length = nI k ∧ eI cd c n = nI ((vl cd c n).getD k 0) := by
  obtain ⟨h1, -, h3⟩ := al_rd ho hA n (Nat.le_refl _)
  have hf := al_fin ho hA
  unfold eI erP
  rw [hf, h1]
  cases f : fin cd c n with
  | true => exact Or.inl ⟨rfl, rfl, rfl⟩
  | false =>
    cases hr : rd cd c n with
    | some s => exact Or.inr (Or.inl ⟨rfl, rfl, rfl⟩)
    | none =>
      obtain ⟨p1, p2⟩ := h3 hr
      refine Or.inr (Or.inr ⟨_, p1, rfl, rfl, ?_⟩)
      show nI (er cd c n) = _
      rw [p2]
theorem al_tks (ho : o < 16) (hA : Al cd c n cd') : tks cd' o (vl cd c n).length = tks cd c n := by
  unfold tks
  rw [vl_all ho (al_18 hA) (Nat.le_refl _)]
  refine List.ext_getElem (by rw [List.length_map, List.length_range, List.length_map]) (fun i h1 h2 => ?_)
  rw [List.length_map, List.length_range] at h1
  rw [List.getElem_map, List.getElem_map, List.getElem_range, hA i h1]
  congr 1
  simp [List.getD, List.getElem?_eq_getElem h1]
theorem al_res (ho : o < 16) (hA : Al cd c n cd') : res cd' o (vl cd c n).length = res cd c n := by
  unfold res
  rw [al_tks ho hA]
theorem al_len (ho : o < 16) (hA : Al cd c n cd') : (vl cd' o (vl cd c n).length).length = (vl cd c n).length := by
  rw [vl_all ho (al_18 hA) (Nat.le_refl _), List.length_range]
end AL
/-! one token as a number to write -/
set_option maxRecDepth 100000 in
theorem tk_one : ∀ t ∈ List.range 126, gX0_isToken (nI t) ≠ 0 → tk ((nI t).toInt64) 8 = [t] ∧ ∀ i ∈ List.range 8, bt ((nI t).toInt64) i = 0 ∨ gX0_isToken (bt ((nI t).toInt64) i) ≠ 0 := by decide +kernel
