def ext (cd : Nat → Nat) (n c : Nat) : Nat → Nat := fun i => if i = n then c else cd i
theorem ext_n {cd : Nat → Nat} {n c : Nat} : ext cd n c n = c := if_pos rfl
theorem ext_o {cd : Nat → Nat} {n c i : Nat} (h : i ≠ n) : ext cd n c i = cd i := if_neg h
theorem st_congr {cd cd' : Nat → Nat} : ∀ n : Nat, (∀ i, i < n → cd i = cd' i) → st cd n = st cd' n
  | 0, _ => rfl
  | n + 1, h => by
    show (st cd n).bind (stp (cd n) n) = (st cd' n).bind (stp (cd' n) n)
    rw [st_congr n (fun i hi => h i (by omega)), h n (by omega)]
theorem appC {M : Mm} {n c : Nat} {cd : Nat → Nat} (h : SrcC M n cd) (hn : n < 80) : ∃ M1, gX7_append M (nI c) = some (nI (n + 1), M1) ∧ SrcC M1 (n + 1) (ext cd n c) ∧ M1 0 4 = 0 := by
  unfold gX7_append gX4_add
  rw [h.1, if_neg (show ¬ (80 : Int32) ≤ nI n from nI_ge hn (by decide)), ckI hn (by decide), cI (by omega), lt_s9, lt_s9, bd_s9 rfl, lt_s9]
  have e1 : um M 2 n (nI c) 1 1 = nI n := by rw [um_cell (by decide)]; exact h.1
  rw [e1, up1]
  refine ⟨um (um (um M 2 n (nI c)) 1 1 (nI (n + 1))) 0 4 0, ?_, ⟨?_, fun i hi => ?_⟩, um_hit⟩
  · rw [um_cell (show (1 : Nat) ≠ 0 by decide), um_hit]
  · rw [um_cell (by decide), um_hit]
  · rw [um_cell (by decide), um_cell (by decide)]
    by_cases e : i = n
    · subst e
      rw [um_hit, ext_n]
    · rw [um_place e, ext_o e]
      exact h.2 i (by omega)
theorem Val_app {n c : Nat} {cd : Nat → Nat} {l l' : List (Nat × Bool)} (hV : Val n cd) (hn : n < 80) (hc : ok c ∧ c < 2 ^ 31) (hl : st cd n = some l) (hs : stp c n l = some l') : Val (n + 1) (ext cd n c) := by
  refine ⟨hn, fun i hi => ?_, l', ?_⟩
  · by_cases e : i = n
    · subst e
      rw [ext_n]
      exact hc
    · rw [ext_o e]
      exact hV.2.1 i (by omega)
  · have h1 : st (ext cd n c) n = some l := by rw [st_congr n (cd' := cd) (fun i hi => ext_o (by omega))]; exact hl
    rw [st_s h1, ext_n]
    exact hs
/-- small codes -/
theorem ok_s {c : Nat} (h : c ≤ 17) : ok c ∧ c < 2 ^ 31 := ⟨Or.inl h, by omega⟩
theorem codeW {f b : Nat} (hf : f < 4) (hb : b ≤ 1) : gX4_codeOfWhen (nI f) (nI b) = nI (2 * f + b) ∧ gX4_codeOfSet (nI f) (nI b) = nI (8 + 2 * f + b) ∧ ((2 : Int32) * nI f) + (0 : Int32) = nI (2 * f) ∧ ((2 : Int32) * nI f) + (1 : Int32) = nI (2 * f + 1) ∧ (((8 : Int32) + ((2 : Int32) * nI f)) + (0 : Int32)) = nI (8 + 2 * f) ∧ (((8 : Int32) + ((2 : Int32) * nI f)) + (1 : Int32)) = nI (8 + 2 * f + 1) := by
  rcases (show f = 0 ∨ f = 1 ∨ f = 2 ∨ f = 3 by omega) with rfl | rfl | rfl | rfl <;> rcases (show b = 0 ∨ b = 1 by omega) with rfl | rfl <;> decide +kernel
