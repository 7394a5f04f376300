/-! PLAIN LEAN FROM HERE ON: the two systems' functional definitions on related memories. First, small things. -/
theorem um_a (M : Mm) (k j : Nat) (v : Int32) (a i : Nat) : um M k j v a i = if a = k then (if i = j then v else M a i) else M a i := by
  unfold um upd
  by_cases h : a = k
  · subst h
    rw [if_pos rfl, if_pos rfl]
  · rw [if_neg h, if_neg h]
theorem um_hit {M : Mm} {k j : Nat} {v : Int32} : um M k j v k j = v := by rw [um_a, if_pos rfl, if_pos rfl]
theorem um_cell {M : Mm} {k j a i : Nat} {v : Int32} (h : a ≠ k) : um M k j v a i = M a i := by rw [um_a, if_neg h]
theorem um_place {M : Mm} {k j a i : Nat} {v : Int32} (h : i ≠ j) : um M k j v a i = M a i := by
  rw [um_a]
  by_cases h2 : a = k
  · rw [if_pos h2, if_neg h]
  · rw [if_neg h2]
theorem bd_s9 {α β : Type} {x : Option α} {f : α → Option β} {a : α} (h : x = some a) : bd x f = f a := by rw [h]; rfl
theorem bd2_s9 {α β γ : Type} {x : Option (α × β)} {f : α → β → Option γ} {a : α} {b : β} (h : x = some (a, b)) : bd2 x f = f a b := by rw [h]; rfl
theorem te_v {α β : Type} {x : Option ((α ⊕ Nat) × Mm)} {f : α → Mm → Option ((β ⊕ Nat) × Mm)} {v : α} {M1 : Mm} (h : x = some (.inl v, M1)) : te x f = f v M1 := by rw [h]; rfl
theorem te_x {α β : Type} {x : Option ((α ⊕ Nat) × Mm)} {f : α → Mm → Option ((β ⊕ Nat) × Mm)} {k : Nat} {M1 : Mm} (h : x = some (.inr k, M1)) : te x f = some (.inr k, M1) := by rw [h]; rfl
theorem lt_s9 {α β : Type} (a : α) (f : α → β) : lt a f = f a := rfl
/-- an index within bounds passes -/
theorem ckI {α : Type} {i n : Nat} {x : Option α} (h : i < n) (hn : n < 2 ^ 31) : (if (nI i < 0 ∨ n ≤ (nI i).toNatClampNeg) then none else x) = x := if_neg (nI_in h hn)
theorem ckJ {α : Type} {i n : Nat} {x : Option α} (h : i < n) (hn : n < 2 ^ 31) : (if (nI i < 0 ∨ n ≤ i) then none else x) = x := if_neg (fun e => e.elim (nI_pos (Nat.lt_trans h hn)) (fun e => Nat.not_le.mpr h e))
theorem cI {i : Nat} (h : i < 2 ^ 31) : (nI i).toNatClampNeg = i := nI_clamp h
theorem up1 (i : Nat) : nI i + (1 : Int32) = nI (i + 1) := nI_1 i
theorem dn1 (i : Nat) : nI (i + 1) + (-1 : Int32) = nI i := by
  have h := nI_pred i
  rw [← h]
  exact (Int32.sub_eq_add_neg ..).symm
theorem dn0 : nI 0 - (1 : Int32) = (-1 : Int32) := by decide +kernel
theorem dn0' : nI 0 + (-1 : Int32) = (-1 : Int32) := by decide +kernel
/-! Int32 in Int -/
theorem i32_eq {a b : Int32} : a = b ↔ a.toInt = b.toInt := Int32.toInt_inj.symm
theorem i32_lt {a b : Int32} : a < b ↔ a.toInt < b.toInt := Int32.lt_iff_toInt_lt
theorem i32_le {a b : Int32} : a ≤ b ↔ a.toInt ≤ b.toInt := Int32.le_iff_toInt_le
theorem i32_num (k : Nat) (h : k < 2 ^ 31) : (nI k).toInt = (k : Int) := nI_toInt h
/-! tokens -/
theorem zb_if {c : Prop} [Decidable c] {a b : Int32} (ha : a = 0 ∨ a = 1) (hb : b = 0 ∨ b = 1) : (if c then a else b) = 0 ∨ (if c then a else b) = 1 := by
  by_cases h : c
  · rw [if_pos h]; exact ha
  · rw [if_neg h]; exact hb
theorem zb_tok (x : Int32) : gX0_isToken x = 0 ∨ gX0_isToken x = 1 := by
  unfold gX0_isToken
  repeat' (first | exact Or.inr rfl | exact Or.inl rfl | refine zb_if ?_ ?_)
theorem tok_range {x : Int32} (h : gX0_isToken x ≠ 0) : ∃ k : Nat, 33 ≤ k ∧ k ≤ 125 ∧ x = nI k := by
  by_cases h1 : 33 ≤ x.toInt ∧ x.toInt ≤ 125
  · refine ⟨x.toInt.toNat, by omega, by omega, ?_⟩
    rw [i32_eq, i32_num _ (by omega)]
    omega
  · refine absurd ?_ h
    have hne : ∀ k : Nat, 33 ≤ k → k ≤ 125 → x ≠ nI k := fun k h2 h3 e => h1 (by rw [e, i32_num _ (by omega)]; omega)
    unfold gX0_isToken
    rw [if_neg (show ¬ x = (33 : Int32) from hne 33 (by decide) (by decide)), if_neg (show ¬ x = (40 : Int32) from hne 40 (by decide) (by decide)), if_neg (show ¬ x = (41 : Int32) from hne 41 (by decide) (by decide)), if_neg (show ¬ x = (42 : Int32) from hne 42 (by decide) (by decide)), if_neg (show ¬ x = (43 : Int32) from hne 43 (by decide) (by decide)), if_neg (show ¬ x = (45 : Int32) from hne 45 (by decide) (by decide)), if_neg (show ¬ x = (58 : Int32) from hne 58 (by decide) (by decide)), if_neg (show ¬ x = (59 : Int32) from hne 59 (by decide) (by decide)), if_neg (show ¬ x = (61 : Int32) from hne 61 (by decide) (by decide)), if_neg (show ¬ x = (63 : Int32) from hne 63 (by decide) (by decide)), if_neg (show ¬ x = (123 : Int32) from hne 123 (by decide) (by decide)), if_neg (show ¬ x = (125 : Int32) from hne 125 (by decide) (by decide))]
    have d : gX0_isDigit x = 0 := by
      unfold gX0_isDigit
      by_cases c : x < (48 : Int32)
      · rw [if_pos c]
      · rw [if_neg c, if_pos]
        rw [i32_lt] at c ⊢
        have e1 : (48 : Int32).toInt = 48 := rfl
        have e2 : (57 : Int32).toInt = 57 := rfl
        omega
    have nm : gX0_isName x = 0 := by
      unfold gX0_isName
      by_cases c : x < (97 : Int32)
      · rw [if_pos c]
      · rw [if_neg c, if_pos]
        rw [i32_lt] at c ⊢
        have e1 : (97 : Int32).toInt = 97 := rfl
        have e2 : (100 : Int32).toInt = 100 := rfl
        omega
    rw [if_pos d, if_pos nm]
