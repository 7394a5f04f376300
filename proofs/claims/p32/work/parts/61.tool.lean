/-! A SET OF REWRITINGS for `simp (disch := omega) only`: literals as nI of a number, and then everything is said of numbers -/
theorem q0 : (0 : Int32) = nI 0 := by decide +kernel
theorem q1 : (1 : Int32) = nI 1 := by decide +kernel
theorem q2 : (2 : Int32) = nI 2 := by decide +kernel
theorem q3 : (3 : Int32) = nI 3 := by decide +kernel
theorem q4 : (4 : Int32) = nI 4 := by decide +kernel
theorem q5 : (5 : Int32) = nI 5 := by decide +kernel
theorem q6 : (6 : Int32) = nI 6 := by decide +kernel
theorem q7 : (7 : Int32) = nI 7 := by decide +kernel
theorem q8 : (8 : Int32) = nI 8 := by decide +kernel
theorem q15 : (15 : Int32) = nI 15 := by decide +kernel
theorem q16 : (16 : Int32) = nI 16 := by decide +kernel
theorem q17 : (17 : Int32) = nI 17 := by decide +kernel
theorem q18 : (18 : Int32) = nI 18 := by decide +kernel
theorem q40 : (40 : Int32) = nI 40 := by decide +kernel
theorem q80 : (80 : Int32) = nI 80 := by decide +kernel
theorem q81 : (81 : Int32) = nI 81 := by decide +kernel
theorem q320 : (320 : Int32) = nI 320 := by decide +kernel
theorem q400 : (400 : Int32) = nI 400 := by decide +kernel
theorem q640 : (640 : Int32) = nI 640 := by decide +kernel
theorem q1280 : (1280 : Int32) = nI 1280 := by decide +kernel
theorem q6400 : (6400 : Int32) = nI 6400 := by decide +kernel
theorem q65535 : (65535 : Int32) = nI 65535 := by decide +kernel
theorem q33 : (33 : Int32) = nI 33 := by decide +kernel
theorem q35 : (35 : Int32) = nI 35 := by decide +kernel
theorem q41 : (41 : Int32) = nI 41 := by decide +kernel
theorem q42 : (42 : Int32) = nI 42 := by decide +kernel
theorem q43 : (43 : Int32) = nI 43 := by decide +kernel
theorem q45 : (45 : Int32) = nI 45 := by decide +kernel
theorem q58 : (58 : Int32) = nI 58 := by decide +kernel
theorem q59 : (59 : Int32) = nI 59 := by decide +kernel
theorem q61 : (61 : Int32) = nI 61 := by decide +kernel
theorem q63 : (63 : Int32) = nI 63 := by decide +kernel
theorem q69 : (69 : Int32) = nI 69 := by decide +kernel
theorem q82 : (82 : Int32) = nI 82 := by decide +kernel
theorem q83 : (83 : Int32) = nI 83 := by decide +kernel
theorem q84 : (84 : Int32) = nI 84 := by decide +kernel
theorem q85 : (85 : Int32) = nI 85 := by decide +kernel
theorem q70 : (70 : Int32) = nI 70 := by decide +kernel
theorem q97 : (97 : Int32) = nI 97 := by decide +kernel
theorem q123 : (123 : Int32) = nI 123 := by decide +kernel
theorem q125 : (125 : Int32) = nI 125 := by decide +kernel
theorem q48 : (48 : Int32) = nI 48 := by decide +kernel
def mI : Int32 := -1
theorem qm : -(nI 1) = mI := by decide +kernel
theorem qm' : (-1 : Int32) = mI := by decide +kernel
theorem s_le {a b : Nat} (ha : a < 2147483648) (hb : b < 2147483648) : (nI a ≤ nI b) = (a ≤ b) := propext (nI_leI (by omega) (by omega))
theorem s_lt {a b : Nat} (ha : a < 2147483648) (hb : b < 2147483648) : (nI a < nI b) = (a < b) := propext (nI_ltI (by omega) (by omega))
theorem s_eq {a b : Nat} (ha : a < 2147483648) (hb : b < 2147483648) : (nI a = nI b) = (a = b) := propext (nI_eq (by omega) (by omega))
theorem s_cl {a : Nat} (ha : a < 2147483648) : (nI a).toNatClampNeg = a := nI_clamp (by omega)
theorem s_p (x y z w : Nat) : (x + y * z) = (x + y * z) := rfl
theorem m_toInt : mI.toInt = -1 := rfl
theorem s_em {a : Nat} (ha : a < 2147483648) : (nI a = mI) = False := eq_false (fun e => by rw [i32_eq, i32_num a (by omega), m_toInt] at e; omega)
theorem s_me {a : Nat} (ha : a < 2147483648) : (mI = nI a) = False := eq_false (fun e => by rw [i32_eq, i32_num a (by omega), m_toInt] at e; omega)
theorem s_lm {a : Nat} (ha : a < 2147483648) : (nI a ≤ mI) = False := eq_false (fun e => by rw [i32_le, i32_num a (by omega), m_toInt] at e; omega)
theorem s_ml {a : Nat} (ha : a < 2147483648) : (mI ≤ nI a) = True := eq_true (by rw [i32_le, i32_num a (by omega), m_toInt]; omega)
theorem s_tm {a : Nat} (ha : a < 2147483648) : (nI a < mI) = False := eq_false (fun e => by rw [i32_lt, i32_num a (by omega), m_toInt] at e; omega)
theorem s_mt {a : Nat} (ha : a < 2147483648) : (mI < nI a) = True := eq_true (by rw [i32_lt, i32_num a (by omega), m_toInt]; omega)
theorem s_add (a b : Nat) : nI a + nI b = nI (a + b) := nI_add a b
theorem s_mul (a b : Nat) : nI a * nI b = nI (a * b) := (Int32.ofNat_mul a b).symm
theorem s_sub {a b : Nat} (h : b ≤ a) : nI a - nI b = nI (a - b) := by
  have e : nI a = nI (a - b) + nI b := by rw [s_add, Nat.sub_add_cancel h]
  rw [e, Int32.add_sub_cancel]
theorem s_dn {a : Nat} (h : 1 ≤ a) : nI a + mI = nI (a - 1) := by
  obtain ⟨b, rfl⟩ : ∃ b, a = b + 1 := ⟨a - 1, by omega⟩
  exact dn1 b
theorem s_d0 : nI 0 + mI = mI := by decide +kernel
theorem s_d0' : nI 0 - nI 1 = mI := by decide +kernel
theorem s_leT {a b : Nat} (h : a ≤ b) : (a ≤ b) = True := eq_true h
theorem s_leF {a b : Nat} (h : b < a) : (a ≤ b) = False := eq_false (Nat.not_le.mpr h)
theorem s_ltT {a b : Nat} (h : a < b) : (a < b) = True := eq_true h
theorem s_ltF {a b : Nat} (h : b ≤ a) : (a < b) = False := eq_false (Nat.not_lt.mpr h)
theorem s_eqF {a b : Nat} (h : a ≠ b) : (a = b) = False := eq_false h
theorem s_eqT {a b : Nat} (h : a = b) : (a = b) = True := eq_true h
theorem bd_some {α β : Type} (a : α) (f : α → Option β) : bd (some a) f = f a := Eq.trans rfl rfl
theorem bd2_some {α β γ : Type} (a : α) (b : β) (f : α → β → Option γ) : bd2 (some (a, b)) f = f a b := Eq.trans rfl rfl
theorem te_inl {α β : Type} (v : α) (M : Mm) (f : α → Mm → Option ((β ⊕ Nat) × Mm)) : te (some (.inl v, M)) f = f v M := Eq.trans rfl rfl
theorem te_inr {α β : Type} (k : Nat) (M : Mm) (f : α → Mm → Option ((β ⊕ Nat) × Mm)) : te (some (.inr k, M)) f = some (.inr k, M) := Eq.trans rfl rfl
theorem om_some {β : Type} (i : Nat) (a : β) (f : Nat → β) : om (some i) a f = f i := Eq.trans rfl rfl
theorem om_none {β : Type} (a : β) (f : Nat → β) : om none a f = a := Eq.trans rfl rfl
theorem um_c {M : Mm} {k j a : Nat} {v : Int32} (h : a ≠ k) : um M k j v a = M a := um_fn h
theorem s_div2 {k : Nat} (h : k < 18) : nI k / nI 2 = nI (k / 2) := (show ∀ k ∈ List.range 18, nI k / nI 2 = nI (k / 2) from by decide +kernel) k (List.mem_range.mpr h)
theorem not_f : (¬ False) = True := not_false_eq_true
theorem not_t : (¬ True) = False := not_true_eq_false
theorem lt_n {α β : Type} (a : α) (f : α → β) : lt a f = f a := Eq.trans rfl rfl

