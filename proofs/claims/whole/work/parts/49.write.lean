def ixs : Nat → Int32
  | 0 => -8
  | j + 1 => nI (8 * j)
theorem ixs_dn {j : Nat} (h : j < 8) : nI (8 * j) + (-8 : Int32) = ixs j := by
  rcases (show j = 0 ∨ j = 1 ∨ j = 2 ∨ j = 3 ∨ j = 4 ∨ j = 5 ∨ j = 6 ∨ j = 7 by omega) with rfl | rfl | rfl | rfl | rfl | rfl | rfl | rfl <;> decide +kernel
def bt (a : Int64) (j : Nat) : Int32 := gX7_byteOf a (nI (8 * j))
def cnt (a : Int64) : Nat → Nat
  | 0 => 0
  | j + 1 => (if bt a j = 0 then 0 else 1) + cnt a j
def allT (a : Int64) (j : Nat) : Prop := ∀ i, i < j → bt a i = 0 ∨ gX0_isToken (bt a i) ≠ 0
theorem cnt_le (a : Int64) : ∀ j, cnt a j ≤ j
  | 0 => Nat.le_refl _
  | j + 1 => by
    have := cnt_le a j
    show (if bt a j = 0 then 0 else 1) + cnt a j ≤ j + 1
    split <;> omega
theorem wrC1 {a : Int64} {M : Mm} {E2 : Mm → Option ((Int32 ⊕ Nat) × Mm)} {E5 : Mm → Int32 → Option ((Int32 ⊕ Nat) × Mm)} : ∀ (j fuel x : Nat), j ≤ 8 → j < fuel → (allT a j → gX7_write_L6 a E2 E5 fuel M (nI x) (ixs j) = E5 M (nI (x + cnt a j))) ∧ (¬ allT a j → gX7_write_L6 a E2 E5 fuel M (nI x) (ixs j) = E2 M)
  | 0, fuel, x, _, hf => by
    obtain ⟨f, rfl⟩ : ∃ f, fuel = f + 1 := ⟨fuel - 1, by omega⟩
    refine ⟨fun _ => ?_, fun h => absurd (fun i hi => absurd hi (by omega)) h⟩
    rw [gX7_write_L6, if_pos (by decide)]
    rfl
  | j + 1, fuel, x, hj, hf => by
    obtain ⟨f, rfl⟩ : ∃ f, fuel = f + 1 := ⟨fuel - 1, by omega⟩
    have up : ∀ h : allT a (j + 1), allT a j := fun h i hi => h i (by omega)
    have e : gX7_byteOf a (ixs (j + 1)) = bt a j := rfl
    rw [gX7_write_L6, e, show ixs (j + 1) = nI (8 * j) from rfl, if_neg (nI_pos (by omega)), ixs_dn (by omega), lt_s9, lt_s9, lt_s9, up1]
    by_cases z : bt a j = 0
    · have hc : cnt a (j + 1) = cnt a j := by show (if bt a j = 0 then 0 else 1) + cnt a j = _; rw [if_pos z]; omega
      rw [if_pos z, hc]
      obtain ⟨h1, h2⟩ := wrC1 (a := a) (M := M) (E2 := E2) (E5 := E5) j f x (by omega) (by omega)
      refine ⟨fun h => h1 (up h), fun h => h2 (fun q => h (fun i hi => ?_))⟩
      by_cases ij : i = j
      · rw [ij]; exact Or.inl z
      · exact q i (by omega)
    · have hc : cnt a (j + 1) = 1 + cnt a j := by show (if bt a j = 0 then 0 else 1) + cnt a j = _; rw [if_neg z]
      rw [if_neg z, hc]
      by_cases t : gX0_isToken (bt a j) = 0
      · rw [if_pos t]
        refine ⟨fun h => ?_, fun _ => rfl⟩
        rcases h j (by omega) with q | q
        · exact absurd q z
        · exact absurd t q
      · rw [if_neg t]
        obtain ⟨h1, h2⟩ := wrC1 (a := a) (M := M) (E2 := E2) (E5 := E5) j f (x + 1) (by omega) (by omega)
        refine ⟨fun h => by rw [h1 (up h), show x + 1 + cnt a j = x + (1 + cnt a j) by omega], fun h => h2 (fun q => h (fun i hi => ?_))⟩
        by_cases ij : i = j
        · rw [ij]; exact Or.inr t
        · exact q i (by omega)
theorem wrM1 {a : Int64} {N : Mm} {E3 : Mm → Option (Int32 × Mm)} {E9 : Mm → Int32 → Option (Int32 × Mm)} : ∀ (j fuel x : Nat), j ≤ 8 → j < fuel → (allT a j → gX8_write_L11 a E3 E9 fuel N (nI x) (ixs j) = E9 N (nI (x + cnt a j))) ∧ (¬ allT a j → gX8_write_L11 a E3 E9 fuel N (nI x) (ixs j) = E3 N)
  | 0, fuel, x, _, hf => by
    obtain ⟨f, rfl⟩ : ∃ f, fuel = f + 1 := ⟨fuel - 1, by omega⟩
    refine ⟨fun _ => ?_, fun h => absurd (fun i hi => absurd hi (by omega)) h⟩
    rw [gX8_write_L11, if_pos (by decide)]
    rfl
  | j + 1, fuel, x, hj, hf => by
    obtain ⟨f, rfl⟩ : ∃ f, fuel = f + 1 := ⟨fuel - 1, by omega⟩
    have up : ∀ h : allT a (j + 1), allT a j := fun h i hi => h i (by omega)
    have e : ((((a >>> ((nI (8 * j)).toInt64 &&& 63)) &&& (255 : Int64))).toInt32) = bt a j := (byte_eq a j (by omega)).symm
    have z0 : ∀ y : Int32, y + (0 : Int32) = y := fun y => Int32.add_zero y
    rw [gX8_write_L11, show ixs (j + 1) = nI (8 * j) from rfl, if_neg (nI_pos (by omega)), e, lt_s9, ixs_dn (by omega), lt_s9, lt_s9, up1, z0]
    by_cases z : bt a j = 0
    · have hc : cnt a (j + 1) = cnt a j := by show (if bt a j = 0 then 0 else 1) + cnt a j = _; rw [if_pos z]; omega
      rw [if_pos z, if_pos z, hc]
      obtain ⟨h1, h2⟩ := wrM1 (a := a) (N := N) (E3 := E3) (E9 := E9) j f x (by omega) (by omega)
      refine ⟨fun h => h1 (up h), fun h => h2 (fun q => h (fun i hi => ?_))⟩
      by_cases ij : i = j
      · rw [ij]; exact Or.inl z
      · exact q i (by omega)
    · have hc : cnt a (j + 1) = 1 + cnt a j := by show (if bt a j = 0 then 0 else 1) + cnt a j = _; rw [if_neg z]
      rw [if_neg z, hc, isChar, bd_s9 rfl]
      by_cases t : gX0_isToken (bt a j) = 0
      · rw [if_pos t]
        refine ⟨fun h => ?_, fun _ => rfl⟩
        rcases h j (by omega) with q | q
        · exact absurd q z
        · exact absurd t q
      · rw [if_neg t, if_neg z]
        obtain ⟨h1, h2⟩ := wrM1 (a := a) (N := N) (E3 := E3) (E9 := E9) j f (x + 1) (by omega) (by omega)
        refine ⟨fun h => by rw [h1 (up h), show x + 1 + cnt a j = x + (1 + cnt a j) by omega], fun h => h2 (fun q => h (fun i hi => ?_))⟩
        by_cases ij : i = j
        · rw [ij]; exact Or.inr t
        · exact q i (by omega)
theorem wr2 {Fr : Nat → (Nat → Nat) → Mm → Prop} {a : Int64} : ∀ (j f1 f2 n : Nat) (cd : Nat → Nat) (M N : Mm), j ≤ 8 → j < f1 → j < f2 → allT a j → SrcC M n cd → SrcM N n cd → Val n cd → (M 0 4 = 0 ∨ Fr n cd M) → n + cnt a j ≤ 80 → ∃ (n' : Nat) (cd' : Nat → Nat) (M1 N1 : Mm), gX7_write_L79 a f1 M (ixs j) = some (.inl (nI n'), M1) ∧ gX8_write_L86 a f2 N (ixs j) = some (nI n', N1) ∧ SrcC M1 n' cd' ∧ SrcM N1 n' cd' ∧ Val n' cd' ∧ (M1 0 4 = 0 ∨ Fr n' cd' M1) ∧ N1 0 0 = N 0 0
  | 0, f1, f2, n, cd, M, N, _, h1, h2, _, hC, hM, hV, hF, _ => by
    obtain ⟨g1, rfl⟩ : ∃ f, f1 = f + 1 := ⟨f1 - 1, by omega⟩
    obtain ⟨g2, rfl⟩ : ∃ f, f2 = f + 1 := ⟨f2 - 1, by omega⟩
    refine ⟨n, cd, M, N, ?_, ?_, hC, hM, hV, hF, rfl⟩
    · rw [gX7_write_L79, if_pos (by decide), hC.1]
    · rw [gX8_write_L86, if_pos (by decide), hM.1]
  | j + 1, f1, f2, n, cd, M, N, hj, h1, h2, hT, hC, hM, hV, hF, hn => by
    obtain ⟨g1, rfl⟩ : ∃ f, f1 = f + 1 := ⟨f1 - 1, by omega⟩
    obtain ⟨g2, rfl⟩ : ∃ f, f2 = f + 1 := ⟨f2 - 1, by omega⟩
    have e7 : gX7_byteOf a (ixs (j + 1)) = bt a j := rfl
    have e8 : ((((a >>> ((nI (8 * j)).toInt64 &&& 63)) &&& (255 : Int64))).toInt32) = bt a j := (byte_eq a j (by omega)).symm
    have hTj : allT a j := fun i hi => hT i (by omega)
    rw [gX7_write_L79, gX8_write_L86, e7, show ixs (j + 1) = nI (8 * j) from rfl, if_neg (nI_pos (by omega)), if_neg (nI_pos (by omega)), e8, lt_s9, lt_s9, lt_s9, ixs_dn (by omega)]
    by_cases z : bt a j = 0
    · have hc : cnt a (j + 1) = cnt a j := by show (if bt a j = 0 then 0 else 1) + cnt a j = _; rw [if_pos z]; omega
      rw [if_pos z, if_pos z]
      exact wr2 j g1 g2 n cd M N (by omega) (by omega) (by omega) hTj hC hM hV hF (by omega)
    · have hc : cnt a (j + 1) = 1 + cnt a j := by show (if bt a j = 0 then 0 else 1) + cnt a j = _; rw [if_neg z]
      rw [if_neg z, if_neg z]
      have t : gX0_isToken (bt a j) ≠ 0 := (hT j (by omega)).resolve_left z
      obtain ⟨c, c1, c2, ec⟩ := tok_range t
      rw [ec] at t ⊢
      obtain ⟨M1, m1, m2, m3⟩ := appC (c := c) hC (by omega)
      obtain ⟨N1, n1, n2, n3⟩ := appM (c := c) hM (by omega)
      rw [bd2_s9 m1, bd2_s9 n1, lt_s9, lt_s9]
      obtain ⟨l, hl⟩ := hV.2.2
      have hv : Val (n + 1) (ext cd n c) := Val_app hV (by omega) ⟨Or.inr t, by omega⟩ hl (l' := l) (by unfold stp; rw [if_neg (by omega), if_neg (by omega), if_neg (by omega)])
      obtain ⟨n', cd', M2, N2, r1, r2, r3, r4, r5, r6, r7⟩ := wr2 (Fr := Fr) j g1 g2 (n + 1) (ext cd n c) M1 N1 (by omega) (by omega) (by omega) hTj m2 n2 hv (Or.inl m3) (by omega)
      exact ⟨n', cd', M2, N2, r1, r2, r3, r4, r5, r6, r7.trans n3⟩
theorem a_write {Fr : Nat → (Nat → Nat) → Mm → Prop} (x1 x2 : Int32) : agT (Rl Fr) (fun M => gX7_write M (wArg x1 x2)) (fun N => gX8_write N (wArg x1 x2)) [0, 1] (fun _ => True) := by
  intro M N ⟨n, cd, hC, hM, hV, hF⟩
  dsimp only
  generalize wArg x1 x2 = a
  have hn := hV.1
  have hM0 := hM.thr 0
  have h56 : (56 : Int32) = ixs 8 := by decide +kernel
  have h0 : (0 : Int32) = nI 0 := rfl
  have hc8 := cnt_le a 8
  by_cases hT : allT a 8
  · have k7 : gX7_write M a = if ((M 1 1) + nI (cnt a 8)) ≤ (80 : Int32) then (gX7_write_L79 a FU M (ixs 8)) else some (.inr 1, M) := by
      unfold gX7_write
      rw [lt_s9, lt_s9, h56, h0, (wrC1 8 FU 0 (by decide) (by decide)).1 hT, Nat.zero_add]
    have k8 : gX8_write N a = if ((um N 0 0 0 0 1) + nI (cnt a 8)) ≤ (80 : Int32) then (gX8_write_L86 a FU (um N 0 0 0) (ixs 8)) else some (0, um (um N 0 0 0) 0 0 2) := by
      unfold gX8_write
      rw [lt_s9, lt_s9, lt_s9, h56]
      have := (wrM1 (a := a) (N := um N 0 0 0) (E3 := fun M2 => bd2 (gX8_no M2 (1 : Int32)) fun r6 M5 => some (r6, M5)) (E9 := fun M7 x8 => if ((M7 0 1) + x8) ≤ (80 : Int32) then (gX8_write_L86 a FU M7 (ixs 8)) else bd2 (gX8_no M7 (2 : Int32)) fun r25 M24 => some (r25, M24)) 8 FU 0 (by decide) (by decide)).1 hT
      rw [Nat.zero_add] at this
      exact this
    rw [hC.1, nI_add] at k7
    rw [hM0.1, nI_add] at k8
    by_cases q : n + cnt a 8 ≤ 80
    · have q9 : nI (n + cnt a 8) ≤ (80 : Int32) := (nI_leI (b := 80) (by omega) (by decide)).mpr q
      rw [if_pos q9] at k7 k8
      obtain ⟨n', cd', M1, N1, r1, r2, r3, r4, r5, r6, r7⟩ := wr2 (Fr := Fr) 8 FU FU n cd M (um N 0 0 0) (by decide) (by decide) (by decide) hT hC hM0 hV hF q
      exact ⟨_, M1, _, N1, k7.trans r1, (fun k h => by cases h), k8.trans r2, by rw [r7]; exact um_hit, (fun v h => by cases h; exact ⟨rfl, trivial⟩), n', cd', r3, r4, r5, r6⟩
    · have q9 : ¬ nI (n + cnt a 8) ≤ (80 : Int32) := fun e => q ((nI_leI (b := 80) (by omega) (by decide)).mp e)
      rw [if_neg q9] at k7 k8
      exact ref_s (k := 1) (v := 2) k7 k8 (by decide) (by decide) ⟨n, cd, hC, hM, hV, hF⟩
  · refine ref_s (M := M) (N := N) (k := 0) (v := 1) ?_ ?_ (by decide) (by decide) ⟨n, cd, hC, hM, hV, hF⟩
    · unfold gX7_write
      rw [lt_s9, lt_s9, h56, h0, (wrC1 8 FU 0 (by decide) (by decide)).2 hT]
    · unfold gX8_write
      rw [lt_s9, lt_s9, lt_s9, h56]
      exact (wrM1 (a := a) (N := um N 0 0 0) 8 FU 0 (by decide) (by decide)).2 hT
