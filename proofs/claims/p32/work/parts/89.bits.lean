/-! BITS: sets of configurations and how many they hold -/
def mkS (s : Nat → Bool) : Nat → Nat
  | 0 => 0
  | d + 1 => mkS s d + (if s d then 2 ^ d else 0)
theorem mkS_lt (s : Nat → Bool) : ∀ d, mkS s d < 2 ^ d
  | 0 => Nat.zero_lt_one
  | d + 1 => by
    have := mkS_lt s d
    show mkS s d + (if s d then 2 ^ d else 0) < 2 ^ (d + 1)
    rw [Nat.pow_succ]
    split <;> omega
theorem mkS_congr {s t : Nat → Bool} : ∀ {d : Nat}, (∀ c, c < d → s c = t c) → mkS s d = mkS t d
  | 0, _ => rfl
  | d + 1, h => by
    show mkS s d + (if s d then 2 ^ d else 0) = mkS t d + (if t d then 2 ^ d else 0)
    rw [mkS_congr (fun c hc => h c (by omega)), h d (by omega)]
theorem mkS_bits (k : Nat) : ∀ d, mkS (fun c => k.testBit c) d = k % 2 ^ d
  | 0 => by rw [Nat.pow_zero, Nat.mod_one]; rfl
  | d + 1 => by
    show mkS (fun c => k.testBit c) d + (if k.testBit d then 2 ^ d else 0) = _
    rw [mkS_bits k d, Nat.pow_succ, Nat.mod_mul, Nat.testBit_eq_decide_div_mod_eq]
    rcases Nat.mod_two_eq_zero_or_one (k / 2 ^ d) with e | e
    · rw [e, if_neg (by decide), Nat.mul_zero]
    · rw [e, if_pos (by decide), Nat.mul_one]
def bcF (k : Nat) : Nat :=
  let x1 := k - ((k >>> 1) &&& 1431655765)
  let x2 := (x1 &&& 858993459) + ((x1 >>> 2) &&& 858993459)
  let x3 := (x2 + (x2 >>> 4)) &&& 252645135
  let x4 := x3 + (x3 >>> 8)
  let x5 := x4 + (x4 >>> 16)
  x5 &&& 63
def chB : Nat → Nat → Nat → Bool
  | 0, k, p => bcF k == p
  | d + 1, k, p => chB d k p && chB d (k + 2 ^ d) (p + 1)
theorem chB_16 : chB 16 0 0 = true := by decide +kernel
theorem chB_s : ∀ (d k p : Nat), chB d k p = true → ∀ s : Nat → Bool, bcF (k + mkS s d) = p + sm (fun c => b2 (s c)) d
  | 0, k, p, h, s => eq_of_beq h
  | d + 1, k, p, h, s => by
    have h : (chB d k p && chB d (k + 2 ^ d) (p + 1)) = true := h
    rw [Bool.and_eq_true] at h
    show bcF (k + (mkS s d + (if s d then 2 ^ d else 0))) = p + (sm (fun c => b2 (s c)) d + b2 (s d))
    cases e : s d with
    | false => exact chB_s d k p h.1 s
    | true =>
      have h2 := chB_s d (k + 2 ^ d) (p + 1) h.2 s
      rw [if_pos rfl, show k + (mkS s d + 2 ^ d) = k + 2 ^ d + mkS s d by omega, h2]
      show _ = p + (sm (fun c => b2 (s c)) d + 1)
      omega
theorem i_and (a b : Nat) : nI a &&& nI b = nI (a &&& b) := by
  apply Int32.toBitVec_inj.mp
  show BitVec.ofNat 32 a &&& BitVec.ofNat 32 b = BitVec.ofNat 32 (a &&& b)
  exact BitVec.ofNat_and.symm
theorem i_or (a b : Nat) : nI a ||| nI b = nI (a ||| b) := by
  apply Int32.toBitVec_inj.mp
  show BitVec.ofNat 32 a ||| BitVec.ofNat 32 b = BitVec.ofNat 32 (a ||| b)
  exact BitVec.ofNat_or.symm
theorem i_shr {a s : Nat} (ha : a < 2 ^ 31) (hs : s < 32) : (((nI a).toUInt32 >>> ((nI s).toUInt32 &&& Int32.toUInt32 31)).toInt32) = nI (a >>> s) := by
  have h31 : (nI s).toUInt32 &&& Int32.toUInt32 31 = UInt32.ofNat s := by
    rcases (show s = 0 ∨ s = 1 ∨ s = 2 ∨ s = 3 ∨ s = 4 ∨ s = 5 ∨ s = 6 ∨ s = 7 ∨ s = 8 ∨ s = 9 ∨ s = 10 ∨ s = 11 ∨ s = 12 ∨ s = 13 ∨ s = 14 ∨ s = 15 ∨ s = 16 ∨ s = 17 ∨ s = 18 ∨ s = 19 ∨ s = 20 ∨ s = 21 ∨ s = 22 ∨ s = 23 ∨ s = 24 ∨ s = 25 ∨ s = 26 ∨ s = 27 ∨ s = 28 ∨ s = 29 ∨ s = 30 ∨ s = 31 by omega) with rfl | rfl | rfl | rfl | rfl | rfl | rfl | rfl | rfl | rfl | rfl | rfl | rfl | rfl | rfl | rfl | rfl | rfl | rfl | rfl | rfl | rfl | rfl | rfl | rfl | rfl | rfl | rfl | rfl | rfl | rfl | rfl <;> rfl
  rw [h31]
  apply Int32.toBitVec_inj.mp
  apply BitVec.eq_of_toNat_eq
  show ((nI a).toUInt32 >>> UInt32.ofNat s).toNat = (BitVec.ofNat 32 (a >>> s)).toNat
  rw [UInt32.toNat_shiftRight]
  have e1 : ((nI a).toUInt32).toNat = a := by
    show a % 2 ^ 32 = a
    exact Nat.mod_eq_of_lt (by omega)
  have e2 : (UInt32.ofNat s).toNat = s := by
    show s % 2 ^ 32 = s
    exact Nat.mod_eq_of_lt (by omega)
  have e3 : a >>> s ≤ a := Nat.shiftRight_le a s
  rw [e1, e2, Nat.mod_eq_of_lt hs, BitVec.toNat_ofNat, Nat.mod_eq_of_lt (by omega)]
theorem bc_F {k : Nat} (hk : k < 65536) : gJ6_bitCount_0f7a4 (nI k) = nI (bcF k) := by
  have m1 : (1431655765 : Int32) = nI 1431655765 := by decide +kernel
  have m2 : (858993459 : Int32) = nI 858993459 := by decide +kernel
  have m3 : (252645135 : Int32) = nI 252645135 := by decide +kernel
  have m4 : (63 : Int32) = nI 63 := by decide +kernel
  have l1 : (1 : Int32) = nI 1 := rfl
  have l2 : (2 : Int32) = nI 2 := rfl
  have l4 : (4 : Int32) = nI 4 := rfl
  have l8 : (8 : Int32) = nI 8 := rfl
  have l16 : (16 : Int32) = nI 16 := rfl
  unfold gJ6_bitCount_0f7a4 bcF
  dsimp only
  simp only [lt_n]
  rw [m1, m2, m3, m4, l1, l2, l4, l8, l16]
  have a0 : (k >>> 1) &&& 1431655765 ≤ k := Nat.le_trans Nat.and_le_left (Nat.shiftRight_le k 1)
  rw [i_shr (a := k) (s := 1) (by omega) (by decide), i_and, s_sub a0]
  obtain ⟨x1, h1⟩ : ∃ x1, x1 = k - ((k >>> 1) &&& 1431655765) := ⟨_, rfl⟩
  rw [← h1]
  have b1 : x1 < 65536 := by omega
  have c1 : x1 &&& 858993459 ≤ x1 := Nat.and_le_left
  have c2 : (x1 >>> 2) &&& 858993459 ≤ x1 := Nat.le_trans Nat.and_le_left (Nat.shiftRight_le x1 2)
  rw [i_shr (a := x1) (s := 2) (by omega) (by decide), i_and, i_and, nI_add]
  obtain ⟨x2, h2⟩ : ∃ x2, x2 = (x1 &&& 858993459) + ((x1 >>> 2) &&& 858993459) := ⟨_, rfl⟩
  rw [← h2]
  have c3 : x2 >>> 4 ≤ x2 := Nat.shiftRight_le x2 4
  rw [i_shr (a := x2) (s := 4) (by omega) (by decide), nI_add, i_and]
  obtain ⟨x3, h3⟩ : ∃ x3, x3 = (x2 + (x2 >>> 4)) &&& 252645135 := ⟨_, rfl⟩
  have c4 : (x2 + (x2 >>> 4)) &&& 252645135 ≤ x2 + (x2 >>> 4) := Nat.and_le_left
  rw [← h3]
  have c5 : x3 >>> 8 ≤ x3 := Nat.shiftRight_le x3 8
  rw [i_shr (a := x3) (s := 8) (by omega) (by decide), nI_add]
  obtain ⟨x4, h4⟩ : ∃ x4, x4 = x3 + (x3 >>> 8) := ⟨_, rfl⟩
  rw [← h4]
  rw [i_shr (a := x4) (s := 16) (by omega) (by decide), nI_add, i_and]
theorem bc_S (s : Nat → Bool) : gJ6_bitCount_0f7a4 (nI (mkS s 16)) = nI (sm (fun c => b2 (s c)) 16) := by
  rw [bc_F (mkS_lt s 16)]
  have h := chB_s 16 0 0 chB_16 s
  rw [Nat.zero_add, Nat.zero_add] at h
  rw [h]
def W16 (x : Int32) : Prop := x &&& 65535 = x
theorem W16_and {a : Int32} (b : Int32) (h : W16 a) : W16 (a &&& b) := by
  unfold W16 at h ⊢
  rw [Int32.and_assoc, Int32.and_comm b, ← Int32.and_assoc, h]
theorem W16_S {x : Int32} (h : W16 x) : x = nI (mkS (bth x) 16) := by
  have hk : x = nI x.toBitVec.toNat := by
    apply Int32.toBitVec_inj.mp
    show x.toBitVec = BitVec.ofNat 32 x.toBitVec.toNat
    rw [BitVec.ofNat_toNat, BitVec.setWidth_eq]
  have e : mkS (bth x) 16 = mkS (fun c => x.toBitVec.toNat.testBit c) 16 := mkS_congr (fun c hc => bth_bit hc)
  have h2 : x.toBitVec.toNat % 2 ^ 16 = x.toBitVec.toNat := by
    have h3 := congrArg (fun y : Int32 => y.toBitVec.toNat) h
    have h4 : (x &&& 65535).toBitVec.toNat = x.toBitVec.toNat &&& 65535 := by
      show (x.toBitVec &&& 65535#32).toNat = _
      rw [BitVec.toNat_and]
      rfl
    have h5 : x.toBitVec.toNat &&& 65535 = x.toBitVec.toNat % 2 ^ 16 := Nat.and_two_pow_sub_one_eq_mod _ 16
    rw [← h5, ← h4]
    exact h3
  rw [e, mkS_bits, h2]
  exact hk
theorem bc_W {x : Int32} (h : W16 x) : gJ6_bitCount_0f7a4 x = nI (sm (fun c => b2 (bth x c)) 16) := by
  have h1 := bc_S (bth x)
  rw [← W16_S h] at h1
  exact h1
theorem W16_0 : W16 0 := (by decide +kernel : (0 : Int32) &&& 65535 = 0)
theorem W16_1 : W16 65535 := (by decide +kernel : (65535 : Int32) &&& 65535 = 65535)
/-! presence holds configurations alone -/
theorem ws_16 {cd : Nat → Nat} : ∀ i, W16 (ws cd i).2.1 ∧ ∀ q, q ∈ (ws cd i).2.2 → W16 q.1 ∧ W16 q.2
  | 0 => ⟨W16_1, fun q h => by cases h⟩
  | i + 1 => by
    obtain ⟨h1, h2⟩ := ws_16 (cd := cd) i
    have hz : W16 0 := W16_0
    have hh : W16 ((ws cd i).2.2.headD (0, 0)).1 ∧ W16 ((ws cd i).2.2.headD (0, 0)).2 := by
      cases e : (ws cd i).2.2 with
      | nil => exact ⟨hz, hz⟩
      | cons q r => exact h2 q (by rw [e]; exact List.mem_cons_self)
    show W16 (wstep (cd i) (ws cd i)).2.1 ∧ ∀ q, q ∈ (wstep (cd i) (ws cd i)).2.2 → W16 q.1 ∧ W16 q.2
    unfold wstep
    by_cases a : cd i < 8
    · rw [if_pos a]
      refine ⟨W16_and _ h1, fun q hq => ?_⟩
      rcases List.mem_cons.mp hq with rfl | hq
      · exact ⟨h1, W16_and _ h1⟩
      · exact h2 q hq
    rw [if_neg a]
    by_cases b : cd i < 16
    · rw [if_pos b]
      exact ⟨h1, h2⟩
    rw [if_neg b]
    by_cases c : cd i = 16
    · rw [if_pos c]
      exact ⟨hh.2, h2⟩
    rw [if_neg c]
    by_cases d : cd i = 17
    · rw [if_pos d]
      exact ⟨hh.1, fun q hq => h2 q (List.mem_of_mem_tail hq)⟩
    rw [if_neg d]
    exact ⟨h1, h2⟩
theorem pres_16 (cd : Nat → Nat) (i : Nat) : W16 (pres cd i) := by
  obtain ⟨h1, h2⟩ := ws_16 (cd := cd) i
  have hz : W16 0 := W16_0
  unfold pres
  split
  · cases e : (ws cd i).2.2 with
    | nil => exact hz
    | cons q r => exact (h2 q (by rw [e]; exact List.mem_cons_self)).1
  · exact h1
def pN (cd : Nat → Nat) (i : Nat) : Nat := sm (fun c => b2 (bth (pres cd i) c)) 16
theorem bc_pres (cd : Nat → Nat) (i : Nat) : gJ6_bitCount_0f7a4 (pres cd i) = nI (pN cd i) := bc_W (pres_16 cd i)
theorem pN_16 (cd : Nat → Nat) (i : Nat) : pN cd i ≤ 16 := sm_bd (b := 1) (fun c _ => b2_le _)
theorem grN_pN (cd : Nat → Nat) (i : Nat) : grN cd i ≤ pN cd i := by
  refine Nat.le_trans (grN_alN cd i) (sm_le (fun c hc => ?_))
  unfold al inV
  cases bth (pres cd i) c <;> cases decide (18 ≤ cd i) <;> cases (rd cd c i).isSome <;> decide
/-! the set of the wrong ones -/
theorem sh_1 : ∀ c ∈ List.range 16, (1 : Int32) <<< (nI c &&& 31) = nI (2 ^ c) := by decide +kernel
theorem wrg_S {cd : Nat → Nat} {n : Nat} (hn : n ≤ 80) : ∀ m, m ≤ 16 → itr (fun c x => if eI cd c n = -1 then x else x ||| ((1 : Int32) <<< (nI c &&& 31))) m (0 : Int32) = nI (mkS (fun c => !fin cd c n) m)
  | 0, _ => rfl
  | m + 1, h => by
    show (if eI cd m n = -1 then itr (fun c x => if eI cd c n = -1 then x else x ||| ((1 : Int32) <<< (nI c &&& 31))) m (0 : Int32) else itr (fun c x => if eI cd c n = -1 then x else x ||| ((1 : Int32) <<< (nI c &&& 31))) m (0 : Int32) ||| ((1 : Int32) <<< (nI m &&& 31))) = nI (mkS (fun c => !fin cd c n) m + (if (!fin cd m n) = true then 2 ^ m else 0))
    rw [wrg_S hn m (by omega), sh_1 m (List.mem_range.mpr (by omega)), i_or]
    have hem := eI_m (cd := cd) (c := m) hn
    cases f : fin cd m n with
    | true => rw [if_pos (hem.mpr f)]; rfl
    | false =>
      rw [if_neg (fun w => by have := hem.mp w; rw [f] at this; cases this)]
      have hl := mkS_lt (fun c => !fin cd c n) m
      have h2 := Nat.two_pow_add_eq_or_of_lt hl 1
      rw [Nat.mul_one, Nat.or_comm] at h2
      rw [← h2, Nat.add_comm]
      rfl
theorem bc_wrg {cd : Nat → Nat} {n : Nat} (hn : n ≤ 80) : gJ6_bitCount_0f7a4 (wrg cd n) = nI (eN cd n) := by
  unfold wrg
  rw [wrg_S hn 16 (Nat.le_refl _), bc_S]
  rfl
theorem eN_16 (cd : Nat → Nat) (n : Nat) : eN cd n ≤ 16 := sm_bd (b := 1) (fun c _ => b2_le _)
