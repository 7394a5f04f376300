/-! THE QUOTIENT: between 1 and 16 -/
theorem zm_int {i : Nat} {a : UInt64} (h : Jvm.FP.Core.DInt (i : Int) a) (hp : 0 < i) : ∃ c q, Jvm.FP.Core.val64 a = .fin false c q ∧ Jvm.FP.Core.b64.qmin ≤ q ∧ c * 2 ^ (q - Jvm.FP.Core.b64.qmin).toNat = i * Jvm.FP.Core.one64 := by
  have hz := Jvm.FP.Core.DInt_zval h
  have hn := Jvm.FP.Core.DInt_ne_nan h
  have hf := Jvm.FP.Core.val64_fits a
  have h1 := Jvm.FP.Core.one64_pos
  cases hv : Jvm.FP.Core.val64 a with
  | nan => exact absurd hv hn
  | inf s =>
    exfalso
    have hw : Jvm.FP.Core.Whole (i : Int) (Jvm.FP.Core.val64 a) := h
    rw [hv] at hw
    exact hw
  | fin s c q =>
    rw [hv] at hz hf
    have e : (i : Int) * (Jvm.FP.Core.one64 : Int) = ((i * Jvm.FP.Core.one64 : Nat) : Int) := by rw [Int.natCast_mul]
    have hpos : 0 < i * Jvm.FP.Core.one64 := Nat.mul_pos hp h1
    rw [e] at hz
    unfold Jvm.FP.Core.zval Jvm.FP.Core.sgn Jvm.FP.Core.zmag Jvm.FP.Core.inUnits Jvm.FP.Core.signed at hz
    cases s with
    | true =>
      exfalso
      simp only [if_true] at hz
      omega
    | false =>
      simp only [Bool.false_eq_true, if_false] at hz
      exact ⟨c, q, rfl, hf.2.1, by omega⟩
theorem quo_b {k1 k2 v : Nat} {x y w : UInt64} (hx : Jvm.FP.Core.DInt (k1 : Int) x) (hy : Jvm.FP.Core.DInt (k2 : Int) y) (hw : Jvm.FP.Core.DInt (v : Int) w) (h1 : 0 < k1) (h2 : 0 < k2) (hv : 0 < v) : (v * k2 ≤ k1 → Jvm.FP.Core.zval Jvm.FP.Core.b64 (Jvm.FP.Core.val64 w) ≤ Jvm.FP.Core.zval Jvm.FP.Core.b64 (Jvm.FP.Core.val64 (Jvm.FP.Core.ddiv x y))) ∧ (k1 ≤ v * k2 → Jvm.FP.Core.zval Jvm.FP.Core.b64 (Jvm.FP.Core.val64 (Jvm.FP.Core.ddiv x y)) ≤ Jvm.FP.Core.zval Jvm.FP.Core.b64 (Jvm.FP.Core.val64 w)) := by
  obtain ⟨c, q, ex, hq, hc⟩ := zm_int hx h1
  obtain ⟨d, r, ey, hr, hd⟩ := zm_int hy h2
  obtain ⟨u, t, ew, ht, hu⟩ := zm_int hw hv
  have hone := Jvm.FP.Core.one64_pos
  have hd0 : 0 < d := by
    rcases Nat.eq_zero_or_pos d with e | e
    · rw [e, Nat.zero_mul] at hd
      have := Nat.mul_pos h2 hone
      omega
    · exact e
  have hV : Jvm.FP.Core.fits Jvm.FP.Core.b64 (.fin false u t) := by rw [← ew]; exact Jvm.FP.Core.val64_fits w
  have hqm : Jvm.FP.Core.b64.qmin = -1074 := by decide
  have hval : Jvm.FP.Core.val64 (Jvm.FP.Core.ddiv x y) = Jvm.FP.Core.roundRatio Jvm.FP.Core.b64 false c d (q - r) := by
    rw [Jvm.FP.Core.val64_ddiv, ex, ey]
    show (if d = 0 then _ else Jvm.FP.Core.roundRatio Jvm.FP.Core.b64 (false != false) c d (q - r)) = _
    rw [if_neg (by omega)]
    rfl
  obtain ⟨Z, hZ⟩ : ∃ Z : Nat, (q - Jvm.FP.Core.b64.qmin).toNat = Z := ⟨_, rfl⟩
  obtain ⟨P, hP⟩ : ∃ P : Nat, (r - Jvm.FP.Core.b64.qmin).toNat = P := ⟨_, rfl⟩
  rw [hZ] at hc
  rw [hP] at hd
  have hzv : Jvm.FP.Core.zmag Jvm.FP.Core.b64 (.fin false u t) = v * Jvm.FP.Core.one64 := hu
  have e1 : (Jvm.FP.Core.b64.qmin - (Jvm.FP.Core.b64.qmin - (P : Int))).toNat = P := by omega
  have e2 : (q - r - (Jvm.FP.Core.b64.qmin - (P : Int))).toNat = Z + 1074 := by omega
  have hin : Jvm.FP.Core.inUnits c (q - r) (Jvm.FP.Core.b64.qmin - (P : Int)) = k1 * Jvm.FP.Core.one64 * 2 ^ 1074 := by
    show c * 2 ^ (q - r - (Jvm.FP.Core.b64.qmin - (P : Int))).toNat = _
    rw [e2, Nat.pow_add, ← Nat.mul_assoc, hc]
  have hlhs : Jvm.FP.Core.zmag Jvm.FP.Core.b64 (.fin false u t) * 2 ^ (Jvm.FP.Core.b64.qmin - (Jvm.FP.Core.b64.qmin - (P : Int))).toNat * d = v * k2 * Jvm.FP.Core.one64 * 2 ^ 1074 := by
    rw [hzv, e1, Nat.mul_assoc, Nat.mul_comm (2 ^ P) d, hd]
    show v * Jvm.FP.Core.one64 * (k2 * Jvm.FP.Core.one64) = v * k2 * Jvm.FP.Core.one64 * Jvm.FP.Core.one64
    rw [Nat.mul_assoc v, ← Nat.mul_assoc Jvm.FP.Core.one64 k2, Nat.mul_comm Jvm.FP.Core.one64 k2, Nat.mul_assoc v k2, Nat.mul_assoc v, ← Nat.mul_assoc]
  have sg : ∀ m : Nat, Jvm.FP.Core.signed false m = (m : Int) := fun m => rfl
  have zl : Jvm.FP.Core.zval Jvm.FP.Core.b64 (Jvm.FP.Core.val64 w) = (Jvm.FP.Core.zmag Jvm.FP.Core.b64 (.fin false u t) : Int) := by rw [ew]; rfl
  have zr : Jvm.FP.Core.zval Jvm.FP.Core.b64 (Jvm.FP.Core.val64 (Jvm.FP.Core.ddiv x y)) = (Jvm.FP.Core.zmag Jvm.FP.Core.b64 (Jvm.FP.Core.roundRatio Jvm.FP.Core.b64 false c d (q - r)) : Int) := by
    rw [hval]
    unfold Jvm.FP.Core.zval
    rw [Jvm.FP.Core.sgn_roundRatio]
    rfl
  rw [zl, zr]
  refine ⟨fun h => ?_, fun h => ?_⟩
  · have k := Jvm.FP.Core.zmag_roundRatio_ge Jvm.FP.Core.good_b64 (s := false) (A := c) (B := d) (e := q - r) (e0 := Jvm.FP.Core.b64.qmin - (P : Int)) (V := .fin false u t) hd0 hV (by omega) (by omega) (by
      rw [hlhs, hin]
      exact Nat.mul_le_mul_right _ (Nat.mul_le_mul_right _ h))
    exact Int.ofNat_le.mpr k
  · have k := Jvm.FP.Core.zmag_roundRatio_le Jvm.FP.Core.good_b64 (s := false) (A := c) (B := d) (e := q - r) (e0 := Jvm.FP.Core.b64.qmin - (P : Int)) (V := .fin false u t) hd0 hV (by intro h; cases h) (by omega) (by omega) (by
      rw [hlhs, hin]
      exact Nat.mul_le_mul_right _ (Nat.mul_le_mul_right _ h))
    exact Int.ofNat_le.mpr k
theorem d1_int : Jvm.FP.Core.DInt ((1 : Nat) : Int) Jvm.FP.Core.dconst1 := by
  have h := Jvm.FP.Core.i2d_int 1
  have e : Jvm.FP.Core.i2d 1 = Jvm.FP.Core.dconst1 := by decide +kernel
  rw [e] at h
  exact h
theorem d16_int : Jvm.FP.Core.DInt ((16 : Nat) : Int) (4625196817309499392 : UInt64) := by
  have h := Jvm.FP.Core.i2d_int 16
  have e : Jvm.FP.Core.i2d 16 = (4625196817309499392 : UInt64) := by decide +kernel
  rw [e] at h
  exact h
theorem gain_c {a b : Nat} (hb : 0 < b) (h1 : b ≤ a) (h2 : a ≤ 16 * b) (ha : a < 2 ^ 31) : ¬ Op.cmpValue (FP.dcmp (FP.ddiv (FP.i2d (nI a)) (FP.i2d (nI b))) FP.dconst1) .l < 0 ∧ ¬ 0 < Op.cmpValue (FP.dcmp (FP.ddiv (FP.i2d (nI a)) (FP.i2d (nI b))) (4625196817309499392 : UInt64)) .g := by
  have hx : Jvm.FP.Core.DInt (a : Int) (Jvm.FP.Core.i2d (nI a)) := by
    have h := Jvm.FP.Core.i2d_int (nI a)
    rw [nI_toInt ha] at h
    exact h
  have hy : Jvm.FP.Core.DInt (b : Int) (Jvm.FP.Core.i2d (nI b)) := by
    have h := Jvm.FP.Core.i2d_int (nI b)
    rw [nI_toInt (by omega)] at h
    exact h
  have hn : Jvm.FP.Core.val64 (Jvm.FP.Core.ddiv (Jvm.FP.Core.i2d (nI a)) (Jvm.FP.Core.i2d (nI b))) ≠ .nan := by
    rw [Jvm.FP.Core.val64_ddiv]
    obtain ⟨c, q, ex, -, -⟩ := zm_int hx (by omega)
    obtain ⟨d, r, ey, -, hd⟩ := zm_int hy hb
    rw [ex, ey]
    have hone := Jvm.FP.Core.one64_pos
    have hd0 : d ≠ 0 := fun e => by
      rw [e, Nat.zero_mul] at hd
      have := Nat.mul_pos hb hone
      omega
    show (if d = 0 then _ else Jvm.FP.Core.roundRatio Jvm.FP.Core.b64 (false != false) c d (q - r)) ≠ _
    rw [if_neg hd0]
    exact Jvm.FP.Core.roundRatio_ne_nan _ _ _ _ _
  have g1 := (quo_b hx hy d1_int (by omega) hb (by decide)).1 (by omega)
  have g2 := (quo_b hx hy d16_int (by omega) hb (by decide)).2 h2
  have n1 := Jvm.FP.Core.DInt_ne_nan d1_int
  have n2 := Jvm.FP.Core.DInt_ne_nan d16_int
  refine ⟨?_, ?_⟩
  · rcases Jvm.FP.Core.dcmp_ge.mpr ⟨hn, n1, g1⟩ with h | h
    · have h : FP.dcmp (FP.ddiv (FP.i2d (nI a)) (FP.i2d (nI b))) FP.dconst1 = some .gt := h
      rw [h]; decide
    · have h : FP.dcmp (FP.ddiv (FP.i2d (nI a)) (FP.i2d (nI b))) FP.dconst1 = some .eq := h
      rw [h]; decide
  · rcases Jvm.FP.Core.dcmp_le.mpr ⟨hn, n2, g2⟩ with h | h
    · have h : FP.dcmp (FP.ddiv (FP.i2d (nI a)) (FP.i2d (nI b))) (4625196817309499392 : UInt64) = some .lt := h
      rw [h]; decide
    · have h : FP.dcmp (FP.ddiv (FP.i2d (nI a)) (FP.i2d (nI b))) (4625196817309499392 : UInt64) = some .eq := h
      rw [h]; decide
/-- what the law finds of the gain -/
theorem gain_law {cd : Nat → Nat} {n : Nat} (hn : n ≤ 80) : (gnV cd n = FP.dconst0) ∨ (¬ Op.cmpValue (FP.dcmp (gnV cd n) FP.dconst1) .l < 0 ∧ ¬ 0 < Op.cmpValue (FP.dcmp (gnV cd n) (4625196817309499392 : UInt64)) .g) := by
  obtain ⟨g1, g2, g3⟩ := gain_b cd n
  unfold gnV
  rw [wk_N, aln_N]
  by_cases z : nI (wkN cd n) = 0
  · rw [if_pos z]
    exact Or.inl rfl
  · rw [if_neg z]
    have hz : 0 < wkN cd n := by
      rcases Nat.eq_zero_or_pos (wkN cd n) with e | e
      · rw [e] at z
        exact absurd rfl z
      · exact e
    exact Or.inr (gain_c hz g1 g2 (by omega))
theorem gain_zero : Op.cmpValue (FP.dcmp FP.dconst0 FP.dconst0) .l = 0 := by decide +kernel
