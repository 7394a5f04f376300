/-! gain -/
theorem n64_of {r : UInt64} (h : r.toNat % 2 ^ 63 ≤ 9218868437227405312) : vf_n64 r := by
  unfold vf_n64
  rw [UInt64.le_iff_toNat_le, UInt64.toNat_and]
  have h1 : (0x7fffffffffffffff : UInt64).toNat = 2 ^ 63 - 1 := by decide
  have h2 : (0x7ff0000000000000 : UInt64).toNat = 9218868437227405312 := by decide
  rw [h1, h2, Nat.and_two_pow_sub_one_eq_mod]
  exact h
theorem div_n64 (a b : Int32) (hb : b ≠ 0) : vf_n64 (FP.ddiv (FP.i2d a) (FP.i2d b)) := by
  have fa := (Jvm.FP.Core.fin_bits _).mp (Jvm.FP.Core.i2d_fin a)
  have na : Jvm.FP.Core.dIsNaN (Jvm.FP.Core.i2d a) = false := by
    cases h : Jvm.FP.Core.dIsNaN (Jvm.FP.Core.i2d a) with
    | false => rfl
    | true => have := (Jvm.FP.Core.isNaN_bits _).mp h; omega
  have nz : ¬ Jvm.FP.Core.DZero (Jvm.FP.Core.i2d b) := fun h => Jvm.FP.Core.i2d_ne_zero hb ((Jvm.FP.Core.zero_bits2 _).mp h)
  have hd := Jvm.FP.Core.ddiv_out na (Jvm.FP.Core.i2d_fin b) nz
  refine n64_of ?_
  show (Jvm.FP.Core.ddiv (Jvm.FP.Core.i2d a) (Jvm.FP.Core.i2d b)).toNat % 2 ^ 63 ≤ _
  by_cases g : (Jvm.FP.Core.ddiv (Jvm.FP.Core.i2d a) (Jvm.FP.Core.i2d b)).toNat % 2 ^ 63 ≤ 9218868437227405312
  · exact g
  · have := (Jvm.FP.Core.isNaN_bits (Jvm.FP.Core.ddiv (Jvm.FP.Core.i2d a) (Jvm.FP.Core.i2d b))).mpr (by omega)
    rw [hd] at this
    cases this
theorem zero_n64 : vf_n64 FP.dconst0 := n64_of (by decide)
/-- the place of an error, against items -/
theorem er_spec {cd : Nat → Nat} {c : Nat} : ∀ {n : Nat}, rd cd c n = none → rd cd c (er cd c n) ≠ none ∧ rd cd c (er cd c n + 1) = none
  | 0, h => by cases h
  | n + 1, h => by
    show rd cd c (if rd cd c n ≠ none ∧ rd cd c (n + 1) = none then n else er cd c n) ≠ none ∧ rd cd c ((if rd cd c n ≠ none ∧ rd cd c (n + 1) = none then n else er cd c n) + 1) = none
    by_cases a : rd cd c n = none
    · rw [if_neg (fun w => w.1 a)]
      exact er_spec a
    · rw [if_pos ⟨a, h⟩]
      exact ⟨a, h⟩
theorem er_item {cd : Nat → Nat} {c n i : Nat} (hi : i < n) : (rd cd c i = none) ↔ (fin cd c n = false ∧ erP cd c n < i) := by
  cases h : rd cd c n with
  | some s =>
    have h1 : rd cd c i ≠ none := fun w => by have := rd_none w n (by omega); rw [h] at this; cases this
    have h2 : erP cd c n = n := by unfold erP; rw [h]
    rw [h2]
    exact ⟨fun w => absurd w h1, fun w => by omega⟩
  | none =>
    have h2 : erP cd c n = er cd c n := by unfold erP; rw [h]
    have h3 : fin cd c n = false := by unfold fin; rw [h]
    obtain ⟨e1, e2⟩ := er_spec h
    rw [h2, h3]
    constructor
    · intro w
      refine ⟨rfl, ?_⟩
      by_cases z : er cd c n < i
      · exact z
      · exact absurd (rd_none w (er cd c n) (by omega)) e1
    · intro ⟨_, w⟩
      exact rd_none e2 i (by omega)
theorem hgt_sum {cd : Nat → Nat} {c : Nat} (x : Int32) : ∀ n, itr (fun i y => y + bI (al cd c i)) n x = x + nI (hgt cd c n).length
  | 0 => (Int32.add_zero x).symm
  | n + 1 => by
    show itr (fun i y => y + bI (al cd c i)) n x + bI (al cd c n) = x + nI (if inV cd c n = true then (match rd cd c n with | some s => hgt cd c n ++ [s.length] | none => hgt cd c n) else hgt cd c n).length
    rw [hgt_sum x n]
    unfold al
    by_cases a : inV cd c n = true
    · rw [if_pos a, a, Bool.true_and]
      cases rd cd c n with
      | none => exact Int32.add_zero _
      | some s =>
        show x + nI (hgt cd c n).length + 1 = x + nI (hgt cd c n ++ [s.length]).length
        rw [List.length_append, Int32.add_assoc]
        congr 1
        exact nI_1 _
    · rw [if_neg a, show inV cd c n = false from by cases h : inV cd c n with
        | true => exact absurd h a
        | false => rfl, Bool.false_and]
      exact Int32.add_zero _
def aln (cd : Nat → Nat) (n : Nat) : Int32 := itr (fun c x => x + nI (hgt cd c n).length) 16 0
theorem gainI {N : Mm} {n : Nat} {cd : Nat → Nat} (hV : Val n cd) (hM : SrcM N n cd) (hP : ∀ j, j < n → N 2 j = pres cd j) (hE : ∀ c, c < 16 → N 6 c = eI cd c n) {c : Nat} (hc : c < 16) (x : Int32) {E : Mm → Int32 → Int32 → Option (UInt64 × Mm)} : gX8_gain_L41 E FU N x (nI c) (nI 0) = E N (x + nI (hgt cd c n).length) (nI c) := by
  have hn := hV.1
  have hp := erP_le (cd := cd) (c := c) (n := n)
  rw [← hgt_sum]
  exact g_for (f := fun k x i => gX8_gain_L41 E k N x (nI c) i) (E := fun x => E N x (nI c)) (m := n) (fun k x i hi => by
    rw [gX8_gain_L41, hM.1]
    by_cases h : i = n
    · rw [h, if_pos (nI_le (Nat.le_refl _) (by omega)), if_pos rfl]
    · have hi' : i < n := by omega
      have ck : ∀ {α : Type} {y : Option α}, (if (nI c < 0 ∨ 16 ≤ (nI c).toNatClampNeg) then none else y) = y := ckI (by omega) (by decide)
      rw [if_neg (nI_ge (by omega) (by omega)), if_neg h, tokM hM hV hi', bd_some, ckI (show i < 80 by omega) (by decide), cI (show i < 2 ^ 31 by omega), hP i hi', has_bt]
      simp only [ck, lt_n, up1]
      rw [cI (show c < 2 ^ 31 by omega), hE c hc]
      have hal : al cd c i = (decide (18 ≤ cd i) && bth (pres cd i) c && (rd cd c i).isSome) := rfl
      rw [hal]
      have z0 : x + (0 : Int32) = x := Int32.add_zero x
      cases decide (18 ≤ cd i) with
      | false => rw [if_pos (show bI false = 0 from rfl)]; rfl
      | true =>
        rw [if_neg (show ¬ bI true = 0 by decide)]
        cases bth (pres cd i) c with
        | false => rw [if_pos (show bI false = 0 from rfl)]; rfl
        | true =>
          rw [if_neg (show ¬ bI true = 0 by decide), Bool.true_and, Bool.true_and]
          have hit := er_item (cd := cd) (c := c) hi'
          have hem := eI_m (cd := cd) (c := c) hn
          by_cases z : eI cd c n = -1
          · have hf := hem.mp z
            rw [if_pos z]
            cases hr : rd cd c i with
            | none => have := hit.mp hr; rw [hf] at this; cases this.1
            | some s => rfl
          · have hf : fin cd c n = false := by cases h : fin cd c n with
              | true => exact absurd (hem.mpr h) z
              | false => rfl
            have he : eI cd c n = nI (erP cd c n) := by unfold eI; rw [hf]; rfl
            rw [if_neg z, he]
            by_cases y : erP cd c n < i
            · rw [if_pos (nI_lt y (by omega)), hit.mpr ⟨hf, y⟩]; rfl
            · rw [if_neg (nI_nlt (by omega) (by omega))]
              cases hr : rd cd c i with
              | none => exact absurd (hit.mp hr).2 y
              | some s => rfl) (fuel := FU) (x := x) (by unfold FU; omega)
theorem a_gain (x1 x2 : Int32) : agT (Rl Fs) (fun M => gX7_gain M) (fun N => gX8_gain N) [1] vf_n64 := by
  intro M N ⟨n, cd, hC, hM, hV, hF⟩
  dsimp only
  have hn := hV.1
  obtain ⟨l, hl⟩ := hV.2.2
  have hw := whM hM hV hl
  by_cases w : l = []
  · have hM0 := hM.thr 0
    obtain ⟨M1, m1, m2, m3⟩ := freshC hC hV hF
    obtain ⟨N1, n1, n2, n3, n4, n5, n6, n7⟩ := readM hM0 hV
    have hN1 : SrcM N1 n cd := ⟨by rw [n2 0 (by decide)]; exact hM0.1, fun j hj => by rw [n2 1 (by decide)]; exact hM0.2 j hj⟩
    have m4 := m3.2.2 (by rw [hl, w])
    have hz : N1 0 0 = 0 := by rw [n2 0 (by decide), um_hit]
    have sC := sumC hn m2 m4.2.1
    have sM := sumM hn hN1 n7
    -- the class's sum of the tokens that are read
    have alC : ∀ E, gX7_gain_L23 E FU M1 (wk cd n) (nI 0) (nI 0) = E M1 (wk cd n) (aln cd n) := fun E => g_for (f := fun k x i => gX7_gain_L23 E k M1 (wk cd n) x i) (E := fun x => E M1 (wk cd n) x) (m := 16) (fun k x c hc => by
      rw [gX7_gain_L23]
      by_cases h : c = 16
      · rw [h, if_pos (by decide), if_pos rfl]
      · rw [if_neg (show ¬ (16 : Int32) ≤ nI c from nI_ge (b := 16) (by omega) (by decide)), if_neg h, ckI (show c < 16 by omega) (by decide), cI (show c < 2 ^ 31 by omega), lt_n, (m4.1 c (by omega)).2.1, lt_n, lt_n, up1]) (fuel := FU) (x := nI 0) (by unfold FU; omega)
    have alM : ∀ E, gX8_gain_L33 E FU N1 (nI 0) (nI 0) = E N1 (aln cd n) := fun E => g_for (f := fun k x i => gX8_gain_L33 E k N1 x i) (E := fun x => E N1 x) (m := 16) (fun k x c hc => by
      rw [gX8_gain_L33]
      by_cases h : c = 16
      · rw [h, if_pos (by decide), if_pos rfl]
      · rw [if_neg (show ¬ (16 : Int32) ≤ nI c from nI_ge (b := 16) (by omega) (by decide)), if_neg h, lt_n, show (0 : Int32) = nI 0 from rfl, gainI hV hN1 (fun j hj => (n4 j hj).1) n5 (by omega), lt_n, up1]) (fuel := FU) (x := nI 0) (by unfold FU; omega)
    have e8 : gX8_gain N = if wk cd n = 0 then some (FP.dconst0, N1) else if ¬ ((FP.ddiv (FP.i2d (aln cd n)) (FP.i2d (wk cd n))) &&& 0x7fffffffffffffff ≤ (0x7ff0000000000000 : UInt64)) then none else some ((FP.ddiv (FP.i2d (aln cd n)) (FP.i2d (wk cd n))), N1) := by
      unfold gX8_gain
      rw [hw, if_pos w, bd_some, lt_n, if_neg (show ¬ (1 : Int32) = 0 by decide)]
      dsimp only
      rw [lt_n, um_hit, if_pos rfl, n1, bd_some, lt_n]
      have a2 := alM (fun (M11 : Mm) (x12 : Int32) => bd (gX8_sumOfGroups M11 ) fun r14 => if r14 = 0 then (some (FP.dconst0, M11)) else bd (gX8_sumOfGroups M11 ) fun r17 => if ¬ ((FP.ddiv (FP.i2d x12) (FP.i2d r17)) &&& 0x7fffffffffffffff ≤ (0x7ff0000000000000 : UInt64)) then none else some ((FP.ddiv (FP.i2d x12) (FP.i2d r17)), M11))
      refine a2.trans ?_
      rw [sM, bd_some, bd_some]
    have e7 : gX7_gain M = if wk cd n = 0 then some (.inl FP.dconst0, M1) else if ¬ ((FP.ddiv (FP.i2d (aln cd n)) (FP.i2d (wk cd n))) &&& 0x7fffffffffffffff ≤ (0x7ff0000000000000 : UInt64)) then none else some (.inl (FP.ddiv (FP.i2d (aln cd n)) (FP.i2d (wk cd n))), M1) := by
      unfold gX7_gain
      rw [finC hC hV hl, if_pos w, te_inl, m1, bd_some, sC, bd_some, lt_n]
      have a2 := alC (fun (M12 : Mm) (x13 : Int32) (x14 : Int32) => if ¬ ((FP.ddiv (FP.i2d x14) (FP.i2d x13)) &&& 0x7fffffffffffffff ≤ (0x7ff0000000000000 : UInt64)) then none else some (Sum.inl (FP.ddiv (FP.i2d x14) (FP.i2d x13)), M12))
      by_cases z : wk cd n = 0
      · rw [if_pos z, if_pos z]
      · rw [if_neg z, if_neg z]; exact a2
    by_cases z : wk cd n = 0
    · rw [if_pos z] at e7 e8
      exact val_s (N1 := N1) (v := FP.dconst0) e7 e8 hz zero_n64 m2 hN1 hV (Or.inr m3)
    · have nn := div_n64 (aln cd n) (wk cd n) z
      have nn2 : ¬ ¬ ((FP.ddiv (FP.i2d (aln cd n)) (FP.i2d (wk cd n))) &&& 0x7fffffffffffffff ≤ (0x7ff0000000000000 : UInt64)) := fun h => h nn
      rw [if_neg z, if_neg nn2] at e7 e8
      exact val_s (N1 := N1) e7 e8 hz nn m2 hN1 hV (Or.inr m3)
  · refine no_g (k := 1) (w := FP.dconst0) (v := 1) ?_ ?_ (by decide) um_hit (by decide) hC (hM.thr 1) hV hF
    · unfold gX7_gain
      rw [finC hC hV hl, if_neg w, te_x rfl]
    · unfold gX8_gain
      rw [hw, if_neg w, bd_some, lt_n, if_pos rfl]
      dsimp only
      rw [lt_n, um_hit, if_neg (show ¬ (1 : Int32) = 0 by decide)]
