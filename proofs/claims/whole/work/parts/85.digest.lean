/-! digest -/
def mxO (os : List Int32) (x : Int64) : Int64 := itr (fun k y => (y * (31 : Int64)) + (os.getD k 0).toInt64) os.length x
def mxV (cd : Nat → Nat) (n c : Nat) (x : Int64) : Int64 := if fin cd c n = true then mxO (res cd c n).2 (((x * (31 : Int64)) + (eI cd c n).toInt64) * (31 : Int64) + (nI (res cd c n).2.length).toInt64) else (x * (31 : Int64)) + (eI cd c n).toInt64
def mxI (cd : Nat → Nat) (n : Nat) : Int64 := itr (fun i x => (((x * (31 : Int64)) + (nI (cd i)).toInt64) * (31 : Int64)) + (pres cd i).toInt64) n ((4309 : Int64) + (nI n).toInt64)
theorem mixC {M : Mm} {n c : Nat} {cd : Nat → Nat} (hn : n ≤ 80) (hR : FRd cd n M c) (hU : fin cd c n = true → FRun cd n M c) (x0 : Int64) : gX7_mixVariant M x0 c = some (mxV cd n c x0) := by
  have hem := eI_m (cd := cd) (c := c) hn
  unfold gX7_mixVariant
  rw [lt_n, hR.1]
  unfold mxV
  by_cases hf : fin cd c n = true
  · have hu := hU hf
    have hlen := (res_ok hn hf).2
    rw [if_pos (hem.mpr hf), lt_n, hu.1, if_pos hf]
    exact g_for (f := fun k x i => gX7_mixVariant_L44 M x0 c k x c i) (E := fun x => some x) (m := (res cd c n).2.length) (fun k x i hi => by
      rw [gX7_mixVariant_L44, hu.1]
      by_cases h : i = (res cd c n).2.length
      · rw [h, if_pos (nI_le (Nat.le_refl _) (by omega)), if_pos rfl]
      · rw [if_neg (nI_ge (by omega) (by omega)), if_neg h, ckI (show i < 80 by omega) (by decide), cI (show i < 2 ^ 31 by omega), lt_n, lt_n, up1, hu.2.1 i (by omega)]
        rfl) (fuel := FU) (x := _) (by unfold FU; omega)
  · rw [if_neg (fun w => hf (hem.mp w)), if_neg hf]
    rfl
def DI (cd : Nat → Nat) (n : Nat) (s : Mm) : Prop := SrcM s n cd ∧ (∀ j, j < n → s 2 j = pres cd j) ∧ ∀ c, c < 16 → s 6 c = eI cd c n
theorem digM {N : Mm} {n : Nat} {cd : Nat → Nat} (hV : Val n cd) (hI : DI cd n N) (x : Int64) : ∃ N', gX8_digest_L76 FU N x (nI 0) = some (itr (fun c y => mxV cd n c y) 16 x, N') ∧ DI cd n N' := by
  have hn := hV.1
  refine g_forI (f := fun k s x i => gX8_digest_L76 k s x i) (E := fun s x => some (x, s)) (m := 16) (fun _ s => DI cd n s) (fun k S x c hc hI => ?_) (fun k s x _ => ?_) (by unfold FU; omega) hI
  · obtain ⟨i1, i2, i3⟩ := hI
    have ck : ∀ {α : Type} {y : Option α}, (if (nI c < 0 ∨ 16 ≤ (nI c).toNatClampNeg) then none else y) = y := ckI (by omega) (by decide)
    have hem := eI_m (cd := cd) (c := c) hn
    by_cases hf : fin cd c n = true
    · obtain ⟨N2, r1, r2, r3, r4, r5, r6⟩ := runM (c := c) i1 hV i2 hf
      have hlen := (res_ok hn hf).2
      refine ⟨N2, ?_, ⟨by rw [r6 1 (by decide) (by decide)]; exact i1.1, fun j hj => by rw [r5 1 (by decide) (by decide) (by decide) (by decide)]; exact i1.2 j hj⟩, fun j hj => by rw [r5 2 (by decide) (by decide) (by decide) (by decide)]; exact i2 j hj, fun b hb => by rw [r5 6 (by decide) (by decide) (by decide) (by decide)]; exact i3 b hb⟩
      have lp : ∀ (E : Mm → Int64 → Int32 → Option (Int64 × Mm)) (y : Int64), gX8_digest_L129 E FU N2 y (nI c) (nI 0) = E N2 (mxO (res cd c n).2 y) (nI c) := fun E y => g_for (f := fun k y i => gX8_digest_L129 E k N2 y (nI c) i) (E := fun y => E N2 y (nI c)) (m := (res cd c n).2.length) (fun k x i hi => by
        rw [gX8_digest_L129, r2]
        by_cases h : i = (res cd c n).2.length
        · rw [h, if_pos (nI_le (Nat.le_refl _) (by omega)), if_pos rfl]
        · rw [if_neg (nI_ge (by omega) (by omega)), if_neg h, ckI (show i < 80 by omega) (by decide), cI (show i < 2 ^ 31 by omega), lt_n, lt_n, up1, r3 i (by omega)]) (fuel := FU) (x := y) (by unfold FU; omega)
      rw [gX8_digest_L76, if_neg (show ¬ (16 : Int32) ≤ nI c from nI_ge (b := 16) hc (by decide))]
      simp only [ck]
      rw [cI (show c < 2 ^ 31 by omega), i3 c hc, lt_n, if_pos (hem.mpr hf), r1, bd_some, lt_n, r2, lt_n]
      rw [show nI 0 = (0 : Int32) from rfl] at lp
      rw [lp, lt_n, up1]
      unfold mxV
      rw [if_pos hf]
    · refine ⟨S, ?_, i1, i2, i3⟩
      rw [gX8_digest_L76, if_neg (show ¬ (16 : Int32) ≤ nI c from nI_ge (b := 16) hc (by decide))]
      simp only [ck]
      rw [cI (show c < 2 ^ 31 by omega), i3 c hc, lt_n, if_neg (fun w => hf (hem.mp w)), lt_n, up1]
      unfold mxV
      rw [if_neg hf]
  · show gX8_digest_L76 (k + 1) s x (nI 16) = some (x, s)
    rw [gX8_digest_L76, if_pos (by decide)]
theorem a_digest : agW (Rl Fs) (fun M => gX7_digest M) (fun N => gX8_digest N) := by
  intro M N ⟨n, cd, hC, hM, hV, hF⟩
  dsimp only
  have hM0 := hM.thr 0
  have hn := hV.1
  obtain ⟨l, hl⟩ := hV.2.2
  have h5 := st_len hl
  obtain ⟨M1, m1, m2, m3⟩ := freshC hC hV hF
  obtain ⟨N1, n1, n2, n3⟩ := lookM hM0 hV
  have hN1 : SrcM N1 n cd := ⟨by rw [n3 0 (by decide) (by decide)]; exact hM0.1, fun j hj => by rw [n3 1 (by decide) (by decide)]; exact hM0.2 j hj⟩
  have itC : ∀ E, gX7_digest_L21 E FU M1 ((4309 : Int64) + (nI n).toInt64) (nI 0) = E M1 (mxI cd n) := fun E => g_for (f := fun k x i => gX7_digest_L21 E k M1 x i) (E := fun x => E M1 x) (m := n) (fun k x i hi => by
    rw [gX7_digest_L21, m2.1]
    by_cases h : i = n
    · rw [h, if_pos (nI_le (Nat.le_refl _) (by omega)), if_pos rfl]
    · rw [if_neg (nI_ge (by omega) (by omega)), if_neg h, ckI (show i < 80 by omega) (by decide), cI (show i < 2 ^ 31 by omega), m2.2 i (by omega), lt_n, ckJ (show i < 80 by omega) (by decide), (m3.1 i (by omega)).1, lt_n, lt_n, up1]
      rfl) (fuel := FU) (x := _) (by unfold FU; omega)
  have itM : ∀ E, gX8_digest_L21 E FU N1 ((4309 : Int64) + (nI n).toInt64) (nI 0) = E N1 (mxI cd n) := fun E => g_for (f := fun k x i => gX8_digest_L21 E k N1 x i) (E := fun x => E N1 x) (m := n) (fun k x i hi => by
    rw [gX8_digest_L21, hN1.1]
    by_cases h : i = n
    · rw [h, if_pos (nI_le (Nat.le_refl _) (by omega)), if_pos rfl]
    · rw [if_neg (nI_ge (by omega) (by omega)), if_neg h, ckI (show i < 80 by omega) (by decide), cI (show i < 2 ^ 31 by omega), hN1.2 i (by omega), ckJ (show i < 80 by omega) (by decide), (n2 i (by omega)).1, lt_n, lt_n, up1]) (fuel := FU) (x := _) (by unfold FU; omega)
  have mx0 : gX7_mix (139 : Int64) (nI n).toInt64 = (4309 : Int64) + (nI n).toInt64 := by
    unfold gX7_mix
    rw [show (139 : Int64) * 31 = 4309 from by decide]
  rw [show nI 0 = (0 : Int32) from rfl] at itC itM
  have p7 : gX7_digest M = bd (gX4_countUnfinished M1) fun r7 => if r7 = 0 then (gX7_digest_L80 FU M1 (mxI cd n) (0 : Int32)) else some (mxI cd n, M1) := by
    unfold gX7_digest
    rw [m1, bd_some, m2.1, mx0, lt_n, lt_n, itC]
  have p8 : gX8_digest N = bd (gX8_isWhole N1) fun r8 => if r8 = 0 then (some (mxI cd n, N1)) else bd (gX8_read N1) fun M12 => gX8_digest_L76 FU M12 (mxI cd n) (0 : Int32) := by
    unfold gX8_digest
    rw [lt_n, n1, bd_some, hN1.1, lt_n, lt_n, itM]
  rw [cntC m2 hV hl, bd_some] at p7
  rw [whM hN1 hV hl, bd_some] at p8
  by_cases w : l = []
  · obtain ⟨N2, r1, r2, r3, r4, r5, r6, r7⟩ := readM hN1 hV
    have hN2 : SrcM N2 n cd := ⟨by rw [r2 0 (by decide)]; exact hN1.1, fun j hj => by rw [r2 1 (by decide)]; exact hN1.2 j hj⟩
    have m4 := m3.2.2 (by rw [hl, w])
    obtain ⟨N3, d1, d2⟩ := digM hV ⟨hN2, fun j hj => (r4 j hj).1, r5⟩ (mxI cd n)
    rw [show nI 0 = (0 : Int32) from rfl] at d1
    refine wval_s (v := itr (fun c y => mxV cd n c y) 16 (mxI cd n)) ?_ ?_ m2 d2.1 hV (Or.inr m3)
    · rw [p7, w, if_pos (show nI ([] : List (Nat × Bool)).length = 0 from rfl)]
      exact g_for (f := fun k x i => gX7_digest_L80 k M1 x i) (E := fun x => some (x, M1)) (m := 16) (fun k x c hc => by
        rw [gX7_digest_L80]
        by_cases h : c = 16
        · rw [h, if_pos (by decide), if_pos rfl]
        · rw [if_neg (show ¬ (16 : Int32) ≤ nI c from nI_ge (b := 16) (by omega) (by decide)), if_neg h, ckI (show c < 16 by omega) (by decide), cI (show c < 2 ^ 31 by omega), lt_n, mixC hn (m4.1 c (by omega)) (m4.2.2 c (by omega)), bd_some, lt_n, up1]) (fuel := FU) (x := _) (by unfold FU; omega)
    · rw [p8, if_pos w, if_neg (by decide), r1, bd_some, d1]
  · have hne : ¬ nI l.length = 0 := fun e => w (List.length_eq_zero_iff.mp ((nI_z (by omega)).mp e))
    exact wval_s (by rw [p7, if_neg hne]) (by rw [p8, if_neg w, if_pos rfl]) m2 hN1 hV (Or.inr m3)
/-! THE AGREEMENT -/
theorem agree : Agree (Rl Fs) := by
  refine ⟨⟨0, fun _ => 0, ⟨rfl, fun i hi => absurd hi (Nat.not_lt_zero _)⟩, ⟨rfl, fun i hi => absurd hi (Nat.not_lt_zero _)⟩, ⟨by decide, fun i hi => absurd hi (Nat.not_lt_zero _), [], rfl⟩, Or.inl rfl⟩, a_write, a_when, a_otherwise, a_done, a_set, a_drop, a_replace, a_size, a_item, a_unfinished, a_presence, a_on, a_features, a_dead, a_length, a_place, a_variants, a_error, a_wrong, a_firstError, a_groups, a_work, a_gain, a_stack, a_outputs, a_output, a_variable, a_behaviours, a_digest⟩
