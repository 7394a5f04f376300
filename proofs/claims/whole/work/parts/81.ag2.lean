theorem fstText {M : Mm} {n c : Nat} {cd : Nat → Nat} (hV : Val n cd) (hA : ∀ c, c < 16 → VarC cd M c (vl cd c n)) (hc : c < 16) : gX7_isFirstOfItsText M (nI c) = some (bI (fi (fun b => decide (txt cd (vl cd b n) = txt cd (vl cd c n))) c)) := by
  have hn := hV.1
  unfold gX7_isFirstOfItsText
  have e := g_first (f := fun k x => gX7_isFirstOfItsText_L2 M (nI c) k x) (q := fun b => decide (txt cd (vl cd b n) = txt cd (vl cd c n))) (a1 := some (1 : Int32)) (a0 := some (0 : Int32)) (c := c) (fun k b hb => by
    rw [gX7_isFirstOfItsText_L2]
    by_cases h : b = c
    · rw [h, if_pos (nI_le (Nat.le_refl _) (by omega)), if_pos rfl]
    · have l1 := vl_len (cd := cd) (c := c) n
      have l2 := vl_len (cd := cd) (c := b) n
      rw [if_neg (nI_ge (by omega) (by omega)), if_neg h, ckI (show c < 16 by omega) (by decide), lt_n, ckI (show b < 16 by omega) (by decide), lt_n, cI (show c < 2 ^ 31 by omega), cI (show b < 2 ^ 31 by omega), tokSame (hA c hc) (hA b (by omega)) (by omega) (by omega), bd_some, lt_n, up1]
      by_cases z : txt cd (vl cd b n) = txt cd (vl cd c n)
      · rw [decide_eq_true z.symm, if_neg (show ¬ bI true = 0 by decide), if_pos (decide_eq_true z)]
      · rw [decide_eq_false (fun w => z w.symm), if_pos (show bI false = 0 from rfl), if_neg (by rw [decide_eq_false z]; decide)]) (fuel := FU) (by unfold FU; omega)
  refine e.trans ?_
  cases fi (fun b => decide (txt cd (vl cd b n) = txt cd (vl cd c n))) c <;> rfl
theorem a_variants : agW (Rl Fs) (fun M => gX7_variants M) (fun N => gX8_variants N) := by
  intro M N ⟨n, cd, hC, hM, hV, hF⟩
  dsimp only
  have hM0 := hM.thr 0
  have hn := hV.1
  obtain ⟨M1, m1, m2, m3⟩ := freshC hC hV hF
  obtain ⟨N1, n1, n2, n3⟩ := lookM hM0 hV
  have hN1 : SrcM N1 n cd := ⟨by rw [n3 0 (by decide) (by decide)]; exact hM0.1, fun j hj => by rw [n3 1 (by decide) (by decide)]; exact hM0.2 j hj⟩
  refine wval_s (v := itr (fun c x => x + bI (fi (fun b => decide (txt cd (vl cd b n) = txt cd (vl cd c n))) c)) 16 (0 : Int32)) ?_ ?_ m2 hN1 hV (Or.inr m3)
  · unfold gX7_variants
    rw [m1, bd_some]
    exact g_for (f := fun k x i => gX7_variants_L8 k M1 x i) (E := fun x => some (x, M1)) (m := 16) (fun k x c hc => by
      rw [gX7_variants_L8]
      by_cases h : c = 16
      · rw [h, if_pos (by decide), if_pos rfl]
      · rw [if_neg (show ¬ (16 : Int32) ≤ nI c from nI_ge (b := 16) (by omega) (by decide)), if_neg h, fstText hV m3.2.1 (by omega), bd_some, lt_n, lt_n, lt_n, up1]
        cases fi (fun b => decide (txt cd (vl cd b n) = txt cd (vl cd c n))) c with
        | false => rw [if_pos (show bI false = 0 from rfl), show bI false = (0 : Int32) from rfl, Int32.add_zero]
        | true => rw [if_neg (show ¬ bI true = 0 by decide)]; rfl) (fuel := FU) (x := 0) (by unfold FU; omega)
  · unfold gX8_variants
    rw [lt_n, n1, bd_some]
    exact g_for (f := fun k x i => gX8_variants_L13 k N1 x i) (E := fun x => some (x, N1)) (m := 16) (fun k x c hc => by
      rw [gX8_variants_L13]
      by_cases h : c = 16
      · rw [h, if_pos (by decide), if_pos rfl]
      · rw [if_neg (show ¬ (16 : Int32) ≤ nI c from nI_ge (b := 16) (by omega) (by decide)), if_neg h, lt_n]
        have g := g_new (f := fun k' s b => gX8_variants_L24 (fun (M9 : Mm) (x10 : Int32) (x11 : Int32) (x12 : Int32) => if x12 = 0 then (lt (x11 + (1 : Int32)) fun x15 => gX8_variants_L13 k M9 (x10 + (0 : Int32)) x15) else lt (x11 + (1 : Int32)) fun x16 => gX8_variants_L13 k M9 (x10 + (1 : Int32)) x16) k' N1 x (nI c) s b) (E := fun y => if y = (0 : Int32) then (lt (nI c + (1 : Int32)) fun x15 => gX8_variants_L13 k N1 (x + (0 : Int32)) x15) else lt (nI c + (1 : Int32)) fun x16 => gX8_variants_L13 k N1 (x + (1 : Int32)) x16) (q := fun b => decide (txt cd (vl cd b n) = txt cd (vl cd c n))) (c := c) (fun k' st b hbc => by
          rw [gX8_variants_L24]
          by_cases h : b = c
          · rw [h, if_pos (nI_le (Nat.le_refl _) (by omega)), if_pos rfl]
          · rw [if_neg (nI_ge (by omega) (by omega)), if_neg h]
            cases st with
            | false => rw [if_pos (show bI false = 0 from rfl), if_pos rfl]
            | true =>
              rw [if_neg (show ¬ bI true = 0 by decide), if_neg (show ¬ true = false by decide), sameM hN1 hV (fun j hj => (n2 j hj).1), bd_some, lt_n, lt_n, up1]
              by_cases z : txt cd (vl cd b n) = txt cd (vl cd c n)
              · rw [decide_eq_true z, if_neg (show ¬ bI true = 0 by decide)]; rfl
              · rw [decide_eq_false z, if_pos (show bI false = 0 from rfl)]; rfl) (fuel := FU) (s := true) (by unfold FU; omega)
        rw [show nI 0 = (0 : Int32) from rfl, show bI true = (1 : Int32) from rfl, Bool.true_and] at g
        rw [g, lt_n, lt_n, up1]
        cases fi (fun b => decide (txt cd (vl cd b n) = txt cd (vl cd c n))) c
        · rw [if_pos (show bI false = 0 from rfl)]; rfl
        · rw [if_neg (show ¬ bI true = 0 by decide)]; rfl) (fuel := FU) (x := 0) (by unfold FU; omega)
theorem a_error (x1 x2 : Int32) : agT (Rl Fs) (fun M => gX7_error M x1) (fun N => gX8_error N x1) [2, 1] (fun _ => True) := by
  intro M N ⟨n, cd, hC, hM, hV, hF⟩
  dsimp only
  have hM0 := hM.thr 0
  have hn := hV.1
  obtain ⟨l, hl⟩ := hV.2.2
  rcases conf_c (M := M) x1 with ⟨a, b⟩ | ⟨c, hc, rfl, a, b⟩
  · refine no_g (k := 2) (w := (0 : Int32)) (v := 1) ?_ ?_ (by decide) um_hit (by decide) hC (hM0.thr 1) hV hF
    · unfold gX7_error
      rw [a, te_x rfl]
    · unfold gX8_error
      rw [lt_s9, if_pos b, no_s]
  have hb : ¬ gX8_isConfiguration (nI c) = 0 := by rw [b]; decide
  by_cases w : l = []
  · obtain ⟨M1, m1, m2, m3⟩ := freshC hC hV hF
    obtain ⟨N1, n1, n2, n3, n4, n5, n6, n7⟩ := readM hM0 hV
    have hN1 : SrcM N1 n cd := ⟨by rw [n2 0 (by decide)]; exact hM0.1, fun j hj => by rw [n2 1 (by decide)]; exact hM0.2 j hj⟩
    have m4 := m3.2.2 (by rw [hl, w])
    refine val_s (N1 := N1) (v := eI cd c n) ?_ ?_ ?_ trivial m2 hN1 hV (Or.inr m3)
    · unfold gX7_error
      rw [a, te_inl, finC hC hV hl, if_pos w, te_inl, m1, bd_some, ckI (show c < 16 by omega) (by decide), cI (show c < 2 ^ 31 by omega), lt_n, (m4.1 c hc).1]
    · unfold gX8_error
      rw [lt_n, if_neg hb, whM hM0 hV hl, if_pos w, bd_some, if_neg (by decide), n1, bd_some, ckI (show c < 16 by omega) (by decide), cI (show c < 2 ^ 31 by omega), n5 c hc]
    · rw [n2 0 (by decide), um_hit]
  · refine no_g (k := 1) (w := (0 : Int32)) (v := 2) ?_ ?_ (by decide) um_hit (by decide) hC (hM0.thr 2) hV hF
    · unfold gX7_error
      rw [a, te_inl, finC hC hV hl, if_neg w, te_x rfl]
    · unfold gX8_error
      rw [lt_n, if_neg hb, whM hM0 hV hl, if_neg w, bd_some, if_pos rfl, no_s]
theorem a_wrong (x1 x2 : Int32) : agT (Rl Fs) (fun M => gX7_wrong M) (fun N => gX8_wrong N) [1] (fun _ => True) := by
  intro M N ⟨n, cd, hC, hM, hV, hF⟩
  dsimp only
  have hM0 := hM.thr 0
  have hn := hV.1
  obtain ⟨l, hl⟩ := hV.2.2
  by_cases w : l = []
  · obtain ⟨M1, m1, m2, m3⟩ := freshC hC hV hF
    obtain ⟨N1, n1, n2, n3, n4, n5, n6, n7⟩ := readM hM0 hV
    have hN1 : SrcM N1 n cd := ⟨by rw [n2 0 (by decide)]; exact hM0.1, fun j hj => by rw [n2 1 (by decide)]; exact hM0.2 j hj⟩
    have m4 := m3.2.2 (by rw [hl, w])
    refine val_s (N1 := N1) (v := itr (fun c x => if eI cd c n = -1 then x else x ||| ((1 : Int32) <<< (nI c &&& 31))) 16 (0 : Int32)) ?_ ?_ ?_ trivial m2 hN1 hV (Or.inr m3)
    · unfold gX7_wrong
      rw [finC hC hV hl, if_pos w, te_inl, m1, bd_some]
      exact g_for (f := fun k x i => gX7_wrong_L12 k M1 x i) (E := fun x => some (Sum.inl x, M1)) (m := 16) (fun k x c hc => by
        rw [gX7_wrong_L12]
        by_cases h : c = 16
        · rw [h, if_pos (by decide), if_pos rfl]
        · rw [if_neg (show ¬ (16 : Int32) ≤ nI c from nI_ge (b := 16) (by omega) (by decide)), if_neg h, ckI (show c < 16 by omega) (by decide), cI (show c < 2 ^ 31 by omega), lt_n, (m4.1 c (by omega)).1, lt_n, lt_n, lt_n, up1]
          by_cases z : eI cd c n = -1
          · rw [if_pos z, if_pos z]
          · rw [if_neg z, if_neg z]) (fuel := FU) (x := 0) (by unfold FU; omega)
    · unfold gX8_wrong
      rw [lt_n, whM hM0 hV hl, if_pos w, bd_some, if_neg (by decide), n1, bd_some]
      exact g_for (f := fun k x i => gX8_wrong_L26 k N1 x i) (E := fun x => some (x, N1)) (m := 16) (fun k x c hc => by
        rw [gX8_wrong_L26]
        by_cases h : c = 16
        · rw [h, if_pos (by decide), if_pos rfl]
        · rw [if_neg (show ¬ (16 : Int32) ≤ nI c from nI_ge (b := 16) (by omega) (by decide)), if_neg h, ckI (show c < 16 by omega) (by decide), cI (show c < 2 ^ 31 by omega), n5 c (by omega), lt_n, lt_n, lt_n, up1]
          by_cases z : eI cd c n = -1
          · rw [if_pos z, if_pos z]
          · rw [if_neg z, if_neg z]) (fuel := FU) (x := 0) (by unfold FU; omega)
    · rw [n2 0 (by decide), um_hit]
  · refine no_g (k := 1) (w := (0 : Int32)) (v := 1) ?_ ?_ (by decide) um_hit (by decide) hC (hM0.thr 1) hV hF
    · unfold gX7_wrong
      rw [finC hC hV hl, if_neg w, te_x rfl]
    · unfold gX8_wrong
      rw [lt_n, whM hM0 hV hl, if_neg w, bd_some, if_pos rfl, no_s]
theorem a_firstError (x1 x2 : Int32) : agT (Rl Fs) (fun M => gX7_firstError M) (fun N => gX8_firstError N) [1] (fun _ => True) := by
  intro M N ⟨n, cd, hC, hM, hV, hF⟩
  dsimp only
  have hM0 := hM.thr 0
  have hn := hV.1
  obtain ⟨l, hl⟩ := hV.2.2
  by_cases w : l = []
  · obtain ⟨M1, m1, m2, m3⟩ := freshC hC hV hF
    obtain ⟨N1, n1, n2, n3, n4, n5, n6, n7⟩ := readM hM0 hV
    have hN1 : SrcM N1 n cd := ⟨by rw [n2 0 (by decide)]; exact hM0.1, fun j hj => by rw [n2 1 (by decide)]; exact hM0.2 j hj⟩
    have m4 := m3.2.2 (by rw [hl, w])
    refine val_s (N1 := N1) (v := itr (fun c x => if eI cd c n = -1 then x else if x = -1 then eI cd c n else if x ≤ eI cd c n then x else eI cd c n) 16 (-1 : Int32)) ?_ ?_ ?_ trivial m2 hN1 hV (Or.inr m3)
    · unfold gX7_firstError
      rw [finC hC hV hl, if_pos w, te_inl, m1, bd_some]
      exact g_for (f := fun k x i => gX7_firstError_L12 k M1 x i) (E := fun x => some (Sum.inl x, M1)) (m := 16) (fun k x c hc => by
        rw [gX7_firstError_L12]
        by_cases h : c = 16
        · rw [h, if_pos (by decide), if_pos rfl]
        · rw [if_neg (show ¬ (16 : Int32) ≤ nI c from nI_ge (b := 16) (by omega) (by decide)), if_neg h, ckI (show c < 16 by omega) (by decide), cI (show c < 2 ^ 31 by omega), lt_n, (m4.1 c (by omega)).1]
          simp only [lt_n, up1]
          by_cases z : eI cd c n = -1
          · rw [if_pos z, if_pos z]
          · rw [if_neg z, if_neg z]
            by_cases z2 : x = -1
            · rw [if_pos z2, if_pos z2]
            · rw [if_neg z2, if_neg z2]
              by_cases z3 : x ≤ eI cd c n
              · rw [if_pos z3, if_pos z3]
              · rw [if_neg z3, if_neg z3]) (fuel := FU) (x := -1) (by unfold FU; omega)
    · unfold gX8_firstError
      rw [lt_n, whM hM0 hV hl, if_pos w, bd_some, if_neg (by decide), n1, bd_some]
      exact g_for (f := fun k x i => gX8_firstError_L26 k N1 x i) (E := fun x => some (x, N1)) (m := 16) (fun k x c hc => by
        rw [gX8_firstError_L26]
        by_cases h : c = 16
        · rw [h, if_pos (by decide), if_pos rfl]
        · have ck : ∀ {α : Type} {y : Option α}, (if (nI c < 0 ∨ 16 ≤ (nI c).toNatClampNeg) then none else y) = y := ckI (by omega) (by decide)
          rw [if_neg (show ¬ (16 : Int32) ≤ nI c from nI_ge (b := 16) (by omega) (by decide)), if_neg h]
          simp only [ck, lt_n, up1]
          rw [cI (show c < 2 ^ 31 by omega), n5 c (by omega)]
          by_cases z : eI cd c n = -1
          · rw [if_pos z, if_pos z]
          · rw [if_neg z, if_neg z]
            by_cases z2 : x = -1
            · rw [if_pos z2, if_pos z2]
            · rw [if_neg z2, if_neg z2]
              by_cases z3 : x ≤ eI cd c n
              · rw [if_pos z3, if_pos z3]
              · rw [if_neg z3, if_neg z3]) (fuel := FU) (x := -1) (by unfold FU; omega)
    · rw [n2 0 (by decide), um_hit]
  · refine no_g (k := 1) (w := (0 : Int32)) (v := 1) ?_ ?_ (by decide) um_hit (by decide) hC (hM0.thr 1) hV hF
    · unfold gX7_firstError
      rw [finC hC hV hl, if_neg w, te_x rfl]
    · unfold gX8_firstError
      rw [lt_n, whM hM0 hV hl, if_neg w, bd_some, if_pos rfl, no_s]
theorem a_groups (x1 x2 : Int32) : agT (Rl Fs) (fun M => gX7_groups M x1) (fun N => gX8_groups N x1) [2, 1] (fun _ => True) := by
  intro M N ⟨n, cd, hC, hM, hV, hF⟩
  dsimp only
  have hM0 := hM.thr 0
  have hn := hV.1
  obtain ⟨l, hl⟩ := hV.2.2
  rcases item_c hC hM0 hV x1 with ⟨a, b⟩ | ⟨i, hi, rfl, a, b⟩
  · refine no_g (k := 2) (w := (0 : Int32)) (v := 1) ?_ ?_ (by decide) um_hit (by decide) hC (hM0.thr 1) hV hF
    · unfold gX7_groups
      rw [a, te_x rfl]
    · unfold gX8_groups
      rw [lt_s9, b, bd_some, if_pos rfl, no_s]
  by_cases w : l = []
  · obtain ⟨M1, m1, m2, m3⟩ := freshC hC hV hF
    obtain ⟨N1, n1, n2, n3, n4, n5, n6, n7⟩ := readM hM0 hV
    have hN1 : SrcM N1 n cd := ⟨by rw [n2 0 (by decide)]; exact hM0.1, fun j hj => by rw [n2 1 (by decide)]; exact hM0.2 j hj⟩
    have m4 := m3.2.2 (by rw [hl, w])
    refine val_s (N1 := N1) (v := gr cd i) ?_ ?_ ?_ trivial m2 hN1 hV (Or.inr m3)
    · unfold gX7_groups
      rw [a, te_inl, finC hC hV hl, if_pos w, te_inl, m1, bd_some, ckI (show i < 80 by omega) (by decide), cI (show i < 2 ^ 31 by omega), m4.2.1 i hi]
    · unfold gX8_groups
      rw [lt_n, b, bd_some, if_neg (by decide), whM hM0 hV hl, if_pos w, bd_some, if_neg (by decide), n1, bd_some, ckI (show i < 80 by omega) (by decide), cI (show i < 2 ^ 31 by omega), n7 i hi]
    · rw [n2 0 (by decide), um_hit]
  · refine no_g (k := 1) (w := (0 : Int32)) (v := 2) ?_ ?_ (by decide) um_hit (by decide) hC (hM0.thr 2) hV hF
    · unfold gX7_groups
      rw [a, te_inl, finC hC hV hl, if_neg w, te_x rfl]
    · unfold gX8_groups
      rw [lt_n, b, bd_some, if_neg (by decide), whM hM0 hV hl, if_neg w, bd_some, if_pos rfl, no_s]
def wk (cd : Nat → Nat) (n : Nat) : Int32 := itr (fun i x => x + gr cd i) n 0
theorem sumC {M : Mm} {n : Nat} {cd : Nat → Nat} (hn : n ≤ 80) (hC : SrcC M n cd) (hG : ∀ j, j < n → M 14 j = gr cd j) : gX7_sumOfGroups M = some (wk cd n) := by
  unfold gX7_sumOfGroups
  exact g_for (f := fun k x i => gX7_sumOfGroups_L4 M k x i) (E := fun x => some x) (m := n) (fun k x i hi => by
    rw [gX7_sumOfGroups_L4, hC.1]
    by_cases h : i = n
    · rw [h, if_pos (nI_le (Nat.le_refl _) (by omega)), if_pos rfl]
    · rw [if_neg (nI_ge (by omega) (by omega)), if_neg h, ckI (show i < 80 by omega) (by decide), cI (show i < 2 ^ 31 by omega), hG i (by omega), lt_n, lt_n, up1]) (fuel := FU) (x := 0) (by unfold FU; omega)
theorem sumM {N : Mm} {n : Nat} {cd : Nat → Nat} (hn : n ≤ 80) (hM : SrcM N n cd) (hG : ∀ j, j < n → N 7 j = gr cd j) : gX8_sumOfGroups N = some (wk cd n) := by
  unfold gX8_sumOfGroups
  exact g_for (f := fun k x i => gX8_sumOfGroups_L4 N k x i) (E := fun x => some x) (m := n) (fun k x i hi => by
    rw [gX8_sumOfGroups_L4, hM.1]
    by_cases h : i = n
    · rw [h, if_pos (nI_le (Nat.le_refl _) (by omega)), if_pos rfl]
    · rw [if_neg (nI_ge (by omega) (by omega)), if_neg h, ckI (show i < 80 by omega) (by decide), cI (show i < 2 ^ 31 by omega), hG i (by omega), lt_n, lt_n, up1]) (fuel := FU) (x := 0) (by unfold FU; omega)
theorem a_work (x1 x2 : Int32) : agT (Rl Fs) (fun M => gX7_work M) (fun N => gX8_work N) [1] (fun _ => True) := by
  intro M N ⟨n, cd, hC, hM, hV, hF⟩
  dsimp only
  have hM0 := hM.thr 0
  have hn := hV.1
  obtain ⟨l, hl⟩ := hV.2.2
  by_cases w : l = []
  · obtain ⟨M1, m1, m2, m3⟩ := freshC hC hV hF
    obtain ⟨N1, n1, n2, n3, n4, n5, n6, n7⟩ := readM hM0 hV
    have hN1 : SrcM N1 n cd := ⟨by rw [n2 0 (by decide)]; exact hM0.1, fun j hj => by rw [n2 1 (by decide)]; exact hM0.2 j hj⟩
    have m4 := m3.2.2 (by rw [hl, w])
    refine val_s (N1 := N1) (v := wk cd n) ?_ ?_ ?_ trivial m2 hN1 hV (Or.inr m3)
    · unfold gX7_work
      rw [finC hC hV hl, if_pos w, te_inl, m1, bd_some, sumC hn m2 m4.2.1, bd_some]
    · unfold gX8_work
      rw [lt_n, whM hM0 hV hl, if_pos w, bd_some, if_neg (by decide), n1, bd_some, sumM hn hN1 n7, bd_some]
    · rw [n2 0 (by decide), um_hit]
  · refine no_g (k := 1) (w := (0 : Int32)) (v := 1) ?_ ?_ (by decide) um_hit (by decide) hC (hM0.thr 1) hV hF
    · unfold gX7_work
      rw [finC hC hV hl, if_neg w, te_x rfl]
    · unfold gX8_work
      rw [lt_n, whM hM0 hV hl, if_neg w, bd_some, if_pos rfl, no_s]
/-- heights by indexes, and by items -/
theorem rd_none {cd : Nat → Nat} {c i : Nat} (h : rd cd c i = none) : ∀ j, i ≤ j → rd cd c j = none
  | 0, hj => by obtain rfl : i = 0 := by omega
                exact h
  | j + 1, hj => by
    by_cases e : i = j + 1
    · rw [← e]; exact h
    · exact rd_pre (rd_none h j (by omega))
theorem hgt_all {cd : Nat → Nat} {c : Nat} : ∀ n, (hgt cd c n).length ≤ (vl cd c n).length ∧ ∀ k, k < (vl cd c n).length → dA cd c ((vl cd c n).getD k 0) = if k < (hgt cd c n).length then nI ((hgt cd c n).getD k 0) else -1
  | 0 => ⟨Nat.le_refl _, fun k hk => absurd hk (Nat.not_lt_zero _)⟩
  | n + 1 => by
    obtain ⟨h1, h2⟩ := hgt_all (cd := cd) (c := c) n
    show (if inV cd c n = true then (match rd cd c n with | some s => hgt cd c n ++ [s.length] | none => hgt cd c n) else hgt cd c n).length ≤ (if inV cd c n then vl cd c n ++ [n] else vl cd c n).length ∧ ∀ k, k < (if inV cd c n then vl cd c n ++ [n] else vl cd c n).length → dA cd c ((if inV cd c n then vl cd c n ++ [n] else vl cd c n).getD k 0) = if k < (if inV cd c n = true then (match rd cd c n with | some s => hgt cd c n ++ [s.length] | none => hgt cd c n) else hgt cd c n).length then nI ((if inV cd c n = true then (match rd cd c n with | some s => hgt cd c n ++ [s.length] | none => hgt cd c n) else hgt cd c n).getD k 0) else -1
    by_cases a : inV cd c n = true
    · rw [if_pos a, if_pos a]
      have vget : ∀ k, k < (vl cd c n).length → (vl cd c n ++ [n]).getD k 0 = (vl cd c n).getD k 0 := fun k hk => by simp [List.getD, List.getElem?_append_left hk]
      have vlast : (vl cd c n ++ [n]).getD (vl cd c n).length 0 = n := by simp [List.getD]
      cases hr : rd cd c n with
      | none =>
        simp only [List.length_append, List.length_singleton]
        refine ⟨by omega, fun k hk => ?_⟩
        by_cases e : k < (vl cd c n).length
        · rw [vget k e]; exact h2 k e
        · have e2 : k = (vl cd c n).length := by omega
          rw [e2, vlast, if_neg (by omega)]
          unfold dA
          rw [hr]
      | some s =>
        have hlen : (hgt cd c n).length = (vl cd c n).length := by
          have key : ∀ m, rd cd c m ≠ none → (hgt cd c m).length = (vl cd c m).length := by
            intro m
            induction m with
            | zero => intro _; rfl
            | succ m ih =>
              intro hm
              have hm' : rd cd c m ≠ none := fun h => hm (rd_pre h)
              show (if inV cd c m = true then (match rd cd c m with | some s => hgt cd c m ++ [s.length] | none => hgt cd c m) else hgt cd c m).length = (if inV cd c m then vl cd c m ++ [m] else vl cd c m).length
              by_cases b : inV cd c m = true
              · rw [if_pos b, if_pos b]
                cases hr2 : rd cd c m with
                | none => exact absurd hr2 hm'
                | some s =>
                  show (hgt cd c m ++ [s.length]).length = _
                  rw [List.length_append, List.length_append, ih hm']; rfl
              · rw [if_neg b, if_neg b]; exact ih hm'
          exact key n (by rw [hr]; simp)
        simp only [List.length_append, List.length_singleton]
        refine ⟨by omega, fun k hk => ?_⟩
        by_cases e : k < (vl cd c n).length
        · rw [vget k e, h2 k e, if_pos (by omega), if_pos (by omega)]
          simp [List.getD, List.getElem?_append_left (show k < (hgt cd c n).length by omega)]
        · have e2 : k = (vl cd c n).length := by omega
          rw [e2, vlast, if_pos (by omega), ← hlen]
          unfold dA
          rw [hr]
          simp [List.getD]
    · rw [if_neg a, if_neg a]; exact ⟨h1, h2⟩
theorem a_stack (x1 x2 : Int32) : agT (Rl Fs) (fun M => gX7_stack M x1 x2) (fun N => gX8_stack N x1 x2) [2, 1] (fun _ => True) := by
  intro M N ⟨n, cd, hC, hM, hV, hF⟩
  dsimp only
  have hM0 := hM.thr 0
  have hn := hV.1
  obtain ⟨l, hl⟩ := hV.2.2
  rcases conf_c (M := M) x1 with ⟨a, b⟩ | ⟨c, hc, rfl, a, b⟩
  · refine no_g (k := 2) (w := (0 : Int32)) (v := 1) ?_ ?_ (by decide) um_hit (by decide) hC (hM0.thr 1) hV hF
    · unfold gX7_stack
      rw [a, te_x rfl]
    · unfold gX8_stack
      rw [lt_s9, if_pos b, no_s]
  obtain ⟨M1, m1, m2, m3⟩ := freshC hC hV hF
  obtain ⟨N1, n1, n2, n3⟩ := lookM hM0 hV
  have hN1 : SrcM N1 n cd := ⟨by rw [n3 0 (by decide) (by decide)]; exact hM0.1, fun j hj => by rw [n3 1 (by decide) (by decide)]; exact hM0.2 j hj⟩
  have hb : ¬ gX8_isConfiguration (nI c) = 0 := by rw [b]; decide
  have hlv := vl_len (cd := cd) (c := c) n
  rcases idx_c hc hN1 hV (m3.2.1 c hc) (fun j hj => (n2 j hj).1) x2 with ⟨d, e⟩ | ⟨k, hk, rfl, d, e⟩
  · refine no_g (k := 2) (w := (0 : Int32)) (v := 1) ?_ ?_ (by decide) um_hit (by decide) m2 (hN1.thr 1) hV (Or.inr m3)
    · unfold gX7_stack
      rw [a, te_inl, m1, bd_some, d, te_x rfl]
    · unfold gX8_stack
      rw [lt_n, if_neg hb, n1, bd_some, e, bd_some, if_pos rfl, no_s]
  have hi := (vl_get hk).1
  have hne : ¬ nI ((vl cd c n).getD k 0) = (-1 : Int32) := fun h => by rw [qm', s_em (by omega)] at h; exact h
  by_cases w : l = []
  · obtain ⟨N2, r1, r2, r3, r4, r5, r6, r7⟩ := readM hN1 hV
    have hN2 : SrcM N2 n cd := ⟨by rw [r2 0 (by decide)]; exact hN1.1, fun j hj => by rw [r2 1 (by decide)]; exact hN1.2 j hj⟩
    have m4 := m3.2.2 (by rw [hl, w])
    obtain ⟨g1, g2⟩ := hgt_all (cd := cd) (c := c) n
    have hh := hgt_len (cd := cd) (c := c) n
    refine val_s (N1 := N2) (v := dA cd c ((vl cd c n).getD k 0)) ?_ ?_ ?_ trivial m2 hN2 hV (Or.inr m3)
    · unfold gX7_stack gX1_heightAhead
      rw [a, te_inl, m1, bd_some, d, te_inl, finC m2 hV hl, if_pos w, te_inl, ckI (show c < 16 by omega) (by decide), cI (show c < 2 ^ 31 by omega), lt_n, (m4.1 c hc).2.1, if_neg (nI_pos (by omega)), g2 k hk]
      by_cases z : k < (hgt cd c n).length
      · rw [if_neg (nI_ge z (by omega)), ckI (show k < 80 by omega) (by decide), cI (show k < 2 ^ 31 by omega), (m4.1 c hc).2.2 k (by simpa using z), map_get z, if_pos z, bd_some]
      · rw [if_pos (nI_le (by omega) (by omega)), if_neg z, bd_some]
    · unfold gX8_stack
      rw [lt_n, if_neg hb, n1, bd_some, e, bd_some, if_neg hne, whM hN1 hV hl, if_pos w, bd_some, if_neg (by decide), r1, bd_some, q80, s_mul, s_add, ckI (show 80 * c + (vl cd c n).getD k 0 < 1280 by omega) (by decide), cI (show 80 * c + (vl cd c n).getD k 0 < 2 ^ 31 by omega), r6 c hc _ hi]
    · rw [r2 0 (by decide), n3 0 (by decide) (by decide), um_hit]
  · refine no_g (k := 1) (w := (0 : Int32)) (v := 2) ?_ ?_ (by decide) um_hit (by decide) m2 (hN1.thr 2) hV (Or.inr m3)
    · unfold gX7_stack
      rw [a, te_inl, m1, bd_some, d, te_inl, finC m2 hV hl, if_neg w, te_x rfl]
    · unfold gX8_stack
      rw [lt_n, if_neg hb, n1, bd_some, e, bd_some, if_neg hne, whM hN1 hV hl, if_neg w, bd_some, if_pos rfl, no_s]
