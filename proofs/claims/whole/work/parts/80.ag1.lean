/-! THE CALLS WITH CACHES: presence -/
theorem val_s {M1 N1 : Mm} {n : Nat} {cd : Nat → Nat} {l : List Nat} {α : Type} {v : α} {ok : α → Prop} {g7 : Option ((α ⊕ Nat) × Mm)} {g8 : Option (α × Mm)} (h7 : g7 = some (.inl v, M1)) (h8 : g8 = some (v, N1)) (hz : N1 0 0 = 0) (hok : ok v) (hC : SrcC M1 n cd) (hM : SrcM N1 n cd) (hV : Val n cd) (hF : M1 0 4 = 0 ∨ Fs n cd M1) : ∃ (oc : α ⊕ Nat) (M1 : Mm) (bv : α) (N1 : Mm), g7 = some (oc, M1) ∧ (∀ k, oc = .inr k → k ∈ l) ∧ g8 = some (bv, N1) ∧ N1 0 0 = hN l oc ∧ (∀ v, oc = .inl v → v = bv ∧ ok v) ∧ Rl Fs M1 N1 :=
  ⟨_, _, _, _, h7, (fun k h => by cases h), h8, hz, (fun v h => by cases h; exact ⟨rfl, hok⟩), n, cd, hC, hM, hV, hF⟩
theorem no_g {M1 N1 : Mm} {v : Int32} {n k : Nat} {cd : Nat → Nat} {l : List Nat} {α : Type} {w : α} {ok : α → Prop} {g7 : Option ((α ⊕ Nat) × Mm)} {g8 : Option (α × Mm)} (h7 : g7 = some (.inr k, M1)) (h8 : g8 = some (w, N1)) (hk : k ∈ l) (hz : N1 0 0 = v) (hv : v = hN l (.inr k : α ⊕ Nat)) (hC : SrcC M1 n cd) (hM : SrcM N1 n cd) (hV : Val n cd) (hF : M1 0 4 = 0 ∨ Fs n cd M1) : ∃ (oc : α ⊕ Nat) (M1 : Mm) (bv : α) (N1 : Mm), g7 = some (oc, M1) ∧ (∀ k, oc = .inr k → k ∈ l) ∧ g8 = some (bv, N1) ∧ N1 0 0 = hN l oc ∧ (∀ v, oc = .inl v → v = bv ∧ ok v) ∧ Rl Fs M1 N1 :=
  ⟨_, _, _, _, h7, (fun k' h => by cases h; exact hk), h8, hz.trans hv, (fun v h => by cases h), n, cd, hC, hM, hV, hF⟩
theorem conf_c {M : Mm} (x : Int32) : (gX7_checkConfiguration M x = some (.inr 2, M) ∧ gX8_isConfiguration x = 0) ∨ ∃ c, c < 16 ∧ x = nI c ∧ gX7_checkConfiguration M x = some (.inl 0, M) ∧ gX8_isConfiguration x = 1 := by
  unfold gX7_checkConfiguration gX8_isConfiguration gX8_isIn
  by_cases a : x < 0
  · exact Or.inl ⟨if_pos a, if_pos a⟩
  · obtain ⟨j, hj, rfl⟩ := nI_of a
    by_cases b : j < 16
    · refine Or.inr ⟨j, b, rfl, ?_, ?_⟩
      · rw [if_neg a, if_pos (show nI j < (16 : Int32) from nI_lt (b := 16) b (by decide))]
      · rw [if_neg a, if_neg (show ¬ (15 : Int32) < nI j from nI_nlt (b := j) (a := 15) (by omega) (by decide))]
    · refine Or.inl ⟨?_, ?_⟩
      · rw [if_neg a, if_neg (show ¬ nI j < (16 : Int32) from fun e => b ((nI_ltI (b := 16) hj (by decide)).mp e))]
      · rw [if_neg a, if_pos (show (15 : Int32) < nI j from nI_lt (a := 15) (by omega) hj)]
theorem finC {M : Mm} {n : Nat} {cd : Nat → Nat} (hC : SrcC M n cd) (hV : Val n cd) {l : List (Nat × Bool)} (hl : st cd n = some l) : gX7_checkFinished M = if l = [] then some (.inl 0, M) else some (.inr 1, M) := by
  unfold gX7_checkFinished
  have h5 := st_len hl
  rw [cntC hC hV hl, bd_s9 rfl]
  cases l with
  | nil => rw [if_pos (show nI ([] : List (Nat × Bool)).length = 0 from rfl), if_pos rfl]
  | cons q r => rw [if_neg (show ¬ nI (q :: r).length = 0 from fun e => by have := (nI_z (k := (q :: r).length) (by omega)).mp e; simp at this), if_neg (show ¬ q :: r = [] from fun e => by cases e)]
theorem whM {N : Mm} {n : Nat} {cd : Nat → Nat} (hM : SrcM N n cd) (hV : Val n cd) {l : List (Nat × Bool)} (hl : st cd n = some l) : gX8_isWhole N = some (if l = [] then 1 else 0) := by
  unfold gX8_isWhole
  have h5 := st_len hl
  rw [cntM hM hV hl, bd_s9 rfl]
  cases l with
  | nil => rw [if_pos (show nI ([] : List (Nat × Bool)).length = 0 from rfl), if_pos rfl]
  | cons q r => rw [if_neg (show ¬ nI (q :: r).length = 0 from fun e => by have := (nI_z (k := (q :: r).length) (by omega)).mp e; simp at this), if_neg (show ¬ q :: r = [] from fun e => by cases e)]
theorem a_presence (x1 x2 : Int32) : agT (Rl Fs) (fun M => gX7_presence M x1) (fun N => gX8_presence N x1) [2] (fun _ => True) := by
  intro M N ⟨n, cd, hC, hM, hV, hF⟩
  dsimp only
  have hM0 := hM.thr 0
  have hn := hV.1
  rcases item_c hC hM0 hV x1 with ⟨a, b⟩ | ⟨i, hi, rfl, a, b⟩
  · refine no_g (k := 2) (w := (0 : Int32)) (v := 1) ?_ ?_ (by decide) um_hit (by decide) hC (hM0.thr 1) hV hF
    · unfold gX7_presence
      rw [a, te_x rfl]
    · unfold gX8_presence
      rw [lt_s9, b, bd_s9 rfl, if_pos rfl, no_s]
  · obtain ⟨M1, m1, m2, m3⟩ := freshC hC hV hF
    obtain ⟨N1, n1, n2, n3⟩ := lookM hM0 hV
    refine val_s (N1 := N1) (v := pres cd i) ?_ ?_ ?_ trivial m2 ⟨by rw [n3 0 (by decide) (by decide)]; exact hM0.1, fun j hj => by rw [n3 1 (by decide) (by decide)]; exact hM0.2 j hj⟩ hV (Or.inr m3)
    · unfold gX7_presence
      rw [a, te_inl, m1, bd_some, ckI (show i < 80 by omega) (by decide), cI (show i < 2 ^ 31 by omega), (m3.1 i hi).1]
    · unfold gX8_presence
      rw [lt_n, b, bd_some, if_neg (by decide), n1, bd_some, ckI (show i < 80 by omega) (by decide), cI (show i < 2 ^ 31 by omega), (n2 i hi).1]
    · rw [n3 0 (by decide) (by decide), um_hit]
theorem a_on (x1 x2 : Int32) : agT (Rl Fs) (fun M => gX7_on M x1 x2) (fun N => gX8_on N x1 x2) [2] (fun _ => True) := by
  intro M N ⟨n, cd, hC, hM, hV, hF⟩
  dsimp only
  have hM0 := hM.thr 0
  have hn := hV.1
  rcases feat (x := x1) with ⟨a, e⟩ | ⟨a, a2, e⟩ | ⟨f, hf, rfl, e⟩
  · refine no_g (k := 2) (w := (0 : Int32)) (v := 1) ?_ ?_ (by decide) um_hit (by decide) hC (hM0.thr 1) hV hF
    · unfold gX7_on gX7_checkFeature
      rw [if_pos a, te_x rfl]
    · unfold gX8_on
      rw [lt_s9, if_pos e, no_s]
  · refine no_g (k := 2) (w := (0 : Int32)) (v := 1) ?_ ?_ (by decide) um_hit (by decide) hC (hM0.thr 1) hV hF
    · unfold gX7_on gX7_checkFeature
      rw [if_neg a, if_neg a2, te_x rfl]
    · unfold gX8_on
      rw [lt_s9, if_pos e, no_s]
  have c7 : gX7_checkFeature M (nI f) = some (.inl 0, M) := by
    unfold gX7_checkFeature
    rw [if_neg (nI_pos (by omega)), if_pos (show nI f < (4 : Int32) from nI_lt (b := 4) hf (by decide))]
  have e0 : ¬ gX8_isFeature (nI f) = 0 := by rw [e]; decide
  rcases item_c hC hM0 hV x2 with ⟨a, b⟩ | ⟨i, hi, rfl, a, b⟩
  · refine no_g (k := 2) (w := (0 : Int32)) (v := 1) ?_ ?_ (by decide) um_hit (by decide) hC (hM0.thr 1) hV hF
    · unfold gX7_on
      rw [c7, te_inl, a, te_x rfl]
    · unfold gX8_on
      rw [lt_s9, if_neg e0, b, bd_s9 rfl, if_pos rfl, no_s]
  · obtain ⟨M1, m1, m2, m3⟩ := freshC hC hV hF
    obtain ⟨N1, n1, n2, n3⟩ := lookM hM0 hV
    refine val_s (N1 := N1) (v := onA cd f i) ?_ ?_ ?_ trivial m2 ⟨by rw [n3 0 (by decide) (by decide)]; exact hM0.1, fun j hj => by rw [n3 1 (by decide) (by decide)]; exact hM0.2 j hj⟩ hV (Or.inr m3)
    · unfold gX7_on
      rw [c7, te_inl, a, te_inl, m1, bd_some, ckI (show f < 4 by omega) (by decide), cI (show f < 2 ^ 31 by omega), lt_n, ckI (show i < 80 by omega) (by decide), cI (show i < 2 ^ 31 by omega)]
      show some (Sum.inl (M1 (6 + f) i), M1) = _
      rw [(m3.1 i hi).2 f hf]
    · unfold gX8_on
      rw [lt_n, if_neg e0, b, bd_some, if_neg (by decide), n1, bd_some, q4, s_mul, s_add, ckI (show 4 * i + f < 320 by omega) (by decide), cI (show 4 * i + f < 2 ^ 31 by omega), (n2 i hi).2 f hf]
    · rw [n3 0 (by decide) (by decide), um_hit]
theorem wval_s {M1 N1 : Mm} {n : Nat} {cd : Nat → Nat} {α : Type} {v : α} {g7 g8 : Option (α × Mm)} (h7 : g7 = some (v, M1)) (h8 : g8 = some (v, N1)) (hC : SrcC M1 n cd) (hM : SrcM N1 n cd) (hV : Val n cd) (hF : M1 0 4 = 0 ∨ Fs n cd M1) : ∃ (v : α) (M1 N1 : Mm), g7 = some (v, M1) ∧ g8 = some (v, N1) ∧ Rl Fs M1 N1 := ⟨_, _, _, h7, h8, n, cd, hC, hM, hV, hF⟩
theorem a_dead : agW (Rl Fs) (fun M => gX7_dead M) (fun N => gX8_dead N) := by
  intro M N ⟨n, cd, hC, hM, hV, hF⟩
  dsimp only
  have hM0 := hM.thr 0
  have hn := hV.1
  obtain ⟨M1, m1, m2, m3⟩ := freshC hC hV hF
  obtain ⟨N1, n1, n2, n3⟩ := lookM hM0 hV
  have hN1 : SrcM N1 n cd := ⟨by rw [n3 0 (by decide) (by decide)]; exact hM0.1, fun j hj => by rw [n3 1 (by decide) (by decide)]; exact hM0.2 j hj⟩
  refine wval_s (v := itr (fun i x => x + bI (decide (18 ≤ cd i) && decide (pres cd i = 0))) n (0 : Int32)) ?_ ?_ m2 hN1 hV (Or.inr m3)
  · unfold gX7_dead
    rw [m1, bd_some]
    exact g_for (f := fun k x i => gX7_dead_L8 k M1 x i) (E := fun x => some (x, M1)) (m := n) (fun k x i hi => by
      rw [gX7_dead_L8, m2.1]
      by_cases h : i = n
      · rw [h, if_pos (nI_le (Nat.le_refl _) (by omega)), if_pos rfl]
      · rw [if_neg (nI_ge (by omega) (by omega)), if_neg h, ckI (show i < 80 by omega) (by decide), cI (show i < 2 ^ 31 by omega), m2.2 i (by omega), tokC (hV.2.1 i (by omega)), (m3.1 i (by omega)).1, ckJ (show i < 80 by omega) (by decide)]
        simp only [bI_0, lt_n, up1]
        by_cases t : 18 ≤ cd i
        · by_cases z : pres cd i = 0
          · rw [decide_eq_true t, if_neg (by decide), if_pos z, decide_eq_true z]; rfl
          · rw [decide_eq_true t, if_neg (by decide), if_neg z, decide_eq_false z]
            rw [show bI (true && false) = (0 : Int32) from rfl, Int32.add_zero]
        · rw [decide_eq_false t, if_pos rfl, Bool.false_and, show bI false = (0 : Int32) from rfl, Int32.add_zero]) (fuel := FU) (x := 0) (by unfold FU; omega)
  · unfold gX8_dead
    rw [lt_n, n1, bd_some]
    exact g_for (f := fun k x i => gX8_dead_L13 k N1 x i) (E := fun x => some (x, N1)) (m := n) (fun k x i hi => by
      rw [gX8_dead_L13, hN1.1]
      by_cases h : i = n
      · rw [h, if_pos (nI_le (Nat.le_refl _) (by omega)), if_pos rfl]
      · rw [if_neg (nI_ge (by omega) (by omega)), if_neg h, tokM hN1 hV (by omega), bd_some, ckI (show i < 80 by omega) (by decide), cI (show i < 2 ^ 31 by omega), (n2 i (by omega)).1]
        simp only [bI_0, lt_n, up1]
        by_cases t : 18 ≤ cd i
        · by_cases z : pres cd i = 0
          · rw [decide_eq_true t, if_neg (by decide), if_pos z, decide_eq_true z]; rfl
          · rw [decide_eq_true t, if_neg (by decide), if_neg z, decide_eq_false z]; rfl
        · rw [decide_eq_false t, if_pos rfl, Bool.false_and]; rfl) (fuel := FU) (x := 0) (by unfold FU; omega)
theorem a_length (x1 x2 : Int32) : agT (Rl Fs) (fun M => gX7_length M x1) (fun N => gX8_length N x1) [2] (fun _ => True) := by
  intro M N ⟨n, cd, hC, hM, hV, hF⟩
  dsimp only
  have hM0 := hM.thr 0
  have hn := hV.1
  rcases conf_c (M := M) x1 with ⟨a, b⟩ | ⟨c, hc, rfl, a, b⟩
  · refine no_g (k := 2) (w := (0 : Int32)) (v := 1) ?_ ?_ (by decide) um_hit (by decide) hC (hM0.thr 1) hV hF
    · unfold gX7_length
      rw [a, te_x rfl]
    · unfold gX8_length
      rw [lt_s9, if_pos b, no_s]
  · obtain ⟨M1, m1, m2, m3⟩ := freshC hC hV hF
    obtain ⟨N1, n1, n2, n3⟩ := lookM hM0 hV
    have hN1 : SrcM N1 n cd := ⟨by rw [n3 0 (by decide) (by decide)]; exact hM0.1, fun j hj => by rw [n3 1 (by decide) (by decide)]; exact hM0.2 j hj⟩
    refine val_s (v := nI (vl cd c n).length) ?_ ?_ ?_ trivial m2 hN1 hV (Or.inr m3)
    · unfold gX7_length
      rw [a, te_inl, m1, bd_some, ckI (show c < 16 by omega) (by decide), cI (show c < 2 ^ 31 by omega), lt_n, (m3.2.1 c hc).1]
    · unfold gX8_length
      rw [lt_n, if_neg (by rw [b]; decide), n1, bd_some, lenM hN1 hV (fun j hj => (n2 j hj).1), bd_some]
    · rw [n3 0 (by decide) (by decide), um_hit]
/-- the class's test of an index, and what the model finds at it -/
theorem idx_c {M N : Mm} {n c : Nat} {cd : Nat → Nat} (hc : c < 16) (hM : SrcM N n cd) (hV : Val n cd) (hA : VarC cd M c (vl cd c n)) (hP : ∀ j, j < n → N 2 j = pres cd j) (x : Int32) : (gX7_checkIndex M (nI c) x = some (.inr 2, M) ∧ gX8_find N (nI c) x = some (-1 : Int32)) ∨ ∃ k, k < (vl cd c n).length ∧ x = nI k ∧ gX7_checkIndex M (nI c) x = some (.inl 0, M) ∧ gX8_find N (nI c) x = some (nI ((vl cd c n).getD k 0)) := by
  have hn := hV.1
  have hl := vl_len (cd := cd) (c := c) n
  unfold gX7_checkIndex
  by_cases a : x < 0
  · exact Or.inl ⟨if_pos a, find_neg a⟩
  obtain ⟨k, hk, rfl⟩ := nI_of a
  rw [if_neg a, ckI hc (by decide), cI (show c < 2 ^ 31 by omega), lt_n, hA.1, findM hM hV hP hk]
  unfold fnd
  by_cases b : k < (vl cd c n).length
  · exact Or.inr ⟨k, b, rfl, if_pos (nI_lt b (by omega)), by rw [if_pos b]⟩
  · exact Or.inl ⟨if_neg (nI_nlt (by omega) hk), by rw [if_neg b]⟩
theorem a_place (x1 x2 : Int32) : agT (Rl Fs) (fun M => gX7_place M x1 x2) (fun N => gX8_place N x1 x2) [2] (fun _ => True) := by
  intro M N ⟨n, cd, hC, hM, hV, hF⟩
  dsimp only
  have hM0 := hM.thr 0
  have hn := hV.1
  rcases conf_c (M := M) x1 with ⟨a, b⟩ | ⟨c, hc, rfl, a, b⟩
  · refine no_g (k := 2) (w := (0 : Int32)) (v := 1) ?_ ?_ (by decide) um_hit (by decide) hC (hM0.thr 1) hV hF
    · unfold gX7_place
      rw [a, te_x rfl]
    · unfold gX8_place
      rw [lt_s9, if_pos b, no_s]
  · obtain ⟨M1, m1, m2, m3⟩ := freshC hC hV hF
    obtain ⟨N1, n1, n2, n3⟩ := lookM hM0 hV
    have hN1 : SrcM N1 n cd := ⟨by rw [n3 0 (by decide) (by decide)]; exact hM0.1, fun j hj => by rw [n3 1 (by decide) (by decide)]; exact hM0.2 j hj⟩
    have hb : ¬ gX8_isConfiguration (nI c) = 0 := by rw [b]; decide
    have hl := vl_len (cd := cd) (c := c) n
    rcases idx_c hc hN1 hV (m3.2.1 c hc) (fun j hj => (n2 j hj).1) x2 with ⟨d, e⟩ | ⟨k, hk, rfl, d, e⟩
    · refine no_g (k := 2) (w := (0 : Int32)) (v := 1) ?_ ?_ (by decide) um_hit (by decide) m2 (hN1.thr 1) hV (Or.inr m3)
      · unfold gX7_place
        rw [a, te_inl, m1, bd_some, d, te_x rfl]
      · unfold gX8_place
        rw [lt_n, if_neg hb, n1, bd_some, e, bd_some, if_pos rfl, no_s]
    · have hi := (vl_get hk).1
      refine val_s (v := nI ((vl cd c n).getD k 0)) ?_ ?_ ?_ trivial m2 hN1 hV (Or.inr m3)
      · unfold gX7_place
        rw [a, te_inl, m1, bd_some, d, te_inl, ckI (show c < 16 by omega) (by decide), cI (show c < 2 ^ 31 by omega), lt_n, ckI (show k < 80 by omega) (by decide), cI (show k < 2 ^ 31 by omega), (m3.2.1 c hc).2.2 k (by simpa using hk), map_get hk]
      · unfold gX8_place
        rw [lt_n, if_neg hb, n1, bd_some, e, bd_some, if_neg (fun h => by rw [qm', s_em (by omega)] at h; exact h)]
      · rw [n3 0 (by decide) (by decide), um_hit]
