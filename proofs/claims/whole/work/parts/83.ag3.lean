/-! running -/
theorem ask4 {M N : Mm} {n : Nat} {cd : Nat → Nat} (hC : SrcC M n cd) (hM : SrcM N n cd) (hV : Val n cd) (hF : M 0 4 = 0 ∨ Fs n cd M) (x : Int32) :
    (gX7_checkConfiguration M x = some (.inr 2, M) ∧ gX8_asks N x = some (0, um N 0 0 1)) ∨
    (gX7_checkConfiguration M x = some (.inl 0, M) ∧ gX7_checkFinished M = some (.inr 1, M) ∧ gX8_asks N x = some (0, um N 0 0 2)) ∨
    (gX7_checkConfiguration M x = some (.inl 0, M) ∧ gX7_checkFinished M = some (.inl 0, M) ∧ ∃ M1 N1, gX7_refresh M = some M1 ∧ SrcC M1 n cd ∧ Fs n cd M1 ∧ gX7_checkNoError M1 x = some (.inr 3, M1) ∧ gX8_asks N x = some (0, um N1 0 0 3) ∧ SrcM N1 n cd) ∨
    (gX7_checkConfiguration M x = some (.inl 0, M) ∧ gX7_checkFinished M = some (.inl 0, M) ∧ ∃ c M1 N1, c < 16 ∧ x = nI c ∧ fin cd c n = true ∧ gX7_refresh M = some M1 ∧ SrcC M1 n cd ∧ Fs n cd M1 ∧ FRun cd n M1 c ∧ gX7_checkNoError M1 x = some (.inl 0, M1) ∧ gX8_asks N x = some (1, N1) ∧ SrcM N1 n cd ∧ N1 0 0 = 0 ∧ N1 0 13 = nI (res cd c n).2.length ∧ RowL (N1 11) (res cd c n).2 ∧ ∀ v, v < 4 → N1 10 v = (res cd c n).1 v) := by
  have hn := hV.1
  obtain ⟨l, hl⟩ := hV.2.2
  have hw := whM hM hV hl
  rcases conf_c (M := M) x with ⟨a, b⟩ | ⟨c, hc, rfl, a, b⟩
  · refine Or.inl ⟨a, ?_⟩
    unfold gX8_asks
    rw [lt_n, if_pos b]
    dsimp only
    rw [lt_n, um_hit, if_neg (show ¬ (1 : Int32) = 0 by decide)]
  have hb : ¬ gX8_isConfiguration (nI c) = 0 := by rw [b]; decide
  by_cases w : l = []
  · obtain ⟨M1, m1, m2, m3⟩ := freshC hC hV hF
    obtain ⟨N1, n1, n2, n3, n4, n5, n6, n7⟩ := readM (hM.thr 0) hV
    have hN1 : SrcM N1 n cd := ⟨by rw [n2 0 (by decide)]; exact (hM.thr 0).1, fun j hj => by rw [n2 1 (by decide)]; exact (hM.thr 0).2 j hj⟩
    have m4 := m3.2.2 (by rw [hl, w])
    have hz : N1 0 0 = 0 := by rw [n2 0 (by decide), um_hit]
    have hem := eI_m (cd := cd) (c := c) hn
    have pre : gX8_asks N (nI c) = if eI cd c n = (-1 : Int32) then (bd (gX8_run N1 (nI c)) fun M12 => if (M12 0 0) = 0 then (some ((1 : Int32), M12)) else some ((0 : Int32), M12)) else lt (um N1 0 0 (3 : Int32)) fun M14 => if (M14 0 0) = 0 then (some ((1 : Int32), M14)) else some ((0 : Int32), M14) := by
      unfold gX8_asks
      rw [lt_n, if_neg hb, hw, if_pos w, bd_some, if_neg (show ¬ (1 : Int32) = 0 by decide)]
      dsimp only
      rw [lt_n, um_hit, if_pos rfl, n1, bd_some, ckI (show c < 16 by omega) (by decide), cI (show c < 2 ^ 31 by omega), n5 c hc]
    have fC : gX7_checkFinished M = some (.inl 0, M) := by rw [finC hC hV hl, if_pos w]
    by_cases hf : fin cd c n = true
    · obtain ⟨N2, r1, r2, r3, r4, r5, r6⟩ := runM hN1 hV (fun j hj => (n4 j hj).1) hf
      have z2 : N2 0 0 = 0 := (r6 0 (by decide) (by decide)).trans hz
      refine Or.inr (Or.inr (Or.inr ⟨a, fC, c, M1, N2, hc, rfl, hf, m1, m2, m3, m4.2.2 c hc hf, ?_, ?_, ⟨by rw [r6 1 (by decide) (by decide)]; exact hN1.1, fun j hj => by rw [r5 1 (by decide) (by decide) (by decide) (by decide)]; exact hN1.2 j hj⟩, z2, r2, r3, r4⟩))
      · unfold gX7_checkNoError
        rw [ckI (show c < 16 by omega) (by decide), cI (show c < 2 ^ 31 by omega), lt_n, (m4.1 c hc).1, if_pos (hem.mpr hf)]
      · rw [pre, if_pos (hem.mpr hf), r1, bd_some, if_pos z2]
    · refine Or.inr (Or.inr (Or.inl ⟨a, fC, M1, N1, m1, m2, m3, ?_, ?_, hN1⟩))
      · unfold gX7_checkNoError
        rw [ckI (show c < 16 by omega) (by decide), cI (show c < 2 ^ 31 by omega), lt_n, (m4.1 c hc).1, if_neg (fun h => hf (hem.mp h))]
      · rw [pre, if_neg (fun h => hf (hem.mp h)), lt_n, um_hit, if_neg (show ¬ (3 : Int32) = 0 by decide)]
  · refine Or.inr (Or.inl ⟨a, by rw [finC hC hV hl, if_neg w], ?_⟩)
    unfold gX8_asks
    rw [lt_n, if_neg hb, hw, if_neg w, bd_some, if_pos rfl]
    dsimp only
    rw [lt_n, um_hit, if_neg (show ¬ (2 : Int32) = 0 by decide)]
theorem a_outputs (x1 x2 : Int32) : agT (Rl Fs) (fun M => gX7_outputs M x1) (fun N => gX8_outputs N x1) [2, 1, 3] (fun _ => True) := by
  intro M N ⟨n, cd, hC, hM, hV, hF⟩
  dsimp only
  rcases ask4 hC hM hV hF x1 with ⟨a, b⟩ | ⟨a, b, d⟩ | ⟨a, b, M1, N1, e1, e2, e3, e4, e5, e6⟩ | ⟨a, b, c, M1, N1, hc, rfl, hf, e1, e2, e3, e4, e5, e6, e7, e8, e9, e10, e11⟩
  · refine no_g (k := 2) (w := (0 : Int32)) (v := 1) ?_ ?_ (by decide) um_hit (by decide) hC (hM.thr 1) hV hF
    · unfold gX7_outputs
      rw [a, te_x rfl]
    · unfold gX8_outputs
      rw [b, bd2_some, if_pos rfl]
  · refine no_g (k := 1) (w := (0 : Int32)) (v := 2) ?_ ?_ (by decide) um_hit (by decide) hC (hM.thr 2) hV hF
    · unfold gX7_outputs
      rw [a, te_inl, b, te_x rfl]
    · unfold gX8_outputs
      rw [d, bd2_some, if_pos rfl]
  · refine no_g (k := 3) (w := (0 : Int32)) (v := 3) ?_ ?_ (by decide) um_hit (by decide) e2 (e6.thr 3) hV (Or.inr e3)
    · unfold gX7_outputs
      rw [a, te_inl, b, te_inl, e1, bd_some, e4, te_x rfl]
    · unfold gX8_outputs
      rw [e5, bd2_some, if_pos rfl]
  · refine val_s (N1 := N1) (v := nI (res cd c n).2.length) ?_ ?_ e8 trivial e2 e7 hV (Or.inr e3)
    · unfold gX7_outputs
      rw [a, te_inl, b, te_inl, e1, bd_some, e5, te_inl, ckI (show c < 16 by omega) (by decide), cI (show c < 2 ^ 31 by omega), lt_n, e4.1]
    · unfold gX8_outputs
      rw [e6, bd2_some, if_neg (show ¬ (1 : Int32) = 0 by decide), e9]
theorem a_output (x1 x2 : Int32) : agT (Rl Fs) (fun M => gX7_output M x1 x2) (fun N => gX8_output N x1 x2) [2, 1, 3, 0] (fun _ => True) := by
  intro M N ⟨n, cd, hC, hM, hV, hF⟩
  dsimp only
  have hn := hV.1
  rcases ask4 hC hM hV hF x1 with ⟨a, b⟩ | ⟨a, b, d⟩ | ⟨a, b, M1, N1, e1, e2, e3, e4, e5, e6⟩ | ⟨a, b, c, M1, N1, hc, rfl, hf, e1, e2, e3, e4, e5, e6, e7, e8, e9, e10, e11⟩
  · refine no_g (k := 2) (w := (0 : Int32)) (v := 1) ?_ ?_ (by decide) um_hit (by decide) hC (hM.thr 1) hV hF
    · unfold gX7_output
      rw [a, te_x rfl]
    · unfold gX8_output
      rw [b, bd2_some, if_pos rfl]
  · refine no_g (k := 1) (w := (0 : Int32)) (v := 2) ?_ ?_ (by decide) um_hit (by decide) hC (hM.thr 2) hV hF
    · unfold gX7_output
      rw [a, te_inl, b, te_x rfl]
    · unfold gX8_output
      rw [d, bd2_some, if_pos rfl]
  · refine no_g (k := 3) (w := (0 : Int32)) (v := 3) ?_ ?_ (by decide) um_hit (by decide) e2 (e6.thr 3) hV (Or.inr e3)
    · unfold gX7_output
      rw [a, te_inl, b, te_inl, e1, bd_some, e4, te_x rfl]
    · unfold gX8_output
      rw [e5, bd2_some, if_pos rfl]
  · have hlen := (res_ok hn hf).2
    obtain ⟨os, hos⟩ : ∃ os, (res cd c n).2 = os := ⟨_, rfl⟩
    rw [hos] at hlen e9 e10
    have p7 : gX7_output M (nI c) x2 = if x2 < 0 then (some (.inr 0, M1)) else if x2 < nI os.length then (if (x2 < 0 ∨ 80 ≤ (x2).toNatClampNeg) then none else some (.inl (M1 (vb c + 9) (x2).toNatClampNeg), M1)) else some (.inr 0, M1) := by
      unfold gX7_output
      rw [a, te_inl, b, te_inl, e1, bd_some, e5, te_inl, ckI (show c < 16 by omega) (by decide), cI (show c < 2 ^ 31 by omega), lt_n, e4.1, hos]
    have p8 : gX8_output N (nI c) x2 = if (gX8_isIn x2 (0 : Int32) (nI os.length - (1 : Int32))) = 0 then (some (0, um N1 0 0 4)) else if (x2 < 0 ∨ 80 ≤ (x2).toNatClampNeg) then none else some ((N1 11 (x2).toNatClampNeg), N1) := by
      unfold gX8_output
      rw [e6, bd2_some, if_neg (show ¬ (1 : Int32) = 0 by decide), e9, no_s]
    have inr : (x2 < 0 ∧ gX8_isIn x2 (0 : Int32) (nI os.length - (1 : Int32)) = 0) ∨ (¬ x2 < 0 ∧ ¬ x2 < nI os.length ∧ gX8_isIn x2 (0 : Int32) (nI os.length - (1 : Int32)) = 0) ∨ ∃ k, k < os.length ∧ x2 = nI k ∧ gX8_isIn x2 (0 : Int32) (nI os.length - (1 : Int32)) = 1 := by
      unfold gX8_isIn
      by_cases z : x2 < 0
      · exact Or.inl ⟨z, if_pos z⟩
      obtain ⟨j, hj, rfl⟩ := nI_of z
      by_cases y : j < os.length
      · refine Or.inr (Or.inr ⟨j, y, rfl, ?_⟩)
        rw [if_neg (show ¬ nI j < (0 : Int32) from z), q1, s_sub (by omega), if_neg (nI_nlt (by omega) (by omega))]
      · refine Or.inr (Or.inl ⟨z, nI_nlt (by omega) hj, ?_⟩)
        rw [if_neg (show ¬ nI j < (0 : Int32) from z), if_pos]
        by_cases u : os.length = 0
        · rw [u, q1, s_d0', s_mt (by omega)]; trivial
        · rw [q1, s_sub (by omega)]; exact nI_lt (by omega) hj
    rcases inr with ⟨z, y⟩ | ⟨z, u, y⟩ | ⟨k, hk, rfl, y⟩
    · exact no_g (k := 0) (w := (0 : Int32)) (v := 4) (by rw [p7, if_pos z]) (by rw [p8, if_pos y]) (by decide) um_hit (by decide) e2 (e7.thr 4) hV (Or.inr e3)
    · exact no_g (k := 0) (w := (0 : Int32)) (v := 4) (by rw [p7, if_neg z, if_neg u]) (by rw [p8, if_pos y]) (by decide) um_hit (by decide) e2 (e7.thr 4) hV (Or.inr e3)
    · have h9 := e4.2.1
      rw [hos] at h9
      refine val_s (N1 := N1) (v := os.getD k 0) ?_ ?_ e8 trivial e2 e7 hV (Or.inr e3)
      · rw [p7, if_neg (nI_pos (by omega)), if_pos (nI_lt hk (by omega)), ckI (show k < 80 by omega) (by decide), cI (show k < 2 ^ 31 by omega), h9 k hk]
      · rw [p8, if_neg (by rw [y]; decide), ckI (show k < 80 by omega) (by decide), cI (show k < 2 ^ 31 by omega), e10 k hk]
theorem a_variable (x1 x2 : Int32) : agT (Rl Fs) (fun M => gX7_variable M x1 x2) (fun N => gX8_variable N x1 x2) [2, 1, 3, 0] (fun _ => True) := by
  intro M N ⟨n, cd, hC, hM, hV, hF⟩
  dsimp only
  have hn := hV.1
  rcases ask4 hC hM hV hF x1 with ⟨a, b⟩ | ⟨a, b, d⟩ | ⟨a, b, M1, N1, e1, e2, e3, e4, e5, e6⟩ | ⟨a, b, c, M1, N1, hc, rfl, hf, e1, e2, e3, e4, e5, e6, e7, e8, e9, e10, e11⟩
  · refine no_g (k := 2) (w := (0 : Int32)) (v := 1) ?_ ?_ (by decide) um_hit (by decide) hC (hM.thr 1) hV hF
    · unfold gX7_variable
      rw [a, te_x rfl]
    · unfold gX8_variable
      rw [b, bd2_some, if_pos rfl]
  · refine no_g (k := 1) (w := (0 : Int32)) (v := 2) ?_ ?_ (by decide) um_hit (by decide) hC (hM.thr 2) hV hF
    · unfold gX7_variable
      rw [a, te_inl, b, te_x rfl]
    · unfold gX8_variable
      rw [d, bd2_some, if_pos rfl]
  · refine no_g (k := 3) (w := (0 : Int32)) (v := 3) ?_ ?_ (by decide) um_hit (by decide) e2 (e6.thr 3) hV (Or.inr e3)
    · unfold gX7_variable
      rw [a, te_inl, b, te_inl, e1, bd_some, e4, te_x rfl]
    · unfold gX8_variable
      rw [e5, bd2_some, if_pos rfl]
  · have p7 : gX7_variable M (nI c) x2 = if x2 < 0 then (some (.inr 0, M1)) else if x2 < (4 : Int32) then (if (x2 < 0 ∨ 4 ≤ (x2).toNatClampNeg) then none else some (.inl (M1 (vb c + 8) (x2).toNatClampNeg), M1)) else some (.inr 0, M1) := by
      unfold gX7_variable
      rw [a, te_inl, b, te_inl, e1, bd_some, e5, te_inl, ckI (show c < 16 by omega) (by decide), cI (show c < 2 ^ 31 by omega), lt_n]
    have p8 : gX8_variable N (nI c) x2 = if (gX8_isFeature x2) = 0 then (some (0, um N1 0 0 4)) else if (x2 < 0 ∨ 4 ≤ (x2).toNatClampNeg) then none else some ((N1 10 (x2).toNatClampNeg), N1) := by
      unfold gX8_variable
      rw [e6, bd2_some, if_neg (show ¬ (1 : Int32) = 0 by decide), no_s]
      rfl
    rcases feat (x := x2) with ⟨z, y⟩ | ⟨z, u, y⟩ | ⟨k, hk, rfl, y⟩
    · exact no_g (k := 0) (w := (0 : Int32)) (v := 4) (by rw [p7, if_pos z]) (by rw [p8, if_pos y]) (by decide) um_hit (by decide) e2 (e7.thr 4) hV (Or.inr e3)
    · exact no_g (k := 0) (w := (0 : Int32)) (v := 4) (by rw [p7, if_neg z, if_neg u]) (by rw [p8, if_pos y]) (by decide) um_hit (by decide) e2 (e7.thr 4) hV (Or.inr e3)
    · refine val_s (N1 := N1) (v := (res cd c n).1 k) ?_ ?_ e8 trivial e2 e7 hV (Or.inr e3)
      · rw [p7, if_neg (nI_pos (by omega)), if_pos (show nI k < (4 : Int32) from nI_lt (b := 4) hk (by decide)), ckI (show k < 4 by omega) (by decide), cI (show k < 2 ^ 31 by omega), e4.2.2 k hk]
      · rw [p8, if_neg (by rw [y]; decide), ckI (show k < 4 by omega) (by decide), cI (show k < 2 ^ 31 by omega), e11 k hk]
