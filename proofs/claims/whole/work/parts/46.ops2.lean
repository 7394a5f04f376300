section SRC3
variable {Fr : Nat → (Nat → Nat) → Mm → Prop}
theorem lt_when (k : Nat) : k < 4 → True := fun _ => trivial
theorem a_when (x1 x2 : Int32) : agT (Rl Fr) (fun M => gX7_when M x1 (if x2 = 0 then 0 else 1)) (fun N => gX8_when N x1 (if x2 = 0 then 0 else 1)) [2, 1] (fun _ => True) := by
  intro M N ⟨n, cd, hC, hM, hV, hF⟩
  have hb : (if x2 = 0 then (0 : Int32) else 1) = nI (nb x2) := by unfold nb; by_cases h : x2 = 0 <;> simp only [h, if_true, if_false] <;> rfl
  dsimp only
  rw [hb]
  have hM0 := hM.thr 0
  obtain ⟨l, hl⟩ := hV.2.2
  have h5 := st_len hl
  rcases feat (x := x1) with ⟨a, e⟩ | ⟨a, a2, e⟩ | ⟨f, hf, rfl, e⟩
  · refine ref_s (M := M) (N := N) (k := 2) (v := 1) ?_ ?_ (by decide) (by decide) ⟨n, cd, hC, hM, hV, hF⟩
    · unfold gX7_when gX7_checkFeature
      rw [if_pos a, te_x rfl]
    · unfold gX8_when
      rw [lt_s9, if_pos e, no_s]
  · refine ref_s (M := M) (N := N) (k := 2) (v := 1) ?_ ?_ (by decide) (by decide) ⟨n, cd, hC, hM, hV, hF⟩
    · unfold gX7_when gX7_checkFeature
      rw [if_neg a, if_neg a2, te_x rfl]
    · unfold gX8_when
      rw [lt_s9, if_pos e, no_s]
  · have c7 : gX7_checkFeature M (nI f) = some (.inl 0, M) := by
      unfold gX7_checkFeature
      rw [if_neg (nI_pos (by omega)), if_pos (show nI f < (4 : Int32) from nI_lt (b := 4) hf (by decide))]
    have e0 : ¬ gX8_isFeature (nI f) = 0 := by rw [e]; decide
    by_cases hn : n < 80
    · have hcm : gX8_openCount (um N 0 0 0) = some (nI l.length) := cntM hM0 hV hl
      by_cases hl5 : l.length < 5
      · obtain ⟨w1, w2, w3, w4, -, -⟩ := codeW hf (nb_le x2)
        have hb1 := nb_le x2
        refine app_s (c := 2 * f + nb x2) (ls' := (n, false) :: l) hC hM hV hn (by omega) hl (by unfold stp; rw [if_pos (by omega), if_pos hl5]) ?_ ?_
        · unfold gX7_when
          rw [c7, te_v rfl, room_ok hC hn, te_v rfl, cntC hC hV hl, bd_s9 rfl, if_pos (show nI l.length < (5 : Int32) from nI_lt (b := 5) hl5 (by decide)), w1]
        · unfold gX8_when
          rw [lt_s9, if_neg e0, hM0.1, if_neg (n80 hn), hcm, bd_s9 rfl, if_neg (show ¬ nI l.length = (5 : Int32) from fun e => by have := (nI_eq (b := 5) (by omega) (by decide)).mp e; omega), w3, w4]
          rcases (show nb x2 = 0 ∨ nb x2 = 1 by omega) with z | z
          · rw [z, if_pos (show nI 0 = 0 from rfl), Nat.add_zero]
          · rw [z, if_neg (show ¬ nI 1 = 0 by decide)]
      · have l5 : l.length = 5 := by omega
        refine ref_s (M := M) (N := N) (k := 1) (v := 2) ?_ ?_ (by decide) (by decide) ⟨n, cd, hC, hM, hV, hF⟩
        · unfold gX7_when
          rw [c7, te_v rfl, room_ok hC hn, te_v rfl, cntC hC hV hl, bd_s9 rfl, l5, if_neg (show ¬ nI 5 < (5 : Int32) by decide)]
        · unfold gX8_when
          rw [lt_s9, if_neg e0, hM0.1, if_neg (n80 hn), hcm, bd_s9 rfl, l5, if_pos (show nI 5 = (5 : Int32) from rfl), no_s]
    · have h80 : n = 80 := by have := hV.1; omega
      refine ref_s (M := M) (N := N) (k := 1) (v := 2) ?_ ?_ (by decide) (by decide) ⟨n, cd, hC, hM, hV, hF⟩
      · unfold gX7_when
        rw [c7, te_v rfl, room_no hC h80, te_x rfl]
      · unfold gX8_when
        rw [lt_s9, if_neg e0, hM0.1, h80, if_pos (show nI 80 = (80 : Int32) from rfl), no_s]
theorem Val_dn {n : Nat} {cd : Nat → Nat} (hV : Val (n + 1) cd) : Val n cd := by
  obtain ⟨l, hl⟩ := hV.2.2
  obtain ⟨l', h', -⟩ := st_pre hl
  exact ⟨by have := hV.1; omega, fun i hi => hV.2.1 i (by omega), l', h'⟩
theorem a_drop (x1 x2 : Int32) : agT (Rl Fr) (fun M => gX7_drop M) (fun N => gX8_drop N) [1] (fun _ => True) := by
  intro M N ⟨n, cd, hC, hM, hV, hF⟩
  dsimp only
  have hM0 := hM.thr 0
  cases n with
  | zero =>
    refine ref_s (M := M) (N := N) (k := 1) (v := 1) ?_ ?_ (by decide) (by decide) ⟨0, cd, hC, hM, hV, hF⟩
    · unfold gX7_drop
      rw [hC.1, if_pos (show nI 0 = 0 from rfl)]
    · unfold gX8_drop
      rw [lt_s9, hM0.1, if_pos (show nI 0 = 0 from rfl), no_s]
  | succ n =>
    have hn := hV.1
    have hz : ¬ nI (n + 1) = 0 := fun e => by have := (nI_z (k := n + 1) (by omega)).mp e; omega
    refine ⟨.inl (nI n), um (um M 1 1 (nI n)) 0 4 0, nI n, um (um N 0 0 0) 0 1 (nI n), ?_, (fun k h => by cases h), ?_, ?_, (fun v h => by cases h; exact ⟨rfl, trivial⟩), n, cd, ⟨?_, fun i hi => ?_⟩, ⟨um_hit, fun i hi => ?_⟩, Val_dn hV, Or.inl um_hit⟩
    · unfold gX7_drop gX4_removeLast
      rw [hC.1, if_neg hz, if_neg (nI_nle (by omega) (by omega)), nI_pred, lt_s9, bd_s9 rfl, lt_s9, um_cell (show (1 : Nat) ≠ 0 by decide), um_hit]
    · unfold gX8_drop
      rw [lt_s9, hM0.1, if_neg hz, nI_pred, lt_s9, um_hit]
    · rw [um_place (by decide)]; exact um_hit
    · rw [um_cell (by decide), um_hit]
    · rw [um_cell (by decide), um_cell (by decide)]; exact hC.2 i (by omega)
    · rw [um_cell (by decide)]; exact hM0.2 i (by omega)
theorem a_size : agR (Rl Fr) (fun M => gX7_size M) (fun N => gX8_size N) := by
  intro M N ⟨n, cd, hC, hM, hV, hF⟩
  refine ⟨nI n, um N 0 0 0, ?_, ?_, n, cd, hC, hM.thr 0, hV, hF⟩
  · show some (M 1 1) = _
    rw [hC.1]
  · show some (um N 0 0 0 0 1, um N 0 0 0) = _
    rw [(hM.thr 0).1]
theorem a_unfinished : agR (Rl Fr) (fun M => gX7_unfinished M) (fun N => gX8_unfinished N) := by
  intro M N ⟨n, cd, hC, hM, hV, hF⟩
  obtain ⟨l, hl⟩ := hV.2.2
  refine ⟨nI l.length, um N 0 0 0, ?_, ?_, n, cd, hC, hM.thr 0, hV, hF⟩
  · show gX7_unfinished M = _
    unfold gX7_unfinished
    rw [cntC hC hV hl, bd_s9 rfl]
  · show gX8_unfinished N = _
    unfold gX8_unfinished
    rw [lt_s9, cntM (hM.thr 0) hV hl, bd_s9 rfl]
end SRC3
