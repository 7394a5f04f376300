section SRC4
variable {Fr : Nat → (Nat → Nat) → Mm → Prop}
theorem item_c {M N : Mm} {n : Nat} {cd : Nat → Nat} (hC : SrcC M n cd) (hM : SrcM N n cd) (hV : Val n cd) (x : Int32) : (gX7_checkItem M x = some (.inr 2, M) ∧ gX8_isItem N x = some 0) ∨ ∃ i, i < n ∧ x = nI i ∧ gX7_checkItem M x = some (.inl 0, M) ∧ gX8_isItem N x = some 1 := by
  have hn := hV.1
  unfold gX7_checkItem gX8_isItem gX8_isIn
  rw [hC.1, hM.1]
  by_cases a : x < 0
  · exact Or.inl ⟨if_pos a, by rw [if_pos (show x < (0 : Int32) from a)]⟩
  obtain ⟨j, hj, rfl⟩ := nI_of a
  by_cases b : j < n
  · refine Or.inr ⟨j, b, rfl, by rw [if_neg a, if_pos (nI_lt b (by omega))], ?_⟩
    obtain ⟨n', rfl⟩ : ∃ n', n = n' + 1 := ⟨n - 1, by omega⟩
    rw [if_neg (show ¬ nI j < (0 : Int32) from a), nI_pred, if_neg (nI_nlt (by omega) (by omega))]
  · refine Or.inl ⟨by rw [if_neg a, if_neg (nI_nlt (by omega) hj)], ?_⟩
    rw [if_neg (show ¬ nI j < (0 : Int32) from a)]
    cases n with
    | zero => rw [dn0, if_pos (show (-1 : Int32) < nI j from by rw [i32_lt, nI_toInt hj]; have e : (-1 : Int32).toInt = -1 := rfl; omega)]
    | succ n => rw [nI_pred, if_pos (nI_lt (by omega) hj)]
theorem a_item (x1 x2 : Int32) : agT (Rl Fr) (fun M => gX7_item M x1) (fun N => gX8_item N x1) [2] (fun _ => True) := by
  intro M N ⟨n, cd, hC, hM, hV, hF⟩
  dsimp only
  have hM0 := hM.thr 0
  have hn := hV.1
  rcases item_c hC hM0 hV x1 with ⟨a, b⟩ | ⟨i, hi, rfl, a, b⟩
  · refine ref_s (M := M) (N := N) (k := 2) (v := 1) ?_ ?_ (by decide) (by decide) ⟨n, cd, hC, hM, hV, hF⟩
    · unfold gX7_item
      rw [a, te_x rfl]
    · unfold gX8_item
      rw [lt_s9, b, bd_s9 rfl, if_pos rfl, no_s]
  · refine ⟨.inl (nI (cd i)), M, nI (cd i), um N 0 0 0, ?_, (fun k h => by cases h), ?_, um_hit, (fun v h => by cases h; exact ⟨rfl, trivial⟩), n, cd, hC, hM0, hV, hF⟩
    · unfold gX7_item
      rw [a, te_v rfl, ckI (by omega) (by decide), cI (by omega), hC.2 i hi]
    · unfold gX8_item
      rw [lt_s9, b, bd_s9 rfl, if_neg (by decide), ckI (by omega) (by decide), cI (by omega), hM0.2 i hi]
theorem ok_tok {k : Nat} (h : ok k) (h31 : k < 2 ^ 31) : (gX0_isToken (nI k) = 0 ↔ nI k ≤ (17 : Int32)) := by
  have h17 : nI k ≤ (17 : Int32) ↔ k ≤ 17 := nI_leI (b := 17) h31 (by decide)
  rw [h17]
  constructor
  · intro e
    rcases h with h | h
    · exact h
    · exact absurd e h
  · intro hk
    rcases zb_tok (nI k) with e | e
    · exact e
    · obtain ⟨j, h1, h2, h3⟩ := tok_range (x := nI k) (by rw [e]; decide)
      have := (nI_eq h31 (by omega)).mp h3
      omega
theorem tok_big {k : Nat} (h : gX0_isToken (nI k) ≠ 0) (h31 : k < 2 ^ 31) : 33 ≤ k ∧ k ≤ 125 := by
  obtain ⟨j, h1, h2, h3⟩ := tok_range h
  have := (nI_eq h31 (by omega)).mp h3
  omega
/-- a token instead of a token: the open WHENs are the same -/
theorem st_rep {cd : Nat → Nat} {i c : Nat} (h1 : 17 < cd i) (h2 : 17 < c) : ∀ n : Nat, st (ext cd i c) n = st cd n
  | 0 => rfl
  | n + 1 => by
    show (st (ext cd i c) n).bind (stp (ext cd i c n) n) = (st cd n).bind (stp (cd n) n)
    rw [st_rep h1 h2 n]
    by_cases e : n = i
    · subst e
      rw [ext_n]
      congr 1
      funext l
      unfold stp
      rw [if_neg (by omega), if_neg (by omega), if_neg (by omega), if_neg (by omega), if_neg (by omega), if_neg (by omega)]
    · rw [ext_o e]
theorem a_replace (x1 x2 : Int32) : agT (Rl Fr) (fun M => gX7_replace M x1 x2) (fun N => gX8_replace N x1 x2) [2, 1, 0] (fun _ => True) := by
  intro M N ⟨n, cd, hC, hM, hV, hF⟩
  dsimp only
  have hM0 := hM.thr 0
  have hn := hV.1
  rcases item_c hC hM0 hV x1 with ⟨a, b⟩ | ⟨i, hi, rfl, a, b⟩
  · refine ref_s (M := M) (N := N) (k := 2) (v := 1) ?_ ?_ (by decide) (by decide) ⟨n, cd, hC, hM, hV, hF⟩
    · unfold gX7_replace
      rw [a, te_x rfl]
    · unfold gX8_replace
      rw [lt_s9, b, bd_s9 rfl, if_pos rfl, no_s]
  · obtain ⟨hok, hc31⟩ := hV.2.1 i hi
    have tM : gX8_isToken (um N 0 0 0) (nI i) = if nI (cd i) ≤ (17 : Int32) then some 0 else some 1 := by
      unfold gX8_isToken
      rw [ckI (by omega) (by decide), cI (by omega), hM0.2 i hi]
    by_cases t : gX0_isToken (nI (cd i)) = 0
    · refine ref_s (M := M) (N := N) (k := 1) (v := 2) ?_ ?_ (by decide) (by decide) ⟨n, cd, hC, hM, hV, hF⟩
      · unfold gX7_replace
        rw [a, te_v rfl, ckI (by omega) (by decide), cI (by omega), hC.2 i hi, lt_s9, if_pos t]
      · unfold gX8_replace
        rw [lt_s9, b, bd_s9 rfl, if_neg (by decide), tM, if_pos ((ok_tok hok hc31).mp t), bd_s9 rfl, if_pos rfl, no_s]
    have t17 : ¬ nI (cd i) ≤ (17 : Int32) := fun e => t ((ok_tok hok hc31).mpr e)
    by_cases u : gX0_isToken x2 = 0
    · refine ref_s (M := M) (N := N) (k := 0) (v := 3) ?_ ?_ (by decide) (by decide) ⟨n, cd, hC, hM, hV, hF⟩
      · unfold gX7_replace
        rw [a, te_v rfl, ckI (by omega) (by decide), cI (by omega), hC.2 i hi, lt_s9, if_neg t, if_pos u]
      · unfold gX8_replace
        rw [lt_s9, b, bd_s9 rfl, if_neg (by decide), tM, if_neg t17, bd_s9 rfl, if_neg (by decide), isChar, bd_s9 rfl, if_pos u, no_s]
    obtain ⟨c, hc1, hc2, rfl⟩ := tok_range u
    have hcd := tok_big t hc31
    have hr := st_rep (cd := cd) (i := i) (c := c) (by omega) (by omega)
    refine ⟨.inl (nI (cd i)), um (um M 2 i (nI c)) 0 4 0, nI (cd i), um (um N 0 0 0) 1 i (nI c), ?_, (fun k h => by cases h), ?_, ?_, (fun v h => by cases h; exact ⟨rfl, trivial⟩), n, ext cd i c, ⟨?_, fun j hj => ?_⟩, ⟨?_, fun j hj => ?_⟩, ⟨hn, fun j hj => ?_, ?_⟩, Or.inl um_hit⟩
    · unfold gX7_replace
      rw [a, te_v rfl, ckI (by omega) (by decide), cI (by omega), hC.2 i hi, lt_s9, if_neg t, if_neg u, ckJ (by omega) (by decide), lt_s9, lt_s9]
    · unfold gX8_replace
      rw [lt_s9, b, bd_s9 rfl, if_neg (by decide), tM, if_neg t17, bd_s9 rfl, if_neg (by decide), isChar, bd_s9 rfl, if_neg u, ckI (by omega) (by decide), cI (by omega), hM0.2 i hi, lt_s9, ckJ (by omega) (by decide), lt_s9]
    · rw [um_cell (by decide)]; exact um_hit
    · rw [um_cell (by decide), um_cell (by decide)]; exact hC.1
    · rw [um_cell (by decide)]
      by_cases e : j = i
      · subst e; rw [um_hit, ext_n]
      · rw [um_place e, ext_o e]; exact hC.2 j hj
    · rw [um_cell (by decide)]; exact hM0.1
    · by_cases e : j = i
      · subst e; rw [um_hit, ext_n]
      · rw [um_place e, ext_o e]; exact hM0.2 j hj
    · by_cases e : j = i
      · subst e; rw [ext_n]; exact ⟨Or.inr u, by omega⟩
      · rw [ext_o e]; exact hV.2.1 j hj
    · rw [hr]; exact hV.2.2
end SRC4
