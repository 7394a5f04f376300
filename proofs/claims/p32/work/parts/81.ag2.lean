theorem fstText {M : Mm} {n c : Nat} {cd : Nat → Nat} (hV : Val n cd) (hA : ∀ c, c < 16 → VarC cd M c (vl cd c n)) (hc : c < 16) : gX7_isFirstOfItsText M (nI c) = some (bI (fi (fun b => decide (txt cd (vl cd b n) = txt cd (vl cd c n))) c)) := by
  have hn := hV.1
  unfold gX7_isFirstOfItsText
  have e := g_first (f := fun k x => gX7_isFirstOfItsText_L2 M (nI c) k x) (q := fun b => decide (txt cd (vl cd b n) = txt cd (vl cd c n))) (a1 := some (1 : Int32)) (a0 := some (0 : Int32)) (c := c) (fun k b hb => by
    rw [gX7_isFirstOfItsText_L2]
    by_cases h : b = c
    · rw [h, if_pos (nI_le (Nat.le_refl _) (by omega)), if_pos rfl]
    · have l1 := vl_len (cd := cd) (c := c) n
      have l2 := vl_len (cd := cd) (c := b) n
      rw [if_neg (nI_ge (by omega) (by omega)), if_neg h, ckI (show c < 16 by omega) (by decide), lt_n, ckI (show b < 16 by omega) (by decide), lt_n, cI (show c < 2 ^ 31 by omega), cI (show b < 2 ^ 31 by omega), tokSame (hA c hc) (hA b (by omega)) (by omega) (by omega), bd_some, lt_n, up1]
      by_cases z : txt cd (vl cd b n) = txt cd (vl cd c n)
      · rw [decide_eq_true z.symm, if_neg (show ¬ bI true = 0 by decide), if_pos (decide_eq_true z)]
      · rw [decide_eq_false (fun w => z w.symm), if_pos (show bI false = 0 from rfl), if_neg (by rw [decide_eq_false z]; decide)]) (fuel := FU) (by unfold FU; omega)
  refine e.trans ?_
  cases fi (fun b => decide (txt cd (vl cd b n) = txt cd (vl cd c n))) c <;> rfl
def wk (cd : Nat → Nat) (n : Nat) : Int32 := itr (fun i x => x + gr cd i) n 0
theorem sumC {M : Mm} {n : Nat} {cd : Nat → Nat} (hn : n ≤ 80) (hC : SrcC M n cd) (hG : ∀ j, j < n → M 14 j = gr cd j) : gX7_sumOfGroups M = some (wk cd n) := by
  unfold gX7_sumOfGroups
  exact g_for (f := fun k x i => gX7_sumOfGroups_L4 M k x i) (E := fun x => some x) (m := n) (fun k x i hi => by
    rw [gX7_sumOfGroups_L4, hC.1]
    by_cases h : i = n
    · rw [h, if_pos (nI_le (Nat.le_refl _) (by omega)), if_pos rfl]
    · rw [if_neg (nI_ge (by omega) (by omega)), if_neg h, ckI (show i < 80 by omega) (by decide), cI (show i < 2 ^ 31 by omega), hG i (by omega), lt_n, lt_n, up1]) (fuel := FU) (x := 0) (by unfold FU; omega)
/-- heights by indexes, and by items -/
theorem rd_none {cd : Nat → Nat} {c i : Nat} (h : rd cd c i = none) : ∀ j, i ≤ j → rd cd c j = none
  | 0, hj => by obtain rfl : i = 0 := by omega
                exact h
  | j + 1, hj => by
    by_cases e : i = j + 1
    · rw [← e]; exact h
    · exact rd_pre (rd_none h j (by omega))
theorem hgt_all {cd : Nat → Nat} {c : Nat} : ∀ n, (hgt cd c n).length ≤ (vl cd c n).length ∧ ∀ k, k < (vl cd c n).length → dA cd c ((vl cd c n).getD k 0) = if k < (hgt cd c n).length then nI ((hgt cd c n).getD k 0) else -1
  | 0 => ⟨Nat.le_refl _, fun k hk => absurd hk (Nat.not_lt_zero _)⟩
  | n + 1 => by
    obtain ⟨h1, h2⟩ := hgt_all (cd := cd) (c := c) n
    show (if inV cd c n = true then (match rd cd c n with | some s => hgt cd c n ++ [s.length] | none => hgt cd c n) else hgt cd c n).length ≤ (if inV cd c n then vl cd c n ++ [n] else vl cd c n).length ∧ ∀ k, k < (if inV cd c n then vl cd c n ++ [n] else vl cd c n).length → dA cd c ((if inV cd c n then vl cd c n ++ [n] else vl cd c n).getD k 0) = if k < (if inV cd c n = true then (match rd cd c n with | some s => hgt cd c n ++ [s.length] | none => hgt cd c n) else hgt cd c n).length then nI ((if inV cd c n = true then (match rd cd c n with | some s => hgt cd c n ++ [s.length] | none => hgt cd c n) else hgt cd c n).getD k 0) else -1
    by_cases a : inV cd c n = true
    · rw [if_pos a, if_pos a]
      have vget : ∀ k, k < (vl cd c n).length → (vl cd c n ++ [n]).getD k 0 = (vl cd c n).getD k 0 := fun k hk => by simp [List.getD, List.getElem?_append_left hk]
      have vlast : (vl cd c n ++ [n]).getD (vl cd c n).length 0 = n := by simp [List.getD]
      cases hr : rd cd c n with
      | none =>
        simp only [List.length_append, List.length_singleton]
        refine ⟨by omega, fun k hk => ?_⟩
        by_cases e : k < (vl cd c n).length
        · rw [vget k e]; exact h2 k e
        · have e2 : k = (vl cd c n).length := by omega
          rw [e2, vlast, if_neg (by omega)]
          unfold dA
          rw [hr]
      | some s =>
        have hlen : (hgt cd c n).length = (vl cd c n).length := by
          have key : ∀ m, rd cd c m ≠ none → (hgt cd c m).length = (vl cd c m).length := by
            intro m
            induction m with
            | zero => intro _; rfl
            | succ m ih =>
              intro hm
              have hm' : rd cd c m ≠ none := fun h => hm (rd_pre h)
              show (if inV cd c m = true then (match rd cd c m with | some s => hgt cd c m ++ [s.length] | none => hgt cd c m) else hgt cd c m).length = (if inV cd c m then vl cd c m ++ [m] else vl cd c m).length
              by_cases b : inV cd c m = true
              · rw [if_pos b, if_pos b]
                cases hr2 : rd cd c m with
                | none => exact absurd hr2 hm'
                | some s =>
                  show (hgt cd c m ++ [s.length]).length = _
                  rw [List.length_append, List.length_append, ih hm']; rfl
              · rw [if_neg b, if_neg b]; exact ih hm'
          exact key n (by rw [hr]; simp)
        simp only [List.length_append, List.length_singleton]
        refine ⟨by omega, fun k hk => ?_⟩
        by_cases e : k < (vl cd c n).length
        · rw [vget k e, h2 k e, if_pos (by omega), if_pos (by omega)]
          simp [List.getD, List.getElem?_append_left (show k < (hgt cd c n).length by omega)]
        · have e2 : k = (vl cd c n).length := by omega
          rw [e2, vlast, if_pos (by omega), ← hlen]
          unfold dA
          rw [hr]
          simp [List.getD]
    · rw [if_neg a, if_neg a]; exact ⟨h1, h2⟩
