theorem turnC {M : Mm} {w : Wst} {k : Nat} (hW : WkC M w) (hk : k < 16) (hk8 : ¬ k < 8) : ∃ M', gX6_turn M (nI k) = some M' ∧ WkC M' (wstep k w) ∧ OwnW M M' ∧ M' 4 = M 4 := by
  obtain ⟨hA, hD, hO, hS⟩ := hW
  obtain ⟨f1, f2, -⟩ := feat_n k (List.mem_range.mpr hk)
  have hf4 : k % 8 / 2 < 4 := by omega
  have fin : ∀ v : Int32, v = (if k % 2 = 1 then w.1 (k % 8 / 2) ||| w.2.1 else w.1 (k % 8 / 2) &&& (w.2.1 ^^^ (-1 : Int32))) → WkC (um M 10 (k % 8 / 2) v) (wstep k w) ∧ OwnW M (um M 10 (k % 8 / 2) v) ∧ (um M 10 (k % 8 / 2) v) 4 = M 4 := by
    intro v hv
    refine ⟨⟨?_, ?_, fun f hf => ?_, ?_⟩, fun a i n3 n10 n11 n12 n4 => um_cell n10, ?_⟩
    · rw [um_cell (by decide)]
      unfold wstep
      rw [if_neg hk8, if_pos hk]
      exact hA
    · rw [um_cell (by decide)]
      unfold wstep
      rw [if_neg hk8, if_pos hk]
      exact hD
    · unfold wstep
      rw [if_neg hk8, if_pos hk]
      show _ = upd w.1 (k % 8 / 2) _ f
      unfold upd
      by_cases e : f = k % 8 / 2
      · rw [e, um_hit, if_pos rfl]
        exact hv
      · rw [um_place e, if_neg e]
        exact hO f hf
    · unfold wstep
      rw [if_neg hk8, if_pos hk]
      exact StkC_c hS (fun j hj => ⟨um_cell (by decide), um_cell (by decide)⟩)
    · funext i
      exact um_cell (by decide)
  unfold gX6_turn
  rw [f2, f1, ckI hf4 (by decide), cI (by omega), ckJ hf4 (by decide), ckJ hf4 (by decide), ckJ hf4 (by decide), hO _ hf4, hA, lt_s9, lt_s9]
  by_cases o : k % 2 = 1
  · rw [if_pos o, if_neg (by decide)]
    exact ⟨_, rfl, fin _ (by rw [if_pos o])⟩
  · rw [if_neg o, if_pos rfl]
    exact ⟨_, rfl, fin _ (by rw [if_neg o])⟩
/-- one step of the class's walk -/
theorem stepC {M : Mm} {w : Wst} {k i p : Nat} {l l' : List (Nat × Bool)} (hW : WkC M w) (hi : i < 80) (hk : k < 2 ^ 31) (hl : w.2.2.length = l.length) (h5 : l.length ≤ 5) (hs : stp k p l = some l') : ∃ M', gX6_step M (nI k) (nI i) = some M' ∧ WkC M' (wstep k w) ∧ OwnW M M' ∧ (∀ j, j ≠ i → M' 4 j = M 4 j) ∧ M' 4 i = (if k = 16 ∨ k = 17 then (w.2.2.headD (0, 0)).1 else M 4 i) := by
  unfold gX6_step
  rw [isWhen_n hk, isSet_n hk]
  by_cases a : k < 8
  · obtain ⟨l5, -⟩ := stp_when a hs
    obtain ⟨M', e1, e2, e3, e4⟩ := enterC hW a (by omega)
    rw [if_pos a, if_neg (by decide), bd_s9 e1]
    exact ⟨M', rfl, e2, e3, fun j _ => by rw [e4], by rw [e4, if_neg (by omega)]⟩
  rw [if_neg a, if_pos rfl]
  by_cases b : k < 16
  · obtain ⟨M', e1, e2, e3, e4⟩ := turnC hW b a
    rw [show (if 8 ≤ k ∧ k < 16 then (1 : Int32) else 0) = 1 from if_pos ⟨by omega, b⟩, if_neg (show ¬ (1 : Int32) = 0 by decide), bd_s9 e1]
    exact ⟨M', rfl, e2, e3, fun j _ => by rw [e4], by rw [e4, if_neg (by omega)]⟩
  rw [show (if 8 ≤ k ∧ k < 16 then (1 : Int32) else 0) = 0 from if_neg (fun h => b h.2), if_pos rfl]
  obtain ⟨hA, hD, hO, hS⟩ := id hW
  by_cases c : k = 16
  · subst c
    obtain ⟨q, r, rfl, -⟩ := stp_oth hs
    obtain ⟨x, t, hx⟩ : ∃ x t, w.2.2 = x :: t := by
      cases h : w.2.2 with
      | nil => rw [h] at hl; simp at hl
      | cons x t => exact ⟨x, t, rfl⟩
    have hlen : t.length + 1 = (w.2.2).length := by rw [hx]; rfl
    have ht5 : t.length < 5 := by rw [hl] at hlen; simp at hlen h5; omega
    rw [hx] at hS
    have hD' : M 3 6 = nI (t.length + 1) := by rw [hD, ← hlen]
    rw [hD', if_neg (nI_nle (by omega) (by omega)), if_neg (show ¬ (5 : Int32) < nI (t.length + 1) from nI_nlt (a := 5) (by omega) (by decide)), if_pos (show nI 16 = (16 : Int32) from rfl), nI_pred, ckI ht5 (by decide), ckI hi (by decide), cI (i := i) (by omega), cI (i := t.length) (by omega), lt_s9, um_cell (show (3 : Nat) ≠ 4 by decide), hD', nI_pred, ckI ht5 (by decide), cI (i := t.length) (by omega), um_cell (show (12 : Nat) ≠ 4 by decide), lt_s9]
    have hw : wstep 16 w = (w.1, x.2, w.2.2) := by
      unfold wstep
      rw [if_neg (by decide), if_neg (by decide), if_pos rfl, hx]
      rfl
    rw [hw]
    refine ⟨_, rfl, ⟨?_, ?_, fun f hf => ?_, ?_⟩, fun a i n3 n10 n11 n12 n4 => ?_, fun j hj => ?_, ?_⟩
    · rw [um_hit]; exact hS.2.1
    · rw [um_place (by decide), um_cell (by decide)]; exact hD
    · rw [um_cell (by decide), um_cell (by decide)]; exact hO f hf
    · show StkC _ w.2.2
      rw [hx]
      exact StkC_c hS (fun j hj => ⟨by rw [um_cell (by decide), um_cell (by decide)], by rw [um_cell (by decide), um_cell (by decide)]⟩)
    · rw [um_cell n3, um_cell n4]
    · rw [um_cell (by decide), um_place hj]
    · rw [um_cell (by decide), um_hit, if_pos (Or.inl rfl), hx]
      exact hS.1
  have c9 : ¬ nI k = (16 : Int32) := fun e => c ((c16 hk).mp e)
  by_cases d : k = 17
  · subst d
    obtain ⟨q, rfl⟩ := stp_done hs
    obtain ⟨x, t, hx⟩ : ∃ x t, w.2.2 = x :: t := by
      cases h : w.2.2 with
      | nil => rw [h] at hl; simp at hl
      | cons x t => exact ⟨x, t, rfl⟩
    have hlen : t.length + 1 = (w.2.2).length := by rw [hx]; rfl
    have ht5 : t.length < 5 := by rw [hl] at hlen; simp at hlen h5; omega
    rw [hx] at hS
    have hD' : M 3 6 = nI (t.length + 1) := by rw [hD, ← hlen]
    rw [hD', if_neg (nI_nle (by omega) (by omega)), if_neg (show ¬ (5 : Int32) < nI (t.length + 1) from nI_nlt (a := 5) (by omega) (by decide)), if_neg c9, if_pos (show nI 17 = (17 : Int32) from rfl), nI_pred, ckI ht5 (by decide), ckI hi (by decide), cI (i := i) (by omega), cI (i := t.length) (by omega), lt_s9, um_cell (show (3 : Nat) ≠ 4 by decide), hD', nI_pred, ckI ht5 (by decide), cI (i := t.length) (by omega), um_cell (show (11 : Nat) ≠ 4 by decide), lt_s9, um_place (show (6 : Nat) ≠ 5 by decide), um_cell (show (3 : Nat) ≠ 4 by decide), hD', nI_pred, lt_s9]
    have hw : wstep 17 w = (w.1, x.1, t) := by
      unfold wstep
      rw [if_neg (by decide), if_neg (by decide), if_neg (by decide), if_pos rfl, hx]
      rfl
    rw [hw]
    refine ⟨_, rfl, ⟨?_, ?_, fun f hf => ?_, ?_⟩, fun a i n3 n10 n11 n12 n4 => ?_, fun j hj => ?_, ?_⟩
    · rw [um_place (by decide), um_hit]; exact hS.1
    · rw [um_hit]
    · rw [um_cell (by decide), um_cell (by decide), um_cell (by decide)]; exact hO f hf
    · exact StkC_c hS.2.2 (fun j hj => ⟨by rw [um_cell (by decide), um_cell (by decide), um_cell (by decide)], by rw [um_cell (by decide), um_cell (by decide), um_cell (by decide)]⟩)
    · rw [um_cell n3, um_cell n3, um_cell n4]
    · rw [um_cell (by decide), um_cell (by decide), um_place hj]
    · rw [um_cell (by decide), um_cell (by decide), um_hit, if_pos (Or.inr rfl), hx]
      exact hS.1
  have d9 : ¬ nI k = (17 : Int32) := fun e => d ((c17 hk).mp e)
  have hw : wstep k w = w := by
    unfold wstep
    rw [if_neg a, if_neg b, if_neg c, if_neg d]
  rw [hw, if_neg c9, if_neg d9]
  have hall : ∀ x y : Prop, ∀ [Decidable x] [Decidable y], (if x then some M else if y then some M else some M) = some M := fun x y _ _ => by
    by_cases hx : x
    · rw [if_pos hx]
    · rw [if_neg hx]
      by_cases hy : y
      · rw [if_pos hy]
      · rw [if_neg hy]
  rw [hall]
  exact ⟨M, rfl, hW, fun a i _ _ _ _ _ => rfl, fun j _ => rfl, by rw [if_neg (by omega)]⟩

