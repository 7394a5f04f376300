theorem g_forI {σ α β : Type} {f : Nat → σ → α → Int32 → Option β} {g : Nat → α → α} {E : σ → α → Option β} {m : Nat} (I : Nat → σ → Prop) (hs : ∀ k s x i, i < m → I i s → ∃ s', f (k + 1) s x (nI i) = f k s' (g i x) (nI (i + 1)) ∧ I (i + 1) s') (he : ∀ k s x, I m s → f (k + 1) s x (nI m) = E s x) : ∀ {fuel : Nat} {s : σ} {x : α}, m < fuel → I 0 s → ∃ s', f fuel s x (nI 0) = E s' (itr g m x) ∧ I m s' := by
  have key : ∀ (d i fuel : Nat) (s : σ) (x : α), i + d = m → d < fuel → I i s → ∃ s', f fuel s (itr g i x) (nI i) = E s' (itr g m x) ∧ I m s' := by
    intro d
    induction d with
    | zero =>
      intro i fuel s x h1 h2 hI
      obtain ⟨k, rfl⟩ : ∃ k, fuel = k + 1 := ⟨fuel - 1, by omega⟩
      obtain rfl : i = m := by omega
      exact ⟨s, he _ _ _ hI, hI⟩
    | succ d ih =>
      intro i fuel s x h1 h2 hI
      obtain ⟨k, rfl⟩ : ∃ k, fuel = k + 1 := ⟨fuel - 1, by omega⟩
      obtain ⟨s1, e1, e2⟩ := hs k s (itr g i x) i (by omega) hI
      obtain ⟨s2, f1, f2⟩ := ih (i + 1) k s1 x (by omega) (by omega) e2
      exact ⟨s2, e1.trans f1, f2⟩
  intro fuel s x h hI
  exact key m 0 fuel s x (by omega) h hI
def qb (cd : Nat → Nat) (n c b : Nat) : Bool := fin cd b n && decide ((res cd c n).2 = (res cd b n).2)
theorem sameOut {M : Mm} {n b c : Nat} {cd : Nat → Nat} (hn : n ≤ 80) (hb : FRun cd n M b) (hc : FRun cd n M c) (fb : fin cd b n = true) (fc : fin cd c n = true) : gX3_hasSameOutputs M c b = some (bI (decide ((res cd c n).2 = (res cd b n).2))) := by
  have l1 := (res_ok hn fb).2
  have l2 := (res_ok hn fc).2
  unfold gX3_hasSameOutputs
  rw [hc.1, hb.1]
  by_cases e : (res cd c n).2.length = (res cd b n).2.length
  · rw [if_pos (by rw [e]), sameC hc.2.1 hb.2.1 e l2 l2 (by decide) (by decide), bd_some]
    rcases bI_01 (decide ((res cd c n).2 = (res cd b n).2)) with z | z
    · rw [if_pos z, z]
    · rw [if_neg (by rw [z]; decide), z]
  · rw [if_neg (fun w => e ((nI_eq (by omega) (by omega)).mp w)), decide_eq_false (fun w => e (by rw [w]))]
    rfl
theorem fstBeh {M : Mm} {n c : Nat} {cd : Nat → Nat} (hn : n ≤ 80) (hR : ∀ b, b < 16 → FRd cd n M b) (hU : ∀ b, b < 16 → fin cd b n = true → FRun cd n M b) (hc : c < 16) (fc : fin cd c n = true) : gX7_isFirstOfItsBehaviour M (nI c) = some (bI (fi (qb cd n c) c)) := by
  unfold gX7_isFirstOfItsBehaviour
  rw [ckI (show c < 16 by omega) (by decide), cI (show c < 2 ^ 31 by omega), lt_n]
  have e := g_first (f := fun k x => gX7_isFirstOfItsBehaviour_L12 M (nI c) k c x) (q := qb cd n c) (a1 := some (1 : Int32)) (a0 := some (0 : Int32)) (c := c) (fun k b hb => by
    rw [gX7_isFirstOfItsBehaviour_L12]
    by_cases h : b = c
    · rw [h, if_pos (nI_le (Nat.le_refl _) (by omega)), if_pos rfl]
    · have ck : ∀ {α : Type} {y : Option α}, (if (nI b < 0 ∨ 16 ≤ (nI b).toNatClampNeg) then none else y) = y := ckI (by omega) (by decide)
      have hem := eI_m (cd := cd) (c := b) hn
      rw [if_neg (nI_ge (by omega) (by omega)), if_neg h]
      simp only [ck, lt_n, up1]
      rw [cI (show b < 2 ^ 31 by omega), (hR b (by omega)).1]
      unfold qb
      by_cases fb : fin cd b n = true
      · rw [if_pos (hem.mpr fb), sameOut hn (hU b (by omega) fb) (hU c hc fc) fb fc, bd_some, fb, Bool.true_and]
        by_cases z : (res cd c n).2 = (res cd b n).2
        · rw [decide_eq_true z, if_neg (show ¬ bI true = 0 by decide), if_pos rfl]
        · rw [decide_eq_false z, if_pos (show bI false = 0 from rfl), if_neg (by decide)]
      · rw [if_neg (fun w => fb (hem.mp w)), if_neg (by
          rw [Bool.and_eq_true]; exact fun w => fb w.1)]) (fuel := FU) (by unfold FU; omega)
  refine e.trans ?_
  cases fi (qb cd n c) c <;> rfl
