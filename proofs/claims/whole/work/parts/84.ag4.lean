theorem g_forI {σ α β : Type} {f : Nat → σ → α → Int32 → Option β} {g : Nat → α → α} {E : σ → α → Option β} {m : Nat} (I : Nat → σ → Prop) (hs : ∀ k s x i, i < m → I i s → ∃ s', f (k + 1) s x (nI i) = f k s' (g i x) (nI (i + 1)) ∧ I (i + 1) s') (he : ∀ k s x, I m s → f (k + 1) s x (nI m) = E s x) : ∀ {fuel : Nat} {s : σ} {x : α}, m < fuel → I 0 s → ∃ s', f fuel s x (nI 0) = E s' (itr g m x) ∧ I m s' := by
  have key : ∀ (d i fuel : Nat) (s : σ) (x : α), i + d = m → d < fuel → I i s → ∃ s', f fuel s (itr g i x) (nI i) = E s' (itr g m x) ∧ I m s' := by
    intro d
    induction d with
    | zero =>
      intro i fuel s x h1 h2 hI
      obtain ⟨k, rfl⟩ : ∃ k, fuel = k + 1 := ⟨fuel - 1, by omega⟩
      obtain rfl : i = m := by omega
      exact ⟨s, he _ _ _ hI, hI⟩
    | succ d ih =>
      intro i fuel s x h1 h2 hI
      obtain ⟨k, rfl⟩ : ∃ k, fuel = k + 1 := ⟨fuel - 1, by omega⟩
      obtain ⟨s1, e1, e2⟩ := hs k s (itr g i x) i (by omega) hI
      obtain ⟨s2, f1, f2⟩ := ih (i + 1) k s1 x (by omega) (by omega) e2
      exact ⟨s2, e1.trans f1, f2⟩
  intro fuel s x h hI
  exact key m 0 fuel s x (by omega) h hI
/-! behaviours -/
def qb (cd : Nat → Nat) (n c b : Nat) : Bool := fin cd b n && decide ((res cd c n).2 = (res cd b n).2)
theorem sameOut {M : Mm} {n b c : Nat} {cd : Nat → Nat} (hn : n ≤ 80) (hb : FRun cd n M b) (hc : FRun cd n M c) (fb : fin cd b n = true) (fc : fin cd c n = true) : gX3_hasSameOutputs M c b = some (bI (decide ((res cd c n).2 = (res cd b n).2))) := by
  have l1 := (res_ok hn fb).2
  have l2 := (res_ok hn fc).2
  unfold gX3_hasSameOutputs
  rw [hc.1, hb.1]
  by_cases e : (res cd c n).2.length = (res cd b n).2.length
  · rw [if_pos (by rw [e]), sameC hc.2.1 hb.2.1 e l2 l2 (by decide) (by decide), bd_some]
    rcases bI_01 (decide ((res cd c n).2 = (res cd b n).2)) with z | z
    · rw [if_pos z, z]
    · rw [if_neg (by rw [z]; decide), z]
  · rw [if_neg (fun w => e ((nI_eq (by omega) (by omega)).mp w)), decide_eq_false (fun w => e (by rw [w]))]
    rfl
theorem fstBeh {M : Mm} {n c : Nat} {cd : Nat → Nat} (hn : n ≤ 80) (hR : ∀ b, b < 16 → FRd cd n M b) (hU : ∀ b, b < 16 → fin cd b n = true → FRun cd n M b) (hc : c < 16) (fc : fin cd c n = true) : gX7_isFirstOfItsBehaviour M (nI c) = some (bI (fi (qb cd n c) c)) := by
  unfold gX7_isFirstOfItsBehaviour
  rw [ckI (show c < 16 by omega) (by decide), cI (show c < 2 ^ 31 by omega), lt_n]
  have e := g_first (f := fun k x => gX7_isFirstOfItsBehaviour_L12 M (nI c) k c x) (q := qb cd n c) (a1 := some (1 : Int32)) (a0 := some (0 : Int32)) (c := c) (fun k b hb => by
    rw [gX7_isFirstOfItsBehaviour_L12]
    by_cases h : b = c
    · rw [h, if_pos (nI_le (Nat.le_refl _) (by omega)), if_pos rfl]
    · have ck : ∀ {α : Type} {y : Option α}, (if (nI b < 0 ∨ 16 ≤ (nI b).toNatClampNeg) then none else y) = y := ckI (by omega) (by decide)
      have hem := eI_m (cd := cd) (c := b) hn
      rw [if_neg (nI_ge (by omega) (by omega)), if_neg h]
      simp only [ck, lt_n, up1]
      rw [cI (show b < 2 ^ 31 by omega), (hR b (by omega)).1]
      unfold qb
      by_cases fb : fin cd b n = true
      · rw [if_pos (hem.mpr fb), sameOut hn (hU b (by omega) fb) (hU c hc fc) fb fc, bd_some, fb, Bool.true_and]
        by_cases z : (res cd c n).2 = (res cd b n).2
        · rw [decide_eq_true z, if_neg (show ¬ bI true = 0 by decide), if_pos rfl]
        · rw [decide_eq_false z, if_pos (show bI false = 0 from rfl), if_neg (by decide)]
      · rw [if_neg (fun w => fb (hem.mp w)), if_neg (by
          rw [Bool.and_eq_true]; exact fun w => fb w.1)]) (fuel := FU) (by unfold FU; omega)
  refine e.trans ?_
  cases fi (qb cd n c) c <;> rfl
def BI (cd : Nat → Nat) (n i : Nat) (s : Mm × (Nat → Int32) × (Nat → Int32)) : Prop := SrcM s.1 n cd ∧ (∀ j, j < n → s.1 2 j = pres cd j) ∧ (∀ c, c < 16 → s.1 6 c = eI cd c n) ∧ s.1 0 0 = 0 ∧ ∀ b, b < i → (s.2.1 b = if fin cd b n = true then nI (res cd b n).2.length else -1) ∧ (fin cd b n = true → ∀ k, k < (res cd b n).2.length → s.2.2 (80 * b + k) = (res cd b n).2.getD k 0)
/-- the model keeps the values of a configuration -/
theorem keepM {M : Mm} {f : Nat → Int32} {x : Int32} {c L : Nat} (hc : c < 16) (hL : L ≤ 80) (hM : M 0 13 = nI L) : ∀ (m i fuel : Nat) (g : Nat → Int32), i + m = L → m < fuel → (∀ k, k < i → g (80 * c + k) = M 11 k) → ∃ g', (∀ E, gX8_behaviours_L81 E fuel M f g x (nI c) (nI i) = E M f g' x (nI c)) ∧ (∀ k, k < L → g' (80 * c + k) = M 11 k) ∧ ∀ j, (j < 80 * c ∨ 80 * c + 80 ≤ j) → g' j = g j := by
  intro m
  induction m with
  | zero =>
    intro i fuel g h1 h2 h3
    obtain ⟨k, rfl⟩ : ∃ k, fuel = k + 1 := ⟨fuel - 1, by omega⟩
    obtain rfl : i = L := by omega
    exact ⟨g, fun E => by rw [gX8_behaviours_L81, hM, if_pos (nI_le (Nat.le_refl _) (by omega))], h3, fun _ _ => rfl⟩
  | succ m ih =>
    intro i fuel g h1 h2 h3
    obtain ⟨k, rfl⟩ : ∃ k, fuel = k + 1 := ⟨fuel - 1, by omega⟩
    obtain ⟨g', e1, e2, e3⟩ := ih (i + 1) k (upd g (80 * c + i) (M 11 i)) (by omega) (by omega) (fun k hk => by
      unfold upd
      by_cases e : k = i
      · rw [e, if_pos rfl]
      · rw [if_neg (by omega)]; exact h3 k (by omega))
    refine ⟨g', fun E => ?_, e2, fun j hj => ?_⟩
    · rw [gX8_behaviours_L81, hM, if_neg (nI_ge (by omega) (by omega)), ckI (show i < 80 by omega) (by decide), show (80 : Int32) * nI c + nI i = nI (80 * c + i) from by rw [q80, s_mul, s_add], ckI (show 80 * c + i < 1280 by omega) (by decide), cI (show 80 * c + i < 2 ^ 31 by omega), cI (show i < 2 ^ 31 by omega), lt_n, lt_n, up1, e1]
    · rw [e3 j hj]
      unfold upd
      rw [if_neg (by omega)]
/-- the model compares the values with those of one before -/
theorem likeB {M : Mm} {f g : Nat → Int32} {x y : Int32} {b : Nat} {os ob : List Int32} (hb : b < 16) (hl : os.length ≤ 80) (hM : M 0 13 = nI os.length) (hR : RowL (M 11) os) (hg : os.length = ob.length → ∀ k, k < ob.length → g (80 * b + k) = ob.getD k 0) (E : Mm → (Nat → Int32) → (Nat → Int32) → Int32 → Int32 → Int32 → Int32 → Option (Int32 × Mm)) : gX8_behaviours_L152 E FU M f g x y (nI b) (bI (decide (os.length = ob.length))) (nI 0) = E M f g x y (nI b) (bI (decide (os = ob))) := by
  by_cases e : os.length = ob.length
  · rw [decide_eq_true e]
    have h := g_new (f := fun k s i => gX8_behaviours_L152 E k M f g x y (nI b) s i) (E := fun z => E M f g x y (nI b) z) (q := fun k => !decide (ob.getD k 0 = os.getD k 0)) (c := os.length) (fun k s i hi => by
      rw [gX8_behaviours_L152, hM]
      by_cases z : i = os.length
      · rw [z, if_pos (nI_le (Nat.le_refl _) (by omega)), if_pos rfl]
      · rw [if_neg (nI_ge (by omega) (by omega)), if_neg z]
        cases s with
        | false => rw [if_pos (show bI false = 0 from rfl), if_pos rfl]
        | true =>
          rw [if_neg (show ¬ bI true = 0 by decide), if_neg (show ¬ true = false by decide), show (80 : Int32) * nI b + nI i = nI (80 * b + i) from by rw [q80, s_mul, s_add], ckI (show 80 * b + i < 1280 by omega) (by decide), cI (show 80 * b + i < 2 ^ 31 by omega), ckI (show i < 80 by omega) (by decide), cI (show i < 2 ^ 31 by omega), hg e i (by omega), hR i (by omega), lt_n, lt_n, up1, Bool.not_not]
          by_cases w : ob.getD i 0 = os.getD i 0
          · rw [if_pos w, decide_eq_true w]; rfl
          · rw [if_neg w, decide_eq_false w]; rfl) (fuel := FU) (s := true) (by unfold FU; omega)
    refine h.trans ?_
    congr 2
    rw [Bool.true_and]
    have k : ∀ m, fi (fun k => !decide (ob.getD k 0 = os.getD k 0)) m = true ↔ ∀ k, k < m → os.getD k 0 = ob.getD k 0 := by
      intro m
      induction m with
      | zero => exact ⟨fun _ k hk => absurd hk (Nat.not_lt_zero _), fun _ => rfl⟩
      | succ m ih =>
        show (fi _ m && !!decide _) = true ↔ _
        rw [Bool.and_eq_true, ih, Bool.not_not, decide_eq_true_iff]
        exact ⟨fun h k hk => by
          by_cases e : k = m
          · rw [e]; exact h.2.symm
          · exact h.1 k (by omega), fun h => ⟨fun k hk => h k (by omega), (h m (by omega)).symm⟩⟩
    rw [Bool.eq_iff_iff, k, decide_eq_true_iff, row_ext e]
  · rw [decide_eq_false e, decide_eq_false (fun w => e (by rw [w]))]
    rw [show FU = 1999 + 1 from rfl, gX8_behaviours_L152]
    by_cases z : M 0 13 ≤ nI 0
    · rw [if_pos z]
    · rw [if_neg z, if_pos (show bI false = 0 from rfl)]
theorem behM {N : Mm} {n : Nat} {cd : Nat → Nat} (hV : Val n cd) (hI : BI cd n 0 (N, fun _ => 0, fun _ => 0)) : ∃ s' : Mm × (Nat → Int32) × (Nat → Int32), gX8_behaviours_L38 FU N (fun _ => 0) (fun _ => 0) (0 : Int32) (0 : Int32) = some (itr (fun c x => x + bI (fin cd c n && fi (qb cd n c) c)) 16 (0 : Int32), s'.1) ∧ BI cd n 16 s' := by
  have hn := hV.1
  refine g_forI (σ := Mm × (Nat → Int32) × (Nat → Int32)) (s := (N, fun _ => 0, fun _ => 0)) (x := (0 : Int32)) (f := fun k s x i => gX8_behaviours_L38 k s.1 s.2.1 s.2.2 x i) (E := fun s x => some (x, s.1)) (m := 16) (BI cd n) (fun k s x c hc hI => ?_) (fun k s x _ => ?_) (by unfold FU; omega) hI
  · obtain ⟨S, f, g⟩ := s
    obtain ⟨i1, i2, i3, i4, i5⟩ := hI
    dsimp only at i1 i2 i3 i4 i5 ⊢
    have ck : ∀ {α : Type} {y : Option α}, (if (nI c < 0 ∨ 16 ≤ (nI c).toNatClampNeg) then none else y) = y := ckI (by omega) (by decide)
    have hem := eI_m (cd := cd) (c := c) hn
    by_cases hf : fin cd c n = true
    · obtain ⟨N2, r1, r2, r3, r4, r5, r6⟩ := runM (c := c) i1 hV i2 hf
      obtain ⟨os, hos⟩ : ∃ os, (res cd c n).2 = os := ⟨_, rfl⟩
      have hlen := (res_ok hn hf).2
      rw [hos] at r2 r3 hlen
      obtain ⟨f2, hf2⟩ : ∃ f2, f2 = upd (upd f c (-1)) c (nI os.length) := ⟨_, rfl⟩
      obtain ⟨g2, k1, k2, k3⟩ := keepM (f := f2) (x := x) hc hlen r2 os.length 0 FU g (by omega) (by unfold FU; omega) (fun k hk => absurd hk (Nat.not_lt_zero _))
      have hf2o : ∀ b, b < c → f2 b = f b := fun b hb => by
        rw [hf2]; unfold upd; rw [if_neg (by omega), if_neg (by omega)]
      -- one before
      have nw := g_new (f := fun k' s b => gX8_behaviours_L119 (fun (M30 : Mm) (f31 : Nat → Int32) (f32 : Nat → Int32) (x33 : Int32) (x34 : Int32) (x35 : Int32) => if x35 = 0 then (lt (x34 + (1 : Int32)) fun x38 => gX8_behaviours_L38 k M30 f31 f32 (x33 + (0 : Int32)) x38) else lt (x34 + (1 : Int32)) fun x39 => gX8_behaviours_L38 k M30 f31 f32 (x33 + (1 : Int32)) x39) k' N2 f2 g2 x (nI c) s b) (E := fun y => if y = (0 : Int32) then (lt (nI c + (1 : Int32)) fun x38 => gX8_behaviours_L38 k N2 f2 g2 (x + (0 : Int32)) x38) else lt (nI c + (1 : Int32)) fun x39 => gX8_behaviours_L38 k N2 f2 g2 (x + (1 : Int32)) x39) (q := qb cd n c) (c := c) (fun k' s b hb => by
        rw [gX8_behaviours_L119]
        by_cases h : b = c
        · rw [h, if_pos (nI_le (Nat.le_refl _) (by omega)), if_pos rfl]
        · rw [if_neg (nI_ge (by omega) (by omega)), if_neg h]
          cases s with
          | false => rw [if_pos (show bI false = 0 from rfl), if_pos rfl]
          | true =>
            obtain ⟨j1, j2⟩ := i5 b (by omega)
            rw [if_neg (show ¬ bI true = 0 by decide), if_neg (show ¬ true = false by decide), ckI (show b < 16 by omega) (by decide), cI (show b < 2 ^ 31 by omega), lt_n, hf2o b (by omega), j1, r2]
            have fin2 : ∀ z : Bool, (lt (fun (M60 : Mm) (f61 : Nat → Int32) (f62 : Nat → Int32) (x63 : Int32) (x64 : Int32) (x65 : Int32) (x66 : Int32) => if x66 = 0 then (lt (x65 + (1 : Int32)) fun x70 => gX8_behaviours_L119 (fun (M30 : Mm) (f31 : Nat → Int32) (f32 : Nat → Int32) (x33 : Int32) (x34 : Int32) (x35 : Int32) => if x35 = 0 then (lt (x34 + (1 : Int32)) fun x38 => gX8_behaviours_L38 k M30 f31 f32 (x33 + (0 : Int32)) x38) else lt (x34 + (1 : Int32)) fun x39 => gX8_behaviours_L38 k M30 f31 f32 (x33 + (1 : Int32)) x39) k' M60 f61 f62 x63 x64 (1 : Int32) x70) else lt (x65 + (1 : Int32)) fun x69 => gX8_behaviours_L119 (fun (M30 : Mm) (f31 : Nat → Int32) (f32 : Nat → Int32) (x33 : Int32) (x34 : Int32) (x35 : Int32) => if x35 = 0 then (lt (x34 + (1 : Int32)) fun x38 => gX8_behaviours_L38 k M30 f31 f32 (x33 + (0 : Int32)) x38) else lt (x34 + (1 : Int32)) fun x39 => gX8_behaviours_L38 k M30 f31 f32 (x33 + (1 : Int32)) x39) k' M60 f61 f62 x63 x64 (0 : Int32) x69) fun E67 => E67 N2 f2 g2 x (nI c) (nI b) (bI z)) = gX8_behaviours_L119 (fun (M30 : Mm) (f31 : Nat → Int32) (f32 : Nat → Int32) (x33 : Int32) (x34 : Int32) (x35 : Int32) => if x35 = 0 then (lt (x34 + (1 : Int32)) fun x38 => gX8_behaviours_L38 k M30 f31 f32 (x33 + (0 : Int32)) x38) else lt (x34 + (1 : Int32)) fun x39 => gX8_behaviours_L38 k M30 f31 f32 (x33 + (1 : Int32)) x39) k' N2 f2 g2 x (nI c) (bI (!z)) (nI (b + 1)) := by
              intro z
              rw [lt_n]
              dsimp only
              rw [lt_n, lt_n, up1]
              cases z
              · rw [if_pos (show bI false = 0 from rfl)]; rfl
              · rw [if_neg (show ¬ bI true = 0 by decide)]; rfl
            by_cases fb : fin cd b n = true
            · obtain ⟨ob, hob⟩ : ∃ ob, (res cd b n).2 = ob := ⟨_, rfl⟩
              have hlb := (res_ok hn fb).2
              have j3 := j2 fb
              rw [hob] at hlb j3
              rw [if_pos fb, hob]
              have lk := fun E => likeB (M := N2) (f := f2) (g := g2) (x := x) (y := nI c) (b := b) (os := os) (ob := ob) (by omega) hlen r2 r3 (fun e k hk => by rw [k3 _ (by omega)]; exact j3 k hk) E
              have hq : qb cd n c b = decide (os = ob) := by unfold qb; rw [fb, Bool.true_and, hos, hob]
              rw [hq]
              refine Eq.trans ?_ (fin2 _)
              by_cases e : os.length = ob.length
              · rw [decide_eq_true e] at lk
                rw [show bI true = (1 : Int32) from rfl, show nI 0 = (0 : Int32) from rfl] at lk
                rw [if_pos (by rw [e])]
                exact lk _
              · rw [decide_eq_false e] at lk
                rw [show bI false = (0 : Int32) from rfl, show nI 0 = (0 : Int32) from rfl] at lk
                rw [if_neg (fun w => e ((nI_eq (by omega) (by omega)).mp w).symm)]
                dsimp only
                rw [lt_n, lt_n, lk]
            · rw [if_neg fb, if_neg (fun w => by rw [qm', s_me (by omega)] at w; exact w)]
              have hq : qb cd n c b = false := by
                unfold qb
                rw [show fin cd b n = false from by cases h : fin cd b n with
                  | true => exact absurd h fb
                  | false => rfl, Bool.false_and]
              rw [hq]
              refine Eq.trans ?_ (fin2 _)
              have h0 : ∀ E, gX8_behaviours_L152 E FU N2 f2 g2 x (nI c) (nI b) 0 0 = E N2 f2 g2 x (nI c) (nI b) 0 := by
                intro E
                rw [show FU = 1999 + 1 from rfl, gX8_behaviours_L152]
                by_cases z : N2 0 13 ≤ (0 : Int32)
                · rw [if_pos z]
                · rw [if_neg z, if_pos rfl]
              dsimp only
              rw [lt_n, lt_n, h0]
              rfl) (fuel := FU) (s := true) (by unfold FU; omega)
      refine ⟨(N2, f2, g2), ?_, ⟨⟨by show N2 0 1 = _; rw [r6 1 (by decide) (by decide)]; exact i1.1, fun j hj => by show N2 1 j = _; rw [r5 1 (by decide) (by decide) (by decide) (by decide)]; exact i1.2 j hj⟩, fun j hj => by show N2 2 j = _; rw [r5 2 (by decide) (by decide) (by decide) (by decide)]; exact i2 j hj, fun b hb => by show N2 6 b = _; rw [r5 6 (by decide) (by decide) (by decide) (by decide)]; exact i3 b hb, (r6 0 (by decide) (by decide)).trans i4, fun b hb => ?_⟩⟩
      · rw [gX8_behaviours_L38, if_neg (show ¬ (16 : Int32) ≤ nI c from nI_ge (b := 16) hc (by decide))]
        simp only [ck]
        rw [cI (show c < 2 ^ 31 by omega), lt_n, i3 c hc, if_pos (hem.mpr hf), r1, bd_some, r2, lt_n, ← hf2, lt_n]
        rw [show nI 0 = (0 : Int32) from rfl] at k1 nw
        rw [k1, lt_n]
        rw [show bI true = (1 : Int32) from rfl, Bool.true_and] at nw
        refine nw.trans ?_
        rw [lt_n, lt_n, up1, hf, Bool.true_and]
        cases fi (qb cd n c) c
        · rw [if_pos (show bI false = 0 from rfl)]; rfl
        · rw [if_neg (show ¬ bI true = 0 by decide)]; rfl
      · by_cases e : b = c
        · subst e
          refine ⟨?_, fun _ k hk => ?_⟩
          · show f2 b = _
            rw [if_pos hf, hf2, hos]
            unfold upd
            rw [if_pos rfl]
          · show g2 (80 * b + k) = _
            rw [hos] at hk ⊢
            rw [k2 k hk, r3 k hk]
        · obtain ⟨j1, j2⟩ := i5 b (by omega)
          refine ⟨?_, fun w k hk => ?_⟩
          · show f2 b = _
            rw [hf2o b (by omega)]; exact j1
          · show g2 (80 * b + k) = _
            have := (res_ok hn w).2
            rw [k3 _ (by omega)]; exact j2 w k hk
    · refine ⟨(S, upd f c (-1), g), ?_, ⟨i1, i2, i3, i4, fun b hb => ?_⟩⟩
      · rw [gX8_behaviours_L38, if_neg (show ¬ (16 : Int32) ≤ nI c from nI_ge (b := 16) hc (by decide))]
        simp only [ck]
        rw [cI (show c < 2 ^ 31 by omega), lt_n, i3 c hc, if_neg (fun w => hf (hem.mp w)), lt_n, up1, show fin cd c n = false from by cases h : fin cd c n with
          | true => exact absurd h hf
          | false => rfl, Bool.false_and, show bI false = (0 : Int32) from rfl, Int32.add_zero]
      · by_cases e : b = c
        · subst e
          refine ⟨?_, fun w => absurd w hf⟩
          show upd f b (-1) b = _
          rw [if_neg hf]
          exact if_pos rfl
        · obtain ⟨j1, j2⟩ := i5 b (by omega)
          refine ⟨?_, j2⟩
          show upd f c (-1) b = _
          rw [← j1]
          exact if_neg e
  · show gX8_behaviours_L38 (k + 1) s.1 s.2.1 s.2.2 x (nI 16) = some (x, s.1)
    rw [gX8_behaviours_L38, if_pos (by decide)]
theorem a_behaviours (x1 x2 : Int32) : agT (Rl Fs) (fun M => gX7_behaviours M) (fun N => gX8_behaviours N) [1] (fun _ => True) := by
  intro M N ⟨n, cd, hC, hM, hV, hF⟩
  dsimp only
  have hM0 := hM.thr 0
  have hn := hV.1
  obtain ⟨l, hl⟩ := hV.2.2
  by_cases w : l = []
  · obtain ⟨M1, m1, m2, m3⟩ := freshC hC hV hF
    obtain ⟨N1, n1, n2, n3, n4, n5, n6, n7⟩ := readM hM0 hV
    have hN1 : SrcM N1 n cd := ⟨by rw [n2 0 (by decide)]; exact hM0.1, fun j hj => by rw [n2 1 (by decide)]; exact hM0.2 j hj⟩
    have m4 := m3.2.2 (by rw [hl, w])
    obtain ⟨s', e1, e2⟩ := behM (N := N1) hV ⟨hN1, fun j hj => (n4 j hj).1, n5, by show N1 0 0 = 0; rw [n2 0 (by decide), um_hit], fun b hb => absurd hb (Nat.not_lt_zero _)⟩
    refine val_s (N1 := s'.1) (v := itr (fun c x => x + bI (fin cd c n && fi (qb cd n c) c)) 16 (0 : Int32)) ?_ ?_ e2.2.2.2.1 trivial m2 e2.1 hV (Or.inr m3)
    · unfold gX7_behaviours
      rw [finC hC hV hl, if_pos w, te_inl, m1, bd_some]
      exact g_for (f := fun k x i => gX7_behaviours_L12 k M1 x i) (E := fun x => some (Sum.inl x, M1)) (m := 16) (fun k x c hc => by
        rw [gX7_behaviours_L12]
        by_cases h : c = 16
        · rw [h, if_pos (by decide), if_pos rfl]
        · have hem := eI_m (cd := cd) (c := c) hn
          rw [if_neg (show ¬ (16 : Int32) ≤ nI c from nI_ge (b := 16) (by omega) (by decide)), if_neg h, ckI (show c < 16 by omega) (by decide), cI (show c < 2 ^ 31 by omega), lt_n, (m4.1 c (by omega)).1]
          by_cases hf : fin cd c n = true
          · rw [if_pos (hem.mpr hf), fstBeh hn m4.1 m4.2.2 (by omega) hf, bd_some, hf, Bool.true_and, lt_n, lt_n, lt_n, up1]
            cases fi (qb cd n c) c with
            | false => rw [if_pos (show bI false = 0 from rfl), show bI false = (0 : Int32) from rfl, Int32.add_zero]
            | true => rw [if_neg (show ¬ bI true = 0 by decide)]; rfl
          · rw [if_neg (fun w => hf (hem.mp w)), lt_n, up1, show fin cd c n = false from by cases h : fin cd c n with
              | true => exact absurd h hf
              | false => rfl, Bool.false_and, show bI false = (0 : Int32) from rfl, Int32.add_zero]) (fuel := FU) (x := 0) (by unfold FU; omega)
    · unfold gX8_behaviours
      rw [lt_n, whM hM0 hV hl, if_pos w, bd_some, if_neg (by decide), n1, bd_some, e1]
  · refine no_g (k := 1) (w := (0 : Int32)) (v := 1) ?_ ?_ (by decide) um_hit (by decide) hC (hM0.thr 1) hV hF
    · unfold gX7_behaviours
      rw [finC hC hV hl, if_neg w, te_x rfl]
    · unfold gX8_behaviours
      rw [lt_n, whM hM0 hV hl, if_neg w, bd_some, if_pos rfl, no_s]
