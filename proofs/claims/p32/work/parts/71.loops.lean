/-! LOOPS in general -/
def itr {α : Type} (g : Nat → α → α) : Nat → α → α
  | 0, x => x
  | i + 1, x => g i (itr g i x)
theorem g_for {α β : Type} {f : Nat → α → Int32 → Option β} {g : Nat → α → α} {E : α → Option β} {m : Nat} (hs : ∀ k x i, i ≤ m → f (k + 1) x (nI i) = if i = m then E x else f k (g i x) (nI (i + 1))) : ∀ {fuel : Nat} {x : α}, m < fuel → f fuel x (nI 0) = E (itr g m x) := by
  have key : ∀ (d i fuel : Nat) (x : α), i + d = m → d < fuel → f fuel (itr g i x) (nI i) = E (itr g m x) := by
    intro d
    induction d with
    | zero =>
      intro i fuel x h1 h2
      obtain ⟨k, rfl⟩ : ∃ k, fuel = k + 1 := ⟨fuel - 1, by omega⟩
      obtain rfl : i = m := by omega
      rw [hs _ _ _ (Nat.le_refl _), if_pos rfl]
    | succ d ih =>
      intro i fuel x h1 h2
      obtain ⟨k, rfl⟩ : ∃ k, fuel = k + 1 := ⟨fuel - 1, by omega⟩
      rw [hs _ _ _ (by omega), if_neg (by omega)]
      exact ih (i + 1) k x (by omega) (by omega)
  intro fuel x h
  exact key m 0 fuel x (by omega) h
def fi (q : Nat → Bool) : Nat → Bool
  | 0 => true
  | b + 1 => fi q b && !q b
theorem fi_f {q : Nat → Bool} {b : Nat} (h : fi q b = false) : ∀ c, b ≤ c → fi q c = false
  | 0, hc => by obtain rfl : b = 0 := by omega
                exact h
  | c + 1, hc => by
    by_cases e : b = c + 1
    · rw [← e]; exact h
    · show (fi q c && !q c) = false
      rw [fi_f h c (by omega)]; rfl
theorem fi_congr {q q' : Nat → Bool} : ∀ {c : Nat}, (∀ b, b < c → q b = q' b) → fi q c = fi q' c
  | 0, _ => rfl
  | c + 1, h => by
    show (fi q c && !q c) = (fi q' c && !q' c)
    rw [fi_congr (fun b hb => h b (by omega)), h c (by omega)]
theorem itr_congr {α : Type} {g g' : Nat → α → α} : ∀ {m : Nat} {x : α}, (∀ i y, i < m → g i y = g' i y) → itr g m x = itr g' m x
  | 0, _, _ => rfl
  | m + 1, x, h => by
    show g m (itr g m x) = g' m (itr g' m x)
    rw [itr_congr (fun i y hi => h i y (by omega)), h m _ (by omega)]
theorem g_first {β : Type} {f : Nat → Int32 → Option β} {q : Nat → Bool} {a0 a1 : Option β} {c : Nat} (hs : ∀ k b, b ≤ c → f (k + 1) (nI b) = if b = c then a1 else if q b = true then a0 else f k (nI (b + 1))) : ∀ {fuel : Nat}, c < fuel → f fuel (nI 0) = if fi q c = true then a1 else a0 := by
  have key : ∀ (d b fuel : Nat), b + d = c → d < fuel → fi q b = true → f fuel (nI b) = if fi q c = true then a1 else a0 := by
    intro d
    induction d with
    | zero =>
      intro b fuel h1 h2 h3
      obtain ⟨k, rfl⟩ : ∃ k, fuel = k + 1 := ⟨fuel - 1, by omega⟩
      obtain rfl : b = c := by omega
      rw [hs _ _ (Nat.le_refl _), if_pos rfl, h3, if_pos rfl]
    | succ d ih =>
      intro b fuel h1 h2 h3
      obtain ⟨k, rfl⟩ : ∃ k, fuel = k + 1 := ⟨fuel - 1, by omega⟩
      rw [hs _ _ (by omega), if_neg (by omega)]
      cases hq : q b with
      | true =>
        have : fi q (b + 1) = false := by show (fi q b && !q b) = false; rw [hq]; exact Bool.and_false _
        rw [if_pos rfl, fi_f this c (by omega)]
        rfl
      | false =>
        rw [if_neg (by decide)]
        exact ih (b + 1) k (by omega) (by omega) (by show (fi q b && !q b) = true; rw [hq, h3]; rfl)
  intro fuel h
  exact key c 0 fuel (by omega) h rfl
theorem g_new {β : Type} {f : Nat → Int32 → Int32 → Option β} {E : Int32 → Option β} {q : Nat → Bool} {c : Nat} (hs : ∀ k s b, b ≤ c → f (k + 1) (bI s) (nI b) = if b = c then E (bI s) else if s = false then E (bI s) else f k (bI (!q b)) (nI (b + 1))) : ∀ {fuel : Nat} {s : Bool}, c < fuel → f fuel (bI s) (nI 0) = E (bI (s && fi q c)) := by
  have key : ∀ (d b fuel : Nat) (s : Bool), b + d = c → d < fuel → f fuel (bI (s && fi q b)) (nI b) = E (bI (s && fi q c)) := by
    intro d
    induction d with
    | zero =>
      intro b fuel s h1 h2
      obtain ⟨k, rfl⟩ : ∃ k, fuel = k + 1 := ⟨fuel - 1, by omega⟩
      obtain rfl : b = c := by omega
      rw [hs _ _ _ (Nat.le_refl _), if_pos rfl]
    | succ d ih =>
      intro b fuel s h1 h2
      obtain ⟨k, rfl⟩ : ∃ k, fuel = k + 1 := ⟨fuel - 1, by omega⟩
      rw [hs _ _ _ (by omega), if_neg (by omega)]
      cases hq : (s && fi q b) with
      | false =>
        rw [if_pos rfl]
        cases s with
        | false => rfl
        | true => rw [Bool.true_and] at hq; rw [fi_f hq c (by omega)]; rfl
      | true =>
        rw [if_neg (by decide)]
        have e := ih (b + 1) k s (by omega) (by omega)
        rw [show (s && fi q (b + 1)) = !q b by rw [show fi q (b + 1) = (fi q b && !q b) from rfl, ← Bool.and_assoc, hq, Bool.true_and]] at e
        exact e
  intro fuel s h
  have := key c 0 fuel s (by omega) h
  rw [show (s && fi q 0) = s from Bool.and_true s] at this
  exact this
theorem b_num (b : Bool) (x : Int32) : (if b = true then x + 1 else x) = x + bI b := by
  cases b
  · rw [if_neg (by decide)]; exact (Int32.add_zero x).symm
  · rw [if_pos rfl]; rfl
/-! what the model asks of variants -/
/-- rows of which the beginnings are compared -/
theorem sameC {M : Mm} {k0 k1 n0 n1 : Nat} {a b : List Int32} (h0 : RowL (M k0) a) (h1 : RowL (M k1) b) (hl : a.length = b.length) (hn0 : a.length ≤ n0) (hn1 : a.length ≤ n1) (b0 : n0 < 1000) (b1 : n1 < 1000) : gX2_areSame M k0 n0 k1 n1 (nI a.length) = some (bI (decide (a = b))) := by
  unfold gX2_areSame
  have hmin : (if (if (nI n1) < (nI n0) then (nI n1) else (nI n0)) < nI a.length then (if (nI n1) < (nI n0) then (nI n1) else (nI n0)) else nI a.length) = nI a.length := by
    rw [if_neg]
    by_cases c : nI n1 < nI n0
    · rw [if_pos c]; exact nI_nlt (by omega) (by omega)
    · rw [if_neg c]; exact nI_nlt (by omega) (by omega)
  rw [lt_n, hmin, ix_n]
  have key : ∀ (m fuel : Nat), m ≤ a.length → m < fuel → (∀ k, m ≤ k → k < a.length → a.getD k 0 = b.getD k 0) → gX2_areSame_L14 M k0 n0 k1 n1 (nI a.length) fuel (ix m) = some (bI (decide (a = b))) := by
    intro m
    induction m with
    | zero =>
      intro fuel h1 h2 h3
      obtain ⟨g, rfl⟩ : ∃ g, fuel = g + 1 := ⟨fuel - 1, by omega⟩
      rw [gX2_areSame_L14, if_pos ix_0, decide_eq_true ((row_ext hl).mpr (fun k hk => h3 k (Nat.zero_le _) hk))]
      rfl
    | succ m ih =>
      intro fuel h4 h5 h6
      obtain ⟨g, rfl⟩ : ∃ g, fuel = g + 1 := ⟨fuel - 1, by omega⟩
      rw [gX2_areSame_L14, show ix (m + 1) = nI m from rfl, if_neg (nI_pos (by omega)), ckI (by omega) (by omega), ckI (by omega) (by omega), cI (by omega), h0 m (by omega), h1 m (by omega), show nI m + (-1 : Int32) = ix m from ix_dn m]
      by_cases e : a.getD m 0 = b.getD m 0
      · rw [if_pos e, lt_n]
        exact ih g (by omega) (by omega) (fun k hk1 hk2 => by
          by_cases km : k = m
          · rw [km]; exact e
          · exact h6 k (by omega) hk2)
      · rw [if_neg e, decide_eq_false (fun h => e (by rw [h]))]
        rfl
  exact key a.length FU (Nat.le_refl _) (by unfold FU; omega) (fun k h1 h2 => by omega)
theorem tokSame {cd : Nat → Nat} {M : Mm} {b c : Nat} {l l' : List Nat} (h : VarC cd M b l) (h' : VarC cd M c l') (hl : l.length ≤ 80) (hl' : l'.length ≤ 80) : gX5_hasSameTokens M b c = some (bI (decide (txt cd l = txt cd l'))) := by
  unfold gX5_hasSameTokens
  rw [h.1, h'.1]
  by_cases e : l.length = l'.length
  · rw [if_pos (by rw [e]), ← txt_len (cd := cd), sameC h.2.1 h'.2.1 (by rw [txt_len, txt_len, e]) (by rw [txt_len]; exact hl) (by rw [txt_len]; exact hl) (by decide) (by decide), bd_some]
    rcases bI_01 (decide (txt cd l = txt cd l')) with z | z
    · rw [if_pos z, z]
    · rw [if_neg (by rw [z]; decide), z]
  · rw [if_neg (fun w => e ((nI_eq (by omega) (by omega)).mp w)), decide_eq_false (fun w => e (by have := congrArg List.length w; rwa [txt_len, txt_len] at this))]
    rfl

