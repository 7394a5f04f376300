/-! a loop over all configurations (or over m numbers) that turns what holds of each -/
theorem cfg_loop {ε σ β : Type} {L : ε → Nat → σ → Int32 → Option β} {F : ε → σ → Option β} {m : Nat} (Q Q' : σ → Nat → Prop) (I : σ → Prop) (step : ∀ c s, c < m → I s → Q s c → (∀ b, b < m → b ≠ c → Q s b ∨ Q' s b) → ∃ s', (∀ e k, L e (k + 1) s (nI c) = L e k s' (nI (c + 1))) ∧ Q' s' c ∧ I s' ∧ ∀ b, b < m → b ≠ c → (Q s b → Q s' b) ∧ (Q' s b → Q' s' b)) (stop : ∀ e k s, I s → L e (k + 1) s (nI m) = F e s) : ∀ {fuel : Nat} {s : σ}, m < fuel → I s → (∀ b, b < m → Q s b) → ∃ s', (∀ e, L e fuel s (nI 0) = F e s') ∧ I s' ∧ ∀ b, b < m → Q' s' b := by
  have key : ∀ (d c fuel : Nat) (s : σ), c + d = m → d < fuel → I s → (∀ b, b < m → b < c → Q' s b) → (∀ b, b < m → c ≤ b → Q s b) → ∃ s', (∀ e, L e fuel s (nI c) = F e s') ∧ I s' ∧ ∀ b, b < m → Q' s' b := by
    intro d
    induction d with
    | zero =>
      intro c fuel s h1 h2 hI h3 h4
      obtain ⟨k, rfl⟩ : ∃ k, fuel = k + 1 := ⟨fuel - 1, by omega⟩
      obtain rfl : c = m := by omega
      exact ⟨s, fun e => stop e k s hI, hI, fun b hb => h3 b hb hb⟩
    | succ d ih =>
      intro c fuel s h1 h2 hI h3 h4
      obtain ⟨k, rfl⟩ : ∃ k, fuel = k + 1 := ⟨fuel - 1, by omega⟩
      obtain ⟨s1, e1, e2, e3, e4⟩ := step c s (by omega) hI (h4 c (by omega) (Nat.le_refl _)) (fun b hb hne => by
        by_cases h : b < c
        · exact Or.inr (h3 b hb h)
        · exact Or.inl (h4 b hb (by omega)))
      obtain ⟨s2, f1, f2, f3⟩ := ih (c + 1) k s1 (by omega) (by omega) e3 (fun b hb hc => by
        by_cases e : b = c
        · rw [e]; exact e2
        · exact (e4 b hb e).2 (h3 b hb (by omega))) (fun b hb hc => (e4 b hb (by omega)).1 (h4 b hb (by omega)))
      exact ⟨s2, fun e => (e1 e k).trans (f1 e), f2, f3⟩
  intro fuel s h hI hQ
  exact key m 0 fuel s (by omega) h hI (fun b _ h => absurd h (Nat.not_lt_zero _)) (fun b hb _ => hQ b hb)
/-- a configuration's reading in the class, after i items -/
def CI (cd : Nat → Nat) (M : Mm) (c i : Nat) : Prop := match rd cd c i with
  | some s => RS M c s (hgt cd c i)
  | none => RE M c (er cd c i) (hgt cd c i)
theorem CI_c {cd : Nat → Nat} {M M' : Mm} {c i : Nat} (h : CI cd M c i) (e3 : M' (vb c + 3) = M (vb c + 3)) (e4 : M' (vb c + 4) = M (vb c + 4)) (e5 : M' (vb c + 5) = M (vb c + 5)) : CI cd M' c i := by
  unfold CI at h ⊢
  cases hr : rd cd c i with
  | some s =>
    rw [hr] at h
    obtain ⟨⟨h1, h2⟩, h3, h4, h5⟩ := h
    exact ⟨⟨by rw [e3]; exact h1, by rw [e4]; exact h2⟩, by rw [e3]; exact h3, by rw [e5]; exact h4, by rw [e3]; exact h5⟩
  | none =>
    rw [hr] at h
    obtain ⟨h3, h4, h5⟩ := h
    exact ⟨by rw [e3]; exact h3, by rw [e5]; exact h4, by rw [e3]; exact h5⟩
theorem CI_err {cd : Nat → Nat} {M : Mm} {c i : Nat} (h : CI cd M c i) (hi : i ≤ 80) : (M (vb c + 3) 4 = -1) = ((rd cd c i).isSome = true) := by
  unfold CI at h
  cases hr : rd cd c i with
  | some s => rw [hr] at h; rw [h.2.2.2]; simp
  | none =>
    rw [hr] at h
    have := er_lt hr
    rw [h.2.2, qm', s_em (by omega)]
    simp
theorem CI_stay {cd : Nat → Nat} {M : Mm} {c i : Nat} (h : CI cd M c i) (ha : ¬ (inV cd c i = true ∧ (rd cd c i).isSome = true)) : CI cd M c (i + 1) := by
  have e1 : rd cd c (i + 1) = rd cd c i := by
    show (if inV cd c i = true then (rd cd c i).bind (feed (cd i)) else rd cd c i) = _
    by_cases a : inV cd c i = true
    · rw [if_pos a]
      cases hr : rd cd c i with
      | none => rfl
      | some s => exact absurd ⟨a, by rw [hr]; rfl⟩ ha
    · rw [if_neg a]
  have e2 : hgt cd c (i + 1) = hgt cd c i := by
    show (if inV cd c i = true then (match rd cd c i with | some s => hgt cd c i ++ [s.length] | none => hgt cd c i) else hgt cd c i) = _
    by_cases a : inV cd c i = true
    · rw [if_pos a]
      cases hr : rd cd c i with
      | none => rfl
      | some s => exact absurd ⟨a, by rw [hr]; rfl⟩ ha
    · rw [if_neg a]
  have e3 : er cd c (i + 1) = er cd c i := by
    show (if rd cd c i ≠ none ∧ rd cd c (i + 1) = none then i else er cd c i) = _
    rw [e1, if_neg (fun w => w.1 w.2)]
  unfold CI at h ⊢
  rw [e1, e2, e3]
  exact h
theorem CI_step {cd : Nat → Nat} {M' : Mm} {c i : Nat} {s : List Nat} (hr : rd cd c i = some s) (ha : inV cd c i = true) (h : match feed (cd i) s with
    | some s' => RS M' c s' (hgt cd c i ++ [s.length])
    | none => RE M' c i (hgt cd c i ++ [s.length])) : CI cd M' c (i + 1) := by
  have e1 : rd cd c (i + 1) = feed (cd i) s := by
    show (if inV cd c i = true then (rd cd c i).bind (feed (cd i)) else rd cd c i) = _
    rw [if_pos ha, hr]; rfl
  have e2 : hgt cd c (i + 1) = hgt cd c i ++ [s.length] := by
    show (if inV cd c i = true then (match rd cd c i with | some s => hgt cd c i ++ [s.length] | none => hgt cd c i) else hgt cd c i) = _
    rw [if_pos ha, hr]
  unfold CI
  rw [e1, e2]
  cases hf : feed (cd i) s with
  | some s' => rw [hf] at h; exact h
  | none =>
    rw [hf] at h
    have e3 : er cd c (i + 1) = i := by
      show (if rd cd c i ≠ none ∧ rd cd c (i + 1) = none then i else er cd c i) = _
      rw [if_pos ⟨by rw [hr]; simp, by rw [e1, hf]⟩]
    rw [e3]
    exact h
theorem beginC (M : Mm) (c : Nat) : ∃ M', gX1_begin M c = some M' ∧ RS M' c [1] [] ∧ ∀ a, a ≠ vb c + 3 → a ≠ vb c + 4 → M' a = M a := by
  unfold gX1_begin
  obtain ⟨M1, e1, R1, F1⟩ := pushC (M := um M (vb c + 3) 1 0) (c := c) (x := 1) (s := []) ⟨um_hit, trivial⟩ (by decide)
  have e1 : gX1_push (um M (vb c + 3) 1 0) c 80 = some M1 := e1
  rw [lt_n, e1, bd_some, lt_n, lt_n]
  refine ⟨_, rfl, ⟨⟨?_, ?_⟩, ?_, ?_, um_hit⟩, fun a b1 b2 => ?_⟩
  · rw [um_place (by decide), um_place (by decide)]; exact R1.1
  · rw [um_fn (by omega), um_fn (by omega)]; exact R1.2
  · rw [um_place (by decide), um_hit]; rfl
  · intro k hk; exact absurd hk (Nat.not_lt_zero _)
  · rw [um_fn b1, um_fn b1, F1.1 a b1 b2, um_fn b1]
/-- what reading leaves as it was -/
def FrA (M M' : Mm) : Prop := ∀ a, a ≠ 14 → (∀ b, b < 16 → a ≠ vb b + 3 ∧ a ≠ vb b + 4 ∧ a ≠ vb b + 5) → M' a = M a
theorem FrA.tr {M M' M'' : Mm} (h : FrA M M') (h' : FrA M' M'') : FrA M M'' := fun a b1 b2 => (h' a b1 b2).trans (h a b1 b2)
theorem FrA.rf {M : Mm} : FrA M M := fun _ _ _ => rfl
theorem FrA.lo {M M' : Mm} (h : FrA M M') {a : Nat} (ha : a < 14) : M' a = M a := h a (by omega) (fun b _ => by unfold vb; omega)
theorem beginAll (M : Mm) {cd : Nat → Nat} : ∃ M', (∀ E, gX7_readAll_L2 E FU M (nI 0) = E M') ∧ FrA M M' ∧ ∀ b, b < 16 → CI cd M' b 0 := by
  refine cfg_loop (ε := Mm → Option Mm) (L := fun E k s x => gX7_readAll_L2 E k s x) (F := fun E s => E s) (m := 16) (fun _ _ => True) (fun s b => CI cd s b 0) (fun s => FrA M s) (fun c s hc hI _ _ => ?_) (fun E k s _ => ?_) (by unfold FU; omega) FrA.rf (fun _ _ => trivial)
  · obtain ⟨M1, e1, e2, e3⟩ := beginC s c
    refine ⟨M1, fun E k => ?_, e2, hI.tr (fun a b1 b2 => e3 a (b2 c hc).1 (b2 c hc).2.1), fun b hb hne => ⟨id, fun h => CI_c h (e3 _ (by unfold vb; omega) (by unfold vb; omega)) (e3 _ (by unfold vb; omega) (by unfold vb; omega)) (e3 _ (by unfold vb; omega) (by unfold vb; omega))⟩⟩
    rw [gX7_readAll_L2, if_neg (show ¬ (16 : Int32) ≤ nI c from nI_ge (b := 16) hc (by decide)), ckI hc (by decide), cI (by omega), lt_n, e1, bd_some, lt_n, up1]
  · rw [gX7_readAll_L2, if_pos (by decide)]
theorem RowL_snoc {row : Nat → Int32} {l : List Int32} {v : Int32} (h : RowL row l) (e : row l.length = v) : RowL row (l ++ [v]) := by
  intro k hk
  simp only [List.length_append, List.length_singleton] at hk
  by_cases z : k = l.length
  · rw [z, e]; simp [List.getD]
  · rw [h k (by omega)]
    simp [List.getD, List.getElem?_append_left (show k < l.length by omega)]
theorem SkC_row {row : Nat → Int32} : ∀ {s : List Nat}, SkC row s → RowL row (s.map (fun x => nI (sC x))).reverse
  | [], _ => fun k hk => absurd hk (Nat.not_lt_zero _)
  | x :: r, h => by
    rw [List.map_cons, List.reverse_cons]
    exact RowL_snoc (SkC_row h.2) (by rw [List.length_reverse, List.length_map]; exact h.1)
theorem map_inj {f : Nat → Int32} {s s' : List Nat} (hs : ∀ x, x ∈ s → ∀ y, y ∈ s' → f x = f y → x = y) : (s.map f).reverse = (s'.map f).reverse ↔ s = s' := by
  constructor
  · intro h
    have h := List.reverse_inj.mp h
    have key : ∀ (a b : List Nat), (∀ x, x ∈ a → ∀ y, y ∈ b → f x = f y → x = y) → a.map f = b.map f → a = b := by
      intro a
      induction a with
      | nil => intro b _ h; cases b with
        | nil => rfl
        | cons y b => cases h
      | cons x a ih =>
        intro b hb h
        cases b with
        | nil => cases h
        | cons y b =>
          rw [List.map_cons, List.map_cons] at h
          obtain ⟨h1, h2⟩ := List.cons.inj h
          rw [hb x List.mem_cons_self y List.mem_cons_self h1, ih b (fun x hx y hy => hb x (List.mem_cons_of_mem _ hx) y (List.mem_cons_of_mem _ hy)) h2]
    exact key s s' hs h
  · intro h; rw [h]
theorem stackSame {M : Mm} {b c : Nat} {s s' : List Nat} (h : RdC M c s) (h' : RdC M b s') (hv : svv s) (hv' : svv s') (hl : s.length ≤ 320) (hl' : s'.length ≤ 320) : gX1_hasSameStack M c b = some (bI (decide (s = s'))) := by
  unfold gX1_hasSameStack
  rw [h.1, h'.1]
  by_cases e : s.length = s'.length
  · have e2 : ∀ {s : List Nat}, (s.map (fun x => nI (sC x))).reverse.length = s.length := by intro s; rw [List.length_reverse, List.length_map]
    rw [if_pos (by rw [e])]
    have sm := sameC (n0 := 320) (n1 := 320) (SkC_row h.2) (SkC_row h'.2) (by rw [e2, e2, e]) (by rw [e2]; exact hl) (by rw [e2]; exact hl) (by decide) (by decide)
    rw [e2] at sm
    rw [sm, bd_some]
    have hiff := map_inj (f := fun x => nI (sC x)) (s := s) (s' := s') (fun x hx y hy hxy => by
      have h1 := hv x hx
      have h2 := hv' y hy
      have g1 := (sC_tab x (List.mem_range.mpr (by omega)) h1).2.1
      have g2 := (sC_tab y (List.mem_range.mpr (by omega)) h2).2.1
      exact sC_inj x (List.mem_range.mpr (by omega)) y (List.mem_range.mpr (by omega)) h1 h2 ((nI_eq (by omega) (by omega)).mp hxy))
    rw [show decide ((s.map (fun x => nI (sC x))).reverse = (s'.map (fun x => nI (sC x))).reverse) = decide (s = s') from decide_eq_decide.mpr hiff]
    rcases bI_01 (decide (s = s')) with z | z
    · rw [if_pos z, z]
    · rw [if_neg (by rw [z]; decide), z]
  · rw [if_neg (fun w => e ((nI_eq (by omega) (by omega)).mp w)), decide_eq_false (fun w => e (by rw [w]))]
    rfl
/-- whether a configuration reads an item -/
theorem isRead {cd : Nat → Nat} {n i c : Nat} {M : Mm} (hn : n ≤ 80) (hi : i < n) (hc : c < 16) (hP : M 4 i = pres cd i) (hI : CI cd M c i) : gX7_isReadBy M (nI c) (nI i) = some (bI (bth (pres cd i) c && (rd cd c i).isSome)) := by
  unfold gX7_isReadBy
  rw [presC (by omega), bd_some, hP]
  cases h : bth (pres cd i) c with
  | false => rw [if_pos (show bI false = 0 from rfl)]; rfl
  | true =>
    rw [if_neg (show ¬ bI true = 0 by decide), ckI hc (by decide), cI (by omega), lt_n]
    have e := CI_err hI (by omega)
    by_cases z : M (vb c + 3) 4 = -1
    · rw [if_pos z, e.mp z]; rfl
    · rw [if_neg z, show (rd cd c i).isSome = false from by
        cases h : (rd cd c i).isSome with
        | false => rfl
        | true => exact absurd (e.mpr h) z]
      rfl
theorem firstC {cd : Nat → Nat} {n i c : Nat} {M : Mm} (hV : Val n cd) (hi : i < n) (hc : c < 16) (ht : 18 ≤ cd i) (hP : M 4 i = pres cd i) (hI : ∀ b, b < 16 → CI cd M b i) (ha : al cd c i = true) : gX7_isFirstOfItsGroup M (nI c) (nI i) = some (bI (fi (fun b => al cd b i && decide (rd cd b i = rd cd c i)) c)) := by
  have hn := hV.1
  unfold gX7_isFirstOfItsGroup
  rw [ckI hc (by decide), cI (by omega), lt_n]
  have e := g_first (f := fun k x => gX7_isFirstOfItsGroup_L13 M (nI c) (nI i) k c x) (q := fun b => al cd b i && decide (rd cd b i = rd cd c i)) (a1 := some (1 : Int32)) (a0 := some (0 : Int32)) (c := c) (fun k b hb => by
    rw [gX7_isFirstOfItsGroup_L13]
    by_cases h : b = c
    · rw [h, if_pos (nI_le (Nat.le_refl _) (by omega)), if_pos rfl]
    · rw [if_neg (nI_ge (by omega) (by omega)), if_neg h, isRead hn hi (by omega) hP (hI b (by omega)), bd_some]
      have hal : (bth (pres cd i) b && (rd cd b i).isSome) = al cd b i := by
        unfold al inV
        rw [decide_eq_true ht, Bool.true_and]
      rw [hal]
      cases hb2 : al cd b i with
      | false =>
        rw [if_pos (show bI false = 0 from rfl), if_neg (by simp), lt_n, up1]
      | true =>
        rw [if_neg (show ¬ bI true = 0 by decide), ckI (show b < 16 by omega) (by decide), cI (by omega), lt_n]
        unfold al at ha hb2
        rw [Bool.and_eq_true] at ha hb2
        obtain ⟨s, hs⟩ := Option.isSome_iff_exists.mp ha.2
        obtain ⟨s', hs'⟩ := Option.isSome_iff_exists.mp hb2.2
        obtain ⟨v1, l1, -⟩ := rd_some hV (by omega) hs
        obtain ⟨v2, l2, -⟩ := rd_some hV (by omega) hs'
        have R1 := hI c hc
        have R2 := hI b (by omega)
        unfold CI at R1 R2
        rw [hs] at R1
        rw [hs'] at R2
        rw [stackSame R1.1 R2.1 v1 v2 (by omega) (by omega), bd_some, hs, hs', lt_n, up1]
        by_cases z : s = s'
        · rw [decide_eq_true z, if_neg (show ¬ bI true = 0 by decide), if_pos (by simp [z])]
        · rw [decide_eq_false z, if_pos (show bI false = 0 from rfl), if_neg (by simp; exact fun w => z w.symm)]) (fuel := FU) (by unfold FU; omega)
  refine e.trans ?_
  cases fi (fun b => al cd b i && decide (rd cd b i = rd cd c i)) c <;> rfl
theorem grpC {cd : Nat → Nat} {n i : Nat} {M : Mm} (hV : Val n cd) (hi : i < n) (ht : 18 ≤ cd i) (hP : M 4 i = pres cd i) (hI : ∀ b, b < 16 → CI cd M b i) : gX7_countGroups M (nI i) = some (gr cd i) := by
  have hn := hV.1
  unfold gX7_countGroups
  have e := g_for (f := fun k x c => gX7_countGroups_L4 M (nI i) k x c) (g := fun c x => x + bI (al cd c i && fi (fun b => al cd b i && decide (rd cd b i = rd cd c i)) c)) (E := fun x => some x) (m := 16) (fun k x c hc => by
    rw [gX7_countGroups_L4]
    by_cases h : c = 16
    · rw [h, if_pos (by decide), if_pos rfl]
    · have hal : (bth (pres cd i) c && (rd cd c i).isSome) = al cd c i := by
        unfold al inV
        rw [decide_eq_true ht, Bool.true_and]
      rw [if_neg (show ¬ (16 : Int32) ≤ nI c from nI_ge (b := 16) (by omega) (by decide)), if_neg h, isRead hn hi (by omega) hP (hI c (by omega)), bd_some, hal]
      cases ha : al cd c i with
      | false =>
        rw [if_pos (show bI false = 0 from rfl), lt_n, up1, Bool.false_and]
        rw [show bI false = (0 : Int32) from rfl, Int32.add_zero]
      | true =>
        rw [if_neg (show ¬ bI true = 0 by decide), firstC hV hi (by omega) ht hP hI ha, bd_some, Bool.true_and, lt_n, up1, lt_n, lt_n]
        cases fi (fun b => al cd b i && decide (rd cd b i = rd cd c i)) c with
        | false => rw [if_pos (show bI false = 0 from rfl), show bI false = (0 : Int32) from rfl, Int32.add_zero]
        | true => rw [if_neg (show ¬ bI true = 0 by decide)]; rfl) (fuel := FU) (x := 0) (by unfold FU; omega)
  exact e
theorem gr0 {cd : Nat → Nat} {i : Nat} (h : ¬ 18 ≤ cd i) : gr cd i = 0 := by
  unfold gr
  have e : ∀ m, itr (fun c x => x + bI (al cd c i && fi (fun b => al cd b i && decide (rd cd b i = rd cd c i)) c)) m (0 : Int32) = 0 := by
    intro m
    induction m with
    | zero => rfl
    | succ m ih =>
      show itr _ m 0 + bI (al cd m i && _) = 0
      rw [ih]
      have : al cd m i = false := by
        unfold al inV
        rw [decide_eq_false h]; rfl
      rw [this]; rfl
  exact e 16
/-- all configurations read an item -/
theorem takeAll {cd : Nat → Nat} {n i : Nat} {M : Mm} (hV : Val n cd) (hi : i < n) (ht : 18 ≤ cd i) (h2 : M 2 i = nI (cd i)) (hP : M 4 i = pres cd i) (hI : ∀ b, b < 16 → CI cd M b i) : ∃ M', (∀ E, gX7_readAll_L74 E FU M (nI i) (nI 0) = E M' (nI i)) ∧ (∀ a, (∀ b, b < 16 → a ≠ vb b + 3 ∧ a ≠ vb b + 4 ∧ a ≠ vb b + 5) → M' a = M a) ∧ ∀ b, b < 16 → CI cd M' b (i + 1) := by
  have hn := hV.1
  refine cfg_loop (ε := Mm → Int32 → Option Mm) (L := fun E k s x => gX7_readAll_L74 E k s (nI i) x) (F := fun E s => E s (nI i)) (m := 16) (fun s b => CI cd s b i) (fun s b => CI cd s b (i + 1)) (fun s => ∀ a, (∀ b, b < 16 → a ≠ vb b + 3 ∧ a ≠ vb b + 4 ∧ a ≠ vb b + 5) → s a = M a) (fun c s hc hI hQ _ => ?_) (fun E k s _ => ?_) (by unfold FU; omega) (fun _ _ => rfl) hI
  · have s2 : s 2 = M 2 := hI 2 (fun b _ => by unfold vb; omega)
    have s4 : s 4 = M 4 := hI 4 (fun b _ => by unfold vb; omega)
    have e0 := isRead hn hi hc (by rw [s4]; exact hP) hQ
    have hal : (bth (pres cd i) c && (rd cd c i).isSome) = al cd c i := by
      unfold al inV
      rw [decide_eq_true ht, Bool.true_and]
    rw [hal] at e0
    cases ha : al cd c i with
    | false =>
      refine ⟨s, fun E k => ?_, CI_stay hQ (fun w => ?_), hI, fun b hb hne => ⟨id, id⟩⟩
      · rw [gX7_readAll_L74, if_neg (show ¬ (16 : Int32) ≤ nI c from nI_ge (b := 16) hc (by decide)), e0, bd_some, ha, if_pos (show bI false = 0 from rfl), lt_n, up1]
      · unfold al at ha
        rw [w.1, w.2] at ha
        cases ha
    | true =>
      have ha2 := ha
      unfold al at ha2
      rw [Bool.and_eq_true] at ha2
      obtain ⟨st, hs⟩ := Option.isSome_iff_exists.mp ha2.2
      obtain ⟨v1, l1, l2⟩ := rd_some hV (by omega) hs
      have hq := hQ
      unfold CI at hq
      rw [hs] at hq
      obtain ⟨t1, t2, t3⟩ := inV_tok hV hi ha2.1
      have lv := vl_len (cd := cd) (c := c) i
      obtain ⟨M1, e1, e2, e3⟩ := takeC (i := i) hq t1 t3 t2 (by omega) (by omega) v1
      refine ⟨M1, fun E k => ?_, CI_step hs ha2.1 e2, fun a hb => (e3 a (hb c hc).1 (hb c hc).2.1 (hb c hc).2.2).trans (hI a hb), fun b hb hne => ?_⟩
      · rw [gX7_readAll_L74, if_neg (show ¬ (16 : Int32) ≤ nI c from nI_ge (b := 16) hc (by decide)), e0, bd_some, ha, if_neg (show ¬ bI true = 0 by decide), ckI hc (by decide), cI (by omega), lt_n, ckI (show i < 80 by omega) (by decide), cI (by omega), s2, h2, e1, bd_some, lt_n, up1]
      · have g3 := e3 (vb b + 3) (by unfold vb; omega) (by unfold vb; omega) (by unfold vb; omega)
        have g4 := e3 (vb b + 4) (by unfold vb; omega) (by unfold vb; omega) (by unfold vb; omega)
        have g5 := e3 (vb b + 5) (by unfold vb; omega) (by unfold vb; omega) (by unfold vb; omega)
        exact ⟨fun h => CI_c h g3 g4 g5, fun h => CI_c h g3 g4 g5⟩
  · rw [gX7_readAll_L74, if_pos (by decide)]
theorem itemsC {cd : Nat → Nat} {n : Nat} (hV : Val n cd) : ∀ (m i fuel : Nat) (M : Mm), i + m = n → m < fuel → SrcC M n cd → (∀ j, j < n → M 4 j = pres cd j) → (∀ b, b < 16 → CI cd M b i) → (∀ j, j < i → M 14 j = gr cd j) → ∃ M', (∀ E, gX7_readAll_L28 E fuel M (nI i) = E M') ∧ FrA M M' ∧ (∀ b, b < 16 → CI cd M' b n) ∧ ∀ j, j < n → M' 14 j = gr cd j := by
  intro m
  have hn := hV.1
  induction m with
  | zero =>
    intro i fuel M h hf hC hP hI hG
    obtain ⟨k, rfl⟩ : ∃ k, fuel = k + 1 := ⟨fuel - 1, by omega⟩
    obtain rfl : i = n := by omega
    exact ⟨M, fun E => by rw [gX7_readAll_L28, hC.1, if_pos (nI_le (Nat.le_refl _) (by omega))], FrA.rf, hI, hG⟩
  | succ m ih =>
    intro i fuel M h hf hC hP hI hG
    obtain ⟨k, rfl⟩ : ∃ k, fuel = k + 1 := ⟨fuel - 1, by omega⟩
    have hi : i < n := by omega
    have f14 : ∀ (M : Mm) (v : Int32), FrA M (um M 14 i v) := fun M v a b1 _ => um_fn b1
    have c14 : ∀ (M : Mm) (v : Int32) (b j : Nat), CI cd M b j → CI cd (um M 14 i v) b j := fun M v b j h => CI_c h (um_fn (by unfold vb; omega)) (um_fn (by unfold vb; omega)) (um_fn (by unfold vb; omega))
    have hC1 : (um M 14 i 0) 2 i = nI (cd i) := by rw [um_fn (by decide)]; exact hC.2 i hi
    by_cases ht : 18 ≤ cd i
    · have g1 := grpC hV hi ht (M := um M 14 i 0) (by rw [um_fn (by decide)]; exact hP i hi) (fun b hb => c14 _ _ _ _ (hI b hb))
      obtain ⟨M1, e1, e2, e3⟩ := takeAll hV hi ht (M := um (um M 14 i 0) 14 i (gr cd i)) (by rw [um_fn (by decide)]; exact hC1) (by rw [um_fn (by decide), um_fn (by decide)]; exact hP i hi) (fun b hb => c14 _ _ _ _ (c14 _ _ _ _ (hI b hb)))
      have F1 : FrA M M1 := ((f14 M 0).tr (f14 _ (gr cd i))).tr (fun a b1 b2 => e2 a b2)
      obtain ⟨M2, d1, d2, d3, d4⟩ := ih (i + 1) k M1 (by omega) (by omega) ⟨by rw [F1.lo (by decide)]; exact hC.1, fun j hj => by rw [F1.lo (by decide)]; exact hC.2 j hj⟩ (fun j hj => by rw [F1.lo (by decide)]; exact hP j hj) e3 (fun j hj => by
        rw [e2 14 (fun b _ => by unfold vb; omega)]
        by_cases e : j = i
        · rw [e, um_hit]
        · rw [um_place e, um_place e]; exact hG j (by omega))
      refine ⟨M2, fun E => ?_, F1.tr d2, d3, d4⟩
      rw [gX7_readAll_L28, hC.1, if_neg (nI_ge hi (by omega)), ckI (show i < 80 by omega) (by decide), cI (by omega), lt_n, ckJ (show i < 80 by omega) (by decide), hC1, tokC (hV.2.1 i hi), decide_eq_true ht, if_neg (show ¬ bI true = 0 by decide), g1, bd_some, ckJ (show i < 80 by omega) (by decide), lt_n, lt_n]
      rw [show nI 0 = (0 : Int32) from rfl] at e1
      rw [e1, lt_n, up1, d1]
    · obtain ⟨M2, d1, d2, d3, d4⟩ := ih (i + 1) k (um M 14 i 0) (by omega) (by omega) ⟨by rw [um_fn (by decide)]; exact hC.1, fun j hj => by rw [um_fn (by decide)]; exact hC.2 j hj⟩ (fun j hj => by rw [um_fn (by decide)]; exact hP j hj) (fun b hb => CI_stay (c14 _ _ _ _ (hI b hb)) (fun w => by
        have := w.1
        unfold inV at this
        rw [decide_eq_false ht] at this
        cases this)) (fun j hj => by
        by_cases e : j = i
        · rw [e, um_hit, gr0 ht]
        · rw [um_place e]; exact hG j (by omega))
      refine ⟨M2, fun E => ?_, (f14 M 0).tr d2, d3, d4⟩
      rw [gX7_readAll_L28, hC.1, if_neg (nI_ge hi (by omega)), ckI (show i < 80 by omega) (by decide), cI (by omega), lt_n, ckJ (show i < 80 by omega) (by decide), hC1, tokC (hV.2.1 i hi), decide_eq_false ht, if_pos (show bI false = 0 from rfl), lt_n, up1, d1]
/-- what the class's reading tells of a configuration -/
def FRd (cd : Nat → Nat) (n : Nat) (M : Mm) (c : Nat) : Prop := M (vb c + 3) 4 = eI cd c n ∧ M (vb c + 3) 3 = nI (hgt cd c n).length ∧ RowL (M (vb c + 5)) ((hgt cd c n).map nI)
theorem FRd_c {cd : Nat → Nat} {n : Nat} {M M' : Mm} {c : Nat} (h : FRd cd n M c) (e3 : M' (vb c + 3) = M (vb c + 3)) (e5 : M' (vb c + 5) = M (vb c + 5)) : FRd cd n M' c := ⟨by rw [e3]; exact h.1, by rw [e3]; exact h.2.1, by rw [e5]; exact h.2.2⟩
theorem endAll {cd : Nat → Nat} {n : Nat} {M : Mm} (hV : Val n cd) (hC : SrcC M n cd) (hI : ∀ b, b < 16 → CI cd M b n) : ∃ M', gX7_readAll_L125 FU M (nI 0) = some M' ∧ (∀ a, (∀ b, b < 16 → a ≠ vb b + 3 ∧ a ≠ vb b + 4) → M' a = M a) ∧ ∀ b, b < 16 → FRd cd n M' b := by
  have hn := hV.1
  have main : ∃ s', (∀ e : Unit, gX7_readAll_L125 FU M (nI 0) = some s') ∧ (∀ a, (∀ b, b < 16 → a ≠ vb b + 3 ∧ a ≠ vb b + 4) → s' a = M a) ∧ ∀ b, b < 16 → FRd cd n s' b := by
   refine cfg_loop (ε := Unit) (L := fun _ k s x => gX7_readAll_L125 k s x) (F := fun _ s => some s) (m := 16) (fun s b => CI cd s b n) (fun s b => FRd cd n s b) (fun s => ∀ a, (∀ b, b < 16 → a ≠ vb b + 3 ∧ a ≠ vb b + 4) → s a = M a) (fun c s hc hI hQ _ => ?_) (fun E k s _ => ?_) (fuel := FU) (s := M) (by unfold FU; omega) (fun _ _ => rfl) hI
   · have s1 : s 1 1 = nI n := by rw [hI 1 (fun b _ => by unfold vb; omega)]; exact hC.1
     have hq := hQ
     unfold CI at hq
     have stp : ∀ M1, gX1_end s c (nI n) = some M1 → ∀ (e : Unit) k, gX7_readAll_L125 (k + 1) s (nI c) = gX7_readAll_L125 k M1 (nI (c + 1)) := by
       intro M1 hM1 _ k
       rw [gX7_readAll_L125, if_neg (show ¬ (16 : Int32) ≤ nI c from nI_ge (b := 16) hc (by decide)), ckI hc (by decide), cI (by omega), lt_n, s1, hM1, bd_some, lt_n, up1]
     cases hr : rd cd c n with
     | some st =>
       rw [hr] at hq
       obtain ⟨v1, l1, -⟩ := rd_some hV (Nat.le_refl _) hr
       obtain ⟨M1, e1, e2, e3⟩ := endC (n := n) hq (by omega) v1
       refine ⟨M1, stp M1 e1, ?_, fun a hb => (e3 a (hb c hc).1 (hb c hc).2).trans (hI a hb), fun b hb hne => ?_⟩
       · unfold FRd eI fin erP
         rw [hr]
         dsimp only
         by_cases hf : fe st = true
         · rw [if_pos hf] at e2 ⊢
           exact ⟨e2.2.2.2, e2.2.1, e2.2.2.1⟩
         · rw [if_neg hf] at e2 ⊢
           exact ⟨e2.2.2, e2.1, e2.2.1⟩
       · have g3 := e3 (vb b + 3) (by unfold vb; omega) (by unfold vb; omega)
         have g4 := e3 (vb b + 4) (by unfold vb; omega) (by unfold vb; omega)
         have g5 := e3 (vb b + 5) (by unfold vb; omega) (by unfold vb; omega)
         exact ⟨fun h => CI_c h g3 g4 g5, fun h => FRd_c h g3 g5⟩
     | none =>
       rw [hr] at hq
       have hlt := er_lt hr
       refine ⟨s, stp s ?_, ?_, hI, fun b hb hne => ⟨id, id⟩⟩
       · unfold gX1_end
         rw [hq.2.2, qm', if_neg (fun h => by rw [s_em (by omega)] at h; exact h)]
       · unfold FRd eI fin erP
         rw [hr]
         exact ⟨hq.2.2, hq.1, hq.2.1⟩
   · show gX7_readAll_L125 (k + 1) s (nI 16) = some s
     rw [gX7_readAll_L125, if_pos (by decide)]
  obtain ⟨M', e, r⟩ := main
  exact ⟨M', e (), r⟩
theorem readAllC {cd : Nat → Nat} {n : Nat} {M : Mm} (hV : Val n cd) (hC : SrcC M n cd) (hP : ∀ j, j < n → M 4 j = pres cd j) : ∃ M', gX7_readAll M = some M' ∧ FrA M M' ∧ (∀ b, b < 16 → FRd cd n M' b) ∧ ∀ j, j < n → M' 14 j = gr cd j := by
  have hn := hV.1
  unfold gX7_readAll
  rw [lt_n]
  obtain ⟨M1, a1, a2, a3⟩ := beginAll M (cd := cd)
  have hC1 : SrcC M1 n cd := ⟨by rw [a2.lo (by decide)]; exact hC.1, fun j hj => by rw [a2.lo (by decide)]; exact hC.2 j hj⟩
  obtain ⟨M2, b1, b2, b3, b4⟩ := itemsC hV n 0 FU M1 (by omega) (by unfold FU; omega) hC1 (fun j hj => by rw [a2.lo (by decide)]; exact hP j hj) a3 (fun j hj => absurd hj (Nat.not_lt_zero _))
  have hC2 : SrcC M2 n cd := ⟨by rw [b2.lo (by decide)]; exact hC1.1, fun j hj => by rw [b2.lo (by decide)]; exact hC1.2 j hj⟩
  obtain ⟨M3, c1, c2, c3⟩ := endAll hV hC2 b3
  rw [show nI 0 = (0 : Int32) from rfl] at a1 b1 c1
  rw [a1, lt_n, b1, c1]
  refine ⟨M3, rfl, (a2.tr b2).tr (fun a h1 h2 => c2 a (fun b hb => ⟨(h2 b hb).1, (h2 b hb).2.1⟩)), c3, fun j hj => ?_⟩
  rw [c2 14 (fun b _ => by unfold vb; omega)]
  exact b4 j hj

