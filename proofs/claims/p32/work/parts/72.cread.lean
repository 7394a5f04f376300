/-! THE CLASS'S READING -/
def sC (x : Nat) : Nat := if x = 1 then 80 else if x = 2 then 83 else if x = 3 then 82 else if x = 4 then 69 else if x = 5 then 81 else if x = 6 then 84 else if x = 7 then 85 else if x = 8 then 70 else x
abbrev sym (x : Nat) : Prop := (1 ≤ x ∧ x ≤ 8) ∨ (33 ≤ x ∧ x < 65) ∨ (90 < x ∧ x < 126)
def svv (s : List Nat) : Prop := ∀ x, x ∈ s → sym x
theorem svv_sv {s : List Nat} (h : svv s) : sv s := fun x hx => by have := h x hx; omega
theorem sC_tab : ∀ x ∈ List.range 126, sym x → gX0_isReplaced (nI (sC x)) = bI (decide (x ≤ 8)) ∧ sC x < 126 ∧ (8 < x → sC x = x) ∧ (x ≤ 8 → 65 ≤ sC x ∧ sC x ≤ 90) := by decide +kernel
theorem sC_inj : ∀ x ∈ List.range 126, ∀ y ∈ List.range 126, sym x → sym y → sC x = sC y → x = y := by decide +kernel
theorem stp1_sym : ∀ t ∈ List.range 126, ∀ x ∈ List.range 9, (stp1 t x).all (fun q => q.all (fun y => decide (sym y)) && decide (q.length ≤ 4)) = true := by decide +kernel
theorem ch_tab : ∀ v ∈ List.range 15, ∀ k ∈ List.range (litL.getD v 0), gJ0_charAt_5068e v (nI k) = some ((litB.getD v []).getD k 0) := by decide +kernel
theorem ln_tab : ∀ v ∈ List.range 15, ((nI (litL.getD v 0)) >>> ((0 : Int32) &&& 31)) - (1 : Int32) = ix (litL.getD v 0) := by decide +kernel
def chk (t x : Nat) : Bool := match gX0_replacement (nI (sC x)) (nI t), stp1 t x with
  | none, none => true
  | some v, some q => decide (v < 15) && decide (q.length = litL.getD v 0) && decide ((litB.getD v []).map (fun ch => if ch = (35 : Int32) then nI t else ch) = q.map (fun y => nI (sC y))) && decide ((litB.getD v []).length = q.length)
  | _, _ => false
theorem chk_tab : ∀ t ∈ List.range 126, (t = 0 ∨ 33 ≤ t) → ∀ x ∈ List.range 9, 1 ≤ x → chk t x = true := by decide +kernel
theorem map_eq_get {L : List Int32} {q : List Nat} {f : Int32 → Int32} {g : Nat → Int32} (h : L.map f = q.map g) (hl : L.length = q.length) : ∀ k, k < q.length → f (L.getD k 0) = g (q.getD k 0) := by
  intro k hk
  have e : (L.map f).getD k 0 = (q.map g).getD k 0 := by rw [h]
  have hk2 : k < L.length := by omega
  simpa [List.getD, hk, hk2] using e
def SkC (row : Nat → Int32) : List Nat → Prop
  | [] => True
  | x :: r => row r.length = nI (sC x) ∧ SkC row r
theorem SkC_c {row row' : Nat → Int32} : ∀ {s : List Nat}, SkC row s → (∀ j, j < s.length → row' j = row j) → SkC row' s
  | [], _, _ => trivial
  | x :: r, h, e => ⟨(e r.length (Nat.lt_succ_self _)).trans h.1, SkC_c h.2 (fun j hj => e j (Nat.lt_succ_of_lt hj))⟩
def RdC (M : Mm) (c : Nat) (s : List Nat) : Prop := M (vb c + 3) 1 = nI s.length ∧ SkC (M (vb c + 4)) s
def FrR (c : Nat) (M M' : Mm) : Prop := (∀ a, a ≠ vb c + 3 → a ≠ vb c + 4 → M' a = M a) ∧ ∀ i, i ≠ 1 → M' (vb c + 3) i = M (vb c + 3) i
theorem FrR.tr {c : Nat} {M M' M'' : Mm} (h : FrR c M M') (h' : FrR c M' M'') : FrR c M M'' := ⟨fun a b1 b2 => (h'.1 a b1 b2).trans (h.1 a b1 b2), fun i hi => (h'.2 i hi).trans (h.2 i hi)⟩
theorem FrR.rf {c : Nat} {M : Mm} : FrR c M M := ⟨fun _ _ _ => rfl, fun _ _ => rfl⟩
theorem pushC {M : Mm} {c x : Nat} {s : List Nat} (h : RdC M c s) (hl : s.length < 320) : ∃ M', gX1_push M c (nI (sC x)) = some M' ∧ RdC M' c (x :: s) ∧ FrR c M M' := by
  obtain ⟨h1, h2⟩ := h
  unfold gX1_push
  rw [h1, if_neg (show ¬ (320 : Int32) ≤ nI s.length from nI_ge (b := 320) hl (by decide)), ckI hl (by decide), cI (by omega), lt_s9, um_fn (show vb c + 3 ≠ vb c + 4 by omega), h1, up1, lt_s9]
  refine ⟨_, rfl, ⟨um_hit, ?_, ?_⟩, fun a b1 b2 => ?_, fun i hi => ?_⟩
  · rw [um_fn (by omega), um_hit]
  · refine SkC_c h2 (fun j hj => ?_)
    rw [um_fn (by omega), um_place (by omega)]
  · rw [um_fn b1, um_fn b2]
  · rw [um_place hi, um_fn (by omega)]
theorem dropM {M : Mm} {c x : Nat} {s : List Nat} (h : RdC M c (x :: s)) : RdC (um M (vb c + 3) 1 (nI s.length)) c s ∧ FrR c M (um M (vb c + 3) 1 (nI s.length)) := by
  refine ⟨⟨um_hit, ?_⟩, fun a b1 b2 => um_fn b1, fun i hi => um_place hi⟩
  rw [um_fn (by omega)]; exact h.2.2
theorem pushQ {c t v : Nat} {q r : List Nat} (hv : v < 15) (hq : q.length = litL.getD v 0) (hb : ∀ k, k < q.length → (if (litB.getD v []).getD k 0 = (35 : Int32) then nI t else (litB.getD v []).getD k 0) = nI (sC (q.getD k 0))) (hl : q.length + r.length ≤ 320) (x19 : Int32) : ∀ (k fuel : Nat) (M : Mm), k ≤ q.length → k < fuel → RdC M c (q.drop k ++ r) → ∃ M', (∀ E, gX1_replaceTop_L68 c (nI t) E fuel M x19 v (ix k) = E M' x19) ∧ RdC M' c (q ++ r) ∧ FrR c M M' := by
  intro k
  induction k with
  | zero =>
    intro fuel M h1 h2 hR
    obtain ⟨g, rfl⟩ : ∃ g, fuel = g + 1 := ⟨fuel - 1, by omega⟩
    exact ⟨M, fun E => by rw [gX1_replaceTop_L68, if_pos ix_0], by rw [List.drop_zero] at hR; exact hR, FrR.rf⟩
  | succ k ih =>
    intro fuel M h1 h2 hR
    obtain ⟨g, rfl⟩ : ∃ g, fuel = g + 1 := ⟨fuel - 1, by omega⟩
    have hd : q.drop k = q.getD k 0 :: q.drop (k + 1) := by
      rw [List.drop_eq_getElem_cons (show k < q.length by omega)]
      simp [List.getD, show k < q.length by omega]
    obtain ⟨M1, e1, R1, F1⟩ := pushC (x := q.getD k 0) hR (by simp only [List.length_append, List.length_drop]; omega)
    obtain ⟨M2, e2, R2, F2⟩ := ih g M1 (by omega) (by omega) (by rw [hd]; exact R1)
    refine ⟨M2, fun E => ?_, R2, F1.tr F2⟩
    have hlit : litL.getD v 0 < 2 ^ 31 := (show ∀ v ∈ List.range 15, litL.getD v 0 < 2 ^ 31 by decide) v (List.mem_range.mpr hv)
    rw [gX1_replaceTop_L68, show ix (k + 1) = nI k from rfl, if_neg (nI_pos (by omega)), ch_tab v (List.mem_range.mpr hv) k (List.mem_range.mpr (by omega)), bd_some, show nI k + (-1 : Int32) = ix k from ix_dn k]
    have hk := hb k (by omega)
    by_cases z : (litB.getD v []).getD k 0 = (35 : Int32)
    · rw [if_pos z] at hk ⊢
      rw [hk, e1, bd_some, lt_s9, ← hk]
      exact e2 E
    · rw [if_neg z] at hk ⊢
      rw [hk, e1, bd_some, lt_s9]
      exact e2 E
theorem c_rt {c t : Nat} (ht : t < 126) (ht0 : t = 0 ∨ 33 ≤ t) : ∀ (k j fuel : Nat) (M : Mm) (s : List Nat), j + k = 640 → k < fuel → svv s → RdC M c s → s.length ≤ 320 → (rt t k s).1 ≠ [0] → ∃ M', gX1_replaceTop_L2 c (nI t) fuel M (nI j) = some M' ∧ RdC M' c (rt t k s).1 ∧ FrR c M M' := by
  intro k
  induction k with
  | zero =>
    intro j fuel M s h1 h2 hs hR hl hn
    obtain ⟨g, rfl⟩ : ∃ g, fuel = g + 1 := ⟨fuel - 1, by omega⟩
    obtain rfl : j = 640 := by omega
    exact ⟨M, by rw [gX1_replaceTop_L2, if_pos (by decide)], hR, FrR.rf⟩
  | succ k ih =>
    intro j fuel M s h1 h2 hs hR hl hn
    obtain ⟨g, rfl⟩ : ∃ g, fuel = g + 1 := ⟨fuel - 1, by omega⟩
    rw [gX1_replaceTop_L2, if_neg (show ¬ (640 : Int32) ≤ nI j from nI_ge (b := 640) (by omega) (by decide)), hR.1]
    cases s with
    | nil =>
      rw [if_pos (by decide)]
      exact ⟨M, rfl, hR, FrR.rf⟩
    | cons x r =>
      have hx := hs x List.mem_cons_self
      simp only [List.length_cons] at hl
      obtain ⟨u1, u2, u3, u4⟩ := sC_tab x (List.mem_range.mpr (by omega)) hx
      rw [List.length_cons, if_neg (nI_nle (by omega) (by omega)), nI_pred, ckI (show r.length < 320 by omega) (by decide), cI (by omega), lt_s9, hR.2.1, u1]
      by_cases a : 8 < x
      · have e : rt t (k + 1) (x :: r) = (x :: r, true) := by rw [rt, if_pos a]
        rw [e, decide_eq_false (by omega), if_pos (show bI false = 0 from rfl)]
        exact ⟨M, rfl, hR, FrR.rf⟩
      rw [decide_eq_true (by omega), if_neg (show ¬ bI true = 0 by decide)]
      have hc := chk_tab t (List.mem_range.mpr ht) ht0 x (List.mem_range.mpr (by omega)) (by omega)
      have hsy := stp1_sym t (List.mem_range.mpr ht) x (List.mem_range.mpr (by omega))
      unfold chk at hc
      cases hr : gX0_replacement (nI (sC x)) (nI t) with
      | none =>
        rw [hr] at hc
        cases hq : stp1 t x with
        | some q => rw [hq] at hc; cases hc
        | none =>
          have e : rt t (k + 1) (x :: r) = (x :: r, false) := by rw [rt, if_neg a, hq]
          rw [e, om_none]
          exact ⟨M, rfl, hR, FrR.rf⟩
      | some v =>
        rw [hr] at hc
        cases hq : stp1 t x with
        | none => rw [hq] at hc; cases hc
        | some q =>
          rw [hq] at hc hsy
          have hc : (decide (v < 15) && decide (q.length = litL.getD v 0) && decide ((litB.getD v []).map (fun ch => if ch = (35 : Int32) then nI t else ch) = q.map (fun y => nI (sC y))) && decide ((litB.getD v []).length = q.length)) = true := hc
          have hsy : (q.all (fun y => decide (sym y)) && decide (q.length ≤ 4)) = true := hsy
          simp only [Bool.and_eq_true, decide_eq_true_iff, List.all_eq_true] at hc hsy
          obtain ⟨⟨⟨c1, c2⟩, c3⟩, c4⟩ := hc
          have e : rt t (k + 1) (x :: r) = if 320 < q.length + r.length then ([0], false) else rt t k (q ++ r) := by rw [rt, if_neg a, hq]
          rw [e] at hn ⊢
          by_cases gd : 320 < q.length + r.length
          · rw [if_pos gd] at hn; exact absurd rfl hn
          rw [if_neg gd] at hn ⊢
          have hb : ∀ k, k < q.length → (if (litB.getD v []).getD k 0 = (35 : Int32) then nI t else (litB.getD v []).getD k 0) = nI (sC (q.getD k 0)) := by
            exact map_eq_get c3 c4
          obtain ⟨R0, F0⟩ := dropM hR
          obtain ⟨M1, e1, R1, F1⟩ := pushQ (c := c) (t := t) (r := r) c1 c2 hb (by omega) (nI j) q.length FU (um M (vb c + 3) 1 (nI r.length)) (Nat.le_refl _) (by unfold FU; omega) (by rw [List.drop_length]; exact R0)
          obtain ⟨M2, e2, R2, F2⟩ := ih (j + 1) g M1 (q ++ r) (by omega) (by omega) (fun y hy => by
            rcases List.mem_append.mp hy with h | h
            · exact hsy.1 y h
            · exact hs y (List.mem_cons_of_mem _ h)) R1 (by rw [List.length_append]; omega) hn
          refine ⟨M2, ?_, R2, (F0.tr F1).tr F2⟩
          rw [om_some, lt_s9, ln_tab v (List.mem_range.mpr c1), ← c2, lt_s9, lt_s9, e1, lt_s9, up1]
          exact e2
/-- what a configuration's reading holds -/
def RS (M : Mm) (c : Nat) (s : List Nat) (hs : List Nat) : Prop := RdC M c s ∧ M (vb c + 3) 3 = nI hs.length ∧ RowL (M (vb c + 5)) (hs.map nI) ∧ M (vb c + 3) 4 = -1
def RE (M : Mm) (c p : Nat) (hs : List Nat) : Prop := M (vb c + 3) 3 = nI hs.length ∧ RowL (M (vb c + 5)) (hs.map nI) ∧ M (vb c + 3) 4 = nI p
theorem feed_svv {t : Nat} (ht : t < 126) : ∀ {s s' : List Nat}, svv s → feed t s = some s' → svv s'
  | [], s', _, h => by cases h
  | x :: s, s', hs, h => by
    have hs2 : svv s := fun y hy => hs y (List.mem_cons_of_mem _ hy)
    have hx := hs x List.mem_cons_self
    rw [feed] at h
    by_cases a : 8 < x
    · rw [if_pos a] at h
      by_cases b : x = t
      · rw [if_pos b] at h; cases h; exact hs2
      · rw [if_neg b] at h; cases h
    rw [if_neg a] at h
    by_cases b : van t x
    · rw [if_pos b] at h; exact feed_svv ht hs2 h
    rw [if_neg b] at h
    have hb2 : ∀ t ∈ List.range 126, ∀ x ∈ List.range 9, (bod t x).all (fun q => q.all (fun y => decide (sym y))) = true := by decide +kernel
    have hb3 := hb2 t (List.mem_range.mpr ht) x (List.mem_range.mpr (by omega))
    cases hb : bod t x with
    | none => rw [hb] at h; cases h
    | some q =>
      rw [hb] at h hb3; cases h
      have hb3 : q.all (fun y => decide (sym y)) = true := hb3
      simp only [decide_eq_true_iff, List.all_eq_true] at hb3
      intro y hy
      rcases List.mem_append.mp hy with h | h
      · exact hb3 y h
      · exact hs2 y h
theorem rt_len {t : Nat} : ∀ {k : Nat} {s : List Nat}, s.length ≤ 320 → (rt t k s).1.length ≤ 320
  | 0, s, h => h
  | k + 1, [], h => by show 0 ≤ 320; omega
  | k + 1, x :: r, h => by
    rw [rt]
    by_cases a : 8 < x
    · rw [if_pos a]; exact h
    rw [if_neg a]
    cases hq : stp1 t x with
    | none => exact h
    | some q =>
      show (if 320 < q.length + r.length then ([0], false) else rt t k (q ++ r)).1.length ≤ 320
      by_cases b : 320 < q.length + r.length
      · rw [if_pos b]; show 1 ≤ 320; omega
      · rw [if_neg b]; exact rt_len (by rw [List.length_append]; omega)
theorem rt_svv {t : Nat} (ht : t < 126) : ∀ {k : Nat} {s : List Nat}, svv s → (rt t k s).1 ≠ [0] → svv (rt t k s).1
  | 0, s, h, _ => h
  | k + 1, [], h, _ => h
  | k + 1, x :: r, h, hn => by
    have hx := h x List.mem_cons_self
    rw [rt] at hn ⊢
    by_cases a : 8 < x
    · rw [if_pos a]; exact h
    rw [if_neg a] at hn ⊢
    have hsy := stp1_sym t (List.mem_range.mpr ht) x (List.mem_range.mpr (by omega))
    cases hq : stp1 t x with
    | none => exact h
    | some q =>
      rw [hq] at hn hsy
      have hsy : (q.all (fun y => decide (sym y)) && decide (q.length ≤ 4)) = true := hsy
      simp only [Bool.and_eq_true, decide_eq_true_iff, List.all_eq_true] at hsy
      have hn : (if 320 < q.length + r.length then ([0], false) else rt t k (q ++ r)).1 ≠ [0] := hn
      show svv (if 320 < q.length + r.length then ([0], false) else rt t k (q ++ r)).1
      by_cases b : 320 < q.length + r.length
      · rw [if_pos b] at hn; exact absurd rfl hn
      · rw [if_neg b] at hn ⊢
        exact rt_svv ht (fun y hy => by
          rcases List.mem_append.mp hy with h1 | h1
          · exact hsy.1 y h1
          · exact h y (List.mem_cons_of_mem _ h1)) hn
theorem takeC {M : Mm} {c t i : Nat} {s hs : List Nat} (h : RS M c s hs) (ht : t < 126) (hts : sym t) (ht0 : 33 ≤ t) (hh : hs.length < 80) (hl : s.length + 4 ≤ 320) (hv : svv s) : ∃ M', gX1_take M c (nI t) (nI i) = some M' ∧ (match feed t s with
    | some s' => RS M' c s' (hs ++ [s.length])
    | none => RE M' c i (hs ++ [s.length])) ∧ ∀ a, a ≠ vb c + 3 → a ≠ vb c + 4 → a ≠ vb c + 5 → M' a = M a := by
  obtain ⟨hR, h3, h5, h4⟩ := h
  obtain ⟨M1, hM1⟩ : ∃ M1, M1 = um (um M (vb c + 5) hs.length (nI s.length)) (vb c + 3) 3 (nI (hs.length + 1)) := ⟨_, rfl⟩
  have R1 : RdC M1 c s := by
    rw [hM1]
    refine ⟨by rw [um_place (by decide), um_fn (by omega)]; exact hR.1, ?_⟩
    rw [um_fn (by omega), um_fn (by omega)]; exact hR.2
  have g3 : M1 (vb c + 3) 3 = nI (hs ++ [s.length]).length := by rw [hM1, um_hit]; simp
  have g5 : RowL (M1 (vb c + 5)) ((hs ++ [s.length]).map nI) := by
    rw [hM1, um_fn (by omega), um_row, show (hs ++ [s.length]).map nI = hs.map nI ++ [nI s.length] by simp, show hs.length = (hs.map nI).length by simp]
    exact RowL_app h5
  have g4 : M1 (vb c + 3) 4 = -1 := by rw [hM1, um_place (by decide), um_fn (by omega)]; exact h4
  have gf : ∀ a, a ≠ vb c + 3 → a ≠ vb c + 5 → M1 a = M a := fun a b1 b2 => by rw [hM1, um_fn b1, um_fn b2]
  have hrt := rt_feed (t := t) (by omega) (svv_sv hv) hl (k := 640) (by omega)
  have hn0 : (rt t 640 s).1 ≠ [0] := by
    intro e
    cases hf : feed t s with
    | some s' => rw [hf] at hrt; have hrt : rt t 640 s = (t :: s', true) := hrt; rw [hrt] at e; have := (List.cons.inj e).1; omega
    | none =>
      rw [hf] at hrt
      rcases hrt with ⟨-, y, r, h1, h2, -⟩ | h1 | ⟨y, r, h1, h2, -⟩
      · rw [h1] at e; have := (List.cons.inj e).1; omega
      · rw [h1] at e; cases e
      · rw [h1] at e; have := (List.cons.inj e).1; omega
  obtain ⟨M2, e2, R2, F2⟩ := c_rt (c := c) ht (Or.inr ht0) 640 0 FU M1 s (by omega) (by decide) hv R1 (by omega) hn0
  have e2 : gX1_replaceTop M1 c (nI t) = some M2 := e2
  have k3 : M2 (vb c + 3) 3 = nI (hs ++ [s.length]).length := (F2.2 3 (by decide)).trans g3
  have k5 : RowL (M2 (vb c + 5)) ((hs ++ [s.length]).map nI) := by rw [F2.1 (vb c + 5) (by omega) (by omega)]; exact g5
  have k4 : M2 (vb c + 3) 4 = -1 := (F2.2 4 (by decide)).trans g4
  have kf : ∀ a, a ≠ vb c + 3 → a ≠ vb c + 4 → a ≠ vb c + 5 → M2 a = M a := fun a b1 b2 b3 => (F2.1 a b1 b2).trans (gf a b1 b3)
  have tk : ∀ M', (if (M2 (vb c + 3) 1) ≤ 0 then (lt (um M2 (vb c + 3) 4 (nI i)) fun M7 => some M7) else if (((M2 (vb c + 3) 1) - (1 : Int32)) < 0 ∨ 320 ≤ (((M2 (vb c + 3) 1) - (1 : Int32))).toNatClampNeg) then none else if (M2 (vb c + 4) (((M2 (vb c + 3) 1) - (1 : Int32))).toNatClampNeg) = nI t then (lt (um M2 (vb c + 3) 1 ((M2 (vb c + 3) 1) - (1 : Int32))) fun M11 => some M11) else lt (um M2 (vb c + 3) 4 (nI i)) fun M10 => some M10) = some M' → gX1_take M c (nI t) (nI i) = some M' := by
    intro M' hM'
    unfold gX1_take
    rw [lt_s9, h3, if_neg (show ¬ (80 : Int32) ≤ nI hs.length from nI_ge (b := 80) hh (by decide)), ckI hh (by decide), cI (by omega), hR.1, lt_s9, um_fn (show vb c + 3 ≠ vb c + 5 by omega), h3, up1, lt_s9, ← hM1]
    dsimp only
    rw [e2, bd_some]
    exact hM'
  have er : RE (um M2 (vb c + 3) 4 (nI i)) c i (hs ++ [s.length]) := ⟨by rw [um_place (by decide)]; exact k3, by rw [um_fn (by omega)]; exact k5, um_hit⟩
  have ef : ∀ a, a ≠ vb c + 3 → a ≠ vb c + 4 → a ≠ vb c + 5 → um M2 (vb c + 3) 4 (nI i) a = M a := fun a b1 b2 b3 => by rw [um_fn b1]; exact kf a b1 b2 b3
  cases hf : feed t s with
  | some s' =>
    rw [hf] at hrt
    have hrt : rt t 640 s = (t :: s', true) := hrt
    rw [hrt] at R2
    obtain ⟨q1, q2⟩ := dropM R2
    have hl' := feed_len hf
    refine ⟨um M2 (vb c + 3) 1 (nI s'.length), tk _ ?_, ⟨q1, by rw [um_place (by decide)]; exact k3, by rw [um_fn (by omega)]; exact k5, by rw [um_place (by decide)]; exact k4⟩, fun a b1 b2 b3 => by rw [um_fn b1]; exact kf a b1 b2 b3⟩
    have hst : sC t = t := (sC_tab t (List.mem_range.mpr ht) hts).2.2.1 (by omega)
    rw [R2.1, List.length_cons, if_neg (nI_nle (by omega) (by omega)), nI_pred, ckI (show s'.length < 320 by omega) (by decide), cI (by omega), R2.2.1, hst, if_pos rfl, lt_s9]
  | none =>
    rw [hf] at hrt
    refine ⟨um M2 (vb c + 3) 4 (nI i), tk _ ?_, er, ef⟩
    have top : ∀ (y : Nat) (r : List Nat), (rt t 640 s).1 = y :: r → sC y ≠ t → sC y < 126 → (y :: r).length ≤ 320 → (if (M2 (vb c + 3) 1) ≤ 0 then (lt (um M2 (vb c + 3) 4 (nI i)) fun M7 => some M7) else if (((M2 (vb c + 3) 1) - (1 : Int32)) < 0 ∨ 320 ≤ (((M2 (vb c + 3) 1) - (1 : Int32))).toNatClampNeg) then none else if (M2 (vb c + 4) (((M2 (vb c + 3) 1) - (1 : Int32))).toNatClampNeg) = nI t then (lt (um M2 (vb c + 3) 1 ((M2 (vb c + 3) 1) - (1 : Int32))) fun M11 => some M11) else lt (um M2 (vb c + 3) 4 (nI i)) fun M10 => some M10) = some (um M2 (vb c + 3) 4 (nI i)) := by
      intro y r hy hne h126 hlen
      rw [hy] at R2
      simp only [List.length_cons] at hlen
      rw [R2.1, List.length_cons, if_neg (nI_nle (by omega) (by omega)), nI_pred, ckI (show r.length < 320 by omega) (by decide), cI (by omega), R2.2.1, if_neg (fun e => hne ((nI_eq (by omega) (by omega)).mp e)), lt_s9]
    have rl := rt_len (t := t) (k := 640) (s := s) (by omega)
    rcases hrt with ⟨-, y, r, h1, h2, h9⟩ | h1 | ⟨y, r, h1, h2, h9⟩
    · have := (sC_tab y (List.mem_range.mpr (by omega)) (Or.inl ⟨h2, h9⟩))
      have u4 := this.2.2.2 h9
      refine top y r h1 (by omega) (by omega) ?_
      rw [← h1]; exact rl
    · rw [h1] at R2
      rw [R2.1, if_pos (by decide), lt_s9]
    · have hsy := rt_svv (t := t) ht (k := 640) hv (by rw [h1]; intro e; have := (List.cons.inj e).1; omega) y (by rw [h1]; exact List.mem_cons_self)
      have := (sC_tab y (List.mem_range.mpr (by omega)) hsy)
      have u4 := this.2.2.1 h2
      refine top y r (by rw [h1]) (by omega) (by omega) ?_
      rw [show (y :: r) = (rt t 640 s).1 by rw [h1]]; exact rl
theorem endC {M : Mm} {c n : Nat} {s hs : List Nat} (h : RS M c s hs) (hl : s.length + 4 ≤ 320) (hv : svv s) : ∃ M', gX1_end M c (nI n) = some M' ∧ (if fe s = true then RS M' c [] hs else RE M' c n hs) ∧ ∀ a, a ≠ vb c + 3 → a ≠ vb c + 4 → M' a = M a := by
  obtain ⟨hR, h3, h5, h4⟩ := h
  have hrt := rt_end (svv_sv hv) hl (k := 640) (by omega)
  have hn0 : (rt 0 640 s).1 ≠ [0] := by
    intro e
    by_cases hf : fe s = true
    · rw [if_pos hf] at hrt; rw [hrt] at e; cases e
    · rw [if_neg hf] at hrt
      rcases hrt with ⟨-, y, r, h1, h2, -⟩ | ⟨y, r, h1, h2⟩
      · rw [h1] at e; have := (List.cons.inj e).1; omega
      · rw [h1] at e; have := (List.cons.inj e).1; omega
  obtain ⟨M2, e2, R2, F2⟩ := c_rt (c := c) (t := 0) (by decide) (Or.inl rfl) 640 0 FU M s (by omega) (by decide) hv hR (by omega) hn0
  have e2 : gX1_replaceTop M c (nI 0) = some M2 := e2
  have k3 : M2 (vb c + 3) 3 = nI hs.length := (F2.2 3 (by decide)).trans h3
  have k5 : RowL (M2 (vb c + 5)) (hs.map nI) := by rw [F2.1 (vb c + 5) (by omega) (by omega)]; exact h5
  have k4 : M2 (vb c + 3) 4 = -1 := (F2.2 4 (by decide)).trans h4
  unfold gX1_end
  rw [h4, if_pos rfl, show (0 : Int32) = nI 0 from rfl, e2, bd_some]
  by_cases hf : fe s = true
  · rw [if_pos hf] at hrt
    rw [hrt] at R2
    refine ⟨M2, ?_, by rw [if_pos hf]; exact ⟨R2, k3, k5, k4⟩, F2.1⟩
    rw [R2.1]
    exact if_pos rfl
  · rw [if_neg hf] at hrt
    have rl := rt_len (t := 0) (k := 640) (s := s) (by omega)
    have ne : ∃ y r, (rt 0 640 s).1 = y :: r := by
      rcases hrt with ⟨-, y, r, h1, -⟩ | ⟨y, r, h1, -⟩
      · exact ⟨y, r, h1⟩
      · exact ⟨y, r, by rw [h1]⟩
    obtain ⟨y, r, hy⟩ := ne
    rw [hy] at R2 rl
    simp only [List.length_cons] at rl
    refine ⟨um M2 (vb c + 3) 4 (nI n), ?_, by rw [if_neg hf]; exact ⟨by rw [um_place (by decide)]; exact k3, by rw [um_fn (by omega)]; exact k5, um_hit⟩, fun a b1 b2 => by rw [um_fn b1]; exact F2.1 a b1 b2⟩
    rw [R2.1, List.length_cons, if_neg (fun e => by have := (nI_eq (b := 0) (by omega) (by decide)).mp e; omega), lt_s9]

