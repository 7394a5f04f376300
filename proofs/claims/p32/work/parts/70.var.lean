/-! VARIANTS: the tokens of a configuration -/
theorem bI_01 (b : Bool) : bI b = 0 ∨ bI b = 1 := by cases b <;> decide
theorem bI_0 {b : Bool} : (bI b = 0) = (b = false) := by cases b <;> simp [bI]
theorem bI_n {b : Bool} : bI b = nI (if b then 1 else 0) := by cases b <;> rfl
theorem tokC {k : Nat} (h : ok k ∧ k < 2 ^ 31) : gX0_isToken (nI k) = bI (decide (18 ≤ k)) := by
  have h2 := ok_tok h.1 h.2
  have h17 : nI k ≤ (17 : Int32) ↔ k ≤ 17 := nI_leI (b := 17) h.2 (by decide)
  rw [h17] at h2
  by_cases a : 18 ≤ k
  · rw [decide_eq_true a]
    rcases zb_tok (nI k) with e | e
    · have := h2.mp e; omega
    · exact e
  · rw [decide_eq_false a]
    exact h2.mpr (by omega)
theorem has01 (a b : Int32) : gX8_has a b = bI (decide (gX8_has a b = 1)) := by
  rw [has_b]
  by_cases h : bitI a b = 1
  · rw [if_pos h]; rfl
  · rw [if_neg h]; rfl
def bth (a : Int32) (c : Nat) : Bool := decide (gX8_has a (nI c) = 1)
theorem has_bt (a : Int32) (c : Nat) : gX8_has a (nI c) = bI (bth a c) := has01 a (nI c)
theorem presC {M : Mm} {i : Nat} {c : Nat} (hi : i < 80) : gX6_isPresent M (nI i) (nI c) = some (bI (bth (M 4 i) c)) := by
  unfold gX6_isPresent
  rw [ckI hi (by decide), cI (by omega), ← has_bt]
  show (if bitI (M 4 i) (nI c) = 1 then some (1 : Int32) else some 0) = some (if bitI (M 4 i) (nI c) = 1 then 1 else 0)
  by_cases h : bitI (M 4 i) (nI c) = 1
  · rw [if_pos h, if_pos h]
  · rw [if_neg h, if_neg h]
def inV (cd : Nat → Nat) (c i : Nat) : Bool := decide (18 ≤ cd i) && bth (pres cd i) c
def vl (cd : Nat → Nat) (c : Nat) : Nat → List Nat
  | 0 => []
  | i + 1 => if inV cd c i then vl cd c i ++ [i] else vl cd c i
theorem vl_len {cd : Nat → Nat} {c : Nat} : ∀ i, (vl cd c i).length ≤ i
  | 0 => Nat.le_refl _
  | i + 1 => by
    have := vl_len (cd := cd) (c := c) i
    unfold vl
    by_cases h : inV cd c i = true
    · rw [if_pos h]; simp only [List.length_append, List.length_singleton]; omega
    · rw [if_neg h]; omega
theorem vl_get {cd : Nat → Nat} {c : Nat} : ∀ {i : Nat} {k : Nat}, k < (vl cd c i).length → (vl cd c i).getD k 0 < i ∧ inV cd c ((vl cd c i).getD k 0) = true
  | 0, k, h => absurd h (Nat.not_lt_zero _)
  | i + 1, k, h => by
    unfold vl at h ⊢
    by_cases a : inV cd c i = true
    · rw [if_pos a] at h ⊢
      simp only [List.length_append, List.length_singleton] at h
      by_cases e : k < (vl cd c i).length
      · have := vl_get e
        rw [show (vl cd c i ++ [i]).getD k 0 = (vl cd c i).getD k 0 by simp [List.getD, List.getElem?_append_left e]]
        exact ⟨by omega, this.2⟩
      · have e2 : k = (vl cd c i).length := by omega
        rw [show (vl cd c i ++ [i]).getD k 0 = i by rw [e2]; simp [List.getD]]
        exact ⟨by omega, a⟩
    · rw [if_neg a] at h ⊢
      have := vl_get h
      exact ⟨by omega, this.2⟩
theorem vl_pre {cd : Nat → Nat} {c i : Nat} : ∀ {j : Nat}, i ≤ j → (vl cd c i).length ≤ (vl cd c j).length ∧ ∀ k, k < (vl cd c i).length → (vl cd c j).getD k 0 = (vl cd c i).getD k 0
  | 0, h => by obtain rfl : i = 0 := by omega
               exact ⟨Nat.le_refl _, fun _ _ => rfl⟩
  | j + 1, h => by
    by_cases e : i = j + 1
    · subst e; exact ⟨Nat.le_refl _, fun _ _ => rfl⟩
    · obtain ⟨h1, h2⟩ := vl_pre (cd := cd) (c := c) (show i ≤ j by omega)
      show _ ≤ (if inV cd c j then vl cd c j ++ [j] else vl cd c j).length ∧ ∀ k, _ → (if inV cd c j then vl cd c j ++ [j] else vl cd c j).getD k 0 = _
      by_cases a : inV cd c j = true
      · rw [if_pos a]
        refine ⟨by simp only [List.length_append, List.length_singleton]; omega, fun k hk => ?_⟩
        rw [← h2 k hk]
        simp [List.getD, List.getElem?_append_left (show k < (vl cd c j).length by omega)]
      · rw [if_neg a]; exact ⟨h1, h2⟩
/-- a text: its characters -/
def txt (cd : Nat → Nat) (l : List Nat) : List Int32 := l.map (fun i => nI (cd i))
theorem txt_get {cd : Nat → Nat} {l : List Nat} {k : Nat} (h : k < l.length) : (txt cd l).getD k 0 = nI (cd (l.getD k 0)) := by
  simp [txt, List.getD, h]
theorem txt_len {cd : Nat → Nat} {l : List Nat} : (txt cd l).length = l.length := List.length_map ..
theorem map_get {l : List Nat} {k : Nat} (h : k < l.length) : (l.map nI).getD k 0 = nI (l.getD k 0) := by
  simp [List.getD, h]
theorem row_ext {a b : List Int32} (h : a.length = b.length) : a = b ↔ ∀ k, k < a.length → a.getD k 0 = b.getD k 0 := by
  constructor
  · intro e k _; rw [e]
  · intro e
    apply List.ext_getElem h
    intro k h1 h2
    have := e k h1
    simpa [List.getD, h1, h2] using this
def VarC (cd : Nat → Nat) (M : Mm) (c : Nat) (l : List Nat) : Prop := M (vb c) 2 = nI l.length ∧ RowL (M (vb c + 1)) (txt cd l) ∧ RowL (M (vb c + 2)) (l.map nI)
theorem VarC_c {cd : Nat → Nat} {M M' : Mm} {c : Nat} {l : List Nat} (h : VarC cd M c l) (e0 : M' (vb c) 2 = M (vb c) 2) (e1 : M' (vb c + 1) = M (vb c + 1)) (e2 : M' (vb c + 2) = M (vb c + 2)) : VarC cd M' c l := ⟨by rw [e0]; exact h.1, by rw [e1]; exact h.2.1, by rw [e2]; exact h.2.2⟩
theorem um_row {M : Mm} {k j : Nat} {v : Int32} : um M k j v k = upd (M k) j v := by
  unfold um
  exact if_pos rfl
theorem addV {cd : Nat → Nat} {M : Mm} {c i : Nat} {l : List Nat} (h : VarC cd M c l) (hl : l.length < 80) : ∃ M', gX5_add M c (nI (cd i)) (nI i) = some M' ∧ VarC cd M' c (l ++ [i]) ∧ (∀ a, a ≠ vb c → a ≠ vb c + 1 → a ≠ vb c + 2 → M' a = M a) := by
  obtain ⟨h1, h2, h3⟩ := h
  unfold gX5_add
  rw [h1, if_neg (show ¬ (80 : Int32) ≤ nI l.length from nI_ge (b := 80) hl (by decide)), ckI hl (by decide), cI (by omega), lt_s9, um_fn (show vb c ≠ vb c + 1 by omega), h1, ckI hl (by decide), cI (by omega), lt_s9, um_fn (show vb c ≠ vb c + 2 by omega), um_fn (show vb c ≠ vb c + 1 by omega), h1, up1, lt_s9]
  refine ⟨_, rfl, ⟨?_, ?_, ?_⟩, fun a b1 b2 b3 => ?_⟩
  · rw [um_hit]; simp only [List.length_append, List.length_singleton]
  · rw [um_fn (by omega), um_fn (by omega), um_row, show txt cd (l ++ [i]) = txt cd l ++ [nI (cd i)] by simp [txt], ← txt_len (cd := cd)]
    exact RowL_app h2
  · rw [um_fn (by omega), um_row, um_fn (by omega), show (l ++ [i]).map nI = l.map nI ++ [nI i] by simp, show l.length = (l.map nI).length by simp]
    exact RowL_app h3
  · rw [um_fn b1, um_fn b3, um_fn b2]
theorem colI {n : Nat} {cd : Nat → Nat} (hV : Val n cd) {c : Nat} : ∀ (m i fuel : Nat) (M : Mm), i + m = n → m < fuel → SrcC M n cd → (∀ j, j < n → M 4 j = pres cd j) → VarC cd M c (vl cd c i) → ∃ M', (∀ E, gX7_collectVariants_L22 E fuel M (nI c) c (nI i) = E M' (nI c)) ∧ VarC cd M' c (vl cd c n) ∧ (∀ a, a ≠ vb c → a ≠ vb c + 1 → a ≠ vb c + 2 → M' a = M a) := by
  intro m
  have hn := hV.1
  induction m with
  | zero =>
    intro i fuel M h hf hC hP hA
    obtain ⟨k, rfl⟩ : ∃ k, fuel = k + 1 := ⟨fuel - 1, by omega⟩
    obtain rfl : i = n := by omega
    exact ⟨M, fun E => by rw [gX7_collectVariants_L22, hC.1, if_pos (nI_le (Nat.le_refl _) (by omega))], hA, fun a _ _ _ => rfl⟩
  | succ m ih =>
    intro i fuel M h hf hC hP hA
    obtain ⟨k, rfl⟩ : ∃ k, fuel = k + 1 := ⟨fuel - 1, by omega⟩
    have hi : i < n := by omega
    have e0 : ∀ E, gX7_collectVariants_L22 E (k + 1) M (nI c) c (nI i) = if decide (18 ≤ cd i) = false then gX7_collectVariants_L22 E k M (nI c) c (nI (i + 1)) else if bth (pres cd i) c = false then gX7_collectVariants_L22 E k M (nI c) c (nI (i + 1)) else bd (gX5_add M c (nI (cd i)) (nI i)) fun M29 => gX7_collectVariants_L22 E k M29 (nI c) c (nI (i + 1)) := by
      intro E
      rw [gX7_collectVariants_L22, hC.1, if_neg (nI_ge hi (by omega)), ckI (by omega) (by decide), cI (by omega), hC.2 i hi, tokC (hV.2.1 i hi), presC (by omega), bd_some, hP i hi, ckJ (show i < 80 by omega) (by decide)]
      simp only [bI_0, ↓lt_n, up1]
    have vs : vl cd c (i + 1) = if inV cd c i then vl cd c i ++ [i] else vl cd c i := rfl
    by_cases a : inV cd c i = true
    · rw [if_pos a] at vs
      have a2 := a
      unfold inV at a2
      rw [Bool.and_eq_true] at a2
      obtain ⟨M1, b1, b2, b3⟩ := addV (i := i) hA (by have := vl_len (cd := cd) (c := c) i; omega)
      have f1 : M1 1 = M 1 := b3 1 (by unfold vb; omega) (by unfold vb; omega) (by unfold vb; omega)
      have f2 : M1 2 = M 2 := b3 2 (by unfold vb; omega) (by unfold vb; omega) (by unfold vb; omega)
      have f4 : M1 4 = M 4 := b3 4 (by unfold vb; omega) (by unfold vb; omega) (by unfold vb; omega)
      obtain ⟨M2, c1, c2, c3⟩ := ih (i + 1) k M1 (by omega) (by omega) ⟨by rw [f1]; exact hC.1, fun j hj => by rw [f2]; exact hC.2 j hj⟩ (fun j hj => by rw [f4]; exact hP j hj) (by rw [vs]; exact b2)
      refine ⟨M2, fun E => ?_, c2, fun x d1 d2 d3 => (c3 x d1 d2 d3).trans (b3 x d1 d2 d3)⟩
      rw [e0, if_neg (by rw [a2.1]; decide), if_neg (by rw [a2.2]; decide), b1, bd_some, c1]
    · rw [if_neg a] at vs
      obtain ⟨M2, c1, c2, c3⟩ := ih (i + 1) k M (by omega) (by omega) hC hP (by rw [vs]; exact hA)
      refine ⟨M2, fun E => ?_, c2, c3⟩
      unfold inV at a
      rw [e0, c1]
      cases h1 : decide (18 ≤ cd i) with
      | false => rw [if_pos rfl]
      | true =>
        rw [h1, Bool.true_and] at a
        rw [if_neg (by decide), if_pos (by cases hb : bth (pres cd i) c with
          | false => rfl
          | true => exact absurd hb a)]
theorem colO {n : Nat} {cd : Nat → Nat} (hV : Val n cd) : ∀ (m c fuel : Nat) (M : Mm), c + m = 16 → m < fuel → SrcC M n cd → (∀ j, j < n → M 4 j = pres cd j) → (∀ b, b < c → VarC cd M b (vl cd b n)) → ∃ M', gX7_collectVariants_L2 fuel M (nI c) = some M' ∧ (∀ b, b < 16 → VarC cd M' b (vl cd b n)) ∧ (∀ a, (∀ b, b < 16 → a ≠ vb b ∧ a ≠ vb b + 1 ∧ a ≠ vb b + 2) → M' a = M a) := by
  intro m
  have hn := hV.1
  induction m with
  | zero =>
    intro c fuel M h hf hC hP hA
    obtain ⟨k, rfl⟩ : ∃ k, fuel = k + 1 := ⟨fuel - 1, by omega⟩
    obtain rfl : c = 16 := by omega
    exact ⟨M, by rw [gX7_collectVariants_L2, if_pos (by decide)], hA, fun a _ => rfl⟩
  | succ m ih =>
    intro c fuel M h hf hC hP hA
    obtain ⟨k, rfl⟩ : ∃ k, fuel = k + 1 := ⟨fuel - 1, by omega⟩
    have hc : c < 16 := by omega
    obtain ⟨M1, b1, b2, b3⟩ := colI hV (c := c) n 0 FU (um M (vb c) 2 0) (by omega) (by unfold FU; omega) ⟨by rw [um_fn (by unfold vb; omega)]; exact hC.1, fun j hj => by rw [um_fn (by unfold vb; omega)]; exact hC.2 j hj⟩ (fun j hj => by rw [um_fn (by unfold vb; omega)]; exact hP j hj) ⟨um_hit, fun k hk => absurd hk (Nat.not_lt_zero _), fun k hk => absurd hk (Nat.not_lt_zero _)⟩
    have fr : ∀ a, a ≠ vb c → a ≠ vb c + 1 → a ≠ vb c + 2 → M1 a = M a := fun a d1 d2 d3 => (b3 a d1 d2 d3).trans (um_fn d1)
    have f1 : M1 1 = M 1 := fr 1 (by unfold vb; omega) (by unfold vb; omega) (by unfold vb; omega)
    have f2 : M1 2 = M 2 := fr 2 (by unfold vb; omega) (by unfold vb; omega) (by unfold vb; omega)
    have f4 : M1 4 = M 4 := fr 4 (by unfold vb; omega) (by unfold vb; omega) (by unfold vb; omega)
    obtain ⟨M2, c1, c2, c3⟩ := ih (c + 1) k M1 (by omega) (by omega) ⟨by rw [f1]; exact hC.1, fun j hj => by rw [f2]; exact hC.2 j hj⟩ (fun j hj => by rw [f4]; exact hP j hj) (fun b hb => by
      by_cases e : b = c
      · rw [e]; exact b2
      · have g0 := fr (vb b) (by unfold vb; omega) (by unfold vb; omega) (by unfold vb; omega)
        have g1 := fr (vb b + 1) (by unfold vb; omega) (by unfold vb; omega) (by unfold vb; omega)
        have g2 := fr (vb b + 2) (by unfold vb; omega) (by unfold vb; omega) (by unfold vb; omega)
        exact VarC_c (hA b (by omega)) (by rw [g0]) g1 g2)
    refine ⟨M2, ?_, c2, fun a ha => (c3 a ha).trans (fr a (ha c hc).1 (ha c hc).2.1 (ha c hc).2.2)⟩
    rw [gX7_collectVariants_L2, if_neg (show ¬ (16 : Int32) ≤ nI c from nI_ge (b := 16) hc (by decide)), ckI hc (by decide), cI (by omega), lt_s9, lt_s9, lt_s9, show (0 : Int32) = nI 0 from rfl] at *
    rw [b1, lt_s9, up1, c1]
theorem colC {n : Nat} {cd : Nat → Nat} (hV : Val n cd) {M : Mm} (hC : SrcC M n cd) (hP : ∀ j, j < n → M 4 j = pres cd j) : ∃ M', gX7_collectVariants M = some M' ∧ (∀ b, b < 16 → VarC cd M' b (vl cd b n)) ∧ (∀ a, (∀ b, b < 16 → a ≠ vb b ∧ a ≠ vb b + 1 ∧ a ≠ vb b + 2) → M' a = M a) := by
  unfold gX7_collectVariants
  exact colO hV 16 0 FU M (by omega) (by unfold FU; omega) hC hP (fun b hb => absurd hb (Nat.not_lt_zero _))

